/-! damp, stands, hold, drops, mark, count -/
theorem op_damp {c m : St} (h : Rel c m) (a : Int32) : wp_X8_damp a c (fun r c' => wp_X9_damp a m (fun r' m' => r = r' ∧ Rel c' m')) := by
  obtain ⟨n, dm, d, N⟩ := h.now
  have hn := N.1.1
  have hbad : ¬ vp_in a 4 → wp_X9_damp a m (fun r' m' => (-1 : Int32) = r' ∧ Rel c m') := by
    intro ha
    unfold wp_X9_damp
    exact inM (x := a.toInt) (l := 0) (h := 3) (toInt_L a) (by decide) (by decide) (fun q1 q2 => absurd (vp_in_iff.mpr ⟨q1, by omega⟩) ha) (fun _ => ite_tt ⟨rfl, h⟩ rfl)
  unfold wp_X8_damp J_X8_damp_9
  by_cases ha : vp_in a 4
  · obtain ⟨q, hq, rfl⟩ := vp_in_of ha (by decide)
    refine ite_ff (ite_tt ?_ (by rw [lit_nI, nI_le' (by omega) (by decide)]; omega)) (nI_pos (by omega))
    rw [N.2.1.1, N.2.1.2.1]
    unfold wp_X9_damp
    rw [show (0 : Int32).toNatClampNeg = 0 from rfl, show (1 : Int32).toNatClampNeg = 1 from rfl, N.2.2.1.1, N.2.2.1.2.1]
    have mk : ∀ {K : Int32 → Prop}, K 1 → wp_X9_in (nI q).toInt64 0 3 K := fun hK => inM (x := q) (l := 0) (h := 3) (by rw [toInt_L, nI_toInt (by omega)]) (by decide) (by decide) (fun _ _ => hK) (fun z => by omega)
    refine ite_c (fun h0 => mk (ite_ff ⟨in0, ite_tt ⟨rfl, h⟩ h0⟩ (by decide))) (fun h0 => mk (ite_ff ⟨in0, ite_ff ⟨in1, in1, rfl, ?_⟩ h0⟩ (by decide)))
    obtain ⟨t1, t2, t3, t4, t5⟩ := h.1
    obtain ⟨n', dm', d', TC, TM, hd⟩ := h.2.2.2.1
    refine ⟨⟨fun f hf => by rw [uI_c (by omega), uI_c (by omega)]; exact t1 f hf, by rw [uI_c (by omega), uI_c (by omega)]; exact t2, by rw [uI_c (by omega), uI_c (by omega)]; exact t3, t4, t5⟩, fun ρ hρ => row_same (h.2.1 ρ hρ) (fun j => uI_c (by omega)) (fun j => uI_c (by omega)) (uI_c (by omega)) (fun i _ => uI_c (by omega)), fun ρ hρ => text_same (h.2.2.1 ρ hρ) (fun j => uI_c (by omega)) (fun j => uI_c (by omega)) (uI_c (by omega)) (fun i _ => uI_c (by omega)), ⟨n', q, d', ?_, ?_, by rw [uI_c (by omega)]; exact hd⟩, fun k hk => kept_same (fun k j z => uI_c (by omega)) (fun j z1 z2 => uI_n (by omega)) (fun j => uI_c (by omega)) hk (h.2.2.2.2 k hk)⟩
    · obtain ⟨h1, h2, h3, h4, h5, h6, h7, h8⟩ := TC
      have hs : ∀ i, stC (uI c 25 3 (nI q)) 25 d' i = stC c 25 d' i := fun i => stC_congr (uI_c (by omega)) (uI_c (by omega)) (fun j _ => uI_c (by omega))
      refine ⟨h1, by omega, h3, by rw [uI_n (by omega)]; exact h4, by rw [uI_s], by rw [uI_n (by omega)]; exact h6, fun i hi => ?_, fun j hj => by rw [uI_c (by omega)]; exact h8 j hj⟩
      rw [hs i, uI_c (by omega), uI_c (by omega), uI_c (by omega), uI_c (by omega), uI_c (by omega), uI_c (by omega)]
      exact h7 i hi
    · obtain ⟨g1, g2, g3, g4⟩ := TM
      have hs : ∀ e i, stC (uI c 25 3 (nI q)) 25 e i = stC c 25 e i := fun e i => stC_congr (uI_c (by omega)) (uI_c (by omega)) (fun j _ => uI_c (by omega))
      refine ⟨by rw [uI_n (by omega)]; exact g1, by rw [show 0 + 1 = 1 from rfl, uI_s], fun i hi => ?_, fun e he => ⟨by rw [uI_n (by omega)]; exact (g4 e he).1, fun i hi => ?_⟩⟩
      · have em : ∀ j, j ≠ 1 → (uI m 1 1 (nI q)).1 1 j = m.1 1 j := fun j hj => uI_n hj
        have ec : ∀ i j, (uI c 25 3 (nI q)).1 (25 + 3 + i) j = c.1 (25 + 3 + i) j := fun i j => uI_c (by omega)
        rw [hs d' i, em _ (by omega), em _ (by omega), em _ (by omega), em _ (by omega), em _ (by omega), ec, ec]
        exact g3 i hi
      · have em : ∀ j, j ≠ 1 → (uI m 1 1 (nI q)).1 1 j = m.1 1 j := fun j hj => uI_n hj
        have ec : ∀ i j, (uI c 25 3 (nI q)).1 (25 + 3 + i) j = c.1 (25 + 3 + i) j := fun i j => uI_c (by omega)
        rw [hs e i, em _ (by omega), em _ (by omega), em _ (by omega), em _ (by omega), em _ (by omega), ec, ec]
        exact (g4 e he).2 i hi
  · rcases out_of (by decide) ha with z | z
    · exact ite_tt (hbad ha) z
    · refine ite_c (fun _ => hbad ha) (fun _ => ite_ff (hbad ha) ?_)
      intro w
      rw [Int32.le_iff_toInt_le] at w z
      have e3 : (3 : Int32).toInt = 3 := by decide
      have e4 : (nI 4).toInt = 4 := by decide
      omega
/-- the bits of pulls -/
def sBit (k h : Nat) : Nat → Int32 × Int32
  | 0 => (0, 0)
  | p + 1 => (if aN k h p = 20 then (sBit k h p).1 ||| shl 1 (nI p) else (sBit k h p).1, if aN k h p = 21 then (sBit k h p).2 ||| shl 1 (nI p) else (sBit k h p).2)
theorem eA_20 {a : Nat} (h : a ≤ 21) : (eA a = 20) = (a = 20) := by
  apply propext
  unfold eA
  split
  · constructor
    · intro q; exact absurd q (by decide)
    · intro q; omega
  · rw [lit_nI, nI_inj (by omega) (by decide)]
theorem or0 (x : Int32) : x ||| 0 = x := by simp
theorem op_stands {c m : St} (h : Rel c m) (a : Int32) : wp_X8_stands a c (fun r c' => wp_X9_stands a m (fun r' m' => r = r' ∧ Rel c' m')) := by
  obtain ⟨n, dm, d, N⟩ := h.now
  have hn := N.1.1
  unfold wp_X8_stands wp_X9_stands
  by_cases ha : vp_in a n
  · obtain ⟨i, hi, rfl⟩ := vp_in_of ha (by omega)
    obtain ⟨⟨b1, b2, b3, b4, b5⟩, ⟨c1, c2, c3, c4⟩, d1, d2, d3, d4, d5⟩ := N.2.2.2 i hi
    refine refuse_s N hi (fun ho => ite_ff ?_ (by decide)) (fun ho => ite_tt ⟨vp_in_nI (by omega) (by decide), ?_⟩ rfl)
    · refine isBell_y N hi (ite_ff ?_ (by decide))
      exact isOver_s N hi (fun _ => ite_ff ⟨rfl, h⟩ (by decide)) (fun q => by omega)
    · rw [nI_clamp (by omega)]
      unfold L_X8_stands_31
      refine for3_3 7 (fun p x y => x = (sBit (kd c i) (hdN c i) p).1 ∧ y = (sBit (kd c i) (hdN c i) p).2) ?_ ?_ 0 _ _ (Nat.zero_le _) ⟨rfl, rfl⟩
      · rintro _ _ Φ ⟨rfl, rfl⟩
        unfold B_X8_stands_31
        refine ite_tt ?_ (by decide)
        refine isBell_y N hi (ite_ff ?_ (by decide))
        refine isOver_s N hi (fun q => by omega) (fun _ => ite_tt ?_ rfl)
        unfold L_X9_stands_28
        refine for3_3 7 (fun p x y => x = (sBit (kd c i) (hdN c i) p).1 ∧ y = (sBit (kd c i) (hdN c i) p).2) ?_ ?_ 0 _ _ (Nat.zero_le _) ⟨rfl, rfl⟩
        · rintro _ _ Φ ⟨rfl, rfl⟩
          unfold B_X9_stands_28 wp_X9_tells
          exact ite_tt ⟨rfl, h.tell _⟩ (by decide)
        · rintro p _ _ Φ hp ⟨rfl, rfl⟩ hΦ
          unfold B_X9_stands_28 J_X9_stands_75 J_X9_stands_92
          refine ite_ff ?_ (nI_ge hp (by decide))
          simp (disch := omega) only [lit_nI, nI_add, nI_clamp, vp_nI, d1, d3]
          refine ⟨by omega, by omega, afterM_s b1 (by omega) (by omega) ?_⟩
          have e20 := eA_20 (aN_le (kd c i) (hdN c i) p)
          have e21 := eA_m1 (aN_le (kd c i) (hdN c i) p)
          refine ite_c (fun q => ite_c (fun q2 => ?_) (fun q2 => hΦ _ _ ?_)) (fun q => ite_c (fun q2 => hΦ _ _ ?_) (fun q2 => hΦ _ _ ?_))
          · rw [show (nI 20 : Int32) = 20 from rfl, e20] at q; rw [show (-nI 1 : Int32) = -1 from rfl, e21] at q2; omega
          · rw [show (nI 20 : Int32) = 20 from rfl, e20] at q; rw [show (-nI 1 : Int32) = -1 from rfl, e21] at q2
            simp only [sBit, if_pos q, if_neg q2]
            exact ⟨rfl, or0 _⟩
          · rw [show (nI 20 : Int32) = 20 from rfl, e20] at q; rw [show (-nI 1 : Int32) = -1 from rfl, e21] at q2
            simp only [sBit, if_neg q, if_pos q2]
            exact ⟨or0 _, rfl⟩
          · rw [show (nI 20 : Int32) = 20 from rfl, e20] at q; rw [show (-nI 1 : Int32) = -1 from rfl, e21] at q2
            simp only [sBit, if_neg q, if_neg q2]
            exact ⟨or0 _, or0 _⟩
      · rintro p _ _ Φ hp ⟨rfl, rfl⟩ hΦ
        unfold B_X8_stands_31 J_X8_stands_87
        refine ite_ff ?_ (nI_ge hp (by decide))
        rw [c1, c3, show nI p + 1 = nI (p + 1) from nI_1 p]
        refine after_s b1 (by omega) (by omega) ?_
        have e20 := eA_20 (aN_le (kd c i) (hdN c i) p)
        have e21 := eA_m1 (aN_le (kd c i) (hdN c i) p)
        refine ite_c (fun q => hΦ _ _ ?_) (fun q => ite_c (fun q2 => hΦ _ _ ?_) (fun q2 => hΦ _ _ ?_))
        · rw [e20] at q
          exact ⟨by simp only [sBit, if_pos q], by simp only [sBit]; rw [if_neg (by omega)]⟩
        · rw [e20] at q; rw [e21] at q2
          exact ⟨by simp only [sBit, if_neg q], by simp only [sBit, if_pos q2]⟩
        · rw [e20] at q; rw [e21] at q2
          exact ⟨by simp only [sBit, if_neg q], by simp only [sBit, if_neg q2]⟩
  · exact refuse_bad N ha (ite_ff (isBell_n N ha (ite_tt ⟨rfl, h⟩ rfl)) (by decide))
/-- hold: the least pull that strikes nearest (7: none), and by how much -/
def hBest (f : Nat → Nat) (t : Nat) : Nat → Nat × Nat
  | 0 => (7, 1000)
  | p + 1 => if f p = 0 then hBest f t p else if (hBest f t p).2 ≤ (if f p ≤ t then t - f p else f p - t) then hBest f t p else (p, if f p ≤ t then t - f p else f p - t)
theorem hBest_le {f : Nat → Nat} {t : Nat} (ht : t ≤ 40) (hf : ∀ p, f p ≤ 30) (p : Nat) (hp : p ≤ 7) : (hBest f t p).2 ≤ 1000 ∧ ((hBest f t p).1 < p ∨ (hBest f t p).1 = 7) ∧ ((hBest f t p).1 = 7 ∨ (hBest f t p).2 ≤ 40) := by
  induction p with
  | zero => exact ⟨Nat.le_refl _, Or.inr rfl, Or.inl rfl⟩
  | succ p ih =>
    have h1 := hf p
    obtain ⟨i1, i2, i3⟩ := ih (by omega)
    have hg : (if f p ≤ t then t - f p else f p - t) ≤ 40 := by split <;> omega
    simp only [hBest]
    generalize (if f p ≤ t then t - f p else f p - t) = g at hg ⊢
    split
    · exact ⟨i1, by omega, i3⟩
    · split
      · exact ⟨i1, by omega, i3⟩
      · exact ⟨by omega, Or.inl (Nat.lt_succ_self p), Or.inr hg⟩
theorem hBest_7 {f : Nat → Nat} {t p : Nat} (h : (hBest f t p).1 = 7) (hp : p < 7) : (hBest f t p).2 = 1000 := by
  induction p with
  | zero => rfl
  | succ p ih =>
    simp only [hBest] at h ⊢
    generalize (if f p ≤ t then t - f p else f p - t) = g at h ⊢
    by_cases q : f p = 0
    · rw [if_pos q] at h ⊢; exact ih h (by omega)
    · rw [if_neg q] at h ⊢
      by_cases q2 : (hBest f t p).2 ≤ g
      · rw [if_pos q2] at h ⊢; exact ih h (by omega)
      · rw [if_neg q2] at h
        exact absurd h (by show ¬ p = 7; omega)
/-- the same as a row of its own, that nothing unfolds -/
theorem hBest_H {f : Nat → Nat} {t : Nat} (ht : t ≤ 40) (hf : ∀ p, f p ≤ 30) : ∃ H : Nat → Nat × Nat, H 0 = (7, 1000) ∧ (∀ p, H (p + 1) = if f p = 0 then H p else if (H p).2 ≤ (if f p ≤ t then t - f p else f p - t) then H p else (p, if f p ≤ t then t - f p else f p - t)) ∧ (∀ p, p ≤ 7 → (H p).2 ≤ 1000 ∧ ((H p).1 < p ∨ (H p).1 = 7) ∧ ((H p).1 = 7 ∨ (H p).2 ≤ 40)) ∧ ∀ p, p < 7 → (H p).1 = 7 → (H p).2 = 1000 :=
  ⟨hBest f t, rfl, fun _ => rfl, fun p hp => hBest_le ht hf p hp, fun p hp e => hBest_7 e hp⟩
def eP (p : Nat) : Int32 := if p = 7 then -9 else nI p
theorem iabs_s {a b : Nat} (ha : a < 1000) (hb : b < 1000) : iabs (nI a - nI b) = nI (if a ≤ b then b - a else a - b) := by
  unfold iabs
  have e : (nI a - nI b).toInt = (a : Int) - b := pk_sub_toInt (by omega) (by omega)
  split
  · rename_i q
    rw [Int32.le_iff_toInt_le, e] at q
    have e0 : (0 : Int32).toInt = 0 := by decide
    rw [e0] at q
    split
    · rw [show a = b by omega]; simp [nI]
    · rw [pk_sub (by omega)]
  · rename_i q
    rw [Int32.le_iff_toInt_le, e] at q
    have e0 : (0 : Int32).toInt = 0 := by decide
    rw [e0] at q
    rw [if_pos (by omega), ← pk_sub (by omega), Int32.zero_sub, Int32.neg_sub]
theorem op_hold {c m : St} (h : Rel c m) (a b : Int32) : wp_X8_hold a b c (fun r c' => wp_X9_hold a b m (fun r' m' => r = r' ∧ Rel c' m')) := by
  obtain ⟨n, dm, d, N⟩ := h.now
  have hn := N.1.1
  unfold wp_X8_hold J_X8_hold_10
  by_cases hb : vp_in b 41
  · obtain ⟨t, ht, rfl⟩ := vp_in_of hb (by decide)
    refine ite_ff (ite_tt ?_ (by rw [lit_nI, nI_le' (by omega) (by decide)]; omega)) (nI_pos (by omega))
    have mk : ∀ {K : Int32 → Prop}, K 1 → wp_X9_in (nI t).toInt64 0 40 K := fun hK => inM (x := t) (l := 0) (h := 40) (by rw [toInt_L, nI_toInt (by omega)]) (by decide) (by decide) (fun _ _ => hK) (fun z => by omega)
    by_cases ha : vp_in a n
    · obtain ⟨i, hi, rfl⟩ := vp_in_of ha (by omega)
      obtain ⟨⟨b1, b2, b3, b4, b5⟩, ⟨c1, c2, c3, c4⟩, d1, d2, d3, d4, d5⟩ := N.2.2.2 i hi
      unfold wp_X9_hold J_X9_hold_20
      refine refuse_s N hi (fun ho => ite_ff ?_ (by decide)) (fun ho => ite_tt ?_ rfl)
      · refine isBell_y N hi (ite_ff (mk (ite_ff ?_ (by decide))) (by decide))
        exact isOver_s N hi (fun _ => ite_ff ⟨rfl, h⟩ (by decide)) (fun q => by omega)
      · have hf : ∀ p, sN c dm i p ≤ 30 := fun p => sN_le N hi p
        obtain ⟨H, H0, Hs, Hl, H7⟩ := hBest_H (t := t) (by omega) hf
        unfold L_X8_hold_36
        refine for3_3 7 (fun p x y => x = eP (H p).1 ∧ y = nI (H p).2) ?_ ?_ 0 _ _ (Nat.zero_le _) (by rw [H0]; exact ⟨rfl, rfl⟩)
        · rintro _ _ Φ ⟨rfl, rfl⟩
          obtain ⟨l1, l2, l3⟩ := Hl 7 (Nat.le_refl _)
          have key : L_X9_hold_43 (nI i) (nI t) m (fun r' m' => eP (H 7).1 = r' ∧ Rel (if (H 7).1 = 7 then c else uI c 0 12 (nI (H 7).2)) m') (-9) 1000000 0 := by
            unfold L_X9_hold_43
            refine for3_3 7 (fun p x y => x = eP (H p).1 ∧ y = if (H p).1 = 7 then nI 1000000 else nI (H p).2) ?_ ?_ 0 _ _ (Nat.zero_le _) (by rw [H0]; exact ⟨rfl, rfl⟩)
            · rintro _ _ Φ ⟨rfl, rfl⟩
              unfold B_X9_hold_43 J_X9_hold_153 wp_X9_tells
              refine ite_tt ?_ (by decide)
              by_cases e7 : (H 7).1 = 7
              · simp only [if_pos e7]
                refine ite_tt ⟨by unfold eP; rw [if_pos e7], h⟩ (by unfold eP; rw [if_pos e7])
              · simp only [if_neg e7]
                refine ite_ff ⟨trivial, h.tell _⟩ (by unfold eP; rw [if_neg e7, nI_em9 (by omega)]; exact id)
            · rintro p _ _ Φ hp ⟨rfl, rfl⟩ hΦ
              obtain ⟨l1, l2, l3⟩ := Hl p (by omega)
              have hfp := hf p
              unfold B_X9_hold_43 J_X9_hold_97 J_X9_hold_112 J_X9_hold_127
              refine ite_ff ?_ (nI_ge hp (by decide))
              rw [show nI p + 1 = nI (p + 1) from nI_1 p]
              have ei : (14 + nI i).toNatClampNeg = 14 + i := by simp (disch := omega) only [lit_nI, nI_add, pk_mul, nI_clamp, vp_nI, nI_inj, nI_lt', nI_le', nI_neg1, nI_neg9, nI_neg3, neg1_nI, neg9_nI, neg_l0, neg_g0, ↓reduceIte, true_and, and_true, not_true_eq_false, not_false_eq_true, Nat.reduceEqDiff, Nat.reduceLeDiff, Nat.reduceAdd, Nat.reduceSub, Nat.reduceDiv, Nat.reduceMod, Nat.reducePow, Nat.reduceLT, Nat.reduceMul, Nat.not_lt_zero, Nat.zero_le, Nat.succ_ne_self, one_ne0, zero_ne1, ne_eq]
              have ev : vp_in (14 + nI i) 5280 := by simp (disch := omega) only [lit_nI, nI_add, pk_mul, nI_clamp, vp_nI, nI_inj, nI_lt', nI_le', nI_neg1, nI_neg9, nI_neg3, neg1_nI, neg9_nI, neg_l0, neg_g0, ↓reduceIte, true_and, and_true, not_true_eq_false, not_false_eq_true, Nat.reduceEqDiff, Nat.reduceLeDiff, Nat.reduceAdd, Nat.reduceSub, Nat.reduceDiv, Nat.reduceMod, Nat.reducePow, Nat.reduceLT, Nat.reduceMul, Nat.not_lt_zero, Nat.zero_le, Nat.succ_ne_self, one_ne0, zero_ne1, ne_eq]; omega
              rw [ei, d3]
              refine ⟨ev, strikesBy_s N hi (by omega) ?_⟩
              by_cases f0 : sN c dm i p = 0
              · refine ite_tt ?_ (by rw [eT_m9 hfp]; exact f0)
                have e9 : (if (H p).1 = 7 then nI 1000000 else nI (H p).2) ≤ (1000000 : Int32) := by
                  split
                  · exact Int32.le_refl _
                  · rw [lit_nI, nI_le' (by omega) (by decide)]; omega
                refine ite_tt (ite_tt (hΦ _ _ ?_) e9) e9
                rw [Hs p, if_pos f0]
                exact ⟨rfl, rfl⟩
              · refine ite_ff ?_ (by rw [eT_m9 hfp]; exact f0)
                rw [eT_n f0]
                have hw : ∀ w : Nat, w = (if sN c dm i p ≤ t then t - sN c dm i p else sN c dm i p - t) → (if (if (H p).1 = 7 then nI 1000000 else nI (H p).2) ≤ nI w then (if (if (H p).1 = 7 then nI 1000000 else nI (H p).2) ≤ nI w then Φ (eP (H p).1) (if (H p).1 = 7 then nI 1000000 else nI (H p).2) (nI (p + 1)) else Φ (eP (H p).1) (nI w) (nI (p + 1))) else (if (if (H p).1 = 7 then nI 1000000 else nI (H p).2) ≤ nI w then Φ (nI p) (if (H p).1 = 7 then nI 1000000 else nI (H p).2) (nI (p + 1)) else Φ (nI p) (nI w) (nI (p + 1)))) := by
                  intro w ew
                  have hw40 : w ≤ 40 := by rw [ew]; split <;> omega
                  by_cases e7 : (H p).1 = 7
                  · rw [if_pos e7]
                    have z : ¬ nI 1000000 ≤ nI w := nI_ge (by omega) (by decide)
                    refine ite_ff (ite_ff (hΦ _ _ ?_) z) z
                    have e2 : (H p).2 = 1000 := H7 p hp e7
                    rw [Hs p, if_neg f0, ← ew, if_neg (by omega)]
                    exact ⟨by unfold eP; rw [if_neg (by omega)], by rw [if_neg (show ¬ p = 7 by omega)]⟩
                  · rw [if_neg e7]
                    refine ite_c (fun z => ite_tt (hΦ _ _ ?_) z) (fun z => ite_ff (hΦ _ _ ?_) z) <;> rw [nI_le' (by omega) (by omega)] at z
                    · rw [Hs p, if_neg f0, ← ew, if_pos z]
                      exact ⟨rfl, by rw [if_neg e7]⟩
                    · rw [Hs p, if_neg f0, ← ew, if_neg z]
                      exact ⟨by unfold eP; rw [if_neg (by omega)], by rw [if_neg (show ¬ p = 7 by omega)]⟩
                refine ite_c (fun z => ?_) (fun z => ?_) <;> rw [nI_le' (by omega) (by omega)] at z
                · rw [pk_sub z]
                  exact hw _ (by rw [if_pos z])
                · rw [pk_sub (by omega)]
                  exact hw _ (by rw [if_neg z])
          unfold B_X8_hold_36 J_X8_hold_105
          refine ite_tt ?_ (by decide)
          by_cases e7 : (H 7).1 = 7
          · rw [if_pos e7] at key
            refine ite_tt ?_ (by unfold eP; rw [if_pos e7])
            refine isBell_y N hi (ite_ff (mk (ite_ff ?_ (by decide))) (by decide))
            exact isOver_s N hi (fun q => by omega) (fun _ => ite_tt key rfl)
          · rw [if_neg e7] at key
            refine ite_ff ?_ (by unfold eP; rw [if_neg e7, nI_em9 (by omega)]; exact id)
            refine isBell_y N hi (ite_ff (mk (ite_ff ?_ (by decide))) (by decide))
            exact isOver_s N hi (fun q => by omega) (fun _ => ite_tt key rfl)
        · rintro p _ _ Φ hp ⟨rfl, rfl⟩ hΦ
          obtain ⟨l1, l2, l3⟩ := Hl p (by omega)
          have hfp := hf p
          unfold B_X8_hold_36 J_X8_hold_86
          refine ite_ff ?_ (nI_ge hp (by decide))
          rw [show nI p + 1 = nI (p + 1) from nI_1 p]
          refine tenthsBy_s N hi (by omega) ?_
          by_cases f0 : sN c dm i p = 0
          · refine ite_tt (hΦ _ _ ?_) (by rw [eT_m9 hfp]; exact f0)
            rw [Hs p, if_pos f0]
            exact ⟨rfl, rfl⟩
          · refine ite_ff ?_ (by rw [eT_m9 hfp]; exact f0)
            have hg : (if sN c dm i p ≤ t then t - sN c dm i p else sN c dm i p - t) ≤ 40 := by split <;> omega
            rw [eT_n f0, iabs_s (by omega) (by omega)]
            refine ite_c (fun z => hΦ _ _ ?_) (fun z => hΦ _ _ ?_) <;> rw [nI_le' (by omega) (by omega)] at z
            · rw [Hs p, if_neg f0, if_pos z]
              exact ⟨rfl, rfl⟩
            · rw [Hs p, if_neg f0, if_neg z]
              exact ⟨by unfold eP; rw [if_neg (by omega)], rfl⟩
    · unfold wp_X9_hold J_X9_hold_20
      exact refuse_bad N ha (ite_ff (isBell_n N ha (ite_tt ⟨rfl, h⟩ rfl)) (by decide))
  · have e5 : wp_X9_hold a b m (fun r' m' => (-1 : Int32) = r' ∧ Rel c m') := by
      unfold wp_X9_hold J_X9_hold_20
      by_cases ha : vp_in a n
      · obtain ⟨i, hi, rfl⟩ := vp_in_of ha (by omega)
        refine isBell_y N hi (ite_ff (inM (x := b.toInt) (l := 0) (h := 40) (toInt_L b) (by decide) (by decide) (fun z1 z2 => absurd (vp_in_iff.mpr ⟨z1, by omega⟩) hb) (fun _ => ite_tt ⟨rfl, h⟩ rfl)) (by decide))
      · exact isBell_n N ha (ite_tt ⟨rfl, h⟩ rfl)
    rcases out_of (by decide) hb with z | z
    · exact ite_tt e5 z
    · refine ite_c (fun _ => e5) (fun _ => ite_ff e5 ?_)
      intro w
      rw [Int32.le_iff_toInt_le] at w z
      have e3 : (40 : Int32).toInt = 40 := by decide
      have e4 : (nI 41).toInt = 41 := by decide
      omega

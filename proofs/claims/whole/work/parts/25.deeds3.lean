/-! mend, undo, keep, on -/
theorem op_mend {c m : St} (h : Rel c m) (a : Int32) : wp_X8_mend a c (fun r c' => wp_X9_mend a m (fun r' m' => r = r' ∧ Rel c' m')) := by
  obtain ⟨n, dm, d, N⟩ := h.now
  have hn := N.1.1
  have hd40 := N.1.2.2
  unfold wp_X8_mend wp_X7_roomLeft wp_X7_mendDeed
  by_cases ha : vp_in a n
  · obtain ⟨i, hi, rfl⟩ := vp_in_of ha (by omega)
    obtain ⟨⟨b1, b2, b3, b4, b5⟩, ⟨c1, c2, c3, c4⟩, d1, d2, d3, d4, d5⟩ := N.2.2.2 i hi
    have ei := nI_clamp (n := i) (by omega)
    have pre : ∀ {K : Int32 → St → Prop}, (od c i = 0 → K (-4) m) → (od c i = 1 → if m.1 0 1 = 40 then K (-2) m else wp_X9_minds m (fun t34 => vp_in (20 + nI i) 5280 ∧ K 1 (uI t34 1 (20 + nI i).toNatClampNeg 0))) → wp_X9_mend (nI i) m K := by
      intro K k0 k1
      unfold wp_X9_mend
      refine isBell_y N hi (ite_ff ?_ (by decide))
      exact isOver_s N hi (fun q => ite_ff (k1 q) (by decide)) (fun q => ite_tt (k0 q) rfl)
    refine has7_y N hi (ite_ff ⟨vp_in_nI (by omega) (by decide), ?_⟩ (by decide))
    rw [ei, c4, N.2.1.2.2]
    refine ite_c (fun z => pre (fun _ => ⟨rfl, h⟩) (fun q => ?_)) (fun z => ?_)
    · rw [q] at z; exact absurd z (by decide)
    · rw [lit_nI, nI_inj (by omega) (by decide)] at z
      have ho : od c i = 1 := by omega
      have hh0 : hdN c i = 0 := b5 ho
      by_cases e40 : d = 40
      · refine ite_ff (pre (fun q => by omega) (fun _ => ite_tt ⟨rfl, h⟩ (by rw [N.2.2.1.2.2, e40]; rfl))) ?_
        rw [e40]; decide
      · have er : (40 - nI d : Int32) = nI (40 - d) := pk_sub (a := 40) (by omega)
        refine ite_tt ?_ (by rw [er, lit_nI, nI_le' (by decide) (by omega)]; omega)
        have edd : 42 + nI i = nI (42 + i) := by rw [lit_nI, nI_add]
        rw [edd]
        have da : ∀ j, dAct (42 + i) j (c.1 (28 + j) 0) (bl c (28 + j)) = if j = i then (0, c.1 (28 + i) 4, 0) else bl c (28 + j) := by
          intro j
          simp only [dAct]
          rw [if_neg (by omega), if_pos (by omega), show 42 + i - 42 = i by omega]
          by_cases e : j = i
          · subst e
            rw [if_pos rfl, if_pos rfl]; rfl
          · rw [if_neg (fun q => e q.symm), if_neg e]
        refine act_s hn N.2.1.1 N.2.1.2.2 (by omega) (by omega) N.ok (fun c' hc => pre (fun q => by omega) (fun _ => ite_ff ?_ ?_))
        · refine minds_s (d := d) (by omega) N.2.2.1.2.2 (fun m1 hm1 => ?_)
          obtain ⟨v1, v2, v3, v4⟩ := hm1
          have i3 : (20 + nI i).toNatClampNeg = 20 + i := by simp (disch := omega) only [lit_nI, nI_add, pk_mul, nI_clamp, vp_nI, nI_inj, nI_lt', nI_le', nI_neg1, nI_neg9, nI_neg3, neg1_nI, neg9_nI, neg_l0, neg_g0, ↓reduceIte, true_and, and_true, not_true_eq_false, not_false_eq_true, Nat.reduceEqDiff, Nat.reduceLeDiff, Nat.reduceAdd, Nat.reduceSub, Nat.reduceDiv, Nat.reduceMod, Nat.reducePow, Nat.reduceLT, Nat.reduceMul, Nat.not_lt_zero, Nat.zero_le, Nat.succ_ne_self, one_ne0, zero_ne1, ne_eq]
          have i4 : vp_in (20 + nI i) 5280 := by simp (disch := omega) only [lit_nI, nI_add, pk_mul, nI_clamp, vp_nI, nI_inj, nI_lt', nI_le', nI_neg1, nI_neg9, nI_neg3, neg1_nI, neg9_nI, neg_l0, neg_g0, ↓reduceIte, true_and, and_true, not_true_eq_false, not_false_eq_true, Nat.reduceEqDiff, Nat.reduceLeDiff, Nat.reduceAdd, Nat.reduceSub, Nat.reduceDiv, Nat.reduceMod, Nat.reducePow, Nat.reduceLT, Nat.reduceMul, Nat.not_lt_zero, Nat.zero_le, Nat.succ_ne_self, one_ne0, zero_ne1, ne_eq]; omega
          rw [i3]
          refine ⟨i4, rfl, h.deed N (by omega) (by omega) hc ⟨fun j hj => ?_, fun j hj => ?_, ?_, fun a b q1 q2 q3 => ?_, v4⟩⟩
          · obtain ⟨-, ⟨-, -, x3, x4⟩, -, -, y3, y4, y5⟩ := N.2.2.2 j hj
            rw [da j]
            by_cases e : j = i
            · subst e
              rw [if_pos rfl, uI_n (by omega), uI_n (by omega), uI_s, v3 _ _ (by omega) (by omega), v3 _ _ (by omega) (by omega), y3, y5, hh0]; rfl
            · rw [if_neg e, uI_n (by omega), uI_n (by omega), uI_n (by omega), v3 _ _ (by omega) (by omega), v3 _ _ (by omega) (by omega), v3 _ _ (by omega) (by omega), y3, y4, y5]
              unfold bl
              rw [x3, x4]
          · rw [uI_n (by omega)]; exact v1 j hj
          · rw [uI_c (by omega)]; exact v2
          · rw [uI_1, if_neg (by omega)]; exact v3 _ _ (by omega) (by omega)
        · rw [N.2.2.1.2.2, lit_nI, nI_inj (by omega) (by decide)]; exact e40
  · unfold wp_X9_mend
    exact has7_n N ha (ite_tt (isBell_n N ha (ite_tt ⟨rfl, h⟩ rfl)) rfl)
/-- the class's tower is rewound: its start, then the first q deeds anew -/
theorem rewind_s {c : St} {n dm d q : Nat} (TC : TowC c 25 n dm d) (hq : q ≤ d) {K : St → Prop} (hK : ∀ c', (∀ i, i < n → bl c' (28 + i) = stC c 25 q i) → c'.1 25 4 = nI q → (∀ a b, ¬ (28 ≤ a ∧ a < 28 + n ∧ 3 ≤ b ∧ b ≤ 5) → ¬ (a = 25 ∧ b = 4) → c'.1 a b = c.1 a b) → c'.2 = c.2 → K c') : wp_X7_rewindTo 25 (nI q) c K := by
  obtain ⟨h1, h2, h3, h4, h5, h6, h7, h8⟩ := TC
  unfold wp_X7_rewindTo L_X7_rewindTo_2
  have e28 : ∀ i, 25 + 3 + i = 28 + i := fun i => rfl
  refine for2_1 n (fun j τ => (∀ i, i < j → bl τ (28 + i) = stC c 25 0 i) ∧ (∀ a b, ¬ (28 ≤ a ∧ a < 28 + j ∧ 3 ≤ b ∧ b ≤ 5) → τ.1 a b = c.1 a b) ∧ τ.2 = c.2) ?_ ?_ 0 _ (Nat.zero_le _) ⟨fun i hi => by omega, fun _ _ _ => rfl, rfl⟩
  · rintro τ Φ ⟨q1, q2, q3⟩
    unfold B_X7_rewindTo_2 L_X7_rewindTo_43
    rw [q2 25 2 (by omega), q2 25 4 (by omega), h4, h6]
    have em : imax 0 (imin (nI q) (nI d)) = nI q := by
      unfold imax imin
      rw [if_neg (nI_nlt hq (by omega))]
      split
      · rfl
      · rename_i z
        rw [lit_nI, nI_lt' (by decide) (by omega)] at z
        rw [show q = 0 by omega]; rfl
    rw [em]
    refine ite_tt ?_ (Int32.le_refl _)
    refine for2_1 q (fun j σ => (∀ i, i < n → bl σ (28 + i) = stC c 25 j i) ∧ σ.1 25 4 = nI q ∧ (∀ a b, ¬ (28 ≤ a ∧ a < 28 + n ∧ 3 ≤ b ∧ b ≤ 5) → ¬ (a = 25 ∧ b = 4) → σ.1 a b = c.1 a b) ∧ σ.2 = c.2) ?_ ?_ 0 _ (Nat.zero_le _) ⟨fun i hi => ?_, by rw [uI_s], fun a b z1 z2 => ?_, q3⟩
    · rintro σ Φ ⟨r1, r2, r3, r4⟩
      unfold B_X7_rewindTo_43
      rw [r2]
      exact ite_tt (hK σ r1 r2 r3 r4) (Int32.le_refl _)
    · rintro j σ Φ hj ⟨r1, r2, r3, r4⟩ hΦ
      obtain ⟨dd, hdd, edd⟩ := h8 j (by omega)
      have edd' : σ.1 (25 + 2) j = nI dd := by rw [r3 27 j (by omega) (by omega)]; exact edd
      unfold B_X7_rewindTo_43
      rw [r2, nI_clamp (by omega), edd', show nI j + 1 = nI (j + 1) from nI_1 j]
      refine ite_ff ⟨vp_in_nI (by omega) (by decide), perform_s (n := n) h1 (by rw [r3 25 2 (by omega) (by omega)]; exact h4) hdd (fun i hi => ?_) (fun c' ⟨u1, u2, u3⟩ => hΦ _ ⟨fun i hi => ?_, ?_, fun a b z1 z2 => ?_, u3.trans r4⟩)⟩ (nI_ge hj (by omega))
      · obtain ⟨⟨k, hk, ek⟩, -, ⟨x, hx, ex⟩, -⟩ := h7 i hi
        refine ⟨⟨k, hk, by rw [r3 _ _ (by omega) (by omega)]; exact ek⟩, ?_⟩
        rw [e28, r1 i hi]
        exact stC_ok hk ek hx ex j
      · have := u1 i hi
        dsimp only at this
        rw [e28, r1 i hi, r3 (28 + i) 0 (by omega) (by omega)] at this
        rw [this]
        have edc : (c.1 (25 + 2) j).toNatClampNeg = dd := by rw [edd, nI_clamp (by omega)]
        simp only [stC]
        rw [edc]
      · rw [u2 25 4 (by omega)]; exact r2
      · rw [u2 a b (by omega)]; exact r3 a b z1 z2
    · have := q1 i hi
      unfold bl at this ⊢
      rw [uI_c (by omega), uI_c (by omega), uI_c (by omega)]; exact this
    · rw [uI_1, if_neg z2]; exact q2 a b z1
  · rintro j τ Φ hj ⟨q1, q2, q3⟩ hΦ
    unfold B_X7_rewindTo_2 wp_X0_rewind
    rw [q2 25 2 (by omega), h4, nI_clamp (by omega), e28, show nI j + 1 = nI (j + 1) from nI_1 j]
    refine ite_ff ⟨vp_in_nI (by omega) (by decide), hΦ _ ⟨fun i hi => ?_, fun a b z => ?_, q3⟩⟩ (nI_ge hj (by omega))
    · by_cases e : i = j
      · subst e
        unfold bl
        simp only [stC, uI_1]
        rw [q2 (28 + i) 2 (by omega)]
        simp
      · rw [← q1 i (by omega)]
        unfold bl
        simp only [uI_1]
        rw [if_neg (by omega), if_neg (by omega), if_neg (by omega), if_neg (by omega), if_neg (by omega), if_neg (by omega), if_neg (by omega), if_neg (by omega), if_neg (by omega)]
    · simp only [uI_1]
      rw [if_neg (by omega), if_neg (by omega), if_neg (by omega)]
      exact q2 a b (by omega)
theorem Rel.undo {c m c' m' : St} (h : Rel c m) {n dm d q : Nat} (N : Now c m n dm d) (hq : q ≤ d) (u1 : ∀ i, i < n → bl c' (28 + i) = stC c 25 q i) (u2 : c'.1 25 4 = nI q) (u4 : ∀ a b, ¬ (28 ≤ a ∧ a < 28 + n ∧ 3 ≤ b ∧ b ≤ 5) → ¬ (a = 25 ∧ b = 4) → c'.1 a b = c.1 a b) (u5 : c'.2 = c.2)
    (v1 : ∀ i, i < n → m'.1 1 (2 + i) = c.1 (28 + i) 0 ∧ m'.1 1 (8 + i) = c.1 (28 + i) 1 ∧ (m'.1 1 (14 + i), m'.1 1 (26 + i), m'.1 1 (20 + i)) = stC c 25 q i) (v2 : m'.1 0 1 = nI q) (v3 : m'.1 1 0 = nI n) (v3' : m'.1 1 1 = nI dm) (v4 : ∀ a b, ¬ (a = 1 ∧ b < 32) → ¬ (a = 0 ∧ b = 1) → m'.1 a b = m.1 a b) (v5 : m'.2 = m.2) : Rel c' m' := by
  obtain ⟨TC, TM⟩ := h.tower N
  obtain ⟨t1, t2, t3, t4, t5⟩ := h.1
  obtain ⟨h1, h2, h3, h4, h5, h6, h7, h8⟩ := TC
  obtain ⟨g1, g2, g3, g4⟩ := TM
  have hs : ∀ e i, e ≤ d → i < n → stC c' 25 e i = stC c 25 e i := fun e i he hi => stC_congr (u4 _ _ (by omega) (by omega)) (u4 _ _ (by omega) (by omega)) (fun j hj => u4 _ _ (by omega) (by omega))
  refine ⟨⟨fun f hf => by rw [u4 _ _ (by omega) (by omega), v4 _ _ (by omega) (by omega)]; exact t1 f hf, by rw [u4 _ _ (by omega) (by omega), v4 _ _ (by omega) (by omega)]; exact t2, by rw [u4 _ _ (by omega) (by omega), v4 _ _ (by omega) (by omega)]; exact t3, by rw [u5, v5]; exact t4, by rw [u5, v5]; exact t5⟩,
    fun ρ hρ => row_same (h.2.1 ρ hρ) (fun j => u4 _ _ (by omega) (by omega)) (fun j => u4 _ _ (by omega) (by omega)) (v4 _ _ (by omega) (by omega)) (fun i _ => v4 _ _ (by omega) (by omega)),
    fun ρ hρ => text_same (h.2.2.1 ρ hρ) (fun j => u4 _ _ (by omega) (by omega)) (fun j => u4 _ _ (by omega) (by omega)) (v4 _ _ (by omega) (by omega)) (fun i _ => v4 _ _ (by omega) (by omega)),
    ⟨n, dm, q, ⟨h1, h2, by omega, by rw [u4 _ _ (by omega) (by omega)]; exact h4, by rw [u4 _ _ (by omega) (by omega)]; exact h5, u2, fun i hi => ?_, fun j hj => by rw [u4 _ _ (by omega) (by omega)]; exact h8 j (by omega)⟩, ⟨v3, v3', fun i hi => ?_, fun e he => ?_⟩, v2⟩,
    fun k hk => kept_same (fun k j z => u4 _ _ (by omega) (by omega)) (fun j z1 z2 => v4 _ _ (by omega) (by omega)) (fun j => v4 _ _ (by omega) (by omega)) hk (h.2.2.2.2 k hk)⟩
  · obtain ⟨w1, w2, w3, w4⟩ := h7 i hi
    refine ⟨by rw [u4 _ _ (by omega) (by omega)]; exact w1, by rw [u4 _ _ (by omega) (by omega)]; exact w2, by rw [u4 _ _ (by omega) (by omega)]; exact w3, ?_⟩
    rw [hs q i hq hi]; exact u1 i hi
  · obtain ⟨w1, w2, w3⟩ := v1 i hi
    rw [hs q i hq hi, u4 (25 + 3 + i) 0 (by omega) (by omega), u4 (25 + 3 + i) 1 (by omega) (by omega)]
    simp only [Nat.zero_add]
    exact ⟨w1, w2, w3⟩
  · obtain ⟨w0, w⟩ := g4 e (by omega)
    have em : ∀ b, 32 ≤ b → m'.1 1 b = m.1 1 b := fun b q1 => v4 _ _ (by omega) (by omega)
    refine ⟨by rw [em _ (by omega)]; exact w0, fun i hi => ?_⟩
    obtain ⟨w1, w2, w3⟩ := w i hi
    rw [hs e i (by omega) hi, u4 (25 + 3 + i) 0 (by omega) (by omega), u4 (25 + 3 + i) 1 (by omega) (by omega), ← w1, ← w2, ← w3]
    rw [em _ (by omega), em _ (by omega), em _ (by omega), em _ (by omega), em _ (by omega)]
    exact ⟨rfl, rfl, rfl⟩
theorem op_undo {c m : St} (h : Rel c m) (a : Int32) : wp_X8_undo a c (fun r c' => wp_X9_undo a m (fun r' m' => r = r' ∧ Rel c' m')) := by
  obtain ⟨n, dm, d, N⟩ := h.now
  have hn := N.1.1
  have hd40 := N.1.2.2
  obtain ⟨TC, TM⟩ := h.tower N
  have hbad : ¬ vp_in a (d + 1) → wp_X9_undo a m (fun r' m' => (-1 : Int32) = r' ∧ Rel c m') := by
    intro ha
    unfold wp_X9_undo
    rw [N.2.2.1.2.2]
    exact inM (x := a.toInt) (l := 0) (h := d) (toInt_L a) (by decide) (by rw [toInt_L, nI_toInt (by omega)]) (fun q1 q2 => absurd (vp_in_iff.mpr ⟨q1, by omega⟩) ha) (fun _ => ite_tt ⟨rfl, h⟩ rfl)
  unfold wp_X8_undo J_X8_undo_15
  rw [N.2.1.2.2]
  by_cases ha : vp_in a (d + 1)
  · obtain ⟨q, hq, rfl⟩ := vp_in_of ha (by omega)
    refine ite_ff (ite_tt ?_ (nI_le (by omega) (by omega))) (nI_pos (by omega))
    refine rewind_s TC (q := q) (by omega) (fun c' u1 u2 u3 u4 => ?_)
    unfold wp_X9_undo J_X9_undo_59
    rw [N.2.2.1.2.2, pk_sub (show q ≤ d by omega)]
    refine inM (x := q) (l := 0) (h := d) (by rw [toInt_L, nI_toInt (by omega)]) (by decide) (by rw [toInt_L, nI_toInt (by omega)]) (fun _ _ => ite_ff ?_ (by decide)) (fun z => by omega)
    refine ite_c (fun z => ?_) (fun z => ?_)
    · rw [lit_nI, nI_le' (by omega) (by decide)] at z
      have eq : q = d := by omega
      subst eq
      refine ⟨rfl, h.undo N (Nat.le_refl _) u1 u2 u3 u4 (fun i hi => ?_) N.2.2.1.2.2 N.2.2.1.1 N.2.2.1.2.1 (fun _ _ _ _ => rfl) rfl⟩
      have := TM.2.2.1 i hi
      simp only [Nat.zero_add] at this
      exact this
    · rw [lit_nI, nI_le' (by omega) (by decide)] at z
      have e : (32 * (nI q + 1) : Int32) = nI (32 * (q + 1)) := by simp (disch := omega) only [lit_nI, nI_add, pk_mul, nI_clamp, vp_nI, nI_inj, nI_lt', nI_le', nI_neg1, nI_neg9, nI_neg3, neg1_nI, neg9_nI, neg_l0, neg_g0, ↓reduceIte, true_and, and_true, not_true_eq_false, not_false_eq_true, Nat.reduceEqDiff, Nat.reduceLeDiff, Nat.reduceAdd, Nat.reduceSub, Nat.reduceDiv, Nat.reduceMod, Nat.reducePow, Nat.reduceLT, Nat.reduceMul, Nat.not_lt_zero, Nat.zero_le, Nat.succ_ne_self, one_ne0, zero_ne1, ne_eq]
      rw [e, show (1 : Int32).toNatClampNeg = 1 from rfl]
      refine ⟨in1, copyAll_s (f := 32 * (q + 1)) (t := 0) (len := 32) (by omega) (by omega) (by omega) (fun m1 v1 v2 v3 => ⟨in1, rfl, ?_⟩)⟩
      obtain ⟨w0, w⟩ := TM.2.2.2 q (by omega)
      have ew : ∀ j, j < 32 → j ≠ 1 → (uI (uI m1 1 1 (m.1 1 1)) 0 1 (nI q)).1 1 j = m.1 1 (32 * (q + 1) + j) := fun j hj hj1 => by
        rw [uI_c (by omega), uI_n hj1, ← v1 j hj, Nat.zero_add]
      refine h.undo N (by omega) u1 u2 u3 u4 (fun i hi => ?_) (by rw [uI_s]) ?_ ?_ (fun a b z1 z2 => ?_) v3
      · obtain ⟨w1, w2, w3⟩ := w i hi
        rw [ew _ (by omega) (by omega), ew _ (by omega) (by omega), ew _ (by omega) (by omega), ew _ (by omega) (by omega), ew _ (by omega) (by omega)]
        rw [show 0 + 32 * (q + 1) + 2 + i = 32 * (q + 1) + (2 + i) by omega] at w1
        rw [show 0 + 32 * (q + 1) + 8 + i = 32 * (q + 1) + (8 + i) by omega] at w2
        rw [show 0 + 32 * (q + 1) + 14 + i = 32 * (q + 1) + (14 + i) by omega, show 0 + 32 * (q + 1) + 26 + i = 32 * (q + 1) + (26 + i) by omega, show 0 + 32 * (q + 1) + 20 + i = 32 * (q + 1) + (20 + i) by omega] at w3
        exact ⟨w1, w2, w3⟩
      · rw [ew 0 (by omega) (by omega)]
        rw [Nat.zero_add] at w0
        exact w0
      · rw [uI_c (by omega), uI_s]; exact N.2.2.1.2.1
      · simp only [uI_1]
        rw [if_neg z2, if_neg (by omega)]
        exact v2 a b (by omega)
  · rcases out_of (by omega) ha with z | z
    · exact ite_tt (hbad ha) z
    · refine ite_c (fun _ => hbad ha) (fun _ => ite_ff (hbad ha) (fun w => ?_))
      have := Int32.le_trans z w
      rw [nI_le' (by omega) (by omega)] at this
      omega

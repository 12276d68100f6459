/-! drops, mark, count -/
/-- the height behind p pulls of 0 -/
def dH (k h : Nat) : Nat → Nat
  | 0 => h
  | p + 1 => aN k (dH k h p) 0
theorem aN0 {k h : Nat} (hh : h ≤ 20) : aN k h 0 ≤ 20 := by
  have : aN k h 0 ≠ 21 := by
    unfold aN
    rw [show (if k = 1 ∨ k = 4 then 0 / 2 else 0) = 0 by split <;> rfl]
    have : (if k = 2 ∨ k = 5 then 0 else 1) ≤ 1 := by split <;> omega
    generalize (if k = 2 ∨ k = 5 then 0 else 1) = z at this ⊢
    split <;> omega
  exact aN_20 this
theorem dH_le {k h : Nat} (hh : h ≤ 20) (p : Nat) : dH k h p ≤ 20 := by
  induction p with
  | zero => exact hh
  | succ p ih => exact aN0 ih
theorem op_drops {c m : St} (h : Rel c m) (a : Int32) : wp_X8_drops a c (fun r => wp_X9_drops a m (fun r' => r = r')) := by
  obtain ⟨n, dm, d, N⟩ := h.now
  have hn := N.1.1
  unfold wp_X8_drops
  by_cases ha : vp_in a n
  · obtain ⟨i, hi, rfl⟩ := vp_in_of ha (by omega)
    obtain ⟨⟨b1, b2, b3, b4, b5⟩, ⟨c1, c2, c3, c4⟩, d1, d2, d3, d4, d5⟩ := N.2.2.2 i hi
    refine refuse_s N hi (fun ho => ite_ff ?_ (by decide)) (fun ho => ite_tt ⟨vp_in_nI (by omega) (by decide), ?_⟩ rfl)
    · unfold wp_X9_drops
      refine isBell_y N hi (ite_ff ?_ (by decide))
      exact isOver_s N hi (fun _ => ite_ff rfl (by decide)) (fun q => by omega)
    · obtain ⟨H, H0, Hs, Hl⟩ : ∃ H : Nat → Nat, H 0 = hdN c i ∧ (∀ p, H (p + 1) = aN (kd c i) (H p) 0) ∧ ∀ p, H p ≤ 20 := ⟨dH (kd c i) (hdN c i), rfl, fun _ => rfl, fun p => dH_le b3 p⟩
      have ei : (14 + nI i).toNatClampNeg = 14 + i := by simp (disch := omega) only [lit_nI, nI_add, pk_mul, nI_clamp, vp_nI, nI_inj, nI_lt', nI_le', nI_neg1, nI_neg9, nI_neg3, neg1_nI, neg9_nI, neg_l0, neg_g0, ↓reduceIte, true_and, and_true, not_true_eq_false, not_false_eq_true, Nat.reduceEqDiff, Nat.reduceLeDiff, Nat.reduceAdd, Nat.reduceSub, Nat.reduceDiv, Nat.reduceMod, Nat.reducePow, Nat.reduceLT, Nat.reduceMul, Nat.not_lt_zero, Nat.zero_le, Nat.succ_ne_self, one_ne0, zero_ne1, ne_eq]
      have ev : vp_in (14 + nI i) 5280 := by simp (disch := omega) only [lit_nI, nI_add, pk_mul, nI_clamp, vp_nI, nI_inj, nI_lt', nI_le', nI_neg1, nI_neg9, nI_neg3, neg1_nI, neg9_nI, neg_l0, neg_g0, ↓reduceIte, true_and, and_true, not_true_eq_false, not_false_eq_true, Nat.reduceEqDiff, Nat.reduceLeDiff, Nat.reduceAdd, Nat.reduceSub, Nat.reduceDiv, Nat.reduceMod, Nat.reducePow, Nat.reduceLT, Nat.reduceMul, Nat.not_lt_zero, Nat.zero_le, Nat.succ_ne_self, one_ne0, zero_ne1, ne_eq]; omega
      have ei2 : (2 + nI i).toNatClampNeg = 2 + i := by simp (disch := omega) only [lit_nI, nI_add, pk_mul, nI_clamp, vp_nI, nI_inj, nI_lt', nI_le', nI_neg1, nI_neg9, nI_neg3, neg1_nI, neg9_nI, neg_l0, neg_g0, ↓reduceIte, true_and, and_true, not_true_eq_false, not_false_eq_true, Nat.reduceEqDiff, Nat.reduceLeDiff, Nat.reduceAdd, Nat.reduceSub, Nat.reduceDiv, Nat.reduceMod, Nat.reducePow, Nat.reduceLT, Nat.reduceMul, Nat.not_lt_zero, Nat.zero_le, Nat.succ_ne_self, one_ne0, zero_ne1, ne_eq]
      have ev2 : vp_in (2 + nI i) 5280 := by simp (disch := omega) only [lit_nI, nI_add, pk_mul, nI_clamp, vp_nI, nI_inj, nI_lt', nI_le', nI_neg1, nI_neg9, nI_neg3, neg1_nI, neg9_nI, neg_l0, neg_g0, ↓reduceIte, true_and, and_true, not_true_eq_false, not_false_eq_true, Nat.reduceEqDiff, Nat.reduceLeDiff, Nat.reduceAdd, Nat.reduceSub, Nat.reduceDiv, Nat.reduceMod, Nat.reducePow, Nat.reduceLT, Nat.reduceMul, Nat.not_lt_zero, Nat.zero_le, Nat.succ_ne_self, one_ne0, zero_ne1, ne_eq]; omega
      -- the reference, for an answer that the class has come to
      have mk : ∀ (q : Nat) (r : Int32), q ≤ 31 → (∀ p, p < q → 5 ≤ H p) → (q ≤ 30 → H q < 5 ∧ r = nI q) → (q = 31 → r = -9) → wp_X9_drops (nI i) m (fun r' => r = r') := by
        intro q r hq h1 h2 h3
        unfold wp_X9_drops
        refine isBell_y N hi (ite_ff ?_ (by decide))
        refine isOver_s N hi (fun q => by omega) (fun _ => ite_tt ?_ rfl)
        rw [ei, d3, ← H0]
        refine ⟨ev, ?_⟩
        unfold L_X9_drops_33
        refine for2_2 q (fun p x => x = nI (H p)) ?_ ?_ 0 _ (Nat.zero_le _) rfl
        · rintro _ Φ rfl
          have := Hl q
          unfold B_X9_drops_33 J_X9_drops_64 J_X9_drops_76
          by_cases q30 : q ≤ 30
          · have hle : nI q ≤ (30 : Int32) := by rw [lit_nI, nI_le' (by omega) (by decide)]; exact q30
            obtain ⟨g1, g2⟩ := h2 q30
            refine ite_tt (ite_tt g2 hle) ?_
            rw [lit_nI, nI_lt' (by omega) (by decide)]; exact g1
          · have hle : ¬ nI q ≤ (30 : Int32) := by rw [lit_nI, nI_le' (by omega) (by decide)]; exact q30
            have hgt : (30 : Int32) < nI q := by rw [lit_nI, nI_lt' (by decide) (by omega)]; omega
            exact ite_c (fun _ => ite_ff (h3 (by omega)) hle) (fun _ => ite_tt (ite_ff (h3 (by omega)) hle) hgt)
        · rintro p _ Φ hp rfl hΦ
          have hl := Hl p
          have h5 := h1 p hp
          unfold B_X9_drops_33
          refine ite_ff (ite_ff ⟨ev2, ?_⟩ (by rw [lit_nI, nI_lt' (by decide) (by omega)]; omega)) (by rw [lit_nI, nI_lt' (by omega) (by decide)]; omega)
          rw [ei2, d1, show nI p + 1 = nI (p + 1) from nI_1 p]
          refine afterM_s (p := 0) b1 (by omega) (by omega) (hΦ _ ?_)
          have := Hl (p + 1)
          rw [Hs] at this ⊢
          exact eA_n (by omega)
      rw [nI_clamp (by omega), c3, ← H0]
      unfold L_X8_drops_31
      refine for2_2 31 (fun p x => x = nI (H p) ∧ ∀ q, q < p → 5 ≤ H q) ?_ ?_ 0 _ (Nat.zero_le _) ⟨rfl, fun q z => by omega⟩
      · rintro _ Φ ⟨rfl, hq⟩
        unfold B_X8_drops_31
        exact ite_tt (mk 31 _ (by omega) hq (fun z => by omega) (fun _ => rfl)) (by decide)
      · rintro p _ Φ hp ⟨rfl, hq⟩ hΦ
        have hl := Hl p
        unfold B_X8_drops_31
        refine ite_ff (ite_c (fun z => ?_) (fun z => ?_)) (by rw [lit_nI, nI_lt' (by decide) (by omega)]; omega)
        · rw [lit_nI, nI_le' (by decide) (by omega)] at z
          rw [c1, show nI p + 1 = nI (p + 1) from nI_1 p]
          refine after_s (p := 0) b1 (by omega) (by omega) (hΦ _ ⟨?_, fun q hq2 => ?_⟩)
          · have := Hl (p + 1)
            rw [Hs] at this ⊢
            exact eA_n (by omega)
          · by_cases e : q = p
            · subst e; exact z
            · exact hq q (by omega)
        · rw [lit_nI, nI_le' (by decide) (by omega)] at z
          exact mk p _ (by omega) hq (fun _ => ⟨by omega, rfl⟩) (fun z => by omega)
  · unfold wp_X9_drops
    exact refuse_bad N ha (ite_ff (isBell_n N ha (ite_tt rfl rfl)) (by decide))
/-- counting -/
def cnt (P : Nat → Bool) : Nat → Nat
  | 0 => 0
  | n + 1 => cnt P n + (if P n then 1 else 0)
theorem cnt_le (P : Nat → Bool) (n : Nat) : cnt P n ≤ n := by
  induction n with
  | zero => exact Nat.le_refl _
  | succ n ih => simp only [cnt]; split <;> omega
/-- the greatest of those below that are so; 0: none -/
def gr (P : Nat → Bool) : Nat → Nat
  | 0 => 0
  | n + 1 => if P n then n else gr P n
theorem gr_le (P : Nat → Bool) (n : Nat) : gr P n ≤ n := by
  induction n with
  | zero => exact Nat.le_refl _
  | succ n ih => simp only [gr]; split <;> omega
section MARK
variable {c m : St} {n dm d : Nat}
theorem greatest_s (N : Now c m n dm d) {i : Nat} (hi : i < n) {K : Int32 → Prop} (hK : K (nI (gr (fun p => decide (aN (kd c i) (hdN c i) p ≠ 21)) 7))) : wp_X8_greatestWhole (28 + i) c K := by
  obtain ⟨⟨b1, b2, b3, b4, b5⟩, ⟨c1, c2, c3, c4⟩, -⟩ := N.2.2.2 i hi
  obtain ⟨g, g0, gs⟩ : ∃ g : Nat → Nat, g 0 = 0 ∧ ∀ p, g (p + 1) = if aN (kd c i) (hdN c i) p ≠ 21 then p else g p := ⟨gr (fun p => decide (aN (kd c i) (hdN c i) p ≠ 21)), rfl, fun p => by simp only [gr, decide_eq_true_eq]⟩
  have e7 : ∀ p, gr (fun p => decide (aN (kd c i) (hdN c i) p ≠ 21)) p = g p := by
    intro p
    induction p with
    | zero => exact g0.symm
    | succ p ih => rw [gs]; simp only [gr, decide_eq_true_eq, ih]
  rw [e7] at hK
  unfold wp_X8_greatestWhole L_X8_greatestWhole_3
  refine wl1_ind (fun v => ∃ p, p ≤ 6 ∧ v = nI p ∧ g 7 = g (p + 1)) (fun v => v.toNatClampNeg) ?_ 6 ⟨6, by omega, rfl, rfl⟩
  rintro _ ⟨p, hp, rfl, e⟩ Φ hΦ
  unfold B_X8_greatestWhole_3
  rw [c1, c3]
  refine ite_c (fun z => ?_) (fun z => ?_)
  · rw [lit_nI, nI_le' (by omega) (by decide)] at z
    have : p = 0 := by omega
    subst this
    rw [e, gs 0] at hK
    split at hK
    · exact hK
    · rw [g0] at hK; exact hK
  · rw [lit_nI, nI_le' (by omega) (by decide)] at z
    refine after_s b1 (by omega) (by omega) (ite_c (fun q => ?_) (fun q => ?_))
    · rw [eA_m1 (aN_le _ _ _)] at q
      obtain ⟨p', rfl⟩ : ∃ p', p = p' + 1 := ⟨p - 1, by omega⟩
      rw [pk_m1]
      refine hΦ _ ⟨p', by omega, rfl, ?_⟩ ?_
      · rw [e, gs (p' + 1), if_neg (by simp [q])]
      · rw [nI_clamp (by omega), nI_clamp (by omega)]; omega
    · rw [eA_m1 (aN_le _ _ _)] at q
      rw [e, gs p, if_pos q] at hK
      exact hK
theorem greatestM_s (N : Now c m n dm d) {i : Nat} (hi : i < n) {K : Int32 → Prop} (hK : K (nI (gr (fun p => decide (aN (kd c i) (hdN c i) p ≠ 21)) 7))) : L_X9_markOf_47 (nI i) (nI (hdN c i)) m K 0 0 := by
  have hn := N.1.1
  obtain ⟨⟨b1, b2, b3, b4, b5⟩, ⟨c1, c2, c3, c4⟩, d1, d2, d3, d4, d5⟩ := N.2.2.2 i hi
  unfold L_X9_markOf_47
  refine for2_2 7 (fun p x => x = nI (gr (fun p => decide (aN (kd c i) (hdN c i) p ≠ 21)) p)) ?_ ?_ 0 _ (Nat.zero_le _) rfl
  · rintro _ Φ rfl
    unfold B_X9_markOf_47
    exact ite_tt hK (by decide)
  · rintro p _ Φ hp rfl hΦ
    unfold B_X9_markOf_47 J_X9_markOf_79
    refine ite_ff ?_ (nI_ge hp (by decide))
    have ei2 : (2 + nI i).toNatClampNeg = 2 + i := by simp (disch := omega) only [lit_nI, nI_add, pk_mul, nI_clamp, vp_nI, nI_inj, nI_lt', nI_le', nI_neg1, nI_neg9, nI_neg3, neg1_nI, neg9_nI, neg_l0, neg_g0, ↓reduceIte, true_and, and_true, not_true_eq_false, not_false_eq_true, Nat.reduceEqDiff, Nat.reduceLeDiff, Nat.reduceAdd, Nat.reduceSub, Nat.reduceDiv, Nat.reduceMod, Nat.reducePow, Nat.reduceLT, Nat.reduceMul, Nat.not_lt_zero, Nat.zero_le, Nat.succ_ne_self, one_ne0, zero_ne1, ne_eq]
    have ev2 : vp_in (2 + nI i) 5280 := by simp (disch := omega) only [lit_nI, nI_add, pk_mul, nI_clamp, vp_nI, nI_inj, nI_lt', nI_le', nI_neg1, nI_neg9, nI_neg3, neg1_nI, neg9_nI, neg_l0, neg_g0, ↓reduceIte, true_and, and_true, not_true_eq_false, not_false_eq_true, Nat.reduceEqDiff, Nat.reduceLeDiff, Nat.reduceAdd, Nat.reduceSub, Nat.reduceDiv, Nat.reduceMod, Nat.reducePow, Nat.reduceLT, Nat.reduceMul, Nat.not_lt_zero, Nat.zero_le, Nat.succ_ne_self, one_ne0, zero_ne1, ne_eq]; omega
    rw [ei2, d1, show nI p + 1 = nI (p + 1) from nI_1 p]
    refine ⟨ev2, afterM_s b1 (by omega) (by omega) (ite_c (fun q => hΦ _ ?_) (fun q => hΦ _ ?_))⟩
    · rw [eA_m1 (aN_le _ _ _)] at q
      simp only [gr, decide_eq_true_eq]
      rw [if_neg (by simp [q])]
    · rw [eA_m1 (aN_le _ _ _)] at q
      simp only [gr, decide_eq_true_eq]
      rw [if_pos q]
end MARK

theorem dsN_on {k g s h : Nat} (hd : dsN k g s h ≠ 100) (j : Nat) : dsN k g (s + j) h = dsN k g s h := by
  induction j with
  | zero => rfl
  | succ j ih =>
    show (if dsN k g (s + j) h = 100 then _ else dsN k g (s + j) h) = _
    rw [if_neg (by rw [ih]; exact hd), ih]
def bkN (k h : Nat) : Nat := if 5 ≤ h then 0 else if 5 ≤ aN k h 6 then 1 else if 5 ≤ aN k (aN k h 6) 6 then 2 else 3
theorem bkN_3 (k h : Nat) : bkN k h ≤ 3 := by unfold bkN; (repeat' split) <;> omega
theorem bkN_d : ∀ k, k < 6 → ∀ h, h < 5 → dsN k 5 3 h = bkN k h ∧ aN k h 6 ≤ 20 ∧ bkN k (aN k h 6) + 1 = bkN k h := by decide
theorem bkN_ds {k h : Nat} (hk : k < 6) : dsN k 5 30 h = bkN k h := by
  have h3 := bkN_3 k h
  by_cases e : h < 5
  · have := (bkN_d k hk h e).1
    rw [show 30 = 3 + 27 from rfl, dsN_on (by omega), this]
  · have h0 : dsN k 5 0 h = 0 := if_pos (by omega)
    rw [show 30 = 0 + 30 from rfl, dsN_on (by omega), h0]
    unfold bkN; rw [if_pos (by omega)]
theorem op_back {c m : St} (h : Rel c m) (a : Int32) : wp_X8_back a c (fun r c' => wp_X9_back a m (fun r' => r = r' ∧ Rel c' m)) := by
  obtain ⟨n, dm, d, N⟩ := h.now
  have hn := N.1.1
  unfold wp_X8_back
  by_cases ha : vp_in a n
  · obtain ⟨i, hi, rfl⟩ := vp_in_of ha (by omega)
    obtain ⟨⟨b1, b2, b3, b4, b5⟩, ⟨c1, c2, c3, c4⟩, d1, d2, d3, d4, d5⟩ := N.2.2.2 i hi
    refine refuse_s N hi (fun o => ite_ff ?_ (by decide)) (fun o => ite_tt ?_ rfl)
    · unfold wp_X9_back
      exact isBell_y N hi (ite_ff (isOver_s N hi (fun _ => ite_ff ⟨rfl, h⟩ (by decide)) (fun q => by omega)) (by decide))
    · have hv6 := vp_in_nI (n := i) (N := 6) (by omega) (by decide)
      refine ⟨hv6, ?_⟩
      rw [nI_clamp (by omega), c1]
      refine measure_s (g := 5) b1 (by decide) (fun c' g1 g2 g3 => ⟨hv6, ?_⟩)
      have hR : Rel c' m := h.keep ⟨fun k j hk => g2 k j (by omega), fun j => by rw [g3]⟩ (KeepM.rf m)
      have g77 := g1 (hdN c i) b3
      have k3 := bkN_3 (kd c i) (hdN c i)
      rw [bkN_ds b1] at g77
      unfold eD at g77
      rw [if_neg (by omega)] at g77
      rw [g2 (28 + i) 3 (by omega), c3]
      unfold wp_X4_strokesFrom J_X4_strokesFrom_21
      rw [nI_clamp (by omega), g77]
      refine ite_ff (ite_ff ⟨vp_in_nI (by omega) (by decide), ?_⟩ (by rw [lit_nI, nI_le' (by decide) (by omega)]; omega)) (by rw [lit_nI, nI_lt' (by omega) (by decide)]; omega)
      have i1 : (14 + nI i).toNatClampNeg = 14 + i := by simp (disch := omega) only [lit_nI, nI_add, pk_mul, nI_clamp, vp_nI, nI_inj, nI_lt', nI_le', nI_neg1, nI_neg9, nI_neg3, neg1_nI, neg9_nI, neg_l0, neg_g0, ↓reduceIte, true_and, and_true, not_true_eq_false, not_false_eq_true, Nat.reduceEqDiff, Nat.reduceLeDiff, Nat.reduceAdd, Nat.reduceSub, Nat.reduceDiv, Nat.reduceMod, Nat.reducePow, Nat.reduceLT, Nat.reduceMul, Nat.not_lt_zero, Nat.zero_le, Nat.succ_ne_self, one_ne0, zero_ne1, ne_eq]
      have i2 : vp_in (14 + nI i) 5280 := by simp (disch := omega) only [lit_nI, nI_add, pk_mul, nI_clamp, vp_nI, nI_inj, nI_lt', nI_le', nI_neg1, nI_neg9, nI_neg3, neg1_nI, neg9_nI, neg_l0, neg_g0, ↓reduceIte, true_and, and_true, not_true_eq_false, not_false_eq_true, Nat.reduceEqDiff, Nat.reduceLeDiff, Nat.reduceAdd, Nat.reduceSub, Nat.reduceDiv, Nat.reduceMod, Nat.reducePow, Nat.reduceLT, Nat.reduceMul, Nat.not_lt_zero, Nat.zero_le, Nat.succ_ne_self, one_ne0, zero_ne1, ne_eq]; omega
      have i3 : (2 + nI i).toNatClampNeg = 2 + i := by simp (disch := omega) only [lit_nI, nI_add, pk_mul, nI_clamp, vp_nI, nI_inj, nI_lt', nI_le', nI_neg1, nI_neg9, nI_neg3, neg1_nI, neg9_nI, neg_l0, neg_g0, ↓reduceIte, true_and, and_true, not_true_eq_false, not_false_eq_true, Nat.reduceEqDiff, Nat.reduceLeDiff, Nat.reduceAdd, Nat.reduceSub, Nat.reduceDiv, Nat.reduceMod, Nat.reducePow, Nat.reduceLT, Nat.reduceMul, Nat.not_lt_zero, Nat.zero_le, Nat.succ_ne_self, one_ne0, zero_ne1, ne_eq]
      have i4 : vp_in (2 + nI i) 5280 := by simp (disch := omega) only [lit_nI, nI_add, pk_mul, nI_clamp, vp_nI, nI_inj, nI_lt', nI_le', nI_neg1, nI_neg9, nI_neg3, neg1_nI, neg9_nI, neg_l0, neg_g0, ↓reduceIte, true_and, and_true, not_true_eq_false, not_false_eq_true, Nat.reduceEqDiff, Nat.reduceLeDiff, Nat.reduceAdd, Nat.reduceSub, Nat.reduceDiv, Nat.reduceMod, Nat.reducePow, Nat.reduceLT, Nat.reduceMul, Nat.not_lt_zero, Nat.zero_le, Nat.succ_ne_self, one_ne0, zero_ne1, ne_eq]; omega
      unfold wp_X9_back L_X9_back_33
      refine isBell_y N hi (ite_ff (isOver_s N hi (fun q => by omega) (fun _ => ite_tt ⟨i2, ?_⟩ rfl)) (by decide))
      rw [i1, d3]
      refine wl2_ind (fun x y => ∃ u t, x = nI u ∧ y = nI t ∧ u ≤ 20 ∧ t + bkN (kd c i) u = bkN (kd c i) (hdN c i)) (fun _ y => 31 - y.toNatClampNeg) ?_ _ _ ⟨hdN c i, 0, rfl, rfl, b3, Nat.zero_add _⟩
      rintro _ _ ⟨u, t, rfl, rfl, hu, ht⟩ Φ hΦ
      unfold B_X9_back_33 J_X9_back_65 J_X9_back_77
      rw [i3, d1, show nI t + 1 = nI (t + 1) from nI_1 t]
      have y1 : nI t ≤ 30 := by rw [lit_nI, nI_le' (by omega) (by decide)]; omega
      have y2 : ¬ (30 : Int32) < nI t := by rw [lit_nI, nI_lt' (by decide) (by omega)]; omega
      refine ite_c (fun z => ite_tt ⟨?_, hR⟩ y1) (fun z => ite_ff ⟨i4, afterM_s (p := 6) b1 (by omega) (by decide) ?_⟩ y2)
      · rw [lit_nI, nI_le' (by decide) (by omega)] at z
        have : bkN (kd c i) u = 0 := by unfold bkN; rw [if_pos z]
        rw [← ht, this]; rfl
      · rw [lit_nI, nI_le' (by decide) (by omega)] at z
        obtain ⟨_, e2, e3⟩ := bkN_d (kd c i) b1 u (by omega)
        rw [eA_n (by omega)]
        refine hΦ _ _ ⟨_, t + 1, rfl, rfl, e2, by omega⟩ ?_
        rw [nI_clamp (by omega), nI_clamp (by omega)]; omega
  · refine refuse_bad N ha (ite_ff ?_ (by decide))
    unfold wp_X9_back
    exact isBell_n N ha (ite_tt ⟨rfl, h⟩ rfl)

def bitsB (P : Nat → Bool) : Nat → Int32
  | 0 => 0
  | p + 1 => if P p then bitsB P p ||| shl 1 (nI p) else bitsB P p
theorem op_kinds {c m : St} (h : Rel c m) (a b : Int32) : wp_X8_kinds a b c (fun r c' => wp_X9_kinds a b m (fun r' m' => r = r' ∧ Rel c' m')) := by
  obtain ⟨n, dm, d, N⟩ := h.now
  have hn := N.1.1
  unfold wp_X8_kinds
  refine told_c h N a b (fun r c' r0 r1 hM => ite_ff ?_ r0) (fun i ρ q hi hρ ho ea eb hq h2 h4 hf hp hM => ite_tt ?_ rfl)
  · unfold wp_X9_kinds
    exact hM _ (fun m' hR => ite_ff ⟨rfl, hR⟩ r1)
  · subst ea; subst eb
    obtain ⟨⟨b1, b2, b3, b4, b5⟩, ⟨c1, c2, c3, c4⟩, d1, d2, d3, d4, d5⟩ := N.2.2.2 i hi
    have hb6 : vp_in (nI ρ) 6 := vp_in_nI hρ (by decide)
    refine ⟨vp_in_nI (by omega) (by decide), ?_⟩
    rw [nI_clamp (by omega)]
    unfold L_X8_kinds_30
    refine for2_2 6 (fun p x => x = bitsB (fun k => soB k (wd c i) dm (hdN c i) (fun j => c.1 (5 + 2 * ρ + 1) j) q) p) ?_ ?_ 0 _ (Nat.zero_le _) rfl
    · rintro _ Φ rfl
      unfold B_X8_kinds_30 wp_X9_kinds
      refine ite_tt (hM _ (ite_tt ?_ (by decide))) (by decide)
      unfold L_X9_kinds_19
      refine for2_2 6 (fun p x => x = bitsB (fun k => soB k (wd c i) dm (hdN c i) (fun j => c.1 (5 + 2 * ρ + 1) j) q) p) ?_ ?_ 0 _ (Nat.zero_le _) rfl
      · rintro _ Φ rfl
        unfold B_X9_kinds_19
        exact ite_tt ⟨rfl, h⟩ (by decide)
      · rintro p _ Φ hp' rfl hΦ
        unfold B_X9_kinds_19 J_X9_kinds_70
        have i1 : (8 + nI i).toNatClampNeg = 8 + i := by simp (disch := omega) only [lit_nI, nI_add, pk_mul, nI_clamp, vp_nI, nI_inj, nI_lt', nI_le', nI_neg1, nI_neg9, nI_neg3, neg1_nI, neg9_nI, neg_l0, neg_g0, ↓reduceIte, true_and, and_true, not_true_eq_false, not_false_eq_true, Nat.reduceEqDiff, Nat.reduceLeDiff, Nat.reduceAdd, Nat.reduceSub, Nat.reduceDiv, Nat.reduceMod, Nat.reducePow, Nat.reduceLT, Nat.reduceMul, Nat.not_lt_zero, Nat.zero_le, Nat.succ_ne_self, one_ne0, zero_ne1, ne_eq]
        have i2 : vp_in (8 + nI i) 5280 := by simp (disch := omega) only [lit_nI, nI_add, pk_mul, nI_clamp, vp_nI, nI_inj, nI_lt', nI_le', nI_neg1, nI_neg9, nI_neg3, neg1_nI, neg9_nI, neg_l0, neg_g0, ↓reduceIte, true_and, and_true, not_true_eq_false, not_false_eq_true, Nat.reduceEqDiff, Nat.reduceLeDiff, Nat.reduceAdd, Nat.reduceSub, Nat.reduceDiv, Nat.reduceMod, Nat.reducePow, Nat.reduceLT, Nat.reduceMul, Nat.not_lt_zero, Nat.zero_le, Nat.succ_ne_self, one_ne0, zero_ne1, ne_eq]; omega
        have i3 : (14 + nI i).toNatClampNeg = 14 + i := by simp (disch := omega) only [lit_nI, nI_add, pk_mul, nI_clamp, vp_nI, nI_inj, nI_lt', nI_le', nI_neg1, nI_neg9, nI_neg3, neg1_nI, neg9_nI, neg_l0, neg_g0, ↓reduceIte, true_and, and_true, not_true_eq_false, not_false_eq_true, Nat.reduceEqDiff, Nat.reduceLeDiff, Nat.reduceAdd, Nat.reduceSub, Nat.reduceDiv, Nat.reduceMod, Nat.reducePow, Nat.reduceLT, Nat.reduceMul, Nat.not_lt_zero, Nat.zero_le, Nat.succ_ne_self, one_ne0, zero_ne1, ne_eq]
        have i4 : vp_in (14 + nI i) 5280 := by simp (disch := omega) only [lit_nI, nI_add, pk_mul, nI_clamp, vp_nI, nI_inj, nI_lt', nI_le', nI_neg1, nI_neg9, nI_neg3, neg1_nI, neg9_nI, neg_l0, neg_g0, ↓reduceIte, true_and, and_true, not_true_eq_false, not_false_eq_true, Nat.reduceEqDiff, Nat.reduceLeDiff, Nat.reduceAdd, Nat.reduceSub, Nat.reduceDiv, Nat.reduceMod, Nat.reducePow, Nat.reduceLT, Nat.reduceMul, Nat.not_lt_zero, Nat.zero_le, Nat.succ_ne_self, one_ne0, zero_ne1, ne_eq]; omega
        rw [i1, i3, show (1 : Int32).toNatClampNeg = 1 from rfl, d2, d3, N.2.2.1.2.1, show nI p + 1 = nI (p + 1) from nI_1 p]
        refine ite_ff ⟨i2, i4, in1, isSo_s hρ hp' b2 N.1.2.1 b3 h4 hq hf hp (fun z => ite_ff (hΦ _ ?_) (by decide)) (fun z => ite_tt (hΦ _ ?_) rfl)⟩ (nI_ge hp' (by decide))
        · simp only [bitsB, z, if_true]
        · simp only [bitsB, z]; exact or0 _
    · rintro p _ Φ hp' rfl hΦ
      unfold B_X8_kinds_30 J_X8_kinds_77
      rw [nI_clamp (n := ρ) (by omega), c2, c3, N.2.1.2.1, show nI p + 1 = nI (p + 1) from nI_1 p]
      refine ite_ff ⟨hb6, fits_s hp' b2 N.1.2.1 b3 h2 hq (by decide) hp (fun z => ite_ff (hΦ _ ?_) (by decide)) (fun z => ite_tt (hΦ _ ?_) rfl)⟩ (nI_ge hp' (by decide))
      · simp only [bitsB, z, if_true]
      · simp only [bitsB, z]; rfl
theorem op_damps {c m : St} (h : Rel c m) (a b : Int32) : wp_X8_damps a b c (fun r c' => wp_X9_damps a b m (fun r' m' => r = r' ∧ Rel c' m')) := by
  obtain ⟨n, dm, d, N⟩ := h.now
  have hn := N.1.1
  unfold wp_X8_damps
  refine told_c h N a b (fun r c' r0 r1 hM => ite_ff ?_ r0) (fun i ρ q hi hρ ho ea eb hq h2 h4 hf hp hM => ite_tt ?_ rfl)
  · unfold wp_X9_damps
    exact hM _ (fun m' hR => ite_ff ⟨rfl, hR⟩ r1)
  · subst ea; subst eb
    obtain ⟨⟨b1, b2, b3, b4, b5⟩, ⟨c1, c2, c3, c4⟩, d1, d2, d3, d4, d5⟩ := N.2.2.2 i hi
    have hb6 : vp_in (nI ρ) 6 := vp_in_nI hρ (by decide)
    refine ⟨vp_in_nI (by omega) (by decide), ?_⟩
    rw [nI_clamp (by omega)]
    unfold L_X8_damps_30
    refine for2_2 4 (fun p x => x = bitsB (fun k => soB (kd c i) (wd c i) k (hdN c i) (fun j => c.1 (5 + 2 * ρ + 1) j) q) p) ?_ ?_ 0 _ (Nat.zero_le _) rfl
    · rintro _ Φ rfl
      unfold B_X8_damps_30 wp_X9_damps
      refine ite_tt (hM _ (ite_tt ?_ (by decide))) (by decide)
      unfold L_X9_damps_19
      refine for2_2 4 (fun p x => x = bitsB (fun k => soB (kd c i) (wd c i) k (hdN c i) (fun j => c.1 (5 + 2 * ρ + 1) j) q) p) ?_ ?_ 0 _ (Nat.zero_le _) rfl
      · rintro _ Φ rfl
        unfold B_X9_damps_19
        exact ite_tt ⟨rfl, h⟩ (by decide)
      · rintro p _ Φ hp' rfl hΦ
        unfold B_X9_damps_19 J_X9_damps_71
        have i1 : (8 + nI i).toNatClampNeg = 8 + i := by simp (disch := omega) only [lit_nI, nI_add, pk_mul, nI_clamp, vp_nI, nI_inj, nI_lt', nI_le', nI_neg1, nI_neg9, nI_neg3, neg1_nI, neg9_nI, neg_l0, neg_g0, ↓reduceIte, true_and, and_true, not_true_eq_false, not_false_eq_true, Nat.reduceEqDiff, Nat.reduceLeDiff, Nat.reduceAdd, Nat.reduceSub, Nat.reduceDiv, Nat.reduceMod, Nat.reducePow, Nat.reduceLT, Nat.reduceMul, Nat.not_lt_zero, Nat.zero_le, Nat.succ_ne_self, one_ne0, zero_ne1, ne_eq]
        have i2 : vp_in (8 + nI i) 5280 := by simp (disch := omega) only [lit_nI, nI_add, pk_mul, nI_clamp, vp_nI, nI_inj, nI_lt', nI_le', nI_neg1, nI_neg9, nI_neg3, neg1_nI, neg9_nI, neg_l0, neg_g0, ↓reduceIte, true_and, and_true, not_true_eq_false, not_false_eq_true, Nat.reduceEqDiff, Nat.reduceLeDiff, Nat.reduceAdd, Nat.reduceSub, Nat.reduceDiv, Nat.reduceMod, Nat.reducePow, Nat.reduceLT, Nat.reduceMul, Nat.not_lt_zero, Nat.zero_le, Nat.succ_ne_self, one_ne0, zero_ne1, ne_eq]; omega
        have i3 : (14 + nI i).toNatClampNeg = 14 + i := by simp (disch := omega) only [lit_nI, nI_add, pk_mul, nI_clamp, vp_nI, nI_inj, nI_lt', nI_le', nI_neg1, nI_neg9, nI_neg3, neg1_nI, neg9_nI, neg_l0, neg_g0, ↓reduceIte, true_and, and_true, not_true_eq_false, not_false_eq_true, Nat.reduceEqDiff, Nat.reduceLeDiff, Nat.reduceAdd, Nat.reduceSub, Nat.reduceDiv, Nat.reduceMod, Nat.reducePow, Nat.reduceLT, Nat.reduceMul, Nat.not_lt_zero, Nat.zero_le, Nat.succ_ne_self, one_ne0, zero_ne1, ne_eq]
        have i4 : vp_in (14 + nI i) 5280 := by simp (disch := omega) only [lit_nI, nI_add, pk_mul, nI_clamp, vp_nI, nI_inj, nI_lt', nI_le', nI_neg1, nI_neg9, nI_neg3, neg1_nI, neg9_nI, neg_l0, neg_g0, ↓reduceIte, true_and, and_true, not_true_eq_false, not_false_eq_true, Nat.reduceEqDiff, Nat.reduceLeDiff, Nat.reduceAdd, Nat.reduceSub, Nat.reduceDiv, Nat.reduceMod, Nat.reducePow, Nat.reduceLT, Nat.reduceMul, Nat.not_lt_zero, Nat.zero_le, Nat.succ_ne_self, one_ne0, zero_ne1, ne_eq]; omega
        have i5 : (2 + nI i).toNatClampNeg = 2 + i := by simp (disch := omega) only [lit_nI, nI_add, pk_mul, nI_clamp, vp_nI, nI_inj, nI_lt', nI_le', nI_neg1, nI_neg9, nI_neg3, neg1_nI, neg9_nI, neg_l0, neg_g0, ↓reduceIte, true_and, and_true, not_true_eq_false, not_false_eq_true, Nat.reduceEqDiff, Nat.reduceLeDiff, Nat.reduceAdd, Nat.reduceSub, Nat.reduceDiv, Nat.reduceMod, Nat.reducePow, Nat.reduceLT, Nat.reduceMul, Nat.not_lt_zero, Nat.zero_le, Nat.succ_ne_self, one_ne0, zero_ne1, ne_eq]
        have i6 : vp_in (2 + nI i) 5280 := by simp (disch := omega) only [lit_nI, nI_add, pk_mul, nI_clamp, vp_nI, nI_inj, nI_lt', nI_le', nI_neg1, nI_neg9, nI_neg3, neg1_nI, neg9_nI, neg_l0, neg_g0, ↓reduceIte, true_and, and_true, not_true_eq_false, not_false_eq_true, Nat.reduceEqDiff, Nat.reduceLeDiff, Nat.reduceAdd, Nat.reduceSub, Nat.reduceDiv, Nat.reduceMod, Nat.reducePow, Nat.reduceLT, Nat.reduceMul, Nat.not_lt_zero, Nat.zero_le, Nat.succ_ne_self, one_ne0, zero_ne1, ne_eq]; omega
        rw [i1, i3, i5, d1, d2, d3, show nI p + 1 = nI (p + 1) from nI_1 p]
        refine ite_ff ⟨i6, i2, i4, isSo_s hρ b1 b2 (by omega) b3 h4 hq hf hp (fun z => ite_ff (hΦ _ ?_) (by decide)) (fun z => ite_tt (hΦ _ ?_) rfl)⟩ (nI_ge hp' (by decide))
        · simp only [bitsB, z, if_true]
        · simp only [bitsB, z]; exact or0 _
    · rintro p _ Φ hp' rfl hΦ
      unfold B_X8_damps_30 J_X8_damps_74
      rw [nI_clamp (n := ρ) (by omega), c1, c2, c3, show nI p + 1 = nI (p + 1) from nI_1 p]
      refine ite_ff ⟨hb6, fits_s b1 b2 (by omega) b3 h2 hq (by decide) hp (fun z => ite_ff (hΦ _ ?_) (by decide)) (fun z => ite_tt (hΦ _ ?_) rfl)⟩ (by rw [lit_nI, nI_lt' (by decide) (by omega)]; omega)
      · simp only [bitsB, z, if_true]
      · simp only [bitsB, z]; rfl
theorem op_heights {c m : St} (h : Rel c m) (a b : Int32) : wp_X8_heights a b c (fun r c' => wp_X9_heights a b m (fun r' m' => r = r' ∧ Rel c' m')) := by
  obtain ⟨n, dm, d, N⟩ := h.now
  have hn := N.1.1
  unfold wp_X8_heights
  refine told_c h N a b (fun r c' r0 r1 hM => ite_ff ?_ r0) (fun i ρ q hi hρ ho ea eb hq h2 h4 hf hp hM => ite_tt ?_ rfl)
  · unfold wp_X9_heights
    exact hM _ (fun m' hR => ite_ff ⟨rfl, hR⟩ r1)
  · subst ea; subst eb
    obtain ⟨⟨b1, b2, b3, b4, b5⟩, ⟨c1, c2, c3, c4⟩, d1, d2, d3, d4, d5⟩ := N.2.2.2 i hi
    have hb6 : vp_in (nI ρ) 6 := vp_in_nI hρ (by decide)
    refine ⟨vp_in_nI (by omega) (by decide), ?_⟩
    rw [nI_clamp (by omega)]
    unfold L_X8_heights_30
    refine for2_2 21 (fun p x => x = bitsB (fun k => soB (kd c i) (wd c i) dm k (fun j => c.1 (5 + 2 * ρ + 1) j) q) p) ?_ ?_ 0 _ (Nat.zero_le _) rfl
    · rintro x Φ ex
      unfold B_X8_heights_30 wp_X9_heights
      refine ite_tt (hM _ (ite_tt ?_ (by decide))) (by decide)
      unfold L_X9_heights_19
      refine for2_2 21 (fun p x => x = bitsB (fun k => soB (kd c i) (wd c i) dm k (fun j => c.1 (5 + 2 * ρ + 1) j) q) p) ?_ ?_ 0 _ (Nat.zero_le _) rfl
      · rintro y Φ ey
        unfold B_X9_heights_19
        exact ite_tt ⟨ex.trans ey.symm, h⟩ (by decide)
      · rintro p _ Φ hp' rfl hΦ
        unfold B_X9_heights_19 J_X9_heights_69
        have i1 : (8 + nI i).toNatClampNeg = 8 + i := by simp (disch := omega) only [lit_nI, nI_add, pk_mul, nI_clamp, vp_nI, nI_inj, nI_lt', nI_le', nI_neg1, nI_neg9, nI_neg3, neg1_nI, neg9_nI, neg_l0, neg_g0, ↓reduceIte, true_and, and_true, not_true_eq_false, not_false_eq_true, Nat.reduceEqDiff, Nat.reduceLeDiff, Nat.reduceAdd, Nat.reduceSub, Nat.reduceDiv, Nat.reduceMod, Nat.reducePow, Nat.reduceLT, Nat.reduceMul, Nat.not_lt_zero, Nat.zero_le, Nat.succ_ne_self, one_ne0, zero_ne1, ne_eq]
        have i2 : vp_in (8 + nI i) 5280 := by simp (disch := omega) only [lit_nI, nI_add, pk_mul, nI_clamp, vp_nI, nI_inj, nI_lt', nI_le', nI_neg1, nI_neg9, nI_neg3, neg1_nI, neg9_nI, neg_l0, neg_g0, ↓reduceIte, true_and, and_true, not_true_eq_false, not_false_eq_true, Nat.reduceEqDiff, Nat.reduceLeDiff, Nat.reduceAdd, Nat.reduceSub, Nat.reduceDiv, Nat.reduceMod, Nat.reducePow, Nat.reduceLT, Nat.reduceMul, Nat.not_lt_zero, Nat.zero_le, Nat.succ_ne_self, one_ne0, zero_ne1, ne_eq]; omega
        have i5 : (2 + nI i).toNatClampNeg = 2 + i := by simp (disch := omega) only [lit_nI, nI_add, pk_mul, nI_clamp, vp_nI, nI_inj, nI_lt', nI_le', nI_neg1, nI_neg9, nI_neg3, neg1_nI, neg9_nI, neg_l0, neg_g0, ↓reduceIte, true_and, and_true, not_true_eq_false, not_false_eq_true, Nat.reduceEqDiff, Nat.reduceLeDiff, Nat.reduceAdd, Nat.reduceSub, Nat.reduceDiv, Nat.reduceMod, Nat.reducePow, Nat.reduceLT, Nat.reduceMul, Nat.not_lt_zero, Nat.zero_le, Nat.succ_ne_self, one_ne0, zero_ne1, ne_eq]
        have i6 : vp_in (2 + nI i) 5280 := by simp (disch := omega) only [lit_nI, nI_add, pk_mul, nI_clamp, vp_nI, nI_inj, nI_lt', nI_le', nI_neg1, nI_neg9, nI_neg3, neg1_nI, neg9_nI, neg_l0, neg_g0, ↓reduceIte, true_and, and_true, not_true_eq_false, not_false_eq_true, Nat.reduceEqDiff, Nat.reduceLeDiff, Nat.reduceAdd, Nat.reduceSub, Nat.reduceDiv, Nat.reduceMod, Nat.reducePow, Nat.reduceLT, Nat.reduceMul, Nat.not_lt_zero, Nat.zero_le, Nat.succ_ne_self, one_ne0, zero_ne1, ne_eq]; omega
        rw [i1, i5, show (1 : Int32).toNatClampNeg = 1 from rfl, d1, d2, N.2.2.1.2.1, show nI p + 1 = nI (p + 1) from nI_1 p]
        refine ite_ff ⟨i6, i2, in1, isSo_s hρ b1 b2 N.1.2.1 (by omega) h4 hq hf hp (fun z => ite_ff (hΦ _ ?_) (by decide)) (fun z => ite_tt (hΦ _ ?_) rfl)⟩ (by rw [lit_nI, nI_lt' (by decide) (by omega)]; omega)
        · simp only [bitsB, z, if_true]
        · simp only [bitsB, z]; exact or0 _
    · rintro p _ Φ hp' rfl hΦ
      unfold B_X8_heights_30 J_X8_heights_77
      rw [nI_clamp (n := ρ) (by omega), c1, c2, N.2.1.2.1, show nI p + 1 = nI (p + 1) from nI_1 p]
      refine ite_ff ⟨hb6, fits_s b1 b2 N.1.2.1 (by omega) h2 hq (by decide) hp (fun z => ite_ff (hΦ _ ?_) (by decide)) (fun z => ite_tt (hΦ _ ?_) rfl)⟩ (nI_ge hp' (by decide))
      · simp only [bitsB, z, if_true]
      · simp only [bitsB, z]; rfl
theorem op_broke {c m : St} (h : Rel c m) (a b : Int32) : wp_X8_broke a b c (fun r c' => wp_X9_broke a b m (fun r' m' => r = r' ∧ Rel c' m')) := by
  obtain ⟨n, dm, d, N⟩ := h.now
  have hn := N.1.1
  have m4 : ¬ (-1 : Int32) = 0 ∧ ¬ (-4 : Int32) = 0 := by decide
  unfold wp_X8_broke J_X8_broke_16
  by_cases hb : vp_in b 6
  · obtain ⟨ρ, hρ, rfl⟩ := vp_in_of hb (by decide)
    refine isRow_y hρ (ite_ff ?_ (by decide))
    by_cases ha : vp_in a n
    · obtain ⟨i, hi, rfl⟩ := vp_in_of ha (by omega)
      obtain ⟨⟨b1, b2, b3, b4, b5⟩, ⟨c1, c2, c3, c4⟩, d1, d2, d3, d4, d5⟩ := N.2.2.2 i hi
      have e := nI_clamp (n := ρ) (by omega)
      have ei := nI_clamp (n := i) (by omega)
      refine refuse_s N hi (fun ho => ite_ff ?_ m4.2) (fun ho => ite_tt ⟨hb, ?_⟩ rfl)
      · unfold wp_X9_broke
        refine isBell_y N hi (ite_ff (isRowM_y hρ (ite_ff ?_ (by decide))) (by decide))
        exact isOver_s N hi (fun _ => ite_ff ⟨rfl, h⟩ (by decide)) (fun q => by omega)
      · rw [e, ei]
        have mod : ∀ {KM : Int32 → St → Prop}, (if 0 ≤ m.1 4 ρ then L_X9_broke_45 (nI i) (nI ρ) m KM 0 else wp_X9_found 1 m (fun r39 t39 => KM r39 t39)) → wp_X9_broke (nI i) (nI ρ) m KM := by
          intro KM hh
          unfold wp_X9_broke
          refine isBell_y N hi (ite_ff (isRowM_y hρ (ite_ff ?_ (by decide))) (by decide))
          refine isOver_s N hi (fun q => by omega) (fun _ => ite_tt ⟨hb, ?_⟩ rfl)
          rw [e]; exact hh
        rcases h.2.1 ρ hρ with ⟨s, a1, a2, a3, a4, a5⟩ | ⟨a1, a2, a3⟩
        · refine ite_ff ?_ (by rw [a2]; decide)
          have hpos : 0 ≤ m.1 4 ρ := by rw [a4]; exact nI_pos' (by omega)
          have lp : ∀ {KM : Int32 → St → Prop}, (AllP (fun j => c.1 (5 + 2 * ρ + 1) j) s 1 → L_X9_broke_97 (nI i) (nI ρ) m KM (nI (hdN c i)) 0) → (¬ AllP (fun j => c.1 (5 + 2 * ρ + 1) j) s 1 → KM (-3) (fM m 3)) → L_X9_broke_45 (nI i) (nI ρ) m KM 0 := by
            intro KM hy hno
            unfold L_X9_broke_45
            refine for1_1 s (fun j => ∀ i, i < j → vp_in (c.1 (5 + 2 * ρ + 1) i) 7) ?_ ?_ 0 (Nat.zero_le _) (fun i hi => by omega)
            · rintro Φ hall
              unfold B_X9_broke_45
              have i3 : (14 + nI i).toNatClampNeg = 14 + i := by simp (disch := omega) only [lit_nI, nI_add, pk_mul, nI_clamp, vp_nI, nI_inj, nI_lt', nI_le', nI_neg1, nI_neg9, nI_neg3, neg1_nI, neg9_nI, neg_l0, neg_g0, ↓reduceIte, true_and, and_true, not_true_eq_false, not_false_eq_true, Nat.reduceEqDiff, Nat.reduceLeDiff, Nat.reduceAdd, Nat.reduceSub, Nat.reduceDiv, Nat.reduceMod, Nat.reducePow, Nat.reduceLT, Nat.reduceMul, Nat.not_lt_zero, Nat.zero_le, Nat.succ_ne_self, one_ne0, zero_ne1, ne_eq]
              have i4 : vp_in (14 + nI i) 5280 := by simp (disch := omega) only [lit_nI, nI_add, pk_mul, nI_clamp, vp_nI, nI_inj, nI_lt', nI_le', nI_neg1, nI_neg9, nI_neg3, neg1_nI, neg9_nI, neg_l0, neg_g0, ↓reduceIte, true_and, and_true, not_true_eq_false, not_false_eq_true, Nat.reduceEqDiff, Nat.reduceLeDiff, Nat.reduceAdd, Nat.reduceSub, Nat.reduceDiv, Nat.reduceMod, Nat.reducePow, Nat.reduceLT, Nat.reduceMul, Nat.not_lt_zero, Nat.zero_le, Nat.succ_ne_self, one_ne0, zero_ne1, ne_eq]; omega
              rw [e, a4, i3, d3]
              refine ⟨hb, ite_tt ⟨i4, hy (fun j hj => ?_)⟩ (Int32.le_refl _)⟩
              rw [Nat.one_mul] at hj ⊢; exact hall j hj
            · rintro j Φ hj hall hΦ
              unfold B_X9_broke_45
              have i1 : (40 * nI ρ + nI j).toNatClampNeg = 40 * ρ + j := by simp (disch := omega) only [lit_nI, nI_add, pk_mul, nI_clamp, vp_nI, nI_inj, nI_lt', nI_le', nI_neg1, nI_neg9, nI_neg3, neg1_nI, neg9_nI, neg_l0, neg_g0, ↓reduceIte, true_and, and_true, not_true_eq_false, not_false_eq_true, Nat.reduceEqDiff, Nat.reduceLeDiff, Nat.reduceAdd, Nat.reduceSub, Nat.reduceDiv, Nat.reduceMod, Nat.reducePow, Nat.reduceLT, Nat.reduceMul, Nat.not_lt_zero, Nat.zero_le, Nat.succ_ne_self, one_ne0, zero_ne1, ne_eq]
              have i2 : vp_in (40 * nI ρ + nI j) 240 := by simp (disch := omega) only [lit_nI, nI_add, pk_mul, nI_clamp, vp_nI, nI_inj, nI_lt', nI_le', nI_neg1, nI_neg9, nI_neg3, neg1_nI, neg9_nI, neg_l0, neg_g0, ↓reduceIte, true_and, and_true, not_true_eq_false, not_false_eq_true, Nat.reduceEqDiff, Nat.reduceLeDiff, Nat.reduceAdd, Nat.reduceSub, Nat.reduceDiv, Nat.reduceMod, Nat.reducePow, Nat.reduceLT, Nat.reduceMul, Nat.not_lt_zero, Nat.zero_le, Nat.succ_ne_self, one_ne0, zero_ne1, ne_eq]; omega
              rw [e, a4, i1, a5 j hj, show nI j + 1 = nI (j + 1) from nI_1 j]
              refine ⟨hb, ite_ff ⟨i2, ?_⟩ (nI_ge hj (by omega))⟩
              by_cases hp : vp_in (c.1 (5 + 2 * ρ + 1) j) 7
              · obtain ⟨p, hp7, ep⟩ := vp_in_of hp (by decide)
                rw [ep]
                refine isPullM_y hp7 (ite_ff (hΦ (fun i hi => ?_)) (by decide))
                by_cases e : i = j
                · subst e; exact hp
                · exact hall i (by omega)
              · refine isPullM_n hp (ite_tt (found_s 3 (by decide) (hno (fun hh => hp ?_))) rfl)
                have := hh j (by omega)
                rw [Nat.one_mul] at this; exact this
          have hfail : ¬ AllP (fun j => c.1 (5 + 2 * ρ + 1) j) s 1 → wp_X8_find 3 c (fun r56 t56 => wp_X9_broke (nI i) (nI ρ) m (fun r' m' => r56 = r' ∧ Rel t56 m')) := fun hno => find_s 3 (by decide) (mod (ite_tt (lp (fun z => absurd z hno) (fun _ => ⟨rfl, h.find 3 (by decide)⟩)) hpos))
          have hgood : AllP (fun j => c.1 (5 + 2 * ρ + 1) j) s 1 → L_X8_broke_77 (nI i) (5 + 2 * ρ) 40 c (fun r c' => wp_X9_broke (nI i) (nI ρ) m (fun r' m' => r = r' ∧ Rel c' m')) (c.1 (28 + i) 3) 0 := by
            intro hy
            rw [c3]
            have hP : ∀ j, j < s → ∃ p, p < 7 ∧ c.1 (5 + 2 * ρ + 1) j = nI p := fun j hj => by
              have := hy j (by omega)
              rw [Nat.one_mul] at this
              exact vp_in_of this (by decide)
            obtain ⟨H, H0, Hs⟩ : ∃ H : Nat → Nat, H 0 = hdN c i ∧ ∀ j, H (j + 1) = aN (kd c i) (H j) (c.1 (5 + 2 * ρ + 1) j).toNatClampNeg := ⟨fun j => Nat.rec (hdN c i) (fun j x => aN (kd c i) x (c.1 (5 + 2 * ρ + 1) j).toNatClampNeg) j, rfl, fun _ => rfl⟩
            have Hl : ∀ j, H (j + 1) ≤ 21 := fun j => by rw [Hs]; exact aN_le _ _ _
            have H20 : ∀ j, (∀ t, t < j → H (t + 1) ≠ 21) → H j ≤ 20 := by
              intro j hj
              cases j with
              | zero => rw [H0]; exact b3
              | succ j => have := hj j (by omega); have := Hl j; omega
            have i5 : (2 + nI i).toNatClampNeg = 2 + i := by simp (disch := omega) only [lit_nI, nI_add, pk_mul, nI_clamp, vp_nI, nI_inj, nI_lt', nI_le', nI_neg1, nI_neg9, nI_neg3, neg1_nI, neg9_nI, neg_l0, neg_g0, ↓reduceIte, true_and, and_true, not_true_eq_false, not_false_eq_true, Nat.reduceEqDiff, Nat.reduceLeDiff, Nat.reduceAdd, Nat.reduceSub, Nat.reduceDiv, Nat.reduceMod, Nat.reducePow, Nat.reduceLT, Nat.reduceMul, Nat.not_lt_zero, Nat.zero_le, Nat.succ_ne_self, one_ne0, zero_ne1, ne_eq]
            have i6 : vp_in (2 + nI i) 5280 := by simp (disch := omega) only [lit_nI, nI_add, pk_mul, nI_clamp, vp_nI, nI_inj, nI_lt', nI_le', nI_neg1, nI_neg9, nI_neg3, neg1_nI, neg9_nI, neg_l0, neg_g0, ↓reduceIte, true_and, and_true, not_true_eq_false, not_false_eq_true, Nat.reduceEqDiff, Nat.reduceLeDiff, Nat.reduceAdd, Nat.reduceSub, Nat.reduceDiv, Nat.reduceMod, Nat.reducePow, Nat.reduceLT, Nat.reduceMul, Nat.not_lt_zero, Nat.zero_le, Nat.succ_ne_self, one_ne0, zero_ne1, ne_eq]; omega
            have mk : ∀ (q : Nat) (r : Int32) (c' : St), q ≤ s → (∀ t, t < q → H (t + 1) ≠ 21) → (q < s → H (q + 1) = 21 ∧ r = nI q ∧ c' = uI c 0 12 (irm (nI q) 2)) → (q = s → r = -9 ∧ c' = c) → wp_X9_broke (nI i) (nI ρ) m (fun r' m' => r = r' ∧ Rel c' m') := by
              intro q r c' hq hno h1 h2
              refine mod (ite_tt (lp (fun _ => ?_) (fun z => absurd hy z)) hpos)
              unfold L_X9_broke_97
              rw [← H0]
              refine for2_2 q (fun j x => x = nI (H j)) ?_ ?_ 0 _ (Nat.zero_le _) rfl
              · rintro _ Φ rfl
                have hl := H20 q hno
                unfold B_X9_broke_97 wp_X9_tells
                rw [e, a4]
                refine ⟨hb, ?_⟩
                by_cases qs : q = s
                · obtain ⟨rfl, rfl⟩ := h2 qs
                  refine ite_tt ⟨rfl, h⟩ ?_
                  rw [qs]; exact Int32.le_refl _
                · obtain ⟨g1, rfl, rfl⟩ := h1 (by omega)
                  obtain ⟨p, hp7, ep⟩ := hP q (by omega)
                  have i1 : (40 * nI ρ + nI q).toNatClampNeg = 40 * ρ + q := by simp (disch := omega) only [lit_nI, nI_add, pk_mul, nI_clamp, vp_nI, nI_inj, nI_lt', nI_le', nI_neg1, nI_neg9, nI_neg3, neg1_nI, neg9_nI, neg_l0, neg_g0, ↓reduceIte, true_and, and_true, not_true_eq_false, not_false_eq_true, Nat.reduceEqDiff, Nat.reduceLeDiff, Nat.reduceAdd, Nat.reduceSub, Nat.reduceDiv, Nat.reduceMod, Nat.reducePow, Nat.reduceLT, Nat.reduceMul, Nat.not_lt_zero, Nat.zero_le, Nat.succ_ne_self, one_ne0, zero_ne1, ne_eq]
                  have i2 : vp_in (40 * nI ρ + nI q) 240 := by simp (disch := omega) only [lit_nI, nI_add, pk_mul, nI_clamp, vp_nI, nI_inj, nI_lt', nI_le', nI_neg1, nI_neg9, nI_neg3, neg1_nI, neg9_nI, neg_l0, neg_g0, ↓reduceIte, true_and, and_true, not_true_eq_false, not_false_eq_true, Nat.reduceEqDiff, Nat.reduceLeDiff, Nat.reduceAdd, Nat.reduceSub, Nat.reduceDiv, Nat.reduceMod, Nat.reducePow, Nat.reduceLT, Nat.reduceMul, Nat.not_lt_zero, Nat.zero_le, Nat.succ_ne_self, one_ne0, zero_ne1, ne_eq]; omega
                  rw [i5, d1, i1, a5 q (by omega), ep]
                  refine ite_ff ⟨i6, i2, afterM_s b1 (by omega) (by omega) (ite_tt ⟨rfl, h.tell _⟩ ?_)⟩ (nI_ge (by omega) (by omega))
                  rw [eA_m1 (aN_le _ _ _), ← g1, Hs, ep, nI_clamp (by omega)]
              · rintro j _ Φ hj rfl hΦ
                have hl := H20 j (fun t ht => hno t (by omega))
                obtain ⟨p, hp7, ep⟩ := hP j (by omega)
                unfold B_X9_broke_97
                have i1 : (40 * nI ρ + nI j).toNatClampNeg = 40 * ρ + j := by simp (disch := omega) only [lit_nI, nI_add, pk_mul, nI_clamp, vp_nI, nI_inj, nI_lt', nI_le', nI_neg1, nI_neg9, nI_neg3, neg1_nI, neg9_nI, neg_l0, neg_g0, ↓reduceIte, true_and, and_true, not_true_eq_false, not_false_eq_true, Nat.reduceEqDiff, Nat.reduceLeDiff, Nat.reduceAdd, Nat.reduceSub, Nat.reduceDiv, Nat.reduceMod, Nat.reducePow, Nat.reduceLT, Nat.reduceMul, Nat.not_lt_zero, Nat.zero_le, Nat.succ_ne_self, one_ne0, zero_ne1, ne_eq]
                have i2 : vp_in (40 * nI ρ + nI j) 240 := by simp (disch := omega) only [lit_nI, nI_add, pk_mul, nI_clamp, vp_nI, nI_inj, nI_lt', nI_le', nI_neg1, nI_neg9, nI_neg3, neg1_nI, neg9_nI, neg_l0, neg_g0, ↓reduceIte, true_and, and_true, not_true_eq_false, not_false_eq_true, Nat.reduceEqDiff, Nat.reduceLeDiff, Nat.reduceAdd, Nat.reduceSub, Nat.reduceDiv, Nat.reduceMod, Nat.reducePow, Nat.reduceLT, Nat.reduceMul, Nat.not_lt_zero, Nat.zero_le, Nat.succ_ne_self, one_ne0, zero_ne1, ne_eq]; omega
                rw [e, a4, i5, d1, i1, a5 j (by omega), ep, show nI j + 1 = nI (j + 1) from nI_1 j]
                have en : aN (kd c i) (H j) p = H (j + 1) := by rw [Hs, ep, nI_clamp (by omega)]
                refine ⟨hb, ite_ff ⟨i6, i2, afterM_s b1 (by omega) (by omega) ?_⟩ (nI_ge (by omega) (by omega))⟩
                rw [en]
                refine ite_ff (hΦ _ (eA_n (hno j hj))) ?_
                rw [eA_m1 (Hl j)]; exact hno j hj
            unfold L_X8_broke_77
            rw [← H0]
            refine for2_2 s (fun j x => x = nI (H j) ∧ ∀ t, t < j → H (t + 1) ≠ 21) ?_ ?_ 0 _ (Nat.zero_le _) ⟨rfl, fun t ht => by omega⟩
            · rintro _ Φ ⟨rfl, hno⟩
              unfold B_X8_broke_77
              rw [a3]
              exact ite_tt (mk s _ _ (Nat.le_refl _) hno (fun z => by omega) (fun _ => ⟨rfl, rfl⟩)) (Int32.le_refl _)
            · rintro j _ Φ hj ⟨rfl, hno⟩ hΦ
              have hl := H20 j hno
              obtain ⟨p, hp7, ep⟩ := hP j hj
              unfold B_X8_broke_77
              rw [a3, ei, nI_clamp (n := j) (by omega), c1, ep, show nI j + 1 = nI (j + 1) from nI_1 j]
              have en : aN (kd c i) (H j) p = H (j + 1) := by rw [Hs, ep, nI_clamp (by omega)]
              refine ite_ff ⟨vp_in_nI (by omega) (by decide), vp_in_nI (by omega) (by decide), after_s b1 (by omega) (by omega) ?_⟩ (nI_ge hj (by omega))
              rw [en]
              refine ite_c (fun z => ?_) (fun z => ?_)
              · rw [eA_m1 (Hl j)] at z
                exact mk j _ _ (by omega) hno (fun _ => ⟨z, rfl, rfl⟩) (fun w => by omega)
              · rw [eA_m1 (Hl j)] at z
                refine hΦ _ ⟨eA_n z, fun t ht => ?_⟩
                by_cases w : t = j
                · subst w; exact z
                · exact hno t (by omega)
          exact hasPulls_c (st := 1) (Or.inl rfl) a1 (by decide) a3 (fun hy => ite_ff ⟨vp_in_nI (by omega) (by decide), hgood hy⟩ (by decide)) (fun hno => ite_tt (hfail hno) rfl)
        · exact ite_tt (find_s 1 (by decide) (mod (ite_ff (found_s 1 (by decide) ⟨rfl, h.find 1 (by decide)⟩) (by rw [a3]; decide)))) a1
    · unfold wp_X9_broke J_X9_broke_15
      exact refuse_bad N ha (ite_ff (isBell_n N ha (ite_tt ⟨rfl, h⟩ rfl)) m4.1)
  · refine isRow_n hb (ite_tt (ite_ff ?_ m4.1) rfl)
    unfold wp_X9_broke J_X9_broke_15
    by_cases ha : vp_in a n
    · obtain ⟨i, hi, rfl⟩ := vp_in_of ha (by omega)
      exact isBell_y N hi (ite_ff (isRowM_n hb (ite_tt ⟨rfl, h⟩ rfl)) (by decide))
    · exact isBell_n N ha (ite_tt ⟨rfl, h⟩ rfl)

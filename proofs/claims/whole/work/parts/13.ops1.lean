/-! row, lay, at, tear, copy, mean, text, put -/
theorem Rel.row {c m : St} (h : Rel c m) {ρ : Nat} (hρ : ρ < 6) {c' m' : St} (hR : RowR c' m' ρ) (hc : ∀ k j, k ≠ 5 + 2 * ρ → k ≠ 5 + 2 * ρ + 1 → c'.1 k j = c.1 k j) (hcL : c'.2 = c.2) (hm : ∀ k j, k ≠ 3 → k ≠ 4 → k ≠ 7 → m'.1 k j = m.1 k j) (hm4 : ∀ j, j ≠ ρ → m'.1 4 j = m.1 4 j) (hm3 : ∀ j, j < 40 * ρ ∨ 40 * ρ + 40 ≤ j → m'.1 3 j = m.1 3 j) (hmL : m'.2 = m.2) : Rel c' m' := by
  obtain ⟨t1, t2, t3, t4, t5⟩ := h.1
  refine h.mk1 ⟨fun f hf => by rw [hc _ _ (by omega) (by omega), hm _ _ (by omega) (by omega) (by omega)]; exact t1 f hf, by rw [hc _ _ (by omega) (by omega), hm _ _ (by omega) (by omega) (by omega)]; exact t2, by rw [hc _ _ (by omega) (by omega), hm _ _ (by omega) (by omega) (by omega)]; exact t3, by rw [hcL, hmL]; exact t4, by rw [hcL, hmL]; exact t5⟩ (fun ρ' hρ' => ?_) (fun ρ' hρ' => text_same (h.2.2.1 ρ' hρ') (fun j => hc _ _ (by omega) (by omega)) (fun j => hc _ _ (by omega) (by omega)) (hm _ _ (by omega) (by omega) (by omega)) (fun i _ => hm _ _ (by omega) (by omega) (by omega)))
    ⟨fun k j hk => hc _ _ (by omega) (by omega), hm _ _ (by omega) (by omega) (by omega), fun j _ => hm _ _ (by omega) (by omega) (by omega), fun j => hm _ _ (by omega) (by omega) (by omega)⟩
  by_cases e : ρ' = ρ
  · subst e; exact hR
  · exact row_same (h.2.1 ρ' hρ') (fun j => hc _ _ (by omega) (by omega)) (fun j => hc _ _ (by omega) (by omega)) (hm4 _ e) (fun i hi => hm3 _ (by omega))
theorem Rel.text {c m : St} (h : Rel c m) {ρ : Nat} (hρ : ρ < 4) {c' m' : St} (hR : TextR c' m' ρ) (hc : ∀ k j, k ≠ 17 + 2 * ρ → k ≠ 17 + 2 * ρ + 1 → c'.1 k j = c.1 k j) (hcL : c'.2 = c.2) (hm : ∀ k j, k ≠ 5 → k ≠ 6 → m'.1 k j = m.1 k j) (hm4 : ∀ j, j ≠ ρ → m'.1 6 j = m.1 6 j) (hm3 : ∀ j, j < 60 * ρ ∨ 60 * ρ + 60 ≤ j → m'.1 5 j = m.1 5 j) (hmL : m'.2 = m.2) : Rel c' m' := by
  obtain ⟨t1, t2, t3, t4, t5⟩ := h.1
  refine h.mk1 ⟨fun f hf => by rw [hc _ _ (by omega) (by omega), hm _ _ (by omega) (by omega)]; exact t1 f hf, by rw [hc _ _ (by omega) (by omega), hm _ _ (by omega) (by omega)]; exact t2, by rw [hc _ _ (by omega) (by omega), hm _ _ (by omega) (by omega)]; exact t3, by rw [hcL, hmL]; exact t4, by rw [hcL, hmL]; exact t5⟩ (fun ρ' hρ' => row_same (h.2.1 ρ' hρ') (fun j => hc _ _ (by omega) (by omega)) (fun j => hc _ _ (by omega) (by omega)) (hm _ _ (by omega) (by omega)) (fun i _ => hm _ _ (by omega) (by omega))) (fun ρ' hρ' => ?_)
    ⟨fun k j hk => hc _ _ (by omega) (by omega), hm _ _ (by omega) (by omega), fun j _ => hm _ _ (by omega) (by omega), fun j => hm _ _ (by omega) (by omega)⟩
  by_cases e : ρ' = ρ
  · subst e; exact hR
  · exact text_same (h.2.2.1 ρ' hρ') (fun j => hc _ _ (by omega) (by omega)) (fun j => hc _ _ (by omega) (by omega)) (hm4 _ e) (fun i hi => hm3 _ (by omega))
/-- the reference's anew -/
def anewM (m : St) (ρ s : Nat) : St := (fun a b => if a = 3 ∧ 40 * ρ ≤ b ∧ b < 40 * ρ + 40 then nI 0 else if a = 4 ∧ b = ρ then nI s else m.1 a b, m.2)
theorem anewM_s {m : St} {ρ s : Nat} (hρ : ρ < 6) {K : St → Prop} (hK : K (anewM m ρ s)) : wp_X9_anew (nI ρ) (nI s) m K := by
  unfold wp_X9_anew L_X9_anew_9
  simp (disch := omega) only [lit_nI, nI_add, pk_mul, nI_clamp, vp_nI, nI_inj, nI_lt', nI_le', nI_neg1, nI_neg9, nI_neg3, neg1_nI, neg9_nI, neg_l0, neg_g0, ↓reduceIte, true_and, and_true, not_true_eq_false, not_false_eq_true, Nat.reduceEqDiff, Nat.reduceLeDiff, Nat.reduceAdd, Nat.reduceSub, Nat.reduceDiv, Nat.reduceMod, Nat.reducePow, Nat.reduceLT, Nat.reduceMul, Nat.not_lt_zero, Nat.zero_le, Nat.succ_ne_self, one_ne0, zero_ne1, ne_eq]
  refine ⟨hρ, for2_1 40 (fun j τ => τ = ((fun a b => if a = 3 ∧ 40 * ρ ≤ b ∧ b < 40 * ρ + j then nI 0 else if a = 4 ∧ b = ρ then nI s else m.1 a b, m.2) : St)) ?_ ?_ 0 _ (Nat.zero_le _) ?_⟩
  · rintro _ Φ rfl
    unfold B_X9_anew_9
    simp (disch := omega) only [lit_nI, nI_add, pk_mul, nI_clamp, vp_nI, nI_inj, nI_lt', nI_le', nI_neg1, nI_neg9, nI_neg3, neg1_nI, neg9_nI, neg_l0, neg_g0, ↓reduceIte, true_and, and_true, not_true_eq_false, not_false_eq_true, Nat.reduceEqDiff, Nat.reduceLeDiff, Nat.reduceAdd, Nat.reduceSub, Nat.reduceDiv, Nat.reduceMod, Nat.reducePow, Nat.reduceLT, Nat.reduceMul, Nat.not_lt_zero, Nat.zero_le, Nat.succ_ne_self, one_ne0, zero_ne1, ne_eq]
    exact hK
  · rintro j _ Φ hj rfl hΦ
    unfold B_X9_anew_9
    simp (disch := omega) only [lit_nI, nI_add, pk_mul, nI_clamp, vp_nI, nI_inj, nI_lt', nI_le', nI_neg1, nI_neg9, nI_neg3, neg1_nI, neg9_nI, neg_l0, neg_g0, ↓reduceIte, true_and, and_true, not_true_eq_false, not_false_eq_true, Nat.reduceEqDiff, Nat.reduceLeDiff, Nat.reduceAdd, Nat.reduceSub, Nat.reduceDiv, Nat.reduceMod, Nat.reducePow, Nat.reduceLT, Nat.reduceMul, Nat.not_lt_zero, Nat.zero_le, Nat.succ_ne_self, one_ne0, zero_ne1, ne_eq]
    rw [if_neg (by omega)]
    refine ⟨by omega, hΦ _ ?_⟩
    unfold uI
    congr 1
    funext a b
    dsimp only
    ((repeat' split) <;> first | rfl | (exfalso; omega))
  · unfold uI
    congr 1
    funext a b
    ((repeat' split) <;> first | rfl | (exfalso; omega))
theorem Rel.anew {c m : St} (h : Rel c m) {ρ s : Nat} (hρ : ρ < 6) (hs : s ≤ 40) : Rel (begS c (5 + 2 * ρ) s (nI 0)) (anewM m ρ s) := by
  refine h.row hρ (Or.inl ⟨s, hs, begS_1, begS_2, by simp [anewM], fun i hi => ?_⟩) (fun k j h1 h2 => begS_o h1 h2) rfl (fun k j h1 h2 _ => by simp [anewM, h1, h2]) (fun j hj => by simp [anewM, hj]) (fun j hj => ?_) rfl
  · rw [begS_i hi]
    show (if (3 = 3 ∧ 40 * ρ ≤ 40 * ρ + i ∧ 40 * ρ + i < 40 * ρ + 40) then nI 0 else _) = nI 0
    rw [if_pos ⟨rfl, by omega, by omega⟩]
  · show (if (3 = 3 ∧ 40 * ρ ≤ j ∧ j < 40 * ρ + 40) then nI 0 else if (3 = 4 ∧ j = ρ) then nI s else m.1 3 j) = m.1 3 j
    rw [if_neg (by omega), if_neg (by omega)]
theorem le_nI {v : Int32} {n : Nat} (hn : n < 2 ^ 31) (h1 : v ≤ nI n) (h0 : 0 ≤ v) : ∃ s, s ≤ n ∧ v = nI s := nI_of2 (nI_toInt hn) (Int32.not_lt.mpr h0) h1
theorem op_row {c m : St} (h : Rel c m) (a b : Int32) : wp_X8_row a b c (fun r c' => wp_X9_row a b m (fun r' m' => r = r' ∧ Rel c' m')) := by
  unfold wp_X8_row wp_X9_row J_X8_row_23 J_X9_row_13
  by_cases ha : vp_in a 6
  · obtain ⟨ρ, hρ, rfl⟩ := vp_in_of ha (by decide)
    refine isRow_y hρ (ite_ff ⟨ha, ?_⟩ (by decide))
    rw [nI_clamp (by omega)]
    unfold wp_X8_anew
    refine ite_c (fun h1 => ite_c (fun h0 => ?_) (fun h0 => ?_)) (fun h1 => ?_)
    · obtain ⟨s, hs, rfl⟩ := le_nI (by decide) h1 h0
      refine begin_s hs (by decide) (isRowM_y hρ (ite_ff (ite_tt (ite_tt (anewM_s hρ ⟨rfl, h.anew hρ hs⟩) h0) h1) (by decide)))
    · refine find_s 5 (by decide) (isRowM_y hρ (ite_ff (ite_tt (ite_ff (found_s 5 (by decide) ⟨rfl, h.find 5 (by decide)⟩) h0) h1) (by decide)))
    · exact isRowM_y hρ (ite_ff (ite_ff ⟨rfl, h⟩ h1) (by decide))
  · exact isRow_n ha (ite_tt (isRowM_n ha (ite_tt ⟨rfl, h⟩ rfl)) rfl)
theorem op_at {c m : St} (h : Rel c m) (a b : Int32) : wp_X8_at a b c (fun r c' => wp_X9_at a b m (fun r' m' => r = r' ∧ Rel c' m')) := by
  unfold wp_X8_at wp_X9_at wp_X8_refusePlace J_X8_refusePlace_49 J_X9_at_66 wp_X9_tells
  by_cases ha : vp_in a 6
  · obtain ⟨ρ, hρ, rfl⟩ := vp_in_of ha (by decide)
    refine isRow_y hρ (ite_ff ⟨ha, ?_⟩ (by decide))
    have e := nI_clamp (n := ρ) (by omega)
    rw [e]
    rcases h.2.1 ρ hρ with ⟨s, a1, a2, a3, a4, a5⟩ | ⟨a1, a2, a3⟩
    · refine ite_ff ⟨ha, ?_⟩ (by rw [a2]; decide)
      refine has_c (by omega) a3 (fun i hi hb => ?_) (fun hb => ?_)
      · subst hb
        refine ite_ff (ite_tt ⟨ha, vp_in_nI (by omega) (by decide), ?_⟩ rfl) (by decide)
        refine isRowM_y hρ (ite_ff ⟨ha, ?_⟩ (by decide))
        rw [a4]
        refine ite_tt ⟨ha, ?_⟩ (nI_pos' (by omega))
        refine in_szM (by omega) (fun i' _ e' => ?_) (fun q => absurd (vp_in_nI hi (by omega)) q)
        refine ite_ff ?_ (by decide)
        simp (disch := omega) only [lit_nI, nI_add, pk_mul, nI_clamp, vp_nI, nI_inj, nI_lt', nI_le', nI_neg1, nI_neg9, nI_neg3, neg1_nI, neg9_nI, neg_l0, neg_g0, ↓reduceIte, true_and, and_true, not_true_eq_false, not_false_eq_true, Nat.reduceEqDiff, Nat.reduceLeDiff, Nat.reduceAdd, Nat.reduceSub, Nat.reduceDiv, Nat.reduceMod, Nat.reducePow, Nat.reduceLT, Nat.reduceMul, Nat.not_lt_zero, Nat.zero_le, Nat.succ_ne_self, one_ne0, zero_ne1, ne_eq]
        refine ⟨by omega, ?_⟩
        rw [a5 i hi]
        exact h.tell _
      · refine ite_tt (find_s 2 (by decide) (ite_ff ?_ (by decide))) rfl
        refine isRowM_y hρ (ite_ff ⟨ha, ?_⟩ (by decide))
        rw [a4]
        refine ite_tt ⟨ha, ?_⟩ (nI_pos' (by omega))
        refine in_szM (by omega) (fun i' hi' e' => absurd (e' ▸ vp_in_nI hi' (by omega)) hb) (fun q => ite_tt ?_ rfl)
        exact found_s 2 (by decide) ⟨rfl, h.find 2 (by decide)⟩
    · refine ite_tt (find_s 1 (by decide) (ite_ff ?_ (by decide))) a1
      refine isRowM_y hρ (ite_ff ⟨ha, ?_⟩ (by decide))
      rw [a3]
      exact ite_ff (found_s 1 (by decide) ⟨rfl, h.find 1 (by decide)⟩) (by decide)
  · exact isRow_n ha (ite_tt (ite_ff (isRowM_n ha (ite_tt ⟨rfl, h⟩ rfl)) (by decide)) rfl)
theorem op_lay {c m : St} (h : Rel c m) (a b v : Int32) : wp_X8_lay a b v c (fun r c' => wp_X9_lay a b v m (fun r' m' => r = r' ∧ Rel c' m')) := by
  unfold wp_X8_lay wp_X9_lay wp_X9_at wp_X8_refusePlace J_X8_refusePlace_49 J_X9_at_66 wp_X9_tells J_X9_lay_26
  by_cases ha : vp_in a 6
  · obtain ⟨ρ, hρ, rfl⟩ := vp_in_of ha (by decide)
    refine isRow_y hρ (ite_ff ⟨ha, ?_⟩ (by decide))
    have e := nI_clamp (n := ρ) (by omega)
    rw [e]
    rcases h.2.1 ρ hρ with ⟨s, a1, a2, a3, a4, a5⟩ | ⟨a1, a2, a3⟩
    · refine ite_ff ⟨ha, ?_⟩ (by rw [a2]; decide)
      refine has_c (by omega) a3 (fun i hi hb => ?_) (fun hb => ?_)
      · subst hb
        have hi4 := vp_in_nI (n := i) (N := 40) (by omega) (by decide)
        refine ite_ff (ite_tt ⟨ha, hi4, ha, hi4, ?_⟩ rfl) (by decide)
        refine isRowM_y hρ (ite_ff ⟨ha, ?_⟩ (by decide))
        rw [a4]
        refine ite_tt ⟨ha, ?_⟩ (nI_pos' (by omega))
        refine in_szM (by omega) (fun i' _ e' => ?_) (fun q => absurd (vp_in_nI hi (by omega)) q)
        refine ite_ff ?_ (by decide)
        simp (disch := omega) only [lit_nI, nI_add, pk_mul, nI_clamp, vp_nI, nI_inj, nI_lt', nI_le', nI_neg1, nI_neg9, nI_neg3, neg1_nI, neg9_nI, neg_l0, neg_g0, ↓reduceIte, true_and, and_true, not_true_eq_false, not_false_eq_true, Nat.reduceEqDiff, Nat.reduceLeDiff, Nat.reduceAdd, Nat.reduceSub, Nat.reduceDiv, Nat.reduceMod, Nat.reducePow, Nat.reduceLT, Nat.reduceMul, Nat.not_lt_zero, Nat.zero_le, Nat.succ_ne_self, one_ne0, zero_ne1, ne_eq]
        refine ⟨by omega, by omega, ?_⟩
        rw [a5 i hi]
        refine (h.tell (c.1 (5 + 2 * ρ + 1) i)).row hρ (Or.inl ⟨s, a1, ?_, ?_, ?_, fun j hj => ?_⟩) (fun k j h1 h2 => uI_c h2) rfl (fun k j h1 h2 _ => uI_c h1) (fun j hj => uI_c (by decide)) (fun j hj => uI_n (by omega)) rfl
        · rw [uI_c (by omega), uI_c (by omega)]; exact a2
        · rw [uI_c (by omega), uI_c (by omega)]; exact a3
        · rw [uI_c (by decide), uI_c (by decide)]; exact a4
        · by_cases q : j = i
          · subst q; rw [uI_s, uI_s]
          · rw [uI_n (by omega), uI_n q, uI_c (by decide), uI_c (by omega)]; exact a5 j hj
      · refine ite_tt (find_s 2 (by decide) (ite_ff ?_ (by decide))) rfl
        refine isRowM_y hρ (ite_ff ⟨ha, ?_⟩ (by decide))
        rw [a4]
        refine ite_tt ⟨ha, ?_⟩ (nI_pos' (by omega))
        refine in_szM (by omega) (fun i' hi' e' => absurd (e' ▸ vp_in_nI hi' (by omega)) hb) (fun q => ite_tt ?_ rfl)
        exact found_s 2 (by decide) (ite_ff ⟨rfl, h.find 2 (by decide)⟩ (by decide))
    · refine ite_tt (find_s 1 (by decide) (ite_ff ?_ (by decide))) a1
      refine isRowM_y hρ (ite_ff ⟨ha, ?_⟩ (by decide))
      rw [a3]
      exact ite_ff (found_s 1 (by decide) (ite_ff ⟨rfl, h.find 1 (by decide)⟩ (by decide))) (by decide)
  · exact isRow_n ha (ite_tt (ite_ff (isRowM_n ha (ite_tt (ite_ff ⟨rfl, h⟩ (by decide)) rfl)) (by decide)) rfl)
theorem op_tear {c m : St} (h : Rel c m) (a : Int32) : wp_X8_tear a c (fun r c' => wp_X9_tear a m (fun r' m' => r = r' ∧ Rel c' m')) := by
  unfold wp_X8_tear wp_X9_tear
  by_cases ha : vp_in a 6
  · obtain ⟨ρ, hρ, rfl⟩ := vp_in_of ha (by decide)
    refine isRow_y hρ (ite_ff ⟨ha, ?_⟩ (by decide))
    have e := nI_clamp (n := ρ) (by omega)
    rw [e]
    rcases h.2.1 ρ hρ with ⟨s, a1, a2, a3, a4, a5⟩ | ⟨a1, a2, a3⟩
    · refine ite_ff ⟨ha, ha, ?_⟩ (by rw [a2]; decide)
      refine isRowM_y hρ (ite_ff ⟨ha, ?_⟩ (by decide))
      rw [a4]
      refine ite_tt ⟨ha, rfl, ?_⟩ (nI_pos' (by omega))
      refine h.row hρ (Or.inr ⟨?_, ?_, ?_⟩) (fun k j h1 h2 => by rw [uI_c h1, uI_c h1]) rfl (fun k j h1 h2 _ => uI_c h2) (fun j hj => uI_n hj) (fun j hj => uI_c (by decide)) rfl
      · rw [uI_n (by decide), uI_s]; rfl
      · rw [uI_s]; rfl
      · rw [uI_s]; rfl
    · refine ite_tt (find_s 1 (by decide) ?_) a1
      refine isRowM_y hρ (ite_ff ⟨ha, ?_⟩ (by decide))
      rw [a3]
      exact ite_ff (found_s 1 (by decide) ⟨rfl, h.find 1 (by decide)⟩) (by decide)
  · exact isRow_n ha (ite_tt (isRowM_n ha (ite_tt ⟨rfl, h⟩ rfl)) rfl)
def sumI (f : Nat → Int32) : Nat → Int64
  | 0 => 0
  | n + 1 => sumI f n + (f n).toInt64
theorem sumI_congr {f g : Nat → Int32} {n : Nat} (h : ∀ i, i < n → f i = g i) : sumI f n = sumI g n := by
  induction n with
  | zero => rfl
  | succ n ih => simp only [sumI]; rw [ih (fun i hi => h i (by omega)), h n (by omega)]
theorem nI_L0 {s : Nat} (h0 : 0 < s) (hs : s < 2 ^ 31) : ¬ (nI s).toInt64 = 0 := by
  intro q
  have := congrArg Int64.toInt q
  rw [toInt_L, nI_toInt hs] at this
  have e : (0 : Int64).toInt = 0 := by decide
  omega
theorem op_mean {c m : St} (h : Rel c m) (a : Int32) : wp_X8_mean a c (fun r c' => wp_X9_mean a m (fun r' m' => r = r' ∧ Rel c' m')) := by
  unfold wp_X8_mean
  by_cases ha : vp_in a 6
  · obtain ⟨ρ, hρ, rfl⟩ := vp_in_of ha (by decide)
    refine isRow_y hρ (ite_ff ⟨ha, ?_⟩ (by decide))
    have e := nI_clamp (n := ρ) (by omega)
    rw [e]
    rcases h.2.1 ρ hρ with ⟨s, a1, a2, a3, a4, a5⟩ | ⟨a1, a2, a3⟩
    · refine ite_ff ?_ (by rw [a2]; decide)
      rw [a3]
      by_cases hs : s = 0
      · subst hs
        refine ite_tt (find_s 4 (by decide) ?_) rfl
        unfold wp_X9_mean
        refine isRowM_y hρ (ite_ff ⟨ha, ?_⟩ (by decide))
        rw [e, a4]
        refine ite_tt ⟨ha, ite_tt ?_ rfl⟩ (nI_pos' (by omega))
        exact found_s 4 (by decide) ⟨rfl, h.find 4 (by decide)⟩
      · refine ite_ff ?_ (nI_ne0 (by omega) (by omega))
        unfold L_X8_mean_47
        refine for2_2 s (fun j x => x = sumI (fun i => c.1 (5 + 2 * ρ + 1) i) j) ?_ ?_ 0 _ (Nat.zero_le _) rfl
        · rintro _ Φ rfl
          unfold B_X8_mean_47
          rw [a3]
          refine ite_tt ⟨nI_L0 (by omega) (by omega), ?_⟩ (Int32.le_refl _)
          unfold wp_X9_mean
          refine isRowM_y hρ (ite_ff ⟨ha, ?_⟩ (by decide))
          rw [e, a4]
          refine ite_tt ⟨ha, ite_ff ?_ (nI_ne0 (by omega) (by omega))⟩ (nI_pos' (by omega))
          unfold L_X9_mean_44
          refine for2_2 s (fun j x => x = sumI (fun i => c.1 (5 + 2 * ρ + 1) i) j) ?_ ?_ 0 _ (Nat.zero_le _) rfl
          · rintro _ Φ rfl
            unfold B_X9_mean_44 wp_X9_tells
            rw [e, a4]
            exact ⟨ha, ite_tt ⟨ha, nI_L0 (by omega) (by omega), rfl, h.tell _⟩ (Int32.le_refl _)⟩
          · rintro j _ Φ hj rfl hΦ
            unfold B_X9_mean_44
            rw [e, a4]
            refine ⟨ha, ite_ff ?_ (nI_ge hj (by omega))⟩
            simp (disch := omega) only [lit_nI, nI_add, pk_mul, nI_clamp, vp_nI, nI_inj, nI_lt', nI_le', nI_neg1, nI_neg9, nI_neg3, neg1_nI, neg9_nI, neg_l0, neg_g0, ↓reduceIte, true_and, and_true, not_true_eq_false, not_false_eq_true, Nat.reduceEqDiff, Nat.reduceLeDiff, Nat.reduceAdd, Nat.reduceSub, Nat.reduceDiv, Nat.reduceMod, Nat.reducePow, Nat.reduceLT, Nat.reduceMul, Nat.not_lt_zero, Nat.zero_le, Nat.succ_ne_self, one_ne0, zero_ne1, ne_eq]
            refine ⟨by omega, hΦ _ ?_⟩
            rw [a5 j hj]; rfl
        · rintro j _ Φ hj rfl hΦ
          unfold B_X8_mean_47
          rw [a3]
          refine ite_ff ?_ (nI_ge hj (by omega))
          simp (disch := omega) only [lit_nI, nI_add, pk_mul, nI_clamp, vp_nI, nI_inj, nI_lt', nI_le', nI_neg1, nI_neg9, nI_neg3, neg1_nI, neg9_nI, neg_l0, neg_g0, ↓reduceIte, true_and, and_true, not_true_eq_false, not_false_eq_true, Nat.reduceEqDiff, Nat.reduceLeDiff, Nat.reduceAdd, Nat.reduceSub, Nat.reduceDiv, Nat.reduceMod, Nat.reducePow, Nat.reduceLT, Nat.reduceMul, Nat.not_lt_zero, Nat.zero_le, Nat.succ_ne_self, one_ne0, zero_ne1, ne_eq]
          exact ⟨by omega, hΦ _ rfl⟩
    · refine ite_tt (find_s 1 (by decide) ?_) a1
      unfold wp_X9_mean
      refine isRowM_y hρ (ite_ff ⟨ha, ?_⟩ (by decide))
      rw [e, a3]
      exact ite_ff (found_s 1 (by decide) ⟨rfl, h.find 1 (by decide)⟩) (by decide)
  · unfold wp_X9_mean
    exact isRow_n ha (ite_tt (isRowM_n ha (ite_tt ⟨rfl, h⟩ rfl)) rfl)
def textM (m : St) (ρ s j : Nat) : St := (fun a b => if a = 5 ∧ 60 * ρ ≤ b ∧ b < 60 * ρ + j then nI 32 else if a = 6 ∧ b = ρ then nI s else m.1 a b, m.2)
theorem op_text {c m : St} (h : Rel c m) (a b : Int32) : wp_X8_text a b c (fun r c' => wp_X9_text a b m (fun r' m' => r = r' ∧ Rel c' m')) := by
  unfold wp_X8_text wp_X9_text J_X8_text_24 J_X9_text_13
  by_cases ha : vp_in a 4
  · obtain ⟨ρ, hρ, rfl⟩ := vp_in_of ha (by decide)
    refine isText_y hρ (ite_ff ⟨ha, ?_⟩ (by decide))
    rw [nI_clamp (by omega)]
    unfold wp_X8_anew
    refine ite_c (fun h1 => ite_c (fun h0 => ?_) (fun h0 => ?_)) (fun h1 => ?_)
    · obtain ⟨s, hs, rfl⟩ := le_nI (by decide) h1 h0
      refine begin_s hs (by decide) (isTextM_y hρ (ite_ff (ite_tt (ite_tt ⟨ha, ?_⟩ h0) h1) (by decide)))
      unfold L_X9_text_34
      refine for2_1 60 (fun j τ => τ = textM m ρ s j) ?_ ?_ 0 _ (Nat.zero_le _) ?_
      · rintro _ Φ rfl
        unfold B_X9_text_34
        simp (disch := omega) only [lit_nI, nI_add, pk_mul, nI_clamp, vp_nI, nI_inj, nI_lt', nI_le', nI_neg1, nI_neg9, nI_neg3, neg1_nI, neg9_nI, neg_l0, neg_g0, ↓reduceIte, true_and, and_true, not_true_eq_false, not_false_eq_true, Nat.reduceEqDiff, Nat.reduceLeDiff, Nat.reduceAdd, Nat.reduceSub, Nat.reduceDiv, Nat.reduceMod, Nat.reducePow, Nat.reduceLT, Nat.reduceMul, Nat.not_lt_zero, Nat.zero_le, Nat.succ_ne_self, one_ne0, zero_ne1, ne_eq]
        refine h.text hρ (Or.inl ⟨s, hs, begS_1, begS_2, by simp [textM], fun i hi => ?_⟩) (fun k j h1 h2 => begS_o h1 h2) rfl (fun k j h1 h2 => by simp [textM, h1, h2]) (fun j hj => by simp [textM, hj]) (fun j hj => ?_) rfl
        · rw [begS_i hi]
          show (if (5 = 5 ∧ 60 * ρ ≤ 60 * ρ + i ∧ 60 * ρ + i < 60 * ρ + 60) then nI 32 else _) = nI 32
          rw [if_pos ⟨rfl, by omega, by omega⟩]
        · show (if (5 = 5 ∧ 60 * ρ ≤ j ∧ j < 60 * ρ + 60) then nI 32 else if (5 = 6 ∧ j = ρ) then nI s else m.1 5 j) = m.1 5 j
          rw [if_neg (by omega), if_neg (by omega)]
      · rintro j _ Φ hj rfl hΦ
        unfold B_X9_text_34
        simp (disch := omega) only [lit_nI, nI_add, pk_mul, nI_clamp, vp_nI, nI_inj, nI_lt', nI_le', nI_neg1, nI_neg9, nI_neg3, neg1_nI, neg9_nI, neg_l0, neg_g0, ↓reduceIte, true_and, and_true, not_true_eq_false, not_false_eq_true, Nat.reduceEqDiff, Nat.reduceLeDiff, Nat.reduceAdd, Nat.reduceSub, Nat.reduceDiv, Nat.reduceMod, Nat.reducePow, Nat.reduceLT, Nat.reduceMul, Nat.not_lt_zero, Nat.zero_le, Nat.succ_ne_self, one_ne0, zero_ne1, ne_eq]
        rw [if_neg (by omega)]
        refine ⟨by omega, hΦ _ ?_⟩
        unfold uI textM
        congr 1
        funext a b
        dsimp only
        ((repeat' split) <;> first | rfl | (exfalso; omega))
      · unfold uI textM
        congr 1
        funext a b
        ((repeat' split) <;> first | rfl | (exfalso; omega))
    · refine find_s 5 (by decide) (isTextM_y hρ (ite_ff (ite_tt (ite_ff (found_s 5 (by decide) ⟨rfl, h.find 5 (by decide)⟩) h0) h1) (by decide)))
    · exact isTextM_y hρ (ite_ff (ite_ff ⟨rfl, h⟩ h1) (by decide))
  · exact isText_n ha (ite_tt (isTextM_n ha (ite_tt ⟨rfl, h⟩ rfl)) rfl)
theorem op_put {c m : St} (h : Rel c m) (a b v : Int32) : wp_X8_put a b v c (fun r c' => wp_X9_put a b v m (fun r' m' => r = r' ∧ Rel c' m')) := by
  unfold wp_X8_put wp_X9_put
  by_cases ha : vp_in a 4
  · obtain ⟨ρ, hρ, rfl⟩ := vp_in_of ha (by decide)
    refine isText_y hρ (ite_ff ⟨ha, ?_⟩ (by decide))
    have e := nI_clamp (n := ρ) (by omega)
    rw [e]
    rcases h.2.2.1 ρ hρ with ⟨s, a1, a2, a3, a4, a5⟩ | ⟨a1, a2, a3⟩
    · refine ite_ff ?_ (by rw [a2]; decide)
      refine has_c (by omega) a3 (fun i hi hb => ?_) (fun hb => ?_)
      · subst hb
        have hi4 := vp_in_nI (n := i) (N := 60) (by omega) (by decide)
        refine ite_ff ⟨hi4, hi4, ?_⟩ (by decide)
        refine isTextM_y hρ (ite_ff ⟨ha, ?_⟩ (by decide))
        rw [a4]
        refine ite_tt ⟨ha, ?_⟩ (nI_pos' (by omega))
        refine in_szM (by omega) (fun i' _ e' => ?_) (fun q => absurd (vp_in_nI hi (by omega)) q)
        refine ite_ff ?_ (by decide)
        simp (disch := omega) only [lit_nI, nI_add, pk_mul, nI_clamp, vp_nI, nI_inj, nI_lt', nI_le', nI_neg1, nI_neg9, nI_neg3, neg1_nI, neg9_nI, neg_l0, neg_g0, ↓reduceIte, true_and, and_true, not_true_eq_false, not_false_eq_true, Nat.reduceEqDiff, Nat.reduceLeDiff, Nat.reduceAdd, Nat.reduceSub, Nat.reduceDiv, Nat.reduceMod, Nat.reducePow, Nat.reduceLT, Nat.reduceMul, Nat.not_lt_zero, Nat.zero_le, Nat.succ_ne_self, one_ne0, zero_ne1, ne_eq]
        refine ⟨by omega, by omega, ?_, ?_⟩
        · rw [a5 i hi]
        · refine h.text hρ (Or.inl ⟨s, a1, ?_, ?_, ?_, fun j hj => ?_⟩) (fun k j h1 h2 => uI_c h2) rfl (fun k j h1 h2 => uI_c h1) (fun j hj => uI_c (by decide)) (fun j hj => uI_n (by omega)) rfl
          · rw [uI_c (by omega)]; exact a2
          · rw [uI_c (by omega)]; exact a3
          · rw [uI_c (by decide)]; exact a4
          · by_cases q : j = i
            · subst q; rw [uI_s, uI_s]
            · rw [uI_n (by omega), uI_n q]; exact a5 j hj
      · refine ite_tt (find_s 2 (by decide) ?_) rfl
        refine isTextM_y hρ (ite_ff ⟨ha, ?_⟩ (by decide))
        rw [a4]
        refine ite_tt ⟨ha, ?_⟩ (nI_pos' (by omega))
        refine in_szM (by omega) (fun i' hi' e' => absurd (e' ▸ vp_in_nI hi' (by omega)) hb) (fun q => ite_tt ?_ rfl)
        exact found_s 2 (by decide) ⟨rfl, h.find 2 (by decide)⟩
    · refine ite_tt (find_s 1 (by decide) ?_) a1
      refine isTextM_y hρ (ite_ff ⟨ha, ?_⟩ (by decide))
      rw [a3]
      exact ite_ff (found_s 1 (by decide) ⟨rfl, h.find 1 (by decide)⟩) (by decide)
  · exact isText_n ha (ite_tt (isTextM_n ha (ite_tt ⟨rfl, h⟩ rfl)) rfl)
theorem spans_c {c : St} {k n s q : Nat} {b : Int32} (hs : s < 2 ^ 30) (hq : q < 2 ^ 31) (h2 : c.1 k 2 = nI s) {K : Int32 → Prop} (k1 : ∀ i, i + q ≤ s → b = nI i → K 1) (k0 : (∀ i : Nat, i + q ≤ s → ¬ b = nI i) → K 0) : wp_X6_spans k n b (nI q) c K := by
  unfold wp_X6_spans J_X6_spans_26 J_X6_spans_27
  rw [h2]
  refine ite_c (fun h => ⟨zok0, k0 (fun i hi e => ?_)⟩) (fun h => ite_c (fun h3 => ⟨zok0, k0 (fun i hi e => ?_)⟩) (fun h3 => ?_))
  · subst e; exact nI_pos (by omega) h
  · subst e; rw [nI_lt' (by omega) (by omega)] at h3; omega
  · obtain ⟨i, hi, rfl⟩ := nI_of h
    rw [nI_lt' (by omega) (by omega)] at h3
    rw [pk_sub (by omega)]
    refine ite_c (fun h4 => ⟨zok0, k0 (fun i' hi' e => ?_)⟩) (fun h4 => ⟨zok1, k1 i ?_ rfl⟩)
    · rw [nI_inj (by omega) (by omega)] at e
      rw [nI_lt' (by omega) (by omega)] at h4
      omega
    · rw [nI_lt' (by omega) (by omega)] at h4
      omega
theorem fitsM_c {s q : Nat} {b : Int32} (hs : s < 2 ^ 30) (hq : q < 2 ^ 31) {K : Int32 → Prop} (k1 : ∀ i, i + q ≤ s → b = nI i → K 1) (k0 : (∀ i : Nat, i + q ≤ s → ¬ b = nI i) → K 0) : wp_X9_fits b (nI q) (nI s) K := by
  unfold wp_X9_fits J_X9_fits_19 J_X9_fits_20
  refine ite_c (fun h => ⟨zok0, k0 (fun i hi e => ?_)⟩) (fun h => ?_)
  · subst e; exact nI_pos (by omega) h
  · obtain ⟨i, hi, rfl⟩ := nI_of h
    have e1 : ((nI i).toInt64 + (nI q).toInt64).toInt = (i : Int) + q := by
      rw [nI_l hi, nI_l hq, lN_add, pk_lT (by omega)]; omega
    have e2 : (nI s).toInt64.toInt = (s : Int) := by rw [toInt_L, nI_toInt (by omega)]
    refine ite_c (fun h4 => ⟨zok0, k0 (fun i' hi' e => ?_)⟩) (fun h4 => ⟨zok1, k1 i ?_ rfl⟩)
    · rw [lg_gt0, e1, e2] at h4
      rw [nI_inj (by omega) (by omega)] at e
      omega
    · rw [lg_gt0, e1, e2] at h4
      omega
/-- the reference's two loops of copy -/
def cpH (m : St) (q j : Nat) : St := (fun a b => if a = 7 ∧ b < j then m.1 3 (q + b) else m.1 a b, m.2)
def cpR (m : St) (q q2 n j : Nat) : St := (fun a b => if a = 3 ∧ q2 ≤ b ∧ b < q2 + j then m.1 3 (q + (b - q2)) else if a = 7 ∧ b < n then m.1 3 (q + b) else m.1 a b, m.2)
theorem op_copy {c m : St} (h : Rel c m) (a i t j n : Int32) : wp_X8_copy a i t j n c (fun r c' => wp_X9_copy a i t j n m (fun r' m' => r = r' ∧ Rel c' m')) := by
  unfold wp_X8_copy wp_X9_copy J_X8_copy_14 J_X9_copy_14 J_X8_copy_59 J_X9_copy_45 J_X8_copy_88 J_X9_copy_82
  by_cases ha : vp_in a 6
  · obtain ⟨ρ, hρ, rfl⟩ := vp_in_of ha (by decide)
    have e := nI_clamp (n := ρ) (by omega)
    refine isRow_y hρ (ite_ff ?_ (by decide))
    by_cases ht : vp_in t 6
    · obtain ⟨τ, hτ, rfl⟩ := vp_in_of ht (by decide)
      have e2 := nI_clamp (n := τ) (by omega)
      refine isRow_y hτ (ite_ff ?_ (by decide))
      refine ite_c (fun h0 => ?_) (fun h0 => ?_)
      · obtain ⟨q, hq, rfl⟩ := nI_of (Int32.not_lt.mpr h0)
        refine ⟨ha, ht, ?_⟩
        rw [e, e2]
        rcases h.2.1 ρ hρ with ⟨s, a1, a2, a3, a4, a5⟩ | ⟨a1, a2, a3⟩
        · refine ite_ff ?_ (by rw [a2]; decide)
          rcases h.2.1 τ hτ with ⟨s2, b1, b2, b3, b4, b5⟩ | ⟨b1, b2, b3⟩
          · refine ite_ff ?_ (by rw [b2]; decide)
            refine spans_c (by omega) hq a3 (fun x hx ex => ?_) (fun hx => ?_)
            · refine ite_ff ?_ (by decide)
              refine spans_c (by omega) hq b3 (fun y hy ey => ?_) (fun hy => ?_)
              · subst ex; subst ey
                rw [nI_clamp (n := x) (by omega), nI_clamp (n := y) (by omega), nI_clamp (n := q) (by omega)]
                refine ite_ff ⟨nI_pos (by omega), nI_pos (by omega), nI_pos (by omega), by omega, by omega, ?_⟩ (by decide)
                refine isRowM_y hρ (ite_ff (isRowM_y hτ (ite_ff (ite_tt ⟨ha, ?_⟩ h0) (by decide))) (by decide))
                rw [a4]
                refine ite_ff ⟨ht, ?_⟩ (nI_pos (by omega))
                rw [b4]
                refine ite_tt ⟨ha, ?_⟩ (nI_pos' (by omega))
                refine fitsM_c (by omega) hq (fun x' _ ex' => ?_) (fun z => absurd rfl (z x hx))
                refine ite_ff ⟨ht, ?_⟩ (by decide)
                refine fitsM_c (by omega) hq (fun y' _ ey' => ?_) (fun z => absurd rfl (z y hy))
                refine ite_ff ?_ (by decide)
                unfold L_X9_copy_91
                refine for2_1 q (fun z w => w = cpH m (40 * ρ + x) z) ?_ ?_ 0 _ (Nat.zero_le _) (by simp [cpH])
                · rintro _ Φ rfl
                  unfold B_X9_copy_91 L_X9_copy_128
                  refine ite_tt ?_ (Int32.le_refl _)
                  refine for2_1 q (fun z w => w = cpR m (40 * ρ + x) (40 * τ + y) q z) ?_ ?_ 0 _ (Nat.zero_le _) ?_
                  · rintro _ Φ rfl
                    unfold B_X9_copy_128
                    refine ite_tt ⟨rfl, ?_⟩ (Int32.le_refl _)
                    refine h.row hτ (Or.inl ⟨s2, b1, ?_, ?_, ?_, fun z hz => ?_⟩) (fun k j h1 h2 => by simp [uCI, h2]) rfl (fun k j h1 h2 h3 => by simp [cpR, h1, h3]) (fun j hj => by simp [cpR]) (fun z hz => ?_) rfl
                    · simp [uCI]; exact b2
                    · simp [uCI]; exact b3
                    · simp [cpR]; exact b4
                    · show (if (3 = 3 ∧ 40 * τ + y ≤ 40 * τ + z ∧ 40 * τ + z < 40 * τ + y + q) then m.1 3 (40 * ρ + x + (40 * τ + z - (40 * τ + y))) else if (3 = 7 ∧ 40 * τ + z < q) then m.1 3 (40 * ρ + x + (40 * τ + z)) else m.1 3 (40 * τ + z)) = (if 5 + 2 * τ + 1 = 5 + 2 * τ + 1 then (if y ≤ z ∧ z < y + q then c.1 (5 + 2 * ρ + 1) (x + (z - y)) else c.1 (5 + 2 * τ + 1) z) else c.1 (5 + 2 * τ + 1) z)
                      rw [if_pos rfl]
                      by_cases hz2 : y ≤ z ∧ z < y + q
                      · rw [if_pos hz2, if_pos ⟨rfl, by omega, by omega⟩, ← a5 (x + (z - y)) (by omega)]
                        exact congrArg (m.1 3) (by omega)
                      · rw [if_neg hz2, if_neg (by omega), if_neg (by omega)]
                        exact b5 z hz
                    · show (if (3 = 3 ∧ 40 * τ + y ≤ z ∧ z < 40 * τ + y + q) then m.1 3 (40 * ρ + x + (z - (40 * τ + y))) else if (3 = 7 ∧ z < q) then m.1 3 (40 * ρ + x + z) else m.1 3 z) = m.1 3 z
                      rw [if_neg (by omega), if_neg (by omega)]
                  · rintro z _ Φ hz rfl hΦ
                    unfold B_X9_copy_128
                    refine ite_ff ?_ (nI_ge hz (by omega))
                    simp (disch := omega) only [lit_nI, nI_add, pk_mul, nI_clamp, vp_nI, nI_inj, nI_lt', nI_le', nI_neg1, nI_neg9, nI_neg3, neg1_nI, neg9_nI, neg_l0, neg_g0, ↓reduceIte, true_and, and_true, not_true_eq_false, not_false_eq_true, Nat.reduceEqDiff, Nat.reduceLeDiff, Nat.reduceAdd, Nat.reduceSub, Nat.reduceDiv, Nat.reduceMod, Nat.reducePow, Nat.reduceLT, Nat.reduceMul, Nat.not_lt_zero, Nat.zero_le, Nat.succ_ne_self, one_ne0, zero_ne1, ne_eq]
                    refine ⟨by omega, by omega, hΦ _ ?_⟩
                    unfold uI cpR
                    congr 1
                    funext a b
                    dsimp only
                    by_cases g : a = 3 ∧ b = 40 * τ + y + z
                    · obtain ⟨rfl, rfl⟩ := g
                      simp (disch := omega) only [↓reduceIte, true_and, and_true, if_pos, if_neg]
                      exact congrArg (m.1 3) (by omega)
                    · rw [if_neg g]
                      ((repeat' split) <;> first | rfl | (exfalso; omega))
                  · unfold cpR cpH
                    congr 1
                    funext a b
                    ((repeat' split) <;> first | rfl | (exfalso; omega))
                · rintro z _ Φ hz rfl hΦ
                  unfold B_X9_copy_91
                  refine ite_ff ?_ (nI_ge hz (by omega))
                  simp (disch := omega) only [lit_nI, nI_add, pk_mul, nI_clamp, vp_nI, nI_inj, nI_lt', nI_le', nI_neg1, nI_neg9, nI_neg3, neg1_nI, neg9_nI, neg_l0, neg_g0, ↓reduceIte, true_and, and_true, not_true_eq_false, not_false_eq_true, Nat.reduceEqDiff, Nat.reduceLeDiff, Nat.reduceAdd, Nat.reduceSub, Nat.reduceDiv, Nat.reduceMod, Nat.reducePow, Nat.reduceLT, Nat.reduceMul, Nat.not_lt_zero, Nat.zero_le, Nat.succ_ne_self, one_ne0, zero_ne1, ne_eq]
                  refine ⟨by omega, by omega, hΦ _ ?_⟩
                  unfold uI cpH
                  congr 1
                  funext a b
                  dsimp only
                  by_cases g : a = 7 ∧ b = z
                  · obtain ⟨rfl, rfl⟩ := g
                    rw [if_pos ⟨rfl, rfl⟩, if_neg (by omega), if_pos (by omega)]
                  · rw [if_neg g]
                    ((repeat' split) <;> first | rfl | (exfalso; omega))
              · subst ex
                refine ite_tt (find_s 2 (by decide) ?_) rfl
                refine isRowM_y hρ (ite_ff (isRowM_y hτ (ite_ff (ite_tt ⟨ha, ?_⟩ h0) (by decide))) (by decide))
                rw [a4]
                refine ite_ff ⟨ht, ?_⟩ (nI_pos (by omega))
                rw [b4]
                refine ite_tt ⟨ha, ?_⟩ (nI_pos' (by omega))
                refine fitsM_c (by omega) hq (fun x' _ ex' => ?_) (fun z => absurd rfl (z x hx))
                refine ite_ff ⟨ht, ?_⟩ (by decide)
                refine fitsM_c (by omega) hq (fun y' hy' ey' => absurd ey' (hy y' hy')) (fun z => ite_tt ?_ rfl)
                exact found_s 2 (by decide) ⟨rfl, h.find 2 (by decide)⟩
            · refine ite_tt (find_s 2 (by decide) ?_) rfl
              refine isRowM_y hρ (ite_ff (isRowM_y hτ (ite_ff (ite_tt ⟨ha, ?_⟩ h0) (by decide))) (by decide))
              rw [a4]
              refine ite_ff ⟨ht, ?_⟩ (nI_pos (by omega))
              rw [b4]
              refine ite_tt ⟨ha, ?_⟩ (nI_pos' (by omega))
              refine fitsM_c (by omega) hq (fun x' hx' ex' => absurd ex' (hx x' hx')) (fun z => ite_tt ?_ rfl)
              exact found_s 2 (by decide) ⟨rfl, h.find 2 (by decide)⟩
          · refine ite_tt (find_s 1 (by decide) ?_) b1
            refine isRowM_y hρ (ite_ff (isRowM_y hτ (ite_ff (ite_tt ⟨ha, ?_⟩ h0) (by decide))) (by decide))
            rw [a4]
            refine ite_ff ⟨ht, ?_⟩ (nI_pos (by omega))
            rw [b3]
            exact ite_ff (found_s 1 (by decide) ⟨rfl, h.find 1 (by decide)⟩) (by decide)
        · refine ite_tt (find_s 1 (by decide) ?_) a1
          refine isRowM_y hρ (ite_ff (isRowM_y hτ (ite_ff (ite_tt ⟨ha, ?_⟩ h0) (by decide))) (by decide))
          rw [a3]
          exact ite_tt (found_s 1 (by decide) ⟨rfl, h.find 1 (by decide)⟩) (by decide)
      · refine find_s 5 (by decide) (isRowM_y hρ (ite_ff (isRowM_y hτ (ite_ff (ite_ff (found_s 5 (by decide) ⟨rfl, h.find 5 (by decide)⟩) h0) (by decide))) (by decide)))
    · exact isRow_n ht (ite_tt (isRowM_y hρ (ite_ff (isRowM_n ht (ite_tt ⟨rfl, h⟩ rfl)) (by decide))) rfl)
  · exact isRow_n ha (ite_tt (isRowM_n ha (ite_tt ⟨rfl, h⟩ rfl)) rfl)

/-! One bell's numbers: heights (21: the stay is broken), tenths (0: it does not strike). -/
def aN (k h p : Nat) : Nat := if 22 ≤ h + (if k = 1 ∨ k = 4 then p / 2 else p) - (if k = 2 ∨ k = 5 then 0 else 1) then 21 else min (h + (if k = 1 ∨ k = 4 then p / 2 else p) - (if k = 2 ∨ k = 5 then 0 else 1)) 20
def eA (a : Nat) : Int32 := if a = 21 then -1 else nI a
def lagN (k : Nat) : Nat := if k = 3 then 2 else if k = 4 then 3 else if k = 5 then 0 else 1
def tN (k w dm a : Nat) : Nat := if a < 5 ∨ a = 21 then 0 else 10 + a / 2 + w / 3 + lagN k - dm - 1
def eT (t : Nat) : Int32 := if t = 0 then -9 else nI t
theorem aN_le (k h p : Nat) : aN k h p ≤ 21 := by
  unfold aN
  generalize h + (if k = 1 ∨ k = 4 then p / 2 else p) - (if k = 2 ∨ k = 5 then 0 else 1) = v
  split <;> omega
theorem aN_20 {k h p : Nat} (g : aN k h p ≠ 21) : aN k h p ≤ 20 := by have := aN_le k h p; omega
theorem tN_le {k w dm a : Nat} (ha : a ≤ 21) (hw : w ≤ 9) : tN k w dm a ≤ 30 := by unfold tN lagN; (repeat' split) <;> omega
theorem eA_21 : eA 21 = -1 := rfl
theorem eA_n {a : Nat} (h : a ≠ 21) : eA a = nI a := by unfold eA; rw [if_neg h]
theorem eA_m1 {a : Nat} (h : a ≤ 21) : (eA a = -1) = (a = 21) := by
  apply propext
  unfold eA
  split
  · simp_all
  · constructor
    · intro q; exact absurd q (by rw [nI_em1 (by omega)]; exact id)
    · intro q; omega
theorem eT_m9 {t : Nat} (h : t ≤ 30) : (eT t = -9) = (t = 0) := by
  apply propext
  unfold eT
  split
  · simp_all
  · constructor
    · intro q; exact absurd q (by rw [nI_em9 (by omega)]; exact id)
    · intro q; omega
theorem eT_0 : eT 0 = -9 := rfl
theorem eT_n {t : Nat} (h : t ≠ 0) : eT t = nI t := by unfold eT; rw [if_neg h]
theorem nI_div2 {p : Nat} (h : p < 2 ^ 31) : nI p / 2 = nI (p / 2) := pk_div h (by decide) (by decide)
theorem nI_div3 {p : Nat} (h : p < 2 ^ 31) : nI p / 3 = nI (p / 3) := pk_div h (by decide) (by decide)
theorem imax0 {a b : Nat} (ha : a < 2 ^ 20) (hb : b ≤ 1) : imax 0 (nI a - nI b) = nI (a - b) := by
  unfold imax
  rcases Nat.lt_or_ge a b with h | h
  · have e : (nI a - nI b) < 0 := pk_sneg (by omega) h
    rw [if_neg (fun q => by rw [Int32.lt_iff_toInt_lt] at *; omega), show a - b = 0 by omega]; rfl
  · rw [pk_sub h]
    simp (disch := omega) only [lit_nI, nI_add, pk_mul, nI_clamp, vp_nI, nI_inj, nI_lt', nI_le', nI_neg1, nI_neg9, nI_neg3, neg1_nI, neg9_nI, neg_l0, neg_g0, ↓reduceIte, true_and, and_true, not_true_eq_false, not_false_eq_true, Nat.reduceEqDiff, Nat.reduceLeDiff, Nat.reduceAdd, Nat.reduceSub, Nat.reduceDiv, Nat.reduceMod, Nat.reducePow, Nat.reduceLT, Nat.reduceMul, Nat.not_lt_zero, Nat.zero_le, Nat.succ_ne_self, one_ne0, zero_ne1, ne_eq]
    split
    · rfl
    · rw [show a - b = 0 by omega]
theorem isOf_s {k : Nat} (hk : k < 6) {K : Int32 → Prop} {o : Nat} (ho : 0 < o ∧ o < 6) (h1 : (k = o ∨ (k = 4 ∧ o = 1) ∨ (k = 5 ∧ o = 2)) → K 1) (h0 : ¬ (k = o ∨ (k = 4 ∧ o = 1) ∨ (k = 5 ∧ o = 2)) → K 0) : wp_X8_isOf (nI k) (nI o) K := by
  unfold wp_X8_isOf J_X8_isOf_29 J_X8_isOf_19 J_X8_isOf_33 J_X8_isOf_34
  simp (disch := omega) only [lit_nI, nI_add, pk_mul, nI_clamp, vp_nI, nI_inj, nI_lt', nI_le', nI_neg1, nI_neg9, nI_neg3, neg1_nI, neg9_nI, neg_l0, neg_g0, ↓reduceIte, true_and, and_true, not_true_eq_false, not_false_eq_true, Nat.reduceEqDiff, Nat.reduceLeDiff, Nat.reduceAdd, Nat.reduceSub, Nat.reduceDiv, Nat.reduceMod, Nat.reducePow, Nat.reduceLT, Nat.reduceMul, Nat.not_lt_zero, Nat.zero_le, Nat.succ_ne_self, one_ne0, zero_ne1, ne_eq]
  (repeat' split) <;> first | exact ⟨zok1, h1 (by omega)⟩ | exact ⟨zok0, h0 (by omega)⟩ | (exfalso; omega)
theorem isHeavy_s {k : Nat} (hk : k < 6) {K : Int32 → Prop} (h1 : (k = 1 ∨ k = 4) → K 1) (h0 : ¬ (k = 1 ∨ k = 4) → K 0) : wp_X9_isHeavy (nI k) K := by
  unfold wp_X9_isHeavy J_X9_isHeavy_10 J_X9_isHeavy_15
  simp (disch := omega) only [lit_nI, nI_add, pk_mul, nI_clamp, vp_nI, nI_inj, nI_lt', nI_le', nI_neg1, nI_neg9, nI_neg3, neg1_nI, neg9_nI, neg_l0, neg_g0, ↓reduceIte, true_and, and_true, not_true_eq_false, not_false_eq_true, Nat.reduceEqDiff, Nat.reduceLeDiff, Nat.reduceAdd, Nat.reduceSub, Nat.reduceDiv, Nat.reduceMod, Nat.reducePow, Nat.reduceLT, Nat.reduceMul, Nat.not_lt_zero, Nat.zero_le, Nat.succ_ne_self, one_ne0, zero_ne1, ne_eq]
  (repeat' split) <;> first | exact ⟨zok1, h1 (by omega)⟩ | exact ⟨zok0, h0 (by omega)⟩ | (exfalso; omega)
theorem isQuick_s {k : Nat} (hk : k < 6) {K : Int32 → Prop} (h1 : (k = 2 ∨ k = 5) → K 1) (h0 : ¬ (k = 2 ∨ k = 5) → K 0) : wp_X9_isQuick (nI k) K := by
  unfold wp_X9_isQuick J_X9_isQuick_10 J_X9_isQuick_15
  simp (disch := omega) only [lit_nI, nI_add, pk_mul, nI_clamp, vp_nI, nI_inj, nI_lt', nI_le', nI_neg1, nI_neg9, nI_neg3, neg1_nI, neg9_nI, neg_l0, neg_g0, ↓reduceIte, true_and, and_true, not_true_eq_false, not_false_eq_true, Nat.reduceEqDiff, Nat.reduceLeDiff, Nat.reduceAdd, Nat.reduceSub, Nat.reduceDiv, Nat.reduceMod, Nat.reducePow, Nat.reduceLT, Nat.reduceMul, Nat.not_lt_zero, Nat.zero_le, Nat.succ_ne_self, one_ne0, zero_ne1, ne_eq]
  (repeat' split) <;> first | exact ⟨zok1, h1 (by omega)⟩ | exact ⟨zok0, h0 (by omega)⟩ | (exfalso; omega)
theorem after_tail {v q b : Nat} (hv : v < 2 ^ 19) (hq : q < 2 ^ 19) (hb : b ≤ 1) {K : Int32 → Prop} (hK : K (eA (if 22 ≤ v + q - b then 21 else min (v + q - b) 20))) : J_X8_after_29 (nI v) (nI q) (nI b) K := by
  unfold J_X8_after_29 J_X8_after_61
  rw [nI_add, imax0 (by omega) hb]
  refine ite_c (fun h => ?_) (fun h => ?_)
  · rw [lit_nI, nI_lt' (by omega) (by decide)] at h
    rw [if_neg (by omega), eA_n (by omega)] at hK
    have e : imin (nI (v + q - b)) 20 = nI (min (v + q - b) 20) := by
      unfold imin
      simp (disch := omega) only [lit_nI, nI_add, pk_mul, nI_clamp, vp_nI, nI_inj, nI_lt', nI_le', nI_neg1, nI_neg9, nI_neg3, neg1_nI, neg9_nI, neg_l0, neg_g0, ↓reduceIte, true_and, and_true, not_true_eq_false, not_false_eq_true, Nat.reduceEqDiff, Nat.reduceLeDiff, Nat.reduceAdd, Nat.reduceSub, Nat.reduceDiv, Nat.reduceMod, Nat.reducePow, Nat.reduceLT, Nat.reduceMul, Nat.not_lt_zero, Nat.zero_le, Nat.succ_ne_self, one_ne0, zero_ne1, ne_eq]
      split
      · congr 1; omega
      · congr 1; omega
    rw [e]; exact hK
  · rw [lit_nI, nI_lt' (by omega) (by decide)] at h
    rw [if_pos (by omega)] at hK
    exact hK
theorem after_s {k h p : Nat} (hk : k < 6) (hh : h < 2 ^ 18) (hp : p < 2 ^ 18) {K : Int32 → Prop} (hK : K (eA (aN k h p))) : wp_X8_after (nI k) (nI h) (nI p) K := by
  unfold wp_X8_after J_X8_after_15
  unfold aN at hK
  refine isOf_s hk (o := 1) (by decide) (fun g => ite_ff ?_ (by decide)) (fun g => ite_tt ?_ rfl)
  · rw [nI_div2 (by omega)]
    rw [if_pos (show k = 1 ∨ k = 4 by omega), if_neg (show ¬ (k = 2 ∨ k = 5) by omega)] at hK
    refine isOf_s hk (o := 2) (by decide) (fun g2 => by omega) (fun g2 => ite_tt ?_ rfl)
    exact after_tail (b := 1) (by omega) (by omega) (by decide) hK
  · rw [if_neg (show ¬ (k = 1 ∨ k = 4) by omega)] at hK
    refine isOf_s hk (o := 2) (by decide) (fun g2 => ite_ff ?_ (by decide)) (fun g2 => ite_tt ?_ rfl)
    · rw [if_pos (show k = 2 ∨ k = 5 by omega)] at hK
      exact after_tail (b := 0) (by omega) (by omega) (by decide) hK
    · rw [if_neg (show ¬ (k = 2 ∨ k = 5) by omega)] at hK
      exact after_tail (b := 1) (by omega) (by omega) (by decide) hK
theorem afterM_tail {v b : Nat} (hv : v < 2 ^ 20) (hb : b ≤ 1) {K : Int32 → Prop} (hK : K (eA (if 22 ≤ v - b then 21 else min (v - b) 20))) : J_X9_after_28 (nI v) (nI b) K := by
  unfold J_X9_after_28 J_X9_after_60
  rcases Nat.lt_or_ge v b with h | h
  · have e : (nI v - nI b) < 0 := pk_sneg (by omega) h
    refine ite_ff ?_ (Int32.not_le.mpr e)
    rw [if_neg (by omega), show v - b = 0 by omega] at hK
    exact hK
  · rw [pk_sub h]
    refine ite_tt ?_ (nI_pos' (by omega))
    simp (disch := omega) only [lit_nI, nI_add, pk_mul, nI_clamp, vp_nI, nI_inj, nI_lt', nI_le', nI_neg1, nI_neg9, nI_neg3, neg1_nI, neg9_nI, neg_l0, neg_g0, ↓reduceIte, true_and, and_true, not_true_eq_false, not_false_eq_true, Nat.reduceEqDiff, Nat.reduceLeDiff, Nat.reduceAdd, Nat.reduceSub, Nat.reduceDiv, Nat.reduceMod, Nat.reducePow, Nat.reduceLT, Nat.reduceMul, Nat.not_lt_zero, Nat.zero_le, Nat.succ_ne_self, one_ne0, zero_ne1, ne_eq]
    refine ite_c (fun h1 => ?_) (fun h1 => ?_)
    · rw [if_neg (by omega), eA_n (by omega)] at hK
      refine ite_c (fun h2 => ?_) (fun h2 => ?_)
      · rw [Nat.min_eq_left h2] at hK; exact hK
      · rw [Nat.min_eq_right (by omega)] at hK; exact hK
    · rw [if_pos (by omega)] at hK
      exact hK
theorem afterM_s {k h p : Nat} (hk : k < 6) (hh : h < 2 ^ 18) (hp : p < 2 ^ 18) {K : Int32 → Prop} (hK : K (eA (aN k h p))) : wp_X9_after (nI k) (nI h) (nI p) K := by
  unfold wp_X9_after J_X9_after_15
  unfold aN at hK
  refine isHeavy_s hk (fun g => ite_ff ?_ (by decide)) (fun g => ite_tt ?_ rfl)
  · rw [nI_div2 (by omega), nI_add]
    rw [if_pos g, if_neg (show ¬ (k = 2 ∨ k = 5) by omega)] at hK
    refine isQuick_s hk (fun g2 => by omega) (fun g2 => ite_tt ?_ rfl)
    exact afterM_tail (b := 1) (by omega) (by decide) hK
  · rw [if_neg g] at hK
    rw [nI_add]
    refine isQuick_s hk (fun g2 => ite_ff ?_ (by decide)) (fun g2 => ite_tt ?_ rfl)
    · rw [if_pos g2] at hK
      exact afterM_tail (b := 0) (by omega) (by decide) hK
    · rw [if_neg g2] at hK
      exact afterM_tail (b := 1) (by omega) (by decide) hK
theorem tenths_v {a w dm : Nat} (h5 : 5 ≤ a) (ha : a ≤ 20) (hw : w ≤ 9) (hd : dm ≤ 3) : (((10 + nI a / 2) + nI w / 3) - nI dm) = nI (10 + a / 2 + w / 3 - dm) := by
  rw [nI_div2 (by omega), nI_div3 (by omega), lit_nI, nI_add, nI_add, pk_sub (by omega)]
theorem lag_v {x y : Nat} (h : 1 ≤ x) (hx : x < 100) (e : y = x - 1) : nI x + (-1) = nI y := by
  subst e
  obtain ⟨z, rfl⟩ : ∃ z, x = z + 1 := ⟨x - 1, by omega⟩
  exact pk_m1 z
theorem tenths_s {k w dm a : Nat} (hk : k < 6) (hw : w ≤ 9) (hd : dm ≤ 3) (ha : a ≤ 21) {K : Int32 → Prop} (hK : K (eT (tN k w dm a))) : wp_X8_tenths (nI k) (nI w) (nI dm) (eA a) K := by
  unfold wp_X8_tenths wp_X8_lag
  unfold tN lagN at hK
  by_cases h21 : a = 21
  · subst h21
    rw [if_pos (Or.inr rfl)] at hK
    exact ite_ff hK (by decide)
  · rw [eA_n h21]
    refine ite_c (fun h => ?_) (fun h => ?_)
    · rw [lit_nI, nI_le' (by decide) (by omega)] at h
      rw [if_neg (by omega)] at hK
      rw [tenths_v h (by omega) hw hd]
      simp (disch := omega) only [lit_nI, nI_add, pk_mul, nI_clamp, vp_nI, nI_inj, nI_lt', nI_le', nI_neg1, nI_neg9, nI_neg3, neg1_nI, neg9_nI, neg_l0, neg_g0, ↓reduceIte, true_and, and_true, not_true_eq_false, not_false_eq_true, Nat.reduceEqDiff, Nat.reduceLeDiff, Nat.reduceAdd, Nat.reduceSub, Nat.reduceDiv, Nat.reduceMod, Nat.reducePow, Nat.reduceLT, Nat.reduceMul, Nat.not_lt_zero, Nat.zero_le, Nat.succ_ne_self, one_ne0, zero_ne1, ne_eq]
      refine ite_c (fun q => ?_) (fun q => ite_c (fun q2 => ?_) (fun q2 => ite_c (fun q3 => ?_) (fun q3 => ?_)))
      · rw [if_pos q, eT_n (by omega)] at hK
        exact (show 10 + a / 2 + w / 3 + 2 - dm - 1 = 10 + a / 2 + w / 3 - dm + 1 by omega) ▸ hK
      · rw [if_neg q, if_pos q2, eT_n (by omega)] at hK
        exact (show 10 + a / 2 + w / 3 + 3 - dm - 1 = 10 + a / 2 + w / 3 - dm + 2 by omega) ▸ hK
      · rw [if_neg q, if_neg q2, if_pos q3, eT_n (by omega)] at hK
        have e := lag_v (x := 10 + a / 2 + w / 3 - dm) (y := 10 + a / 2 + w / 3 + 0 - dm - 1) (by omega) (by omega) (by omega)
        rw [← e] at hK
        exact hK
      · rw [if_neg q, if_neg q2, if_neg q3, eT_n (by omega)] at hK
        exact (show 10 + a / 2 + w / 3 + 1 - dm - 1 = 10 + a / 2 + w / 3 - dm + 0 by omega) ▸ hK
    · rw [lit_nI, nI_le' (by decide) (by omega)] at h
      rw [if_pos (Or.inl (by omega))] at hK
      exact hK
theorem tenthsM_s {k w dm a : Nat} (hk : k < 6) (hw : w ≤ 9) (hd : dm ≤ 3) (ha : a ≤ 21) {K : Int32 → Prop} (hK : K (eT (tN k w dm a))) : wp_X9_tenthsOf (nI k) (nI w) (eA a) (nI dm) K := by
  unfold wp_X9_tenthsOf J_X9_tenthsOf_28 J_X9_tenthsOf_55
  unfold tN lagN at hK
  by_cases h21 : a = 21
  · subst h21
    rw [if_pos (Or.inr rfl)] at hK
    refine ite_c (fun q => ?_) (fun q => ite_c (fun q2 => ?_) (fun q2 => ite_c (fun q3 => ?_) (fun q3 => ?_))) <;> exact ite_ff hK (by decide)
  · rw [eA_n h21]
    by_cases h : 5 ≤ a
    · rw [if_neg (by omega)] at hK
      rw [tenths_v h (by omega) hw hd]
      have h5 : (5 : Int32) ≤ nI a := by rw [lit_nI, nI_le' (by decide) (by omega)]; exact h
      simp (disch := omega) only [lit_nI, nI_add, pk_mul, nI_clamp, vp_nI, nI_inj, nI_lt', nI_le', nI_neg1, nI_neg9, nI_neg3, neg1_nI, neg9_nI, neg_l0, neg_g0, ↓reduceIte, true_and, and_true, not_true_eq_false, not_false_eq_true, Nat.reduceEqDiff, Nat.reduceLeDiff, Nat.reduceAdd, Nat.reduceSub, Nat.reduceDiv, Nat.reduceMod, Nat.reducePow, Nat.reduceLT, Nat.reduceMul, Nat.not_lt_zero, Nat.zero_le, Nat.succ_ne_self, one_ne0, zero_ne1, ne_eq]
      refine ite_c (fun q => ?_) (fun q => ite_c (fun q2 => ?_) (fun q2 => ite_c (fun q3 => ?_) (fun q3 => ?_)))
      · rw [if_pos q, eT_n (by omega)] at hK
        exact ite_tt ((show 10 + a / 2 + w / 3 + 2 - dm - 1 = 10 + a / 2 + w / 3 - dm + 1 by omega) ▸ hK) h
      · rw [if_neg q, if_pos q2, eT_n (by omega)] at hK
        exact ite_tt ((show 10 + a / 2 + w / 3 + 3 - dm - 1 = 10 + a / 2 + w / 3 - dm + 2 by omega) ▸ hK) h
      · rw [if_neg q, if_neg q2, if_pos q3, eT_n (by omega)] at hK
        have e := lag_v (x := 10 + a / 2 + w / 3 - dm) (y := 10 + a / 2 + w / 3 + 0 - dm - 1) (by omega) (by omega) (by omega)
        rw [← e] at hK
        exact ite_tt hK h
      · rw [if_neg q, if_neg q2, if_neg q3, eT_n (by omega)] at hK
        exact ite_tt ((show 10 + a / 2 + w / 3 + 1 - dm - 1 = 10 + a / 2 + w / 3 - dm + 0 by omega) ▸ hK) h
    · rw [if_pos (Or.inl (by omega))] at hK
      have h5 : ¬ (5 : Int32) ≤ nI a := by rw [lit_nI, nI_le' (by decide) (by omega)]; exact h
      refine ite_c (fun q => ?_) (fun q => ite_c (fun q2 => ?_) (fun q2 => ite_c (fun q3 => ?_) (fun q3 => ?_))) <;> exact ite_ff hK h5
/-- aftI, the way of the histories -/
theorem aft_tail {y : Nat} (hy : y < 2 ^ 20) : (if (22 : Int32) ≤ nI y then -1 else imin (nI y) 20) = eA (if 22 ≤ y then 21 else min y 20) := by
  unfold imin
  simp (disch := omega) only [lit_nI, nI_add, pk_mul, nI_clamp, vp_nI, nI_inj, nI_lt', nI_le', nI_neg1, nI_neg9, nI_neg3, neg1_nI, neg9_nI, neg_l0, neg_g0, ↓reduceIte, true_and, and_true, not_true_eq_false, not_false_eq_true, Nat.reduceEqDiff, Nat.reduceLeDiff, Nat.reduceAdd, Nat.reduceSub, Nat.reduceDiv, Nat.reduceMod, Nat.reducePow, Nat.reduceLT, Nat.reduceMul, Nat.not_lt_zero, Nat.zero_le, Nat.succ_ne_self, one_ne0, zero_ne1, ne_eq]
  split
  · rfl
  · rw [eA_n (by omega)]
    split
    · congr 1; omega
    · congr 1; omega
theorem aftI_s {k h p : Nat} (hk : k < 6) (hh : h < 2 ^ 18) (hp : p < 2 ^ 18) : aftI (nI k) (nI h) (nI p) = eA (aN k h p) := by
  unfold aftI aN
  dsimp only
  by_cases h1 : k = 1 ∨ k = 4
  · have e1 : (nI k = 1 ∨ nI k = 4) := by simp (disch := omega) only [lit_nI, nI_add, pk_mul, nI_clamp, vp_nI, nI_inj, nI_lt', nI_le', nI_neg1, nI_neg9, nI_neg3, neg1_nI, neg9_nI, neg_l0, neg_g0, ↓reduceIte, true_and, and_true, not_true_eq_false, not_false_eq_true, Nat.reduceEqDiff, Nat.reduceLeDiff, Nat.reduceAdd, Nat.reduceSub, Nat.reduceDiv, Nat.reduceMod, Nat.reducePow, Nat.reduceLT, Nat.reduceMul, Nat.not_lt_zero, Nat.zero_le, Nat.succ_ne_self, one_ne0, zero_ne1, ne_eq]; omega
    have e2 : ¬ (nI k = 2 ∨ nI k = 5) := by simp (disch := omega) only [lit_nI, nI_add, pk_mul, nI_clamp, vp_nI, nI_inj, nI_lt', nI_le', nI_neg1, nI_neg9, nI_neg3, neg1_nI, neg9_nI, neg_l0, neg_g0, ↓reduceIte, true_and, and_true, not_true_eq_false, not_false_eq_true, Nat.reduceEqDiff, Nat.reduceLeDiff, Nat.reduceAdd, Nat.reduceSub, Nat.reduceDiv, Nat.reduceMod, Nat.reducePow, Nat.reduceLT, Nat.reduceMul, Nat.not_lt_zero, Nat.zero_le, Nat.succ_ne_self, one_ne0, zero_ne1, ne_eq]; omega
    rw [if_pos e1, if_neg e2, if_pos h1, if_neg (show ¬ (k = 2 ∨ k = 5) by omega), nI_div2 (by omega), nI_add, show (1 : Int32) = nI 1 from rfl, imax0 (by omega) (by omega)]
    exact aft_tail (by omega)
  · have e1 : ¬ (nI k = 1 ∨ nI k = 4) := by simp (disch := omega) only [lit_nI, nI_add, pk_mul, nI_clamp, vp_nI, nI_inj, nI_lt', nI_le', nI_neg1, nI_neg9, nI_neg3, neg1_nI, neg9_nI, neg_l0, neg_g0, ↓reduceIte, true_and, and_true, not_true_eq_false, not_false_eq_true, Nat.reduceEqDiff, Nat.reduceLeDiff, Nat.reduceAdd, Nat.reduceSub, Nat.reduceDiv, Nat.reduceMod, Nat.reducePow, Nat.reduceLT, Nat.reduceMul, Nat.not_lt_zero, Nat.zero_le, Nat.succ_ne_self, one_ne0, zero_ne1, ne_eq]; omega
    by_cases h2 : k = 2 ∨ k = 5
    · have e2 : (nI k = 2 ∨ nI k = 5) := by simp (disch := omega) only [lit_nI, nI_add, pk_mul, nI_clamp, vp_nI, nI_inj, nI_lt', nI_le', nI_neg1, nI_neg9, nI_neg3, neg1_nI, neg9_nI, neg_l0, neg_g0, ↓reduceIte, true_and, and_true, not_true_eq_false, not_false_eq_true, Nat.reduceEqDiff, Nat.reduceLeDiff, Nat.reduceAdd, Nat.reduceSub, Nat.reduceDiv, Nat.reduceMod, Nat.reducePow, Nat.reduceLT, Nat.reduceMul, Nat.not_lt_zero, Nat.zero_le, Nat.succ_ne_self, one_ne0, zero_ne1, ne_eq]; omega
      rw [if_neg e1, if_pos e2, if_neg h1, if_pos h2, nI_add, show (nI (h + p) - 0) = nI (h + p) - nI 0 from rfl, imax0 (by omega) (by omega)]
      exact aft_tail (by omega)
    · have e2 : ¬ (nI k = 2 ∨ nI k = 5) := by simp (disch := omega) only [lit_nI, nI_add, pk_mul, nI_clamp, vp_nI, nI_inj, nI_lt', nI_le', nI_neg1, nI_neg9, nI_neg3, neg1_nI, neg9_nI, neg_l0, neg_g0, ↓reduceIte, true_and, and_true, not_true_eq_false, not_false_eq_true, Nat.reduceEqDiff, Nat.reduceLeDiff, Nat.reduceAdd, Nat.reduceSub, Nat.reduceDiv, Nat.reduceMod, Nat.reducePow, Nat.reduceLT, Nat.reduceMul, Nat.not_lt_zero, Nat.zero_le, Nat.succ_ne_self, one_ne0, zero_ne1, ne_eq]; omega
      rw [if_neg e1, if_neg e2, if_neg h1, if_neg h2, nI_add, show (1 : Int32) = nI 1 from rfl, imax0 (by omega) (by omega)]
      exact aft_tail (by omega)
/-- the tower's bells as they are now: kind, weight, height, over, by numbers -/
def kd (c : St) (i : Nat) : Nat := (c.1 (28 + i) 0).toNatClampNeg
def wd (c : St) (i : Nat) : Nat := (c.1 (28 + i) 1).toNatClampNeg
def hdN (c : St) (i : Nat) : Nat := (c.1 (28 + i) 3).toNatClampNeg
def od (c : St) (i : Nat) : Nat := (c.1 (28 + i) 5).toNatClampNeg
def BV (c m : St) (i : Nat) : Prop := (kd c i < 6 ∧ wd c i ≤ 9 ∧ hdN c i ≤ 20 ∧ od c i ≤ 1 ∧ (od c i = 1 → hdN c i = 0)) ∧ (c.1 (28 + i) 0 = nI (kd c i) ∧ c.1 (28 + i) 1 = nI (wd c i) ∧ c.1 (28 + i) 3 = nI (hdN c i) ∧ c.1 (28 + i) 5 = nI (od c i)) ∧ m.1 1 (2 + i) = nI (kd c i) ∧ m.1 1 (8 + i) = nI (wd c i) ∧ m.1 1 (14 + i) = nI (hdN c i) ∧ m.1 1 (20 + i) = nI (od c i) ∧ m.1 1 (26 + i) = c.1 (28 + i) 4
def Now (c m : St) (n dm d : Nat) : Prop := (n ≤ 6 ∧ dm ≤ 3 ∧ d ≤ 40) ∧ (c.1 25 2 = nI n ∧ c.1 25 3 = nI dm ∧ c.1 25 4 = nI d) ∧ (m.1 1 0 = nI n ∧ m.1 1 1 = nI dm ∧ m.1 0 1 = nI d) ∧ ∀ i, i < n → BV c m i
def BlOK (x : Bl) : Prop := ∃ h o : Nat, h ≤ 20 ∧ o ≤ 1 ∧ (o = 1 → h = 0) ∧ x.1 = nI h ∧ x.2.2 = nI o
theorem bSw_ok {k p : Nat} (hk : k < 6) (hp : p < 2 ^ 18) {x : Bl} (h : BlOK x) : BlOK (bSw (nI k) (nI p) x) := by
  obtain ⟨a, o, h1, h2, h3, h4, h5⟩ := h
  unfold bSw
  rw [h4, h5]
  split
  · rw [aftI_s hk (by omega) hp]
    split
    · exact ⟨0, 1, by omega, by omega, fun _ => rfl, rfl, rfl⟩
    · rename_i q
      rw [eA_m1 (aN_le _ _ _)] at q
      exact ⟨aN k a p, 0, aN_20 q, by omega, fun e => by omega, eA_n q, rfl⟩
  · exact ⟨a, o, h1, h2, h3, h4, h5⟩
theorem dAct_ok {dd i k : Nat} (hk : k < 6) {x : Bl} (h : BlOK x) : BlOK (dAct dd i (nI k) x) := by
  unfold dAct
  split
  · exact bSw_ok hk (by have := Nat.mod_lt ((dd - 48) / 7 ^ i) (show 0 < 7 by decide); omega) h
  · split
    · split
      · exact ⟨0, 0, by omega, by omega, fun _ => rfl, rfl, rfl⟩
      · exact h
    · split
      · exact bSw_ok hk (by have := Nat.mod_lt dd (show 0 < 7 by decide); omega) h
      · exact h
theorem stC_ok {c : St} {T i k h : Nat} (hk : k < 6) (h0 : c.1 (T + 3 + i) 0 = nI k) (hh : h ≤ 20) (h2 : c.1 (T + 3 + i) 2 = nI h) (d : Nat) : BlOK (stC c T d i) := by
  induction d with
  | zero => exact ⟨h, 0, hh, by omega, fun e => by omega, h2, rfl⟩
  | succ d ih => simp only [stC]; rw [h0]; exact dAct_ok hk ih
theorem Rel.now {c m : St} (h : Rel c m) : ∃ n dm d, Now c m n dm d := by
  obtain ⟨n, dm, d, ⟨h1, h2, h3, h4, h5, h6, h7, h8⟩, ⟨g1, g2, g3, g4⟩, hd⟩ := h.2.2.2.1
  refine ⟨n, dm, d, ⟨h1, h2, h3⟩, ⟨h4, h5, h6⟩, ⟨g1, g2, hd⟩, fun i hi => ?_⟩
  obtain ⟨⟨k, hk, ek⟩, ⟨w, hw, ew⟩, ⟨q, hq, eq⟩, est⟩ := h7 i hi
  obtain ⟨m1, m2, m3⟩ := g3 i hi
  obtain ⟨x, o, hx, ho, hxo, e1, e2⟩ := stC_ok hk ek hq eq d
  rw [← est] at e1 e2
  rw [← est] at m3
  simp only [Prod.mk.injEq] at m3 e1 e2
  have ek' : c.1 (28 + i) 0 = nI k := ek
  have ew' : c.1 (28 + i) 1 = nI w := ew
  have ex' : c.1 (28 + i) 3 = nI x := e1
  have eo' : c.1 (28 + i) 5 = nI o := e2
  have k1 : kd c i = k := by unfold kd; rw [ek', nI_clamp (by omega)]
  have w1 : wd c i = w := by unfold wd; rw [ew', nI_clamp (by omega)]
  have x1 : hdN c i = x := by unfold hdN; rw [ex', nI_clamp (by omega)]
  have o1 : od c i = o := by unfold od; rw [eo', nI_clamp (by omega)]
  rw [show (0 + 2 + i) = 2 + i by omega] at m1
  rw [show (0 + 8 + i) = 8 + i by omega] at m2
  rw [show (0 + 14 + i) = 14 + i by omega, show (0 + 26 + i) = 26 + i by omega, show (0 + 20 + i) = 20 + i by omega] at m3
  unfold BV
  rw [k1, w1, x1, o1]
  exact ⟨⟨hk, hw, hx, ho, hxo⟩, ⟨ek', ew', ex', eo'⟩, m1.trans ek, m2.trans ew, m3.1.trans ex', m3.2.2.trans eo', m3.2.1⟩

/-! Rows and texts. -/
theorem toInt_L (v : Int32) : v.toInt64.toInt = v.toInt := by simp
theorem lg_lt0 {x y : Int64} : (lg_cmp x y < 0) ↔ x.toInt < y.toInt := by
  unfold lg_cmp
  simp only [gt_iff_lt, Int64.lt_iff_toInt_lt, ← Int64.toInt_inj]
  split
  · constructor
    · intro h; exact absurd h (by decide)
    · intro h; omega
  · split
    · constructor
      · intro h; exact absurd h (by decide)
      · intro h; omega
    · constructor
      · intro h; omega
      · intro h; decide
theorem lg_gt0 {x y : Int64} : (0 < lg_cmp x y) ↔ y.toInt < x.toInt := by
  unfold lg_cmp
  simp only [gt_iff_lt, Int64.lt_iff_toInt_lt, ← Int64.toInt_inj]
  split
  · constructor
    · intro h; omega
    · intro h; decide
  · split
    · constructor
      · intro h; exact absurd h (by decide)
      · intro h; omega
    · constructor
      · intro h; exact absurd h (by decide)
      · intro h; omega
theorem lg_eq0 {x y : Int64} : (lg_cmp x y = 0) ↔ x = y := by
  unfold lg_cmp
  simp only [gt_iff_lt, Int64.lt_iff_toInt_lt, ← Int64.toInt_inj]
  split
  · constructor
    · intro h; exact absurd h (by decide)
    · intro h; omega
  · split
    · constructor
      · intro h; assumption
      · intro h; rfl
    · constructor
      · intro h; exact absurd h (by decide)
      · intro h; omega
theorem zok0 : zok 0 := Or.inl rfl
theorem zok1 : zok 1 := Or.inr rfl
theorem inM {a lo hi : Int64} {K : Int32 → Prop} {x l h : Int} (ha : a.toInt = x) (hl : lo.toInt = l) (hh : hi.toInt = h) (k1 : l ≤ x → x ≤ h → K 1) (k0 : x < l ∨ h < x → K 0) : wp_X9_in a lo hi K := by
  unfold wp_X9_in J_X9_in_17 J_X9_in_18
  refine ite_c (fun q => ⟨zok0, k0 (Or.inl ?_)⟩) (fun q => ite_c (fun q2 => ⟨zok0, k0 (Or.inr ?_)⟩) (fun q2 => ⟨zok1, k1 ?_ ?_⟩))
  · rw [lg_lt0, ha, hl] at q; exact q
  · rw [lg_gt0, ha, hh] at q2; exact q2
  · rw [lg_lt0, ha, hl] at q; omega
  · rw [lg_gt0, ha, hh] at q2; omega
theorem isRow_y {ρ : Nat} (h : ρ < 6) {K : Int32 → Prop} (hK : K 1) : wp_X8_isRow (nI ρ) K := by
  unfold wp_X8_isRow J_X8_isRow_15
  simp (disch := omega) only [lit_nI, nI_add, pk_mul, nI_clamp, vp_nI, nI_inj, nI_lt', nI_le', nI_neg1, nI_neg9, nI_neg3, neg1_nI, neg9_nI, neg_l0, neg_g0, ↓reduceIte, true_and, and_true, not_true_eq_false, not_false_eq_true, Nat.reduceEqDiff, Nat.reduceLeDiff, Nat.reduceAdd, Nat.reduceSub, Nat.reduceDiv, Nat.reduceMod, Nat.reducePow, Nat.reduceLT, Nat.reduceMul, Nat.not_lt_zero, Nat.zero_le, Nat.succ_ne_self, one_ne0, zero_ne1, ne_eq]
  rw [if_neg (by omega)]
  exact ⟨zok1, hK⟩
theorem isRow_n {r : Int32} (h : ¬ vp_in r 6) {K : Int32 → Prop} (hK : K 0) : wp_X8_isRow r K := by
  unfold wp_X8_isRow J_X8_isRow_14 J_X8_isRow_15
  rcases out_of (by decide) h with q | q
  · exact ite_tt ⟨zok0, hK⟩ q
  · exact ite_c (fun _ => ⟨zok0, hK⟩) (fun _ => ite_tt ⟨zok0, hK⟩ q)
theorem isText_y {ρ : Nat} (h : ρ < 4) {K : Int32 → Prop} (hK : K 1) : wp_X8_isText (nI ρ) K := by
  unfold wp_X8_isText J_X8_isText_14
  simp (disch := omega) only [lit_nI, nI_add, pk_mul, nI_clamp, vp_nI, nI_inj, nI_lt', nI_le', nI_neg1, nI_neg9, nI_neg3, neg1_nI, neg9_nI, neg_l0, neg_g0, ↓reduceIte, true_and, and_true, not_true_eq_false, not_false_eq_true, Nat.reduceEqDiff, Nat.reduceLeDiff, Nat.reduceAdd, Nat.reduceSub, Nat.reduceDiv, Nat.reduceMod, Nat.reducePow, Nat.reduceLT, Nat.reduceMul, Nat.not_lt_zero, Nat.zero_le, Nat.succ_ne_self, one_ne0, zero_ne1, ne_eq]
  rw [if_neg (by omega)]
  exact ⟨zok1, hK⟩
theorem isText_n {r : Int32} (h : ¬ vp_in r 4) {K : Int32 → Prop} (hK : K 0) : wp_X8_isText r K := by
  unfold wp_X8_isText J_X8_isText_13 J_X8_isText_14
  rcases out_of (by decide) h with q | q
  · exact ite_tt ⟨zok0, hK⟩ q
  · exact ite_c (fun _ => ⟨zok0, hK⟩) (fun _ => ite_tt ⟨zok0, hK⟩ q)
theorem isRowM_y {ρ : Nat} (h : ρ < 6) {K : Int32 → Prop} (hK : K 1) : wp_X9_isRow (nI ρ) K := by
  unfold wp_X9_isRow
  refine inM (x := ρ) (l := 0) (h := 5) (by rw [toInt_L, nI_toInt (by omega)]) (by decide) (by decide) (fun _ _ => ⟨zok1, hK⟩) (fun q => ?_)
  omega
theorem isRowM_n {r : Int32} (h : ¬ vp_in r 6) {K : Int32 → Prop} (hK : K 0) : wp_X9_isRow r K := by
  unfold wp_X9_isRow
  refine inM (x := r.toInt) (l := 0) (h := 5) (toInt_L r) (by decide) (by decide) (fun q1 q2 => ?_) (fun q => ⟨zok0, hK⟩)
  exact absurd (vp_in_iff.mpr ⟨q1, by omega⟩) h
theorem isTextM_y {ρ : Nat} (h : ρ < 4) {K : Int32 → Prop} (hK : K 1) : wp_X9_isText (nI ρ) K := by
  unfold wp_X9_isText
  refine inM (x := ρ) (l := 0) (h := 3) (by rw [toInt_L, nI_toInt (by omega)]) (by decide) (by decide) (fun _ _ => ⟨zok1, hK⟩) (fun q => ?_)
  omega
theorem isTextM_n {r : Int32} (h : ¬ vp_in r 4) {K : Int32 → Prop} (hK : K 0) : wp_X9_isText r K := by
  unfold wp_X9_isText
  refine inM (x := r.toInt) (l := 0) (h := 3) (toInt_L r) (by decide) (by decide) (fun q1 q2 => ?_) (fun q => ⟨zok0, hK⟩)
  exact absurd (vp_in_iff.mpr ⟨q1, by omega⟩) h
/-- an index below a size that may be 0 -/
theorem in_szM {b : Int32} {s : Nat} (hs : s < 2 ^ 30) {K : Int32 → Prop} (k1 : ∀ i, i < s → b = nI i → K 1) (k0 : ¬ vp_in b s → K 0) : wp_X9_in b.toInt64 (0 : Int64) ((nI s - nI 1).toInt64) K := by
  have e : (nI s - nI 1).toInt = (s : Int) - 1 := pk_sub_toInt hs (by decide)
  refine inM (x := b.toInt) (l := 0) (h := (s : Int) - 1) (toInt_L b) (by decide) (by rw [toInt_L, e]) (fun q1 q2 => ?_) (fun q => k0 fun w => ?_)
  · obtain ⟨i, hi, e2⟩ := vp_in_of (vp_in_iff.mpr ⟨q1, by omega⟩ : vp_in b s) (by omega)
    exact k1 i hi e2
  · have := vp_in_iff.mp w
    omega
theorem has_c {c : St} {k n s : Nat} {b : Int32} (hs : s < 2 ^ 30) (h2 : c.1 k 2 = nI s) {K : Int32 → Prop} (k1 : ∀ i, i < s → b = nI i → K 1) (k0 : ¬ vp_in b s → K 0) : wp_X6_has k n b c K := by
  unfold wp_X6_has J_X6_has_16 J_X6_has_17
  rw [h2]
  by_cases hb : vp_in b s
  · obtain ⟨i, hi, rfl⟩ := vp_in_of hb (by omega)
    simp (disch := omega) only [lit_nI, nI_add, pk_mul, nI_clamp, vp_nI, nI_inj, nI_lt', nI_le', nI_neg1, nI_neg9, nI_neg3, neg1_nI, neg9_nI, neg_l0, neg_g0, ↓reduceIte, true_and, and_true, not_true_eq_false, not_false_eq_true, Nat.reduceEqDiff, Nat.reduceLeDiff, Nat.reduceAdd, Nat.reduceSub, Nat.reduceDiv, Nat.reduceMod, Nat.reducePow, Nat.reduceLT, Nat.reduceMul, Nat.not_lt_zero, Nat.zero_le, Nat.succ_ne_self, one_ne0, zero_ne1, ne_eq]
    rw [if_neg (by omega)]
    exact ⟨zok1, k1 i hi rfl⟩
  · rcases out_of (by omega) hb with q | q
    · exact ite_tt ⟨zok0, k0 hb⟩ q
    · exact ite_c (fun _ => ⟨zok0, k0 hb⟩) (fun _ => ite_tt ⟨zok0, k0 hb⟩ q)
/-- a finding -/
def fC (c : St) (f : Nat) : St := uI (uI c 0 11 (nI f)) 4 f (c.1 4 f + 1)
def fM (m : St) (f : Nat) : St := uI (uI m 0 8 (nI f)) 8 f (m.1 8 f + 1)
theorem find_s {c : St} (f : Nat) (hf : f < 6) {K : Int32 → St → Prop} (hK : K (-3) (fC c f)) : wp_X8_find (nI f) c K := by
  unfold wp_X8_find J_X8_find_28
  simp (disch := omega) only [lit_nI, nI_add, pk_mul, nI_clamp, vp_nI, nI_inj, nI_lt', nI_le', nI_neg1, nI_neg9, nI_neg3, neg1_nI, neg9_nI, neg_l0, neg_g0, ↓reduceIte, true_and, and_true, not_true_eq_false, not_false_eq_true, Nat.reduceEqDiff, Nat.reduceLeDiff, Nat.reduceAdd, Nat.reduceSub, Nat.reduceDiv, Nat.reduceMod, Nat.reducePow, Nat.reduceLT, Nat.reduceMul, Nat.not_lt_zero, Nat.zero_le, Nat.succ_ne_self, one_ne0, zero_ne1, ne_eq]
  rw [if_neg (by omega), uI_c (by decide)]
  exact ⟨hf, hf, hK⟩
theorem found_s {m : St} (f : Nat) (hf : f < 6) {K : Int32 → St → Prop} (hK : K (-3) (fM m f)) : wp_X9_found (nI f) m K := by
  unfold wp_X9_found
  simp (disch := omega) only [lit_nI, nI_add, pk_mul, nI_clamp, vp_nI, nI_inj, nI_lt', nI_le', nI_neg1, nI_neg9, nI_neg3, neg1_nI, neg9_nI, neg_l0, neg_g0, ↓reduceIte, true_and, and_true, not_true_eq_false, not_false_eq_true, Nat.reduceEqDiff, Nat.reduceLeDiff, Nat.reduceAdd, Nat.reduceSub, Nat.reduceDiv, Nat.reduceMod, Nat.reducePow, Nat.reduceLT, Nat.reduceMul, Nat.not_lt_zero, Nat.zero_le, Nat.succ_ne_self, one_ne0, zero_ne1, ne_eq]
  rw [uI_c (by decide)]
  exact ⟨hf, hf, hK⟩
/-- towers stay -/
def SameT (c c' m m' : St) : Prop := (∀ k j, 25 ≤ k ∧ k < 34 ∨ (43 ≤ k ∧ k < 70) → c'.1 k j = c.1 k j) ∧ m'.1 0 1 = m.1 0 1 ∧ (∀ j, j < 5248 → m'.1 1 j = m.1 1 j) ∧ ∀ j, m'.1 2 j = m.1 2 j
theorem now_same {c m c' m' : St} (hs : SameT c c' m m') (h : NowR c m) : NowR c' m' := by
  obtain ⟨hc, h1, h2, h3⟩ := hs
  obtain ⟨n, dm, d, hn1, hn2, hn3⟩ := h
  have hn6 := hn1.1
  have hd := hn1.2.2.1
  exact ⟨n, dm, d, TowC_congr hn1 (fun j _ _ => hc _ _ (by omega)) (fun i j hi => hc _ _ (by omega)) (fun j hj => hc _ _ (by omega)), TowM_congr hn2 (fun j hj => h2 _ (by omega)) hn6 (fun i j hi _ => hc _ _ (by omega)) (fun j hj => hc _ _ (by omega)), by rw [h1]; exact hn3⟩
theorem kept_same {c m c' m' : St} (hc : ∀ k j, 43 ≤ k ∧ k < 70 → c'.1 k j = c.1 k j) (h2 : ∀ j, 1312 ≤ j → j < 5248 → m'.1 1 j = m.1 1 j) (h3 : ∀ j, m'.1 2 j = m.1 2 j) {k : Nat} (hk : k < 3) (h : KeptR c m k) : KeptR c' m' k := by
  rcases h with ⟨a1, a2⟩ | ⟨n, dm, d, a0, a1, a2, a3⟩
  · exact Or.inl ⟨by rw [hc _ _ (by omega)]; exact a1, by rw [h3]; exact a2⟩
  · have hn6 := a1.1
    have hd := a1.2.2.1
    exact Or.inr ⟨n, dm, d, a0, TowC_congr a1 (fun j _ _ => hc _ _ (by omega)) (fun i j hi => hc _ _ (by omega)) (fun j hj => hc _ _ (by omega)), TowM_congr a2 (fun j hj => h2 _ (by omega) (by omega)) hn6 (fun i j hi _ => hc _ _ (by omega)) (fun j hj => hc _ _ (by omega)), by rw [h3]; exact a3⟩
theorem Rel.mk1 {c m c' m' : St} (h : Rel c m) (hT : TellR c' m') (hR : ∀ ρ, ρ < 6 → RowR c' m' ρ) (hX : ∀ ρ, ρ < 4 → TextR c' m' ρ) (hs : SameT c c' m m') : Rel c' m' :=
  ⟨hT, hR, hX, now_same hs h.2.2.2.1, fun k hk => kept_same (fun k j q => hs.1 k j (Or.inr q)) (fun j _ q => hs.2.2.1 j q) hs.2.2.2 hk (h.2.2.2.2 k hk)⟩
theorem row_same {c m c' m' : St} {ρ : Nat} (h : RowR c m ρ) (h1 : ∀ j, c'.1 (5 + 2 * ρ) j = c.1 (5 + 2 * ρ) j) (h2 : ∀ j, c'.1 (5 + 2 * ρ + 1) j = c.1 (5 + 2 * ρ + 1) j) (h3 : m'.1 4 ρ = m.1 4 ρ) (h4 : ∀ i, i < 40 → m'.1 3 (40 * ρ + i) = m.1 3 (40 * ρ + i)) : RowR c' m' ρ := by
  rcases h with ⟨s, a1, a2, a3, a4, a5⟩ | ⟨a1, a2, a3⟩
  · exact Or.inl ⟨s, a1, by rw [h1]; exact a2, by rw [h1]; exact a3, by rw [h3]; exact a4, fun i hi => by rw [h2, h4 i (by omega)]; exact a5 i hi⟩
  · exact Or.inr ⟨by rw [h1]; exact a1, by rw [h1]; exact a2, by rw [h3]; exact a3⟩
theorem text_same {c m c' m' : St} {ρ : Nat} (h : TextR c m ρ) (h1 : ∀ j, c'.1 (17 + 2 * ρ) j = c.1 (17 + 2 * ρ) j) (h2 : ∀ j, c'.1 (17 + 2 * ρ + 1) j = c.1 (17 + 2 * ρ + 1) j) (h3 : m'.1 6 ρ = m.1 6 ρ) (h4 : ∀ i, i < 60 → m'.1 5 (60 * ρ + i) = m.1 5 (60 * ρ + i)) : TextR c' m' ρ := by
  rcases h with ⟨s, a1, a2, a3, a4, a5⟩ | ⟨a1, a2, a3⟩
  · exact Or.inl ⟨s, a1, by rw [h1]; exact a2, by rw [h1]; exact a3, by rw [h3]; exact a4, fun i hi => by rw [h2, h4 i (by omega)]; exact a5 i hi⟩
  · exact Or.inr ⟨by rw [h1]; exact a1, by rw [h1]; exact a2, by rw [h3]; exact a3⟩
theorem Rel.find {c m : St} (h : Rel c m) (f : Nat) (hf : f < 6) : Rel (fC c f) (fM m f) := by
  have hc : ∀ k j, k ≠ 0 → k ≠ 4 → (fC c f).1 k j = c.1 k j := fun k j h1 h2 => by simp [fC, uI, h1, h2]
  have hm : ∀ k j, k ≠ 0 → k ≠ 8 → (fM m f).1 k j = m.1 k j := fun k j h1 h2 => by simp [fM, uI, h1, h2]
  obtain ⟨t1, t2, t3, t4, t5⟩ := h.1
  refine h.mk1 ⟨fun g hg => ?_, ?_, ?_, t4, t5⟩ (fun ρ hρ => row_same (h.2.1 ρ hρ) (fun j => hc _ _ (by omega) (by omega)) (fun j => hc _ _ (by omega) (by omega)) (hm _ _ (by omega) (by omega)) (fun i _ => hm _ _ (by omega) (by omega))) (fun ρ hρ => text_same (h.2.2.1 ρ hρ) (fun j => hc _ _ (by omega) (by omega)) (fun j => hc _ _ (by omega) (by omega)) (hm _ _ (by omega) (by omega)) (fun i _ => hm _ _ (by omega) (by omega)))
    ⟨fun k j hk => hc _ _ (by omega) (by omega), by simp [fM, uI], fun j _ => hm _ _ (by omega) (by omega), fun j => hm _ _ (by omega) (by omega)⟩
  · simp only [fC, fM, uI_1, true_and, t1 f hf]
    split
    · rfl
    · simp [t1 g hg]
  · simp [fC, fM, uI]
  · simp [fC, fM, uI, t3]
/-- what is asked -/
theorem Rel.tell {c m : St} (h : Rel c m) (v : Int32) : Rel (uI c 0 12 v) (uI m 0 10 v) := by
  have hc : ∀ k j, k ≠ 0 → (uI c 0 12 v).1 k j = c.1 k j := fun k j h1 => uI_c h1
  have hm : ∀ k j, k ≠ 0 → (uI m 0 10 v).1 k j = m.1 k j := fun k j h1 => uI_c h1
  obtain ⟨t1, t2, t3, t4, t5⟩ := h.1
  exact h.mk1 ⟨fun g hg => by rw [hc _ _ (by omega), hm _ _ (by omega)]; exact t1 g hg, by simp [uI, t2], by simp [uI], t4, t5⟩ (fun ρ hρ => row_same (h.2.1 ρ hρ) (fun j => hc _ _ (by omega)) (fun j => hc _ _ (by omega)) (hm _ _ (by omega)) (fun i _ => hm _ _ (by omega))) (fun ρ hρ => text_same (h.2.2.1 ρ hρ) (fun j => hc _ _ (by omega)) (fun j => hc _ _ (by omega)) (hm _ _ (by omega)) (fun i _ => hm _ _ (by omega)))
    ⟨fun k j hk => hc _ _ (by omega), by simp [uI], fun j _ => hm _ _ (by omega), fun j => hm _ _ (by omega)⟩
/-- a row is filled -/
def fillS (c : St) (k s : Nat) (v : Int32) : St := (fun a b => if a = k ∧ b < s then v else c.1 a b, c.2)
theorem fillS_0 (c : St) (k : Nat) (v : Int32) : fillS c k 0 v = c := by simp [fillS]
theorem fillS_s (c : St) (k s : Nat) (v : Int32) : uI (fillS c k s v) k s v = fillS c k (s + 1) v := by
  unfold uI fillS
  congr 1
  funext a b
  dsimp only
  by_cases h1 : a = k ∧ b = s
  · rw [if_pos h1, if_pos ⟨h1.1, by omega⟩]
  · rw [if_neg h1]
    by_cases h2 : a = k ∧ b < s
    · rw [if_pos h2, if_pos ⟨h2.1, by omega⟩]
    · rw [if_neg h2, if_neg (fun q => by omega)]
theorem fill_s {c : St} {k n s : Nat} (hs : s ≤ n) (hn : n < 2 ^ 30) {v : Int32} {K : St → Prop} (hK : K (fillS c k s v)) : wp_J7_fill_fda19 k n (nI 0) (nI s) v c K := by
  unfold wp_J7_fill_fda19 wp_J7_rangeCheck_23922 L_J7_fill_fda19_10
  simp (disch := omega) only [lit_nI, nI_add, pk_mul, nI_clamp, vp_nI, nI_inj, nI_lt', nI_le', nI_neg1, nI_neg9, nI_neg3, neg1_nI, neg9_nI, neg_l0, neg_g0, ↓reduceIte, true_and, and_true, not_true_eq_false, not_false_eq_true, Nat.reduceEqDiff, Nat.reduceLeDiff, Nat.reduceAdd, Nat.reduceSub, Nat.reduceDiv, Nat.reduceMod, Nat.reducePow, Nat.reduceLT, Nat.reduceMul, Nat.not_lt_zero, Nat.zero_le, Nat.succ_ne_self, one_ne0, zero_ne1, ne_eq]
  rw [if_pos hs]
  refine for2_1 s (fun j τ => τ = fillS c k j v) ?_ ?_ 0 c (Nat.zero_le _) (fillS_0 c k v).symm
  · rintro _ Φ rfl
    unfold B_J7_fill_fda19_10
    simp (disch := omega) only [lit_nI, nI_add, pk_mul, nI_clamp, vp_nI, nI_inj, nI_lt', nI_le', nI_neg1, nI_neg9, nI_neg3, neg1_nI, neg9_nI, neg_l0, neg_g0, ↓reduceIte, true_and, and_true, not_true_eq_false, not_false_eq_true, Nat.reduceEqDiff, Nat.reduceLeDiff, Nat.reduceAdd, Nat.reduceSub, Nat.reduceDiv, Nat.reduceMod, Nat.reducePow, Nat.reduceLT, Nat.reduceMul, Nat.not_lt_zero, Nat.zero_le, Nat.succ_ne_self, one_ne0, zero_ne1, ne_eq]
    rw [if_pos (Nat.le_refl _)]
    exact hK
  · rintro j _ Φ hj rfl hΦ
    unfold B_J7_fill_fda19_10
    simp (disch := omega) only [lit_nI, nI_add, pk_mul, nI_clamp, vp_nI, nI_inj, nI_lt', nI_le', nI_neg1, nI_neg9, nI_neg3, neg1_nI, neg9_nI, neg_l0, neg_g0, ↓reduceIte, true_and, and_true, not_true_eq_false, not_false_eq_true, Nat.reduceEqDiff, Nat.reduceLeDiff, Nat.reduceAdd, Nat.reduceSub, Nat.reduceDiv, Nat.reduceMod, Nat.reducePow, Nat.reduceLT, Nat.reduceMul, Nat.not_lt_zero, Nat.zero_le, Nat.succ_ne_self, one_ne0, zero_ne1, ne_eq]
    rw [if_neg (by omega)]
    exact ⟨by omega, hΦ _ (fillS_s c k j v)⟩
def begS (c : St) (k s : Nat) (v : Int32) : St := fillS (uI (uI c k 1 (nI 1)) k 2 (nI s)) (k + 1) s v
theorem begin_s {c : St} {k n s : Nat} (hs : s ≤ n) (hn : n < 2 ^ 30) {v : Int32} {K : St → Prop} (hK : K (begS c k s v)) : wp_X6_begin k n (nI s) v c K := by
  unfold wp_X6_begin imax imin
  have e : (if (0 : Int32) < (if nI n < nI s then nI n else nI s) then (if nI n < nI s then nI n else nI s) else 0) = nI s := by
    have e1 : ¬ nI n < nI s := by rw [nI_lt' (by omega) (by omega)]; omega
    rw [if_neg e1]
    split
    · rfl
    · rename_i q
      rw [lit_nI, nI_lt' (by omega) (by omega)] at q
      have : s = 0 := by omega
      subst this
      rfl
  rw [e, uI_s]
  exact fill_s hs hn hK
theorem begS_o {c : St} {k s : Nat} {v : Int32} {a b : Nat} (h1 : a ≠ k) (h2 : a ≠ k + 1) : (begS c k s v).1 a b = c.1 a b := by
  simp [begS, fillS, uI, h1, h2]
theorem begS_1 {c : St} {k s : Nat} {v : Int32} : (begS c k s v).1 k 1 = nI 1 := by simp [begS, fillS, uI]
theorem begS_2 {c : St} {k s : Nat} {v : Int32} : (begS c k s v).1 k 2 = nI s := by simp [begS, fillS, uI]
theorem begS_i {c : St} {k s : Nat} {v : Int32} {i : Nat} (h : i < s) : (begS c k s v).1 (k + 1) i = v := by simp [begS, fillS, h]
theorem begS_L {c : St} {k s : Nat} {v : Int32} : (begS c k s v).2 = c.2 := rfl

/-! What is told; one bell, read alone -/
theorem op_asked {c m : St} (h : Rel c m) : wp_X8_asked c (fun r => wp_X9_asked m (fun r' => r = r')) := h.1.2.2.1
theorem op_upper {c m : St} (h : Rel c m) : wp_X8_upper c (fun r => wp_X9_upper m (fun r' => r = r')) := h.1.2.2.2.1
theorem op_lower {c m : St} (h : Rel c m) : wp_X8_lower c (fun r => wp_X9_lower m (fun r' => r = r')) := h.1.2.2.2.2
theorem op_finding {c m : St} (h : Rel c m) : wp_X8_finding c (fun r => wp_X9_finding m (fun r' => r = r')) := h.1.2.1
theorem op_findings {c m : St} (h : Rel c m) (f : Int32) : wp_X8_findings f c (fun r => wp_X9_findings f m (fun r' => r = r')) := by
  unfold wp_X8_findings wp_X9_findings J_X8_findings_19 J_X8_findings_20 J_X9_findings_22
  have e1 : (1 : Int32).toInt = 1 := by decide
  have e5 : (5 : Int32).toInt = 5 := by decide
  refine ite_c (fun h1 => ?_) (fun h1 => ite_c (fun h2 => ?_) (fun h2 => ?_))
  · rw [Int32.lt_iff_toInt_lt, e1] at h1
    exact inM (x := f.toInt) (l := 1) (h := 5) (toInt_L f) (by decide) (by decide) (fun q1 q2 => by omega) (fun _ => ite_tt rfl rfl)
  · rw [Int32.lt_iff_toInt_lt, e5] at h2
    exact inM (x := f.toInt) (l := 1) (h := 5) (toInt_L f) (by decide) (by decide) (fun q1 q2 => by omega) (fun _ => ite_tt rfl rfl)
  · rw [Int32.lt_iff_toInt_lt, e1] at h1
    rw [Int32.lt_iff_toInt_lt, e5] at h2
    have hv : vp_in f 6 := vp_in_iff.mpr ⟨by omega, by omega⟩
    refine ⟨hv, inM (x := f.toInt) (l := 1) (h := 5) (toInt_L f) (by decide) (by decide) (fun q1 q2 => ite_ff ⟨hv, h.1.1 _ (vp_lt hv)⟩ (by decide)) (fun q => by omega)⟩
section BELL
variable {c m : St} {n dm d : Nat}
theorem has7_c (N : Now c m n dm d) {v : Int32} {K : Int32 → Prop} (k1 : ∀ i, i < n → v = nI i → K 1) (k0 : ¬ vp_in v n → K 0) : wp_X7_has 25 v c K := by
  unfold wp_X7_has J_X7_has_16 J_X7_has_17
  have hn := N.1.1
  rw [N.2.1.1]
  by_cases hb : vp_in v n
  · obtain ⟨i, hi, rfl⟩ := vp_in_of hb (by omega)
    simp (disch := omega) only [lit_nI, nI_add, pk_mul, nI_clamp, vp_nI, nI_inj, nI_lt', nI_le', nI_neg1, nI_neg9, nI_neg3, neg1_nI, neg9_nI, neg_l0, neg_g0, ↓reduceIte, true_and, and_true, not_true_eq_false, not_false_eq_true, Nat.reduceEqDiff, Nat.reduceLeDiff, Nat.reduceAdd, Nat.reduceSub, Nat.reduceDiv, Nat.reduceMod, Nat.reducePow, Nat.reduceLT, Nat.reduceMul, Nat.not_lt_zero, Nat.zero_le, Nat.succ_ne_self, one_ne0, zero_ne1, ne_eq]
    rw [if_neg (by omega)]
    exact ⟨zok1, k1 i hi rfl⟩
  · rcases out_of (by omega) hb with q | q
    · exact ite_tt ⟨zok0, k0 hb⟩ q
    · exact ite_c (fun _ => ⟨zok0, k0 hb⟩) (fun _ => ite_tt ⟨zok0, k0 hb⟩ q)
theorem has7_y (N : Now c m n dm d) {i : Nat} (hi : i < n) {K : Int32 → Prop} (hK : K 1) : wp_X7_has 25 (nI i) c K :=
  has7_c N (fun _ _ _ => hK) (fun q => absurd (vp_in_nI hi (by have := N.1.1; omega)) q)
theorem has7_n (N : Now c m n dm d) {v : Int32} (hv : ¬ vp_in v n) {K : Int32 → Prop} (hK : K 0) : wp_X7_has 25 v c K :=
  has7_c N (fun i hi e => absurd (e ▸ vp_in_nI hi (by have := N.1.1; omega)) hv) (fun _ => hK)
theorem in0 : vp_in 0 5280 := vp_in_nI (n := 0) (by decide) (by decide)
theorem in1 : vp_in 1 5280 := vp_in_nI (n := 1) (by decide) (by decide)
theorem isBell_y (N : Now c m n dm d) {i : Nat} (hi : i < n) {K : Int32 → Prop} (hK : K 1) : wp_X9_isBell (nI i) m K := by
  unfold wp_X9_isBell
  refine ⟨in0, ?_⟩
  rw [show (0 : Int32).toNatClampNeg = 0 from rfl, N.2.2.1.1]
  have hn := N.1.1
  exact in_szM (by omega) (fun _ _ _ => ⟨zok1, hK⟩) (fun q => absurd (vp_in_nI hi (by omega)) q)
theorem isBell_n (N : Now c m n dm d) {v : Int32} (hv : ¬ vp_in v n) {K : Int32 → Prop} (hK : K 0) : wp_X9_isBell v m K := by
  unfold wp_X9_isBell
  refine ⟨in0, ?_⟩
  rw [show (0 : Int32).toNatClampNeg = 0 from rfl, N.2.2.1.1]
  have hn := N.1.1
  exact in_szM (by omega) (fun i hi e => absurd (e ▸ vp_in_nI hi (by omega)) hv) (fun _ => ⟨zok0, hK⟩)
theorem isOver_s (N : Now c m n dm d) {i : Nat} (hi : i < n) {K : Int32 → Prop} (h1 : od c i = 1 → K 1) (h0 : od c i = 0 → K 0) : wp_X9_isOver (nI i) m K := by
  unfold wp_X9_isOver J_X9_isOver_18
  have hn := N.1.1
  obtain ⟨⟨b1, b2, b3, b4, b5⟩, ⟨c1, c2, c3, c4⟩, d1, d2, d3, d4, d5⟩ := N.2.2.2 i hi
  simp (disch := omega) only [lit_nI, nI_add, pk_mul, nI_clamp, vp_nI, nI_inj, nI_lt', nI_le', nI_neg1, nI_neg9, nI_neg3, neg1_nI, neg9_nI, neg_l0, neg_g0, ↓reduceIte, true_and, and_true, not_true_eq_false, not_false_eq_true, Nat.reduceEqDiff, Nat.reduceLeDiff, Nat.reduceAdd, Nat.reduceSub, Nat.reduceDiv, Nat.reduceMod, Nat.reducePow, Nat.reduceLT, Nat.reduceMul, Nat.not_lt_zero, Nat.zero_le, Nat.succ_ne_self, one_ne0, zero_ne1, ne_eq, d4]
  refine ⟨by omega, ite_c (fun q => ⟨zok1, h1 q⟩) (fun q => ⟨zok0, h0 (by omega)⟩)⟩
theorem refuse_bad (N : Now c m n dm d) {v : Int32} (hv : ¬ vp_in v n) {K : Int32 → Prop} (hK : K (-1)) : wp_X8_refuseBell v c K := by
  unfold wp_X8_refuseBell
  exact has7_n N hv (ite_tt hK rfl)
theorem refuse_s (N : Now c m n dm d) {i : Nat} (hi : i < n) {K : Int32 → Prop} (h1 : od c i = 1 → K (-4)) (h0 : od c i = 0 → K 0) : wp_X8_refuseBell (nI i) c K := by
  unfold wp_X8_refuseBell J_X8_refuseBell_34
  have hn := N.1.1
  obtain ⟨⟨b1, b2, b3, b4, b5⟩, ⟨c1, c2, c3, c4⟩, d1, d2, d3, d4, d5⟩ := N.2.2.2 i hi
  refine has7_y N hi (ite_ff ⟨vp_in_nI (by omega) (by decide), ?_⟩ (by decide))
  simp (disch := omega) only [lit_nI, nI_add, pk_mul, nI_clamp, vp_nI, nI_inj, nI_lt', nI_le', nI_neg1, nI_neg9, nI_neg3, neg1_nI, neg9_nI, neg_l0, neg_g0, ↓reduceIte, true_and, and_true, not_true_eq_false, not_false_eq_true, Nat.reduceEqDiff, Nat.reduceLeDiff, Nat.reduceAdd, Nat.reduceSub, Nat.reduceDiv, Nat.reduceMod, Nat.reducePow, Nat.reduceLT, Nat.reduceMul, Nat.not_lt_zero, Nat.zero_le, Nat.succ_ne_self, one_ne0, zero_ne1, ne_eq, c4]
  exact ite_c (fun q => h0 q) (fun q => h1 (by omega))
/-- how it would strike by a pull p: 0: not -/
def sN (c : St) (dm i p : Nat) : Nat := tN (kd c i) (wd c i) dm (aN (kd c i) (hdN c i) p)
theorem sN_le (N : Now c m n dm d) {i : Nat} (hi : i < n) (p : Nat) : sN c dm i p ≤ 30 := tN_le (aN_le _ _ _) (N.2.2.2 i hi).1.2.1
theorem tenthsBy_s (N : Now c m n dm d) {i p : Nat} (hi : i < n) (hp : p < 2 ^ 18) {K : Int32 → Prop} (hK : K (eT (sN c dm i p))) : wp_X7_tenthsBy 25 (nI i) (nI p) c K := by
  unfold wp_X7_tenthsBy
  have hn := N.1.1
  obtain ⟨⟨b1, b2, b3, b4, b5⟩, ⟨c1, c2, c3, c4⟩, d1, d2, d3, d4, d5⟩ := N.2.2.2 i hi
  refine has7_y N hi (ite_ff ⟨vp_in_nI (by omega) (by decide), ?_⟩ (by decide))
  rw [nI_clamp (by omega), N.2.1.2.1, show (25 + 3 + i) = 28 + i from rfl, c1, c2, c3]
  exact after_s b1 (by omega) hp (tenths_s b1 b2 N.1.2.1 (aN_le _ _ _) hK)
theorem strikesBy_s (N : Now c m n dm d) {i p : Nat} (hi : i < n) (hp : p < 2 ^ 18) {K : Int32 → Prop} (hK : K (eT (sN c dm i p))) : wp_X9_strikesBy (nI i) (nI (hdN c i)) (nI p) m K := by
  unfold wp_X9_strikesBy
  have hn := N.1.1
  obtain ⟨⟨b1, b2, b3, b4, b5⟩, ⟨c1, c2, c3, c4⟩, d1, d2, d3, d4, d5⟩ := N.2.2.2 i hi
  simp (disch := omega) only [lit_nI, nI_add, pk_mul, nI_clamp, vp_nI, nI_inj, nI_lt', nI_le', nI_neg1, nI_neg9, nI_neg3, neg1_nI, neg9_nI, neg_l0, neg_g0, ↓reduceIte, true_and, and_true, not_true_eq_false, not_false_eq_true, Nat.reduceEqDiff, Nat.reduceLeDiff, Nat.reduceAdd, Nat.reduceSub, Nat.reduceDiv, Nat.reduceMod, Nat.reducePow, Nat.reduceLT, Nat.reduceMul, Nat.not_lt_zero, Nat.zero_le, Nat.succ_ne_self, one_ne0, zero_ne1, ne_eq, d1, d2, N.2.2.1.2.1]
  refine ⟨by omega, afterM_s b1 (by omega) hp ⟨by omega, by omega, ?_⟩⟩
  exact tenthsM_s b1 b2 N.1.2.1 (aN_le _ _ _) hK
theorem isPull_y {p : Nat} (hp : p < 7) {K : Int32 → Prop} (hK : K 1) : wp_X8_isPull (nI p) K := by
  unfold wp_X8_isPull J_X8_isPull_15
  simp (disch := omega) only [lit_nI, nI_add, pk_mul, nI_clamp, vp_nI, nI_inj, nI_lt', nI_le', nI_neg1, nI_neg9, nI_neg3, neg1_nI, neg9_nI, neg_l0, neg_g0, ↓reduceIte, true_and, and_true, not_true_eq_false, not_false_eq_true, Nat.reduceEqDiff, Nat.reduceLeDiff, Nat.reduceAdd, Nat.reduceSub, Nat.reduceDiv, Nat.reduceMod, Nat.reducePow, Nat.reduceLT, Nat.reduceMul, Nat.not_lt_zero, Nat.zero_le, Nat.succ_ne_self, one_ne0, zero_ne1, ne_eq]
  rw [if_neg (by omega)]
  exact ⟨zok1, hK⟩
theorem isPull_n {r : Int32} (h : ¬ vp_in r 7) {K : Int32 → Prop} (hK : K 0) : wp_X8_isPull r K := by
  unfold wp_X8_isPull J_X8_isPull_14 J_X8_isPull_15
  rcases out_of (by decide) h with q | q
  · exact ite_tt ⟨zok0, hK⟩ q
  · exact ite_c (fun _ => ⟨zok0, hK⟩) (fun _ => ite_tt ⟨zok0, hK⟩ q)
theorem isPullM_y {p : Nat} (hp : p < 7) {K : Int32 → Prop} (hK : K 1) : wp_X9_isPull (nI p) K := by
  unfold wp_X9_isPull
  refine inM (x := p) (l := 0) (h := 6) (by rw [toInt_L, nI_toInt (by omega)]) (by decide) (by decide) (fun _ _ => ⟨zok1, hK⟩) (fun q => ?_)
  omega
theorem isPullM_n {r : Int32} (h : ¬ vp_in r 7) {K : Int32 → Prop} (hK : K 0) : wp_X9_isPull r K := by
  unfold wp_X9_isPull
  refine inM (x := r.toInt) (l := 0) (h := 6) (toInt_L r) (by decide) (by decide) (fun q1 q2 => ?_) (fun q => ⟨zok0, hK⟩)
  exact absurd (vp_in_iff.mpr ⟨q1, by omega⟩) h
end BELL
theorem op_strikes {c m : St} (h : Rel c m) (a b : Int32) : wp_X8_strikes a b c (fun r => wp_X9_strikes a b m (fun r' => r = r')) := by
  obtain ⟨n, dm, d, N⟩ := h.now
  have hn := N.1.1
  unfold wp_X8_strikes wp_X9_strikes J_X8_strikes_32 J_X9_strikes_15 J_X9_strikes_45
  by_cases hb : vp_in b 7
  · obtain ⟨p, hp, rfl⟩ := vp_in_of hb (by decide)
    refine isPull_y hp (ite_ff ?_ (by decide))
    by_cases ha : vp_in a n
    · obtain ⟨i, hi, rfl⟩ := vp_in_of ha (by omega)
      refine refuse_s N hi (fun ho => ite_ff ?_ (by decide)) (fun ho => ite_tt ?_ rfl)
      · refine isBell_y N hi (ite_ff (isPullM_y hp (ite_ff ?_ (by decide))) (by decide))
        exact isOver_s N hi (fun _ => ite_ff rfl (by decide)) (fun q => by omega)
      · refine tenthsBy_s N hi (by omega) ?_
        refine isBell_y N hi (ite_ff (isPullM_y hp (ite_ff ?_ (by decide))) (by decide))
        refine isOver_s N hi (fun q => by omega) (fun _ => ite_tt ?_ rfl)
        have d3 := (N.2.2.2 i hi).2.2.2.2.1
        simp (disch := omega) only [lit_nI, nI_add, pk_mul, nI_clamp, vp_nI, nI_inj, nI_lt', nI_le', nI_neg1, nI_neg9, nI_neg3, neg1_nI, neg9_nI, neg_l0, neg_g0, ↓reduceIte, true_and, and_true, not_true_eq_false, not_false_eq_true, Nat.reduceEqDiff, Nat.reduceLeDiff, Nat.reduceAdd, Nat.reduceSub, Nat.reduceDiv, Nat.reduceMod, Nat.reducePow, Nat.reduceLT, Nat.reduceMul, Nat.not_lt_zero, Nat.zero_le, Nat.succ_ne_self, one_ne0, zero_ne1, ne_eq, d3]
        exact ⟨by omega, strikesBy_s N hi (by omega) rfl⟩
    · exact refuse_bad N ha (ite_ff (isBell_n N ha (ite_tt rfl rfl)) (by decide))
  · refine isPull_n hb (ite_tt ?_ rfl)
    by_cases ha : vp_in a n
    · obtain ⟨i, hi, rfl⟩ := vp_in_of ha (by omega)
      exact isBell_y N hi (ite_ff (isPullM_n hb (ite_tt rfl rfl)) (by decide))
    · exact isBell_n N ha (ite_tt rfl rfl)
theorem op_bell {c m : St} (h : Rel c m) (a b : Int32) : wp_X8_bell a b c (fun r c' => wp_X9_bell a b m (fun r' m' => r = r' ∧ Rel c' m')) := by
  obtain ⟨n, dm, d, N⟩ := h.now
  have hn := N.1.1
  unfold wp_X8_bell wp_X9_bell J_X8_bell_21 J_X9_bell_20 wp_X9_tells
  by_cases ha : vp_in a n
  · obtain ⟨i, hi, rfl⟩ := vp_in_of ha (by omega)
    obtain ⟨⟨b1, b2, b3, b4, b5⟩, ⟨c1, c2, c3, c4⟩, d1, d2, d3, d4, d5⟩ := N.2.2.2 i hi
    refine has7_y N hi (ite_ff ?_ (by decide))
    by_cases hb : vp_in b 6
    · obtain ⟨q, hq, rfl⟩ := vp_in_of hb (by decide)
      refine ite_ff (ite_tt ⟨vp_in_nI (by omega) (by decide), ?_⟩ (nI_lt hq (by decide))) (nI_pos (by omega))
      have mk : ∀ v : Int32, wp_X9_bellTells (nI i) (nI q) m (fun r => r = v) → wp_X9_isBell (nI i) m (fun r2 => if r2 = 0 then (1 : Int32) = -1 ∧ Rel (uI c 0 12 v) m else wp_X9_in (nI q).toInt64 0 5 (fun r14 => if r14 = 0 then (1 : Int32) = -1 ∧ Rel (uI c 0 12 v) m else wp_X9_bellTells (nI i) (nI q) m (fun r26 => (1 : Int32) = 1 ∧ Rel (uI c 0 12 v) (uI m 0 10 r26)))) := by
        intro v hv
        refine isBell_y N hi (ite_ff ?_ (by decide))
        refine inM (x := q) (l := 0) (h := 5) (by rw [toInt_L, nI_toInt (by omega)]) (by decide) (by decide) (fun _ _ => ite_ff ?_ (by decide)) (fun z => by omega)
        unfold wp_X9_bellTells J_X9_bellTells_94 at hv ⊢
        have t : ∀ x, x = v → (1 : Int32) = 1 ∧ Rel (uI c 0 12 v) (uI m 0 10 x) := fun x e => ⟨rfl, e ▸ h.tell x⟩
        (repeat' split) <;> simp_all
      unfold wp_X0_tell J_X0_tell_63 J_X0_tell_78
      rw [nI_clamp (by omega), c1, c2, c3, c4]
      have e : ∀ k, k < 6 → (nI q = nI k) = (q = k) := fun k hk => nI_inj (by omega) (by omega)
      have tells : ∀ v, (q = 0 → v = nI (kd c i)) → (q = 1 → v = nI (wd c i)) → (q = 2 → v = nI (hdN c i)) → (q = 3 → v = nI (od c i)) → (q = 4 → v = if hdN c i = 20 then 1 else 0) → (q = 5 → v = c.1 (28 + i) 4) → wp_X9_bellTells (nI i) (nI q) m (fun r => r = v) := by
        intro v t0 t1 t2 t3 t4 t5
        unfold wp_X9_bellTells J_X9_bellTells_94
        simp (disch := omega) only [lit_nI, nI_add, pk_mul, nI_clamp, vp_nI, nI_inj, nI_lt', nI_le', nI_neg1, nI_neg9, nI_neg3, neg1_nI, neg9_nI, neg_l0, neg_g0, ↓reduceIte, true_and, and_true, not_true_eq_false, not_false_eq_true, Nat.reduceEqDiff, Nat.reduceLeDiff, Nat.reduceAdd, Nat.reduceSub, Nat.reduceDiv, Nat.reduceMod, Nat.reducePow, Nat.reduceLT, Nat.reduceMul, Nat.not_lt_zero, Nat.zero_le, Nat.succ_ne_self, one_ne0, zero_ne1, ne_eq, d1, d2, d3, d4, d5]
        refine ite_c (fun z => ⟨by omega, (t0 z).symm⟩) (fun z0 => ite_c (fun z => ⟨by omega, (t1 z).symm⟩) (fun z1 => ite_c (fun z => ⟨by omega, (t2 z).symm⟩) (fun z2 => ite_c (fun z => ⟨by omega, (t3 z).symm⟩) (fun z3 => ite_c (fun z => ⟨by omega, ?_⟩) (fun z4 => ⟨by omega, (t5 (by omega)).symm⟩)))))
        rw [t4 z]
        refine ite_c (fun y => ?_) (fun y => ?_)
        · rw [if_pos y]; rfl
        · rw [if_neg y]; rfl
      refine ite_c (fun z => mk _ (tells _ ?_ ?_ ?_ ?_ ?_ ?_)) (fun z0 => ite_c (fun z => mk _ (tells _ ?_ ?_ ?_ ?_ ?_ ?_)) (fun z1 => ite_c (fun z => mk _ (tells _ ?_ ?_ ?_ ?_ ?_ ?_)) (fun z2 => ite_c (fun z => ite_c (fun y => mk _ (tells _ ?_ ?_ ?_ ?_ ?_ ?_)) (fun y => mk _ (tells _ ?_ ?_ ?_ ?_ ?_ ?_))) (fun z3 => ite_c (fun z => ite_c (fun y => mk _ (tells _ ?_ ?_ ?_ ?_ ?_ ?_)) (fun y => mk _ (tells _ ?_ ?_ ?_ ?_ ?_ ?_))) (fun z4 => mk _ (tells _ ?_ ?_ ?_ ?_ ?_ ?_))))))
      all_goals (intro z9; simp (disch := omega) only [lit_nI, nI_inj] at *)
      all_goals first | rfl | (exfalso; omega) | skip
      · rw [y]
      · rw [show od c i = 1 by omega]
      · rw [if_pos y]
      · rw [if_neg y]
    · have e5 : wp_X9_bell (nI i) b m (fun r' m' => (-1 : Int32) = r' ∧ Rel c m') := by
        unfold wp_X9_bell J_X9_bell_20
        refine isBell_y N hi (ite_ff (inM (x := b.toInt) (l := 0) (h := 5) (toInt_L b) (by decide) (by decide) (fun z1 z2 => absurd (vp_in_iff.mpr ⟨z1, by omega⟩) hb) (fun _ => ite_tt ⟨rfl, h⟩ rfl)) (by decide))
      unfold wp_X9_bell J_X9_bell_20 wp_X9_tells at e5
      rcases out_of (by decide) hb with z | z
      · exact ite_tt e5 z
      · exact ite_c (fun _ => e5) (fun _ => ite_ff e5 (Int32.not_lt.mpr z))
  · exact has7_n N ha (ite_tt (isBell_n N ha (ite_tt ⟨rfl, h⟩ rfl)) rfl)

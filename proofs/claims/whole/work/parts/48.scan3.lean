/-! the reference's reading -/
def TxM (m : St) (t : Nat) (T : Nat → Int32) (s : Nat) : Prop := t < 4 ∧ s ≤ 60 ∧ m.1 6 t = nI s ∧ ∀ i, i < s → m.1 5 (60 * t + i) = T i
def PosM (m m' : St) (p : Nat) : Prop := m'.1 0 13 = nI p ∧ (∀ a b, ¬ (a = 0 ∧ b = 13) → m'.1 a b = m.1 a b) ∧ m'.2 = m.2
theorem PosM.set (m : St) (p : Nat) : PosM m (uI m 0 13 (nI p)) p := ⟨uI_s _ _ _ _, fun a b z => by rw [uI_1, if_neg z], rfl⟩
theorem PosM.tr {m m1 m2 : St} {p q : Nat} (h1 : PosM m m1 p) (h2 : PosM m1 m2 q) : PosM m m2 q := ⟨h2.1, fun a b z => (h2.2.1 a b z).trans (h1.2.1 a b z), h2.2.2.trans h1.2.2⟩
theorem TxM.pos {m m' : St} {t s p : Nat} {T : Nat → Int32} (h : TxM m t T s) (hp : PosM m m' p) : TxM m' t T s := ⟨h.1, h.2.1, by rw [hp.2.1 _ _ (by omega)]; exact h.2.2.1, fun i hi => by rw [hp.2.1 _ _ (by omega)]; exact h.2.2.2 i hi⟩
theorem byteM_s {m : St} {t s q : Nat} {T : Nat → Int32} (h : TxM m t T s) (hq : q < 2 ^ 20) {K : Int32 → Prop} (k1 : q < s → K (T q)) (k0 : s ≤ q → K (-1000)) : wp_X9_byteAt (nI t) (nI q) m K := by
  obtain ⟨ht, hs, h6, hT⟩ := h
  unfold wp_X9_byteAt J_X9_byteAt_27
  rw [nI_clamp (by omega), h6]
  refine ⟨vp_in_nI ht (by decide), ite_c (fun z => k0 ?_) (fun z => ?_)⟩
  · rw [nI_le' (by omega) (by omega)] at z; exact z
  · rw [nI_le' (by omega) (by omega)] at z
    have i1 : (60 * nI t + nI q).toNatClampNeg = 60 * t + q := by simp (disch := omega) only [lit_nI, nI_add, pk_mul, nI_clamp, vp_nI, nI_inj, nI_lt', nI_le', nI_neg1, nI_neg9, nI_neg3, neg1_nI, neg9_nI, neg_l0, neg_g0, ↓reduceIte, true_and, and_true, not_true_eq_false, not_false_eq_true, Nat.reduceEqDiff, Nat.reduceLeDiff, Nat.reduceAdd, Nat.reduceSub, Nat.reduceDiv, Nat.reduceMod, Nat.reducePow, Nat.reduceLT, Nat.reduceMul, Nat.not_lt_zero, Nat.zero_le, Nat.succ_ne_self, one_ne0, zero_ne1, ne_eq]
    have i2 : vp_in (60 * nI t + nI q) 240 := by simp (disch := omega) only [lit_nI, nI_add, pk_mul, nI_clamp, vp_nI, nI_inj, nI_lt', nI_le', nI_neg1, nI_neg9, nI_neg3, neg1_nI, neg9_nI, neg_l0, neg_g0, ↓reduceIte, true_and, and_true, not_true_eq_false, not_false_eq_true, Nat.reduceEqDiff, Nat.reduceLeDiff, Nat.reduceAdd, Nat.reduceSub, Nat.reduceDiv, Nat.reduceMod, Nat.reducePow, Nat.reduceLT, Nat.reduceMul, Nat.not_lt_zero, Nat.zero_le, Nat.succ_ne_self, one_ne0, zero_ne1, ne_eq]; omega
    rw [i1, hT q (by omega)]
    exact ⟨i2, k1 (by omega)⟩
theorem blanksM_s {m : St} {t s p : Nat} {T : Nat → Int32} (h : TxM m t T s) (hp : p ≤ s) (h13 : m.1 0 13 = nI p) {K : St → Prop} (hK : ∀ m', PosM m m' (pb T s p) → K m') : wp_X9_blanks (nI t) m K := by
  have hs := h.2.1
  unfold wp_X9_blanks L_X9_blanks_0
  refine wl1_ind (fun τ => ∃ q, q ≤ s ∧ PosM m τ q ∧ pb T s q = pb T s p) (fun τ => 60 - (τ.1 0 13).toNatClampNeg) ?_ _ ⟨p, hp, ⟨h13, fun _ _ _ => rfl, rfl⟩, rfl⟩
  rintro τ ⟨q, hq, P, e⟩ Φ hΦ
  unfold B_X9_blanks_0
  rw [P.1, show nI q + 1 = nI (q + 1) from nI_1 q]
  have fin : pb T s q = q → K τ := fun z => hK τ (by rw [← e, z]; exact P)
  refine byteM_s (h.pos P) (by omega) (fun z => ite_c (fun w => hΦ _ ⟨q + 1, by omega, P.tr (PosM.set τ (q + 1)), ?_⟩ ?_) (fun w => fin (pb_n (fun z => w z.2)))) (fun z => ite_ff (fin (pb_n (by omega))) (by decide))
  · rw [← pb_y z w]; exact e
  · rw [uI_s, P.1, nI_clamp (by omega), nI_clamp (by omega)]; omega
theorem figM_s {m : St} {t s p lo hi : Nat} {T : Nat → Int32} (h : TxM m t T s) (hp : p < 2 ^ 20) (h13 : m.1 0 13 = nI p) (hhi : hi ≤ 9) (hlo : lo ≤ 9) {K : Int32 → St → Prop} (k1 : lo ≤ fgN T s p → fgN T s p ≤ hi → K (nI (fgN T s p)) (uI m 0 13 (nI (p + 1)))) (k0 : ¬ (lo ≤ fgN T s p ∧ fgN T s p ≤ hi) → K (-1) m) : wp_X9_figure (nI t) (nI lo) (nI hi) m K := by
  unfold wp_X9_figure
  rw [h13, show nI p + 1 = nI (p + 1) from nI_1 p]
  refine byteM_s h hp (fun z => ?_) (fun z => ?_)
  · refine inM (x := (T p - 48).toInt) (l := lo) (h := hi) (toInt_L _) (by rw [toInt_L, nI_toInt (by omega)]) (by rw [toInt_L, nI_toInt (by omega)]) (fun q1 q2 => ite_ff ?_ (by decide)) (fun q => ite_tt (k0 ?_) rfl)
    · by_cases e : fgN T s p = 99
      · have := fg_no e z; omega
      · obtain ⟨f1, f2, f3⟩ := fg_lt e
        rw [f3, nI_toInt (by omega)] at q1 q2
        rw [f3]
        exact k1 (by omega) (by omega)
    · by_cases e : fgN T s p = 99
      · omega
      · obtain ⟨f1, f2, f3⟩ := fg_lt e
        rw [f3, nI_toInt (by omega)] at q
        omega
  · have e99 : fgN T s p = 99 := by unfold fgN; rw [if_neg (by omega)]
    have ev : ((-1000 : Int32) - 48).toInt = -1048 := by decide
    refine inM (x := -1048) (l := lo) (h := hi) (by rw [toInt_L, ev]) (by rw [toInt_L, nI_toInt (by omega)]) (by rw [toInt_L, nI_toInt (by omega)]) (fun q1 q2 => by omega) (fun q => ite_tt (k0 (by omega)) rfl)
theorem takes_s {m : St} {t s p i : Nat} {T : Nat → Int32} (h : TxM m t T s) (hp : p ≤ s) (h13 : m.1 0 13 = nI p) (hi : i ≤ 6) (h48 : m.1 1 5248 = nI i) {K : Int32 → St → Prop}
    (k0 : i = 6 ∨ gdN T s p < 4 → ∀ m', PosM m m' (p + (if i = 6 then 0 else gdN T s p)) → K 0 m')
    (k1 : i < 6 → gdN T s p = 4 → ∀ m' : St, m'.1 0 13 = nI (p + 4) → m'.1 1 5248 = nI (i + 1) → m'.1 1 (5250 + i) = nI (kdN T s p) → m'.1 1 (5256 + i) = nI (fgN T s (p + 1)) → m'.1 1 (5262 + i) = nI (10 * fgN T s (p + 2) + fgN T s (p + 3)) → (∀ a b, ¬ (a = 0 ∧ b = 13) → ¬ (a = 1 ∧ (b = 5248 ∨ b = 5250 + i ∨ b = 5256 + i ∨ b = 5262 + i)) → m'.1 a b = m.1 a b) → m'.2 = m.2 → K 1 m') : wp_X9_takesBell (nI t) m K := by
  have hs := h.2.1
  have c48 : (5248 : Int32).toNatClampNeg = 5248 := by decide
  have v48 : vp_in 5248 5280 := vp_in_nI (n := 5248) (by decide) (by decide)
  unfold wp_X9_takesBell J_X9_takesBell_32 J_X9_takesBell_70 J_X9_takesBell_96 J_X9_takesBell_99
  rw [h13, c48, h48, show nI p + 1 = nI (p + 1) from nI_1 p]
  have same : PosM m m p := ⟨h13, fun _ _ _ => rfl, rfl⟩
  have bd := kd_b T s p
  refine byteM_s h (by omega) (fun z => kindM_s ⟨v48, ?_⟩) (fun z => kindM_s ⟨v48, ?_⟩)
  · have ekd : kN (T p) = kdN T s p := by unfold kdN; rw [if_pos z]
    rw [ekd]
    by_cases k9 : kdN T s p = 9
    · have g0 : gdN T s p = 0 := by unfold gdN; rw [if_pos k9]
      refine ite_tt (k0 (Or.inr (by omega)) m ?_) (by rw [if_pos k9]; decide)
      rw [g0]
      split <;> exact same
    · rw [if_neg k9]
      refine ite_ff (ite_c (fun y => k0 (Or.inl ?_) m ?_) (fun y => ?_)) (nI_pos (by omega))
      · rw [lit_nI, nI_inj (by omega) (by decide)] at y; exact y
      · rw [lit_nI, nI_inj (by omega) (by decide)] at y
        rw [if_pos y]; exact same
      · rw [lit_nI, nI_inj (by omega) (by decide)] at y
        have i6 : i < 6 := by omega
        rw [if_neg y] at k0
        have gd : ∀ g, gdN T s p = g → gdN T s p = g := fun _ z => z
        unfold gdN at k0 k1
        rw [if_neg k9] at k0 k1
        have P1 := PosM.set m (p + 1)
        refine figM_s (lo := 1) (hi := 9) (h.pos P1) (by omega) P1.1 (by decide) (by decide) (fun w1 w2 => ?_) (fun w => ?_)
        · rw [if_neg (by omega)] at k0 k1
          have P2 := P1.tr (PosM.set (uI m 0 13 (nI (p + 1))) (p + 1 + 1))
          refine ite_tt (figM_s (lo := 0) (hi := 2) (p := p + 2) (h.pos P2) (by omega) P2.1 (by decide) (by decide) (fun _ w3 => ?_) (fun w => ?_)) (nI_pos' (by omega))
          · rw [if_neg (by omega)] at k0 k1
            have P3 := P2.tr (PosM.set (uI (uI m 0 13 (nI (p + 1))) 0 13 (nI (p + 1 + 1))) (p + 2 + 1))
            obtain ⟨m3, em3⟩ := ex_eq (uI (uI (uI m 0 13 (nI (p + 1))) 0 13 (nI (p + 1 + 1))) 0 13 (nI (p + 2 + 1)))
            rw [em3] at P3 ⊢
            have c0 : (5250 + nI i).toNatClampNeg = 5250 + i := by simp (disch := omega) only [lit_nI, nI_add, pk_mul, nI_clamp, vp_nI, nI_inj, nI_lt', nI_le', nI_neg1, nI_neg9, nI_neg3, neg1_nI, neg9_nI, neg_l0, neg_g0, ↓reduceIte, true_and, and_true, not_true_eq_false, not_false_eq_true, Nat.reduceEqDiff, Nat.reduceLeDiff, Nat.reduceAdd, Nat.reduceSub, Nat.reduceDiv, Nat.reduceMod, Nat.reducePow, Nat.reduceLT, Nat.reduceMul, Nat.not_lt_zero, Nat.zero_le, Nat.succ_ne_self, one_ne0, zero_ne1, ne_eq]
            have v0 : vp_in (5250 + nI i) 5280 := by simp (disch := omega) only [lit_nI, nI_add, pk_mul, nI_clamp, vp_nI, nI_inj, nI_lt', nI_le', nI_neg1, nI_neg9, nI_neg3, neg1_nI, neg9_nI, neg_l0, neg_g0, ↓reduceIte, true_and, and_true, not_true_eq_false, not_false_eq_true, Nat.reduceEqDiff, Nat.reduceLeDiff, Nat.reduceAdd, Nat.reduceSub, Nat.reduceDiv, Nat.reduceMod, Nat.reducePow, Nat.reduceLT, Nat.reduceMul, Nat.not_lt_zero, Nat.zero_le, Nat.succ_ne_self, one_ne0, zero_ne1, ne_eq]; omega
            have c1 : (5256 + nI i).toNatClampNeg = 5256 + i := by simp (disch := omega) only [lit_nI, nI_add, pk_mul, nI_clamp, vp_nI, nI_inj, nI_lt', nI_le', nI_neg1, nI_neg9, nI_neg3, neg1_nI, neg9_nI, neg_l0, neg_g0, ↓reduceIte, true_and, and_true, not_true_eq_false, not_false_eq_true, Nat.reduceEqDiff, Nat.reduceLeDiff, Nat.reduceAdd, Nat.reduceSub, Nat.reduceDiv, Nat.reduceMod, Nat.reducePow, Nat.reduceLT, Nat.reduceMul, Nat.not_lt_zero, Nat.zero_le, Nat.succ_ne_self, one_ne0, zero_ne1, ne_eq]
            have v1 : vp_in (5256 + nI i) 5280 := by simp (disch := omega) only [lit_nI, nI_add, pk_mul, nI_clamp, vp_nI, nI_inj, nI_lt', nI_le', nI_neg1, nI_neg9, nI_neg3, neg1_nI, neg9_nI, neg_l0, neg_g0, ↓reduceIte, true_and, and_true, not_true_eq_false, not_false_eq_true, Nat.reduceEqDiff, Nat.reduceLeDiff, Nat.reduceAdd, Nat.reduceSub, Nat.reduceDiv, Nat.reduceMod, Nat.reducePow, Nat.reduceLT, Nat.reduceMul, Nat.not_lt_zero, Nat.zero_le, Nat.succ_ne_self, one_ne0, zero_ne1, ne_eq]; omega
            have c2 : (5262 + nI i).toNatClampNeg = 5262 + i := by simp (disch := omega) only [lit_nI, nI_add, pk_mul, nI_clamp, vp_nI, nI_inj, nI_lt', nI_le', nI_neg1, nI_neg9, nI_neg3, neg1_nI, neg9_nI, neg_l0, neg_g0, ↓reduceIte, true_and, and_true, not_true_eq_false, not_false_eq_true, Nat.reduceEqDiff, Nat.reduceLeDiff, Nat.reduceAdd, Nat.reduceSub, Nat.reduceDiv, Nat.reduceMod, Nat.reducePow, Nat.reduceLT, Nat.reduceMul, Nat.not_lt_zero, Nat.zero_le, Nat.succ_ne_self, one_ne0, zero_ne1, ne_eq]
            have v2 : vp_in (5262 + nI i) 5280 := by simp (disch := omega) only [lit_nI, nI_add, pk_mul, nI_clamp, vp_nI, nI_inj, nI_lt', nI_le', nI_neg1, nI_neg9, nI_neg3, neg1_nI, neg9_nI, neg_l0, neg_g0, ↓reduceIte, true_and, and_true, not_true_eq_false, not_false_eq_true, Nat.reduceEqDiff, Nat.reduceLeDiff, Nat.reduceAdd, Nat.reduceSub, Nat.reduceDiv, Nat.reduceMod, Nat.reducePow, Nat.reduceLT, Nat.reduceMul, Nat.not_lt_zero, Nat.zero_le, Nat.succ_ne_self, one_ne0, zero_ne1, ne_eq]; omega
            rw [c0, c1, c2]
            have hl : limN (fgN T s (p + 2)) ≤ 9 := by unfold limN; split <;> omega
            have body : wp_X9_figure (nI t) (nI 0) (nI (limN (fgN T s (p + 2)))) m3 (fun r96 t96 => if 0 ≤ r96 then vp_in (5250 + nI i) 5280 ∧ vp_in (5256 + nI i) 5280 ∧ vp_in (5262 + nI i) 5280 ∧ vp_in 5248 5280 ∧ vp_in 5248 5280 ∧ K 1 (uI (uI (uI (uI t96 1 (5250 + i) (nI (kdN T s p))) 1 (5256 + i) (nI (fgN T s (p + 1)))) 1 (5262 + i) (10 * nI (fgN T s (p + 2)) + r96)) 1 5248 ((uI (uI (uI t96 1 (5250 + i) (nI (kdN T s p))) 1 (5256 + i) (nI (fgN T s (p + 1)))) 1 (5262 + i) (10 * nI (fgN T s (p + 2)) + r96)).1 1 5248 + 1)) else K 0 t96) := by
              refine figM_s (p := p + 3) (h.pos P3) (by omega) P3.1 hl (by decide) (fun _ w4 => ite_tt ⟨v0, v1, v2, v48, v48, ?_⟩ (nI_pos' (by omega))) (fun w => ite_ff ?_ (by decide))
              · rw [if_pos (by omega)] at k0
                exact k0 (Or.inr (by omega)) m3 P3
              · rw [if_neg (by omega)] at k1
                have e10 : (10 * nI (fgN T s (p + 2)) + nI (fgN T s (p + 3)) : Int32) = nI (10 * fgN T s (p + 2) + fgN T s (p + 3)) := by rw [lit_nI, pk_mul, nI_add]
                rw [e10]
                have P4 := P3.tr (PosM.set m3 (p + 3 + 1))
                obtain ⟨m4, em4⟩ := ex_eq (uI m3 0 13 (nI (p + 3 + 1)))
                rw [em4] at P4 ⊢
                refine k1 i6 rfl _ ?_ ?_ ?_ ?_ ?_ (fun a b n1 n2 => ?_) P4.2.2
                · rw [uI_c (by decide), uI_c (by decide), uI_c (by decide), uI_c (by decide)]; exact P4.1
                · rw [uI_s, uI_n (by omega), uI_n (by omega), uI_n (by omega), P4.2.1 _ _ (by omega), h48]; exact nI_1 i
                · rw [uI_n (by omega), uI_n (by omega), uI_n (by omega), uI_s]
                · rw [uI_n (by omega), uI_n (by omega), uI_s]
                · rw [uI_n (by omega), uI_s]
                · simp only [uI_1]
                  rw [if_neg (by omega), if_neg (by omega), if_neg (by omega), if_neg (by omega)]
                  exact P4.2.1 a b n1
            refine ite_tt (ite_c (fun e2 => ?_) (fun e2 => ?_)) (nI_pos' (by omega))
            · rw [lit_nI, nI_inj (by omega) (by decide)] at e2
              have : limN (fgN T s (p + 2)) = 0 := by unfold limN; rw [if_pos e2]
              rw [this] at body
              exact body
            · rw [lit_nI, nI_inj (by omega) (by decide)] at e2
              have : limN (fgN T s (p + 2)) = 9 := by unfold limN; rw [if_neg e2]
              rw [this] at body
              exact body
          · rw [if_pos (by omega)] at k0
            exact ite_ff (ite_ff (k0 (Or.inr (by omega)) _ P2) (by decide)) (by decide)
        · rw [if_pos w] at k0
          exact ite_ff (ite_ff (ite_ff (k0 (Or.inr (by omega)) _ P1) (by decide)) (by decide)) (by decide)
  · have k9 : kdN T s p = 9 := by unfold kdN; rw [if_neg (by omega)]
    have g0 : gdN T s p = 0 := by unfold gdN; rw [if_pos k9]
    refine ite_tt (k0 (Or.inr (by omega)) m ?_) (by decide)
    rw [g0]
    split <;> exact same

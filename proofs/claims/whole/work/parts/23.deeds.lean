/-! deeds -/
def bl (c : St) (k : Nat) : Bl := (c.1 k 3, c.1 k 4, c.1 k 5)
/-- one bell's state is x, all else as it was -/
def Upd (c c' : St) (k : Nat) (x : Bl) : Prop := bl c' k = x ∧ (∀ a b, a ≠ k ∨ b < 3 ∨ 5 < b → c'.1 a b = c.1 a b) ∧ c'.2 = c.2
theorem swing_s {c : St} {k kk p : Nat} (hk : kk < 6) (h0 : c.1 k 0 = nI kk) (hp : p < 2 ^ 18) (hb : BlOK (bl c k)) {K : St → Prop} (hK : ∀ c', Upd c c' k (bSw (nI kk) (nI p) (bl c k)) → K c') : wp_X0_swing k (nI p) c K := by
  obtain ⟨h, o, hh, ho, hho, e1, e2⟩ := hb
  have e1' : c.1 k 3 = nI h := e1
  have e2' : c.1 k 5 = nI o := e2
  unfold wp_X0_swing J_X0_swing_32 J_X0_swing_48
  rw [e2', h0, e1', uI_s]
  unfold bSw at hK
  have ea := aftI_s hk (h := h) (by omega) hp
  refine ite_c (fun z => ?_) (fun z => ?_)
  · rw [show (bl c k).2.2 = nI o from e2', show (bl c k).1 = nI h from e1', if_pos z, ea] at hK
    refine after_s hk (by omega) hp (ite_c (fun y => ⟨zok1, ite_ff (hK _ ?_) (by first | (rw [uI_s]; decide) | decide)⟩) (fun y => ⟨zok0, ite_tt (hK _ ?_) (by first | rw [uI_s] | rfl)⟩))
    · rw [if_pos y]
      refine ⟨?_, fun a b hab => ?_, rfl⟩
      · unfold bl
        simp only [uI_1]; simp
      · simp only [uI_1]
        rw [if_neg (by omega), if_neg (by omega), if_neg (by omega)]
    · rw [if_neg y]
      refine ⟨?_, fun a b hab => ?_, rfl⟩
      · unfold bl
        simp only [uI_1]; simp
      · simp only [uI_1]
        rw [if_neg (by omega), if_neg (by omega), if_neg (by omega)]
  · rw [show (bl c k).2.2 = nI o from e2', if_neg z] at hK
    exact hK c ⟨rfl, fun _ _ _ => rfl, rfl⟩
/-- the bells of the tower at T become F -/
def UpdT (c c' : St) (T n : Nat) (F : Nat → Bl) : Prop := (∀ i, i < n → bl c' (T + 3 + i) = F i) ∧ (∀ a b, a < T + 3 ∨ T + 3 + n ≤ a ∨ b < 3 ∨ 5 < b → c'.1 a b = c.1 a b) ∧ c'.2 = c.2
theorem irm7 {s : Nat} (hs : s < 2 ^ 31) : irm (nI s) 7 = nI (s % 7) := pk_rem hs (by decide) (by decide)
theorem div7 {s : Nat} (hs : s < 2 ^ 31) : nI s / 7 = nI (s / 7) := pk_div hs (by decide) (by decide)
theorem hasT_c {c : St} {T n : Nat} {v : Int32} (hn : n ≤ 6) (h2 : c.1 T 2 = nI n) {K : Int32 → Prop} (k1 : ∀ i, i < n → v = nI i → K 1) (k0 : ¬ vp_in v n → K 0) : wp_X7_has T v c K := by
  unfold wp_X7_has J_X7_has_16 J_X7_has_17
  rw [h2]
  by_cases hb : vp_in v n
  · obtain ⟨i, hi, rfl⟩ := vp_in_of hb (by omega)
    simp (disch := omega) only [lit_nI, nI_add, pk_mul, nI_clamp, vp_nI, nI_inj, nI_lt', nI_le', nI_neg1, nI_neg9, nI_neg3, neg1_nI, neg9_nI, neg_l0, neg_g0, ↓reduceIte, true_and, and_true, not_true_eq_false, not_false_eq_true, Nat.reduceEqDiff, Nat.reduceLeDiff, Nat.reduceAdd, Nat.reduceSub, Nat.reduceDiv, Nat.reduceMod, Nat.reducePow, Nat.reduceLT, Nat.reduceMul, Nat.not_lt_zero, Nat.zero_le, Nat.succ_ne_self, one_ne0, zero_ne1, ne_eq]
    rw [if_neg (by omega)]
    exact ⟨zok1, k1 i hi rfl⟩
  · rcases out_of (by omega) hb with q | q
    · exact ite_tt ⟨zok0, k0 hb⟩ q
    · exact ite_c (fun _ => ⟨zok0, k0 hb⟩) (fun _ => ite_tt ⟨zok0, k0 hb⟩ q)
theorem perform_s {c : St} {T n dd : Nat} (hn : n ≤ 6) (h2 : c.1 T 2 = nI n) (hdd : dd < 117697) (hB : ∀ i, i < n → (∃ k, k < 6 ∧ c.1 (T + 3 + i) 0 = nI k) ∧ BlOK (bl c (T + 3 + i))) {K : St → Prop} (hK : ∀ c', UpdT c c' T n (fun i => dAct dd i (c.1 (T + 3 + i) 0) (bl c (T + 3 + i))) → K c') : wp_X7_perform T (nI dd) c K := by
  unfold wp_X7_perform J_X7_perform_107
  refine ite_c (fun z => ite_c (fun z2 => ?_) (fun z2 => ?_)) (fun z => ?_)
  · rw [lit_nI, nI_lt' (by omega) (by decide)] at z z2
    rw [div7 (by omega), irm7 (by omega)]
    refine hasT_c hn h2 (fun i hi e => ite_ff ?_ (by decide)) (fun hno => ite_tt (hK c ⟨fun i hi => ?_, fun _ _ _ => rfl, rfl⟩) rfl)
    · rw [nI_inj (by omega) (by omega)] at e
      rw [e, nI_clamp (by omega)]
      obtain ⟨⟨k, hk, ek⟩, hb⟩ := hB i hi
      refine ⟨vp_in_nI (by omega) (by decide), swing_s hk ek (by omega) hb (fun c' ⟨u1, u2, u3⟩ => hK c' ⟨fun j hj => ?_, fun a b hab => u2 a b (by omega), u3⟩)⟩
      simp only [dAct]
      rw [if_neg (by omega), if_neg (by omega)]
      by_cases ej : j = i
      · subst ej; rw [if_pos e, ek]; exact u1
      · rw [if_neg (by omega)]
        unfold bl
        rw [u2 _ 3 (by omega), u2 _ 4 (by omega), u2 _ 5 (by omega)]
    · have : ¬ dd / 7 < n := fun q => hno (vp_in_nI q (by omega))
      simp only [dAct]
      rw [if_neg (by omega), if_neg (by omega), if_neg (by omega)]
  · rw [lit_nI, nI_lt' (by omega) (by decide)] at z z2
    rw [show nI dd - 42 = nI (dd - 42) from pk_sub (b := 42) (by omega)]
    refine hasT_c hn h2 (fun i hi e => ite_ff ?_ (by decide)) (fun hno => ite_tt (hK c ⟨fun i hi => ?_, fun _ _ _ => rfl, rfl⟩) rfl)
    · rw [nI_inj (by omega) (by omega)] at e
      rw [e, nI_clamp (by omega)]
      unfold wp_X0_renewStay
      refine ⟨vp_in_nI (by omega) (by decide), hK _ ⟨fun j hj => ?_, fun a b hab => ?_, rfl⟩⟩
      · simp only [dAct]
        rw [if_neg (by omega), if_pos (by omega)]
        by_cases ej : j = i
        · subst ej; rw [if_pos e]
          unfold bl bMend
          simp only [uI_1]; simp
        · rw [if_neg (by omega)]
          unfold bl
          rw [uI_c (by omega), uI_c (by omega), uI_c (by omega), uI_c (by omega), uI_c (by omega), uI_c (by omega)]
      · simp only [uI_1]
        rw [if_neg (by omega), if_neg (by omega)]
    · have : ¬ dd - 42 < n := fun q => hno (vp_in_nI q (by omega))
      simp only [dAct]
      rw [if_neg (by omega), if_pos (by omega), if_neg (by omega)]
  · rw [lit_nI, nI_lt' (by omega) (by decide)] at z
    rw [show nI dd - 48 = nI (dd - 48) from pk_sub (b := 48) (by omega)]
    unfold L_X7_perform_13
    refine for3_2 n (fun j x τ => x = nI ((dd - 48) / 7 ^ j) ∧ (∀ i, i < j → bl τ (T + 3 + i) = dAct dd i (c.1 (T + 3 + i) 0) (bl c (T + 3 + i))) ∧ (∀ a b, a < T + 3 ∨ T + 3 + j ≤ a ∨ b < 3 ∨ 5 < b → τ.1 a b = c.1 a b) ∧ τ.2 = c.2) ?_ ?_ 0 _ _ (Nat.zero_le _) ⟨by simp, fun i hi => by omega, fun _ _ _ => rfl, rfl⟩
    · rintro x τ Φ ⟨ex, q1, q2, q3⟩
      unfold B_X7_perform_13 J_X7_perform_107
      rw [q2 T 2 (by omega), h2]
      exact ite_tt (hK τ ⟨q1, q2, q3⟩) (Int32.le_refl _)
    · rintro j x τ Φ hj ⟨rfl, q1, q2, q3⟩ hΦ
      have hlt : (dd - 48) / 7 ^ j ≤ dd := Nat.le_trans (Nat.div_le_self _ _) (Nat.sub_le _ _)
      obtain ⟨⟨k, hk, ek⟩, hb⟩ := hB j hj
      have eb : bl τ (T + 3 + j) = bl c (T + 3 + j) := by
        unfold bl
        rw [q2 _ 3 (by omega), q2 _ 4 (by omega), q2 _ 5 (by omega)]
      unfold B_X7_perform_13
      rw [q2 T 2 (by omega), h2, nI_clamp (by omega), irm7 (by omega), div7 (by omega), show nI j + 1 = nI (j + 1) from nI_1 j]
      refine ite_ff ⟨vp_in_nI (by omega) (by decide), swing_s hk (by rw [q2 _ 0 (by omega)]; exact ek) (by have := Nat.mod_lt ((dd - 48) / 7 ^ j) (show 0 < 7 by decide); omega) (by rw [eb]; exact hb) (fun c' ⟨u1, u2, u3⟩ => hΦ _ _ ⟨?_, fun i hi => ?_, fun a b hab => ?_, u3.trans q3⟩)⟩ (nI_ge hj (by omega))
      · rw [Nat.pow_succ, Nat.div_div_eq_div_mul]
      · by_cases e : i = j
        · subst e
          rw [u1, eb, ek]
          simp only [dAct]
          rw [if_pos (by omega)]
        · rw [← q1 i (by omega)]
          unfold bl
          rw [u2 _ 3 (by omega), u2 _ 4 (by omega), u2 _ 5 (by omega)]
      · rw [u2 a b (by omega)]
        exact q2 a b (by omega)
/-- a deed is done: it is noted, and the bells are as it makes them -/
def Acted (c c' : St) (n d dd : Nat) : Prop := (∀ i, i < n → bl c' (28 + i) = dAct dd i (c.1 (28 + i) 0) (bl c (28 + i))) ∧ c'.1 25 4 = nI (d + 1) ∧ c'.1 27 d = nI dd ∧ (∀ a b, ¬ (28 ≤ a ∧ a < 28 + n ∧ 3 ≤ b ∧ b ≤ 5) → ¬ (a = 25 ∧ b = 4) → ¬ (a = 27 ∧ b = d) → c'.1 a b = c.1 a b) ∧ c'.2 = c.2
theorem act_s {c : St} {n d dd : Nat} (hn : n ≤ 6) (h2 : c.1 25 2 = nI n) (h4 : c.1 25 4 = nI d) (hd : d < 40) (hdd : dd < 117697) (hB : ∀ i, i < n → (∃ k, k < 6 ∧ c.1 (28 + i) 0 = nI k) ∧ BlOK (bl c (28 + i))) {K : St → Prop} (hK : ∀ c', Acted c c' n d dd → K c') : wp_X7_act 25 (nI dd) c K := by
  unfold wp_X7_act J_X7_act_34
  rw [h4, nI_clamp (by omega), uI_c (by omega), h4, show nI d + 1 = nI (d + 1) from nI_1 d]
  refine ite_ff ⟨vp_in_nI hd (by decide), ?_⟩ (nI_ge hd (by decide))
  have e28 : ∀ i, 25 + 3 + i = 28 + i := fun i => rfl
  have same : ∀ i, i < n → ∀ j, (uI (uI c (25 + 2) d (nI dd)) 25 4 (nI (d + 1))).1 (28 + i) j = c.1 (28 + i) j := fun i hi j => by rw [uI_c (by omega), uI_c (by omega)]
  have sbl : ∀ i, i < n → bl (uI (uI c (25 + 2) d (nI dd)) 25 4 (nI (d + 1))) (28 + i) = bl c (28 + i) := fun i hi => by unfold bl; rw [same i hi, same i hi, same i hi]
  refine perform_s (n := n) hn (by rw [uI_n (by omega), uI_c (by omega)]; exact h2) hdd (fun i hi => ?_) (fun c' ⟨u1, u2, u3⟩ => hK c' ⟨fun i hi => ?_, ?_, ?_, fun a b h1 h2 h3 => ?_, u3⟩)
  · rw [e28, same i hi, sbl i hi]; exact hB i hi
  · have := u1 i hi
    dsimp only at this
    rw [e28, same i hi, sbl i hi] at this
    exact this
  · rw [u2 25 4 (by omega), uI_s]
  · rw [u2 27 d (by omega), uI_c (by omega), uI_s]
  · rw [u2 a b (by omega)]
    simp only [uI_1]
    rw [if_neg (by omega), if_neg (by omega)]
/-- the reference's copies -/
theorem copyAll_s {m : St} {f t len : Nat} (hf : f + len ≤ 5280) (ht : t + len ≤ 5280) (hdis : f + len ≤ t ∨ t + len ≤ f) {K : St → Prop} (hK : ∀ m', (∀ j, j < len → m'.1 1 (t + j) = m.1 1 (f + j)) → (∀ a b, a ≠ 1 ∨ b < t ∨ t + len ≤ b → m'.1 a b = m.1 a b) → m'.2 = m.2 → K m') : wp_X9_copyAll (nI f) (nI t) (nI len) m K := by
  unfold wp_X9_copyAll L_X9_copyAll_3
  refine for2_1 len (fun q τ => (∀ j, j < q → τ.1 1 (t + j) = m.1 1 (f + j)) ∧ (∀ a b, a ≠ 1 ∨ b < t ∨ t + q ≤ b → τ.1 a b = m.1 a b) ∧ τ.2 = m.2) ?_ ?_ 0 _ (Nat.zero_le _) ⟨fun j hj => by omega, fun _ _ _ => rfl, rfl⟩
  · rintro τ Φ ⟨q1, q2, q3⟩
    unfold B_X9_copyAll_3
    exact ite_tt (hK τ q1 q2 q3) (Int32.le_refl _)
  · rintro q τ Φ hq ⟨q1, q2, q3⟩ hΦ
    unfold B_X9_copyAll_3
    have i1 : (nI f + nI q).toNatClampNeg = f + q := by simp (disch := omega) only [lit_nI, nI_add, pk_mul, nI_clamp, vp_nI, nI_inj, nI_lt', nI_le', nI_neg1, nI_neg9, nI_neg3, neg1_nI, neg9_nI, neg_l0, neg_g0, ↓reduceIte, true_and, and_true, not_true_eq_false, not_false_eq_true, Nat.reduceEqDiff, Nat.reduceLeDiff, Nat.reduceAdd, Nat.reduceSub, Nat.reduceDiv, Nat.reduceMod, Nat.reducePow, Nat.reduceLT, Nat.reduceMul, Nat.not_lt_zero, Nat.zero_le, Nat.succ_ne_self, one_ne0, zero_ne1, ne_eq]
    have i2 : vp_in (nI f + nI q) 5280 := by simp (disch := omega) only [lit_nI, nI_add, pk_mul, nI_clamp, vp_nI, nI_inj, nI_lt', nI_le', nI_neg1, nI_neg9, nI_neg3, neg1_nI, neg9_nI, neg_l0, neg_g0, ↓reduceIte, true_and, and_true, not_true_eq_false, not_false_eq_true, Nat.reduceEqDiff, Nat.reduceLeDiff, Nat.reduceAdd, Nat.reduceSub, Nat.reduceDiv, Nat.reduceMod, Nat.reducePow, Nat.reduceLT, Nat.reduceMul, Nat.not_lt_zero, Nat.zero_le, Nat.succ_ne_self, one_ne0, zero_ne1, ne_eq]; omega
    have i3 : (nI t + nI q).toNatClampNeg = t + q := by simp (disch := omega) only [lit_nI, nI_add, pk_mul, nI_clamp, vp_nI, nI_inj, nI_lt', nI_le', nI_neg1, nI_neg9, nI_neg3, neg1_nI, neg9_nI, neg_l0, neg_g0, ↓reduceIte, true_and, and_true, not_true_eq_false, not_false_eq_true, Nat.reduceEqDiff, Nat.reduceLeDiff, Nat.reduceAdd, Nat.reduceSub, Nat.reduceDiv, Nat.reduceMod, Nat.reducePow, Nat.reduceLT, Nat.reduceMul, Nat.not_lt_zero, Nat.zero_le, Nat.succ_ne_self, one_ne0, zero_ne1, ne_eq]
    have i4 : vp_in (nI t + nI q) 5280 := by simp (disch := omega) only [lit_nI, nI_add, pk_mul, nI_clamp, vp_nI, nI_inj, nI_lt', nI_le', nI_neg1, nI_neg9, nI_neg3, neg1_nI, neg9_nI, neg_l0, neg_g0, ↓reduceIte, true_and, and_true, not_true_eq_false, not_false_eq_true, Nat.reduceEqDiff, Nat.reduceLeDiff, Nat.reduceAdd, Nat.reduceSub, Nat.reduceDiv, Nat.reduceMod, Nat.reducePow, Nat.reduceLT, Nat.reduceMul, Nat.not_lt_zero, Nat.zero_le, Nat.succ_ne_self, one_ne0, zero_ne1, ne_eq]; omega
    rw [i1, i3, show nI q + 1 = nI (q + 1) from nI_1 q]
    refine ite_ff ⟨i2, i4, hΦ _ ⟨fun j hj => ?_, fun a b hab => ?_, q3⟩⟩ (nI_ge hq (by omega))
    · by_cases e : j = q
      · subst e; rw [uI_s, q2 _ _ (by omega)]
      · rw [uI_n (by omega)]; exact q1 j (by omega)
    · rw [uI_1, if_neg (by omega)]
      exact q2 a b (by omega)
/-- the state as it was is minded -/
def Minded (m m' : St) (d : Nat) : Prop := (∀ j, j < 32 → m'.1 1 (32 * (d + 1) + j) = m.1 1 j) ∧ m'.1 0 1 = nI (d + 1) ∧ (∀ a b, ¬ (a = 1 ∧ 32 * (d + 1) ≤ b ∧ b < 32 * (d + 1) + 32) → ¬ (a = 0 ∧ b = 1) → m'.1 a b = m.1 a b) ∧ m'.2 = m.2
theorem minds_s {m : St} {d : Nat} (hd : d < 40) (h : m.1 0 1 = nI d) {K : St → Prop} (hK : ∀ m', Minded m m' d → K m') : wp_X9_minds m K := by
  unfold wp_X9_minds
  rw [h]
  have e : (32 * (nI d + 1) : Int32) = nI (32 * (d + 1)) := by simp (disch := omega) only [lit_nI, nI_add, pk_mul, nI_clamp, vp_nI, nI_inj, nI_lt', nI_le', nI_neg1, nI_neg9, nI_neg3, neg1_nI, neg9_nI, neg_l0, neg_g0, ↓reduceIte, true_and, and_true, not_true_eq_false, not_false_eq_true, Nat.reduceEqDiff, Nat.reduceLeDiff, Nat.reduceAdd, Nat.reduceSub, Nat.reduceDiv, Nat.reduceMod, Nat.reducePow, Nat.reduceLT, Nat.reduceMul, Nat.not_lt_zero, Nat.zero_le, Nat.succ_ne_self, one_ne0, zero_ne1, ne_eq]
  rw [e]
  refine copyAll_s (f := 0) (t := 32 * (d + 1)) (len := 32) (by omega) (by omega) (by omega) (fun m' g1 g2 g3 => hK _ ⟨fun j hj => ?_, ?_, fun a b h1 h2 => ?_, g3⟩)
  · rw [uI_c (by omega), g1 j hj, Nat.zero_add]
  · rw [uI_s, g2 0 1 (by omega), h]; exact nI_1 d
  · rw [uI_1, if_neg h2]
    exact g2 a b (by omega)

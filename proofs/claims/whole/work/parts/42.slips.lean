/-! chances: the common divisor, the slips -/
theorem lrm_toInt (a b : Int64) : (lrm a b).toInt = a.toInt.tmod b.toInt := by
  have e : a.toInt - a.toInt.tdiv b.toInt * b.toInt = (a % b).toInt := by rw [Int64.toInt_mod, Int.tmod_def, Int.mul_comm]
  unfold lrm
  rw [Int64.toInt_sub, Int64.toInt_mul, Int64.toInt_div, Int.bmod_mul_bmod, Int.sub_bmod_bmod, e, ← Int64.toInt_mod]
  exact Int64.toInt_bmod _
theorem lrm_abs (a b : Int64) : (lrm a b).toInt.natAbs = a.toInt.natAbs % b.toInt.natAbs := by rw [lrm_toInt, Int.natAbs_tmod]
theorem l0_abs {b : Int64} (h : b.toInt.natAbs = 0) : b = 0 := by
  apply Int64.toInt_inj.mp
  rw [Int.natAbs_eq_zero.mp h]; rfl
theorem l0_pos {b : Int64} (h : b ≠ 0) : 0 < b.toInt.natAbs := by
  rcases Nat.eq_zero_or_pos b.toInt.natAbs with e | e
  · exact absurd (l0_abs e) h
  · exact e
def gcdL : Nat → Int64 → Int64 → Int64
  | 0, a, _ => a
  | f + 1, a, b => if b = 0 then a else gcdL f b (lrm a b)
def gcdE : Nat → Int64 → Int64 → Prop
  | 0, _, b => b = 0
  | f + 1, a, b => b = 0 ∨ gcdE f b (lrm a b)
theorem mod_half {B R : Nat} (h0 : 0 < R) (h : R < B) : 2 * (B % R) < B := by
  have h1 := Nat.mod_lt B h0
  have h2 := Nat.mod_add_div B R
  have h3 : 1 ≤ B / R := (Nat.le_div_iff_mul_le h0).mpr (by omega)
  have h4 : R * 1 ≤ R * (B / R) := Nat.mul_le_mul_left R h3
  omega
theorem gcdE_all : ∀ (j : Nat) (a b : Int64), b.toInt.natAbs < 2 ^ j → gcdE (2 * j) a b := by
  intro j
  induction j with
  | zero =>
    intro a b h
    exact l0_abs (by omega)
  | succ j ih =>
    intro a b h
    show b = 0 ∨ gcdE (2 * j + 1) b (lrm a b)
    by_cases hb : b = 0
    · exact Or.inl hb
    · right
      show lrm a b = 0 ∨ gcdE (2 * j) (lrm a b) (lrm b (lrm a b))
      by_cases hr : lrm a b = 0
      · exact Or.inl hr
      · right
        refine ih _ _ ?_
        have p1 := l0_pos hb
        have p2 := l0_pos hr
        have p3 : (lrm a b).toInt.natAbs < b.toInt.natAbs := by rw [lrm_abs]; exact Nat.mod_lt _ p1
        have p4 := mod_half p2 p3
        rw [lrm_abs]
        rw [Nat.pow_succ] at h
        omega
theorem gcdE_200 (a b : Int64) : gcdE 200 a b := by
  refine gcdE_all 100 a b ?_
  have h1 := Int64.toInt_lt b
  have h2 := Int64.le_toInt b
  have h3 : b.toInt.natAbs ≤ 2 ^ 63 := by omega
  exact Nat.lt_of_le_of_lt h3 (by decide)
theorem gcdL_ne : ∀ (f : Nat) (a b : Int64), gcdE f a b → (a ≠ 0 ∨ b ≠ 0) → gcdL f a b ≠ 0 := by
  intro f
  induction f with
  | zero =>
    intro a b h1 h2
    rcases h2 with h2 | h2
    · exact h2
    · exact absurd h1 h2
  | succ f ih =>
    intro a b h1 h2
    simp only [gcdL]
    by_cases hb : b = 0
    · rw [if_pos hb]
      rcases h2 with h2 | h2
      · exact h2
      · exact absurd hb h2
    · rw [if_neg hb]
      rcases h1 with h1 | h1
      · exact absurd h1 hb
      · exact ih _ _ h1 (Or.inl hb)
theorem divisor_s {a b : Int64} {K : Int64 → Prop} (hK : K (gcdL 200 a b)) : wp_X8_commonDivisor a b K := by
  obtain ⟨G, G0, Gs, Ge⟩ : ∃ G : Nat → Int64 → Int64 → Int64, (∀ a b, G 0 a b = a) ∧ (∀ f a b, G (f + 1) a b = if b = 0 then a else G f b (lrm a b)) ∧ gcdL = G := ⟨gcdL, fun _ _ => rfl, fun _ _ _ => rfl, rfl⟩
  rw [Ge] at hK
  unfold wp_X8_commonDivisor L_X8_commonDivisor_9
  refine for3_3 200 (fun k x y => G (200 - k) x y = G 200 a b) ?_ ?_ 0 _ _ (Nat.zero_le _) rfl
  · rintro x y Φ hI
    unfold B_X8_commonDivisor_9 J_X8_commonDivisor_45
    rw [← hI, Nat.sub_self, G0] at hK
    exact ite_tt hK (by decide)
  · rintro k x y Φ hk hI hΦ
    unfold B_X8_commonDivisor_9 J_X8_commonDivisor_45
    rw [show 200 - k = (200 - (k + 1)) + 1 by omega, Gs] at hI
    rw [show nI k + 1 = nI (k + 1) from nI_1 k]
    refine ite_ff (ite_c (fun z => ?_) (fun z => ⟨?_, hΦ _ _ ?_⟩)) (nI_ge hk (by decide))
    · rw [lg_eq0] at z
      rw [if_pos z] at hI
      rw [hI]; exact hK
    · rw [lg_eq0] at z; exact z
    · rw [lg_eq0] at z
      rw [if_neg z] at hI
      exact hI
theorem tellParts_s {c : St} {a b : Int64} (hb : b ≠ 0) {K : Int32 → St → Prop} (hK : K 1 (uL (uL c 0 13 (a / gcdL 200 a b)) 0 14 (b / gcdL 200 a b))) : wp_X8_tellParts a b c K := by
  unfold wp_X8_tellParts J_X8_tellParts_30
  have hg := gcdL_ne 200 a b (gcdE_200 a b) (Or.inr hb)
  exact divisor_s (ite_ff ⟨hg, hg, hK⟩ (by rw [lg_eq0]; exact hg))
theorem chance_it {v1 v3 : Int64} {m : St} {K : Int32 → St → Prop} (g : Int64) (hg : g ≠ 0) (hK : K 1 (uL (uL m 0 11 (v1 / g)) 0 12 (v3 / g))) : ∀ (f : Nat) (x y : Int64), gcdE f x y → gcdL f x y = g → it2 (B_X9_chance_6 v1 v3 m K) (f + 1) x y := by
  have base : ∀ (Φ : Int64 → Int64 → Prop) (x : Int64), x = g → B_X9_chance_6 v1 v3 m K Φ x 0 := by
    rintro Φ _ rfl
    unfold B_X9_chance_6
    exact ite_tt ⟨hg, hg, hK⟩ (by rw [lg_eq0])
  intro f
  induction f with
  | zero =>
    intro x y h1 h2
    have h1' : y = 0 := h1
    subst h1'
    exact base _ x h2
  | succ f ih =>
    intro x y h1 h2
    by_cases hy : y = 0
    · subst hy
      have h2' : x = g := by
        have : gcdL (f + 1) x 0 = x := if_pos rfl
        rw [← this]; exact h2
      exact base _ x h2'
    · have h2' : gcdL f y (lrm x y) = g := by
        have : gcdL (f + 1) x y = gcdL f y (lrm x y) := if_neg hy
        rw [← this]; exact h2
      rcases h1 with h1 | h1
      · exact absurd h1 hy
      · show B_X9_chance_6 v1 v3 m K (it2 (B_X9_chance_6 v1 v3 m K) (f + 1)) x y
        have := ih y (lrm x y) h1 h2'
        generalize it2 (B_X9_chance_6 v1 v3 m K) (f + 1) = Ψ at this
        unfold B_X9_chance_6
        exact ite_ff ⟨hy, this⟩ (by rw [lg_eq0]; exact hy)
theorem chance_s {m : St} {a b : Int64} (hb : b ≠ 0) {K : Int32 → St → Prop} (hK : K 1 (uL (uL m 0 11 (a / gcdL 200 a b)) 0 12 (b / gcdL 200 a b))) : wp_X9_chance a b m K := by
  unfold wp_X9_chance L_X9_chance_6
  exact ⟨_, chance_it _ (gcdL_ne 200 a b (gcdE_200 a b) (Or.inr hb)) hK 200 a b (gcdE_200 a b) rfl⟩
/-- twelves -/
def pw12 : Nat → Int64
  | 0 => 1
  | n + 1 => pw12 n * 12
theorem pw12_ne : ∀ n, n < 9 → pw12 n ≠ 0 := by decide
/-- parts behind n strokes -/
def SL (k q h : Nat) (t1 t2 : Int64) : Nat → Nat → Int64
  | 0, x => if x = h then 1 else 0
  | n + 1, y => 0 + cntL k q t1 (SL k q h t1 t2 n) 21 y + cntL k (q + 1) t2 (SL k q h t1 t2 n) 21 y
theorem slip_s {c : St} {k h b q n : Nat} {v4 : Int32} (hk : k < 6) (hh : h ≤ 20) (hb : c.1 b 0 = nI k) (hb3 : c.1 b 3 = nI h) (hq : q < 7) (hn : n ≤ 8) {K : Int64 → St → Prop} (hK : ∀ τ, FL c τ (SL k q h (12 - v4).toInt64 v4.toInt64 n) (fun _ => 0) → K (pw12 n) τ) : wp_X8_slip b (nI q) (nI n) v4 c K := by
  obtain ⟨S, S0, Ss, Se⟩ : ∃ S : Nat → Nat → Int64, S 0 = (fun x => if x = h then 1 else 0) ∧ (∀ j, S (j + 1) = fun y => 0 + cntL k q (12 - v4).toInt64 (S j) 21 y + cntL k (q + 1) v4.toInt64 (S j) 21 y) ∧ SL k q h (12 - v4).toInt64 v4.toInt64 = S := ⟨SL k q h (12 - v4).toInt64 v4.toInt64, rfl, fun _ => rfl, rfl⟩
  obtain ⟨P, P0, Ps, Pe⟩ : ∃ P : Nat → Int64, P 0 = 1 ∧ (∀ j, P (j + 1) = P j * 12) ∧ pw12 = P := ⟨pw12, rfl, fun _ => rfl, rfl⟩
  rw [Se, Pe] at hK
  unfold wp_X8_slip L_X8_slip_17
  rw [hb3]
  refine flowBegin_s hh (fun t0 h0 => ?_)
  refine for3_2 n (fun j x τ => x = P j ∧ FL c τ (S j) (fun _ => 0)) ?_ ?_ 0 _ _ (Nat.zero_le _) ⟨P0.symm, by rw [S0]; exact h0⟩
  · rintro _ τ Φ ⟨rfl, ht⟩
    unfold B_X8_slip_17
    exact ite_tt (hK τ ht) (Int32.le_refl _)
  · rintro j _ τ Φ hj ⟨rfl, ht⟩ hΦ
    unfold B_X8_slip_17
    rw [show nI j + 1 = nI (j + 1) from nI_1 j, show nI q + 1 = nI (q + 1) from nI_1 q, ht.1, hb]
    refine ite_ff (spread_s hk (by omega) ht (fun τ1 h1 => ?_)) (nI_ge hj (by omega))
    rw [h1.1, hb]
    refine spread_s hk (by omega) h1 (fun τ2 h2 => turn_s h2 (fun τ3 h3 => hΦ _ _ ⟨(Ps j).symm, ?_⟩))
    rw [Ss]; exact h3
/-- one addition in the reference's next row -/
def uA (m : St) (w : Nat) (d : Int64) : St := if w = 21 then uL m 19 0 (m.2 19 0 + 0) else uL m 19 w (m.2 19 w + d)
theorem uA_19 {m : St} {w : Nat} {d : Int64} {y : Nat} (hy : y < 21) : (uA m w d).2 19 y = if w = y then m.2 19 y + d else m.2 19 y := by
  unfold uA
  by_cases e : w = 21
  · rw [if_pos e, if_neg (by omega)]
    by_cases e2 : y = 0
    · subst e2; rw [uL_s, Int64.add_zero]
    · rw [uL_n e2]
  · rw [if_neg e]
    by_cases e2 : w = y
    · subst e2; rw [uL_s, if_pos rfl]
    · rw [uL_n (fun q => e2 q.symm), if_neg e2]
theorem uA_o {m : St} {w : Nat} {d : Int64} {a y : Nat} (ha : a ≠ 19) : (uA m w d).2 a y = m.2 a y := by
  unfold uA
  split <;> exact uL_c ha
theorem uA_1 {m : St} {w : Nat} {d : Int64} : (uA m w d).1 = m.1 := by
  unfold uA
  split <;> rfl
theorem slipM_s {v1 v2 v3 v4 v7 : Int32} {v5 : Int64} {m : St} {j w s : Nat} {K : Int64 → St → Prop} {Φ48 : Int64 → Int32 → St → Prop} {Φ89 : Int32 → St → Prop} (hw : w ≤ 21) (hs : s ≤ 21) (hj : j < 21) (hK : Φ89 (nI (j + 1)) (uA (uA m w (m.2 18 j * (12 - v4).toInt64)) s (m.2 18 j * v4.toInt64))) : if eA w = -1 then J_X9_laySlips_146 v1 v2 v3 v4 v5 v7 (nI j) (eA w) (eA s) 19 21 0 m K Φ48 Φ89 else J_X9_laySlips_146 v1 v2 v3 v4 v5 v7 (nI j) (eA w) (eA s) 19 21 (eA w) m K Φ48 Φ89 := by
  have hvj : vp_in (nI j) 21 := vp_in_nI hj (by decide)
  have hv0 : vp_in 0 21 := vp_in_nI (n := 0) (by decide) (by decide)
  have cj : (nI j).toNatClampNeg = j := nI_clamp (by omega)
  have c0 : (0 : Int32).toNatClampNeg = 0 := rfl
  have tail : ∀ m' : St, m'.2 18 j = m.2 18 j → (Φ89 (nI (j + 1)) (uA m' s (m.2 18 j * v4.toInt64))) → (if eA s = -1 then J_X9_laySlips_190 v1 v2 v3 v4 v5 v7 (nI j) (eA s) 19 21 0 m' K Φ48 Φ89 else J_X9_laySlips_190 v1 v2 v3 v4 v5 v7 (nI j) (eA s) 19 21 (eA s) m' K Φ48 Φ89) := by
    intro m' e18 hk
    unfold J_X9_laySlips_190 J_X9_laySlips_213
    rw [show nI j + 1 = nI (j + 1) from nI_1 j, cj, e18]
    unfold uA at hk
    by_cases es : s = 21
    · rw [if_pos es] at hk
      have e1 : eA s = -1 := by rw [eA_m1 hs]; exact es
      exact ite_tt ⟨hv0, ite_tt ⟨hv0, hk⟩ e1⟩ e1
    · rw [if_neg es] at hk
      have e1 : ¬ eA s = -1 := by rw [eA_m1 hs]; exact es
      have hv : vp_in (eA s) 21 := by rw [eA_n es]; exact vp_in_nI (by omega) (by decide)
      have cs : (eA s).toNatClampNeg = s := by rw [eA_n es]; exact nI_clamp (by omega)
      rw [cs]
      exact ite_ff ⟨hv, ite_ff ⟨hvj, hv, hk⟩ e1⟩ e1
  unfold J_X9_laySlips_146 J_X9_laySlips_172
  rw [cj]
  by_cases es : w = 21
  · have e1 : eA w = -1 := by rw [eA_m1 hw]; exact es
    refine ite_tt ⟨hv0, ite_tt ⟨hv0, tail _ (uL_c (by decide)) ?_⟩ e1⟩ e1
    have e2 : uA m w (m.2 18 j * (12 - v4).toInt64) = uL m 19 0 (m.2 19 0 + 0) := by unfold uA; rw [if_pos es]
    rw [e2] at hK
    exact hK
  · have e1 : ¬ eA w = -1 := by rw [eA_m1 hw]; exact es
    have hv : vp_in (eA w) 21 := by rw [eA_n es]; exact vp_in_nI (by omega) (by decide)
    have cs : (eA w).toNatClampNeg = w := by rw [eA_n es]; exact nI_clamp (by omega)
    have e2 : uA m w (m.2 18 j * (12 - v4).toInt64) = uL m 19 w (m.2 19 w + m.2 18 j * (12 - v4).toInt64) := by unfold uA; rw [if_neg es]
    rw [e2] at hK
    rw [cs]
    exact ite_ff ⟨hv, ite_ff ⟨hvj, hv, tail _ (uL_c (by decide)) hK⟩ e1⟩ e1
theorem addX (x y z w : Int64) : x + (y + w) + z = x + y + z + w := by
  rw [← Int64.add_assoc, Int64.add_assoc (x + y), Int64.add_comm w, ← Int64.add_assoc]
theorem laySlips_s {m : St} {k h i q n : Nat} {v4 : Int32} (hk : k < 6) (hh : h ≤ 20) (hi : i < 6) (hb : m.1 1 (2 + i) = nI k) (hb3 : m.1 1 (14 + i) = nI h) (hq : q < 7) (hn : n ≤ 8) {K : Int64 → St → Prop} (hK : ∀ τ : St, τ.1 = m.1 → (∀ x, x < 21 → τ.2 18 x = SL k q h (12 - v4).toInt64 v4.toInt64 n x) → (∀ a b, a ≠ 18 → a ≠ 19 → τ.2 a b = m.2 a b) → K (pw12 n) τ) : wp_X9_laySlips (nI i) (nI q) (nI n) v4 m K := by
  obtain ⟨S, S0, Ss, Se⟩ : ∃ S : Nat → Nat → Int64, (∀ x, S 0 x = if x = h then 1 else 0) ∧ (∀ j y, S (j + 1) y = 0 + cntL k q (12 - v4).toInt64 (S j) 21 y + cntL k (q + 1) v4.toInt64 (S j) 21 y) ∧ SL k q h (12 - v4).toInt64 v4.toInt64 = S := ⟨SL k q h (12 - v4).toInt64 v4.toInt64, fun _ => rfl, fun _ _ => rfl, rfl⟩
  obtain ⟨P, P0, Ps, Pe⟩ : ∃ P : Nat → Int64, P 0 = 1 ∧ (∀ j, P (j + 1) = P j * 12) ∧ pw12 = P := ⟨pw12, rfl, fun _ => rfl, rfl⟩
  rw [Se, Pe] at hK
  have i1 : (14 + nI i).toNatClampNeg = 14 + i := by simp (disch := omega) only [lit_nI, nI_add, pk_mul, nI_clamp, vp_nI, nI_inj, nI_lt', nI_le', nI_neg1, nI_neg9, nI_neg3, neg1_nI, neg9_nI, neg_l0, neg_g0, ↓reduceIte, true_and, and_true, not_true_eq_false, not_false_eq_true, Nat.reduceEqDiff, Nat.reduceLeDiff, Nat.reduceAdd, Nat.reduceSub, Nat.reduceDiv, Nat.reduceMod, Nat.reducePow, Nat.reduceLT, Nat.reduceMul, Nat.not_lt_zero, Nat.zero_le, Nat.succ_ne_self, one_ne0, zero_ne1, ne_eq]
  have i2 : vp_in (14 + nI i) 5280 := by simp (disch := omega) only [lit_nI, nI_add, pk_mul, nI_clamp, vp_nI, nI_inj, nI_lt', nI_le', nI_neg1, nI_neg9, nI_neg3, neg1_nI, neg9_nI, neg_l0, neg_g0, ↓reduceIte, true_and, and_true, not_true_eq_false, not_false_eq_true, Nat.reduceEqDiff, Nat.reduceLeDiff, Nat.reduceAdd, Nat.reduceSub, Nat.reduceDiv, Nat.reduceMod, Nat.reducePow, Nat.reduceLT, Nat.reduceMul, Nat.not_lt_zero, Nat.zero_le, Nat.succ_ne_self, one_ne0, zero_ne1, ne_eq]; omega
  have i3 : (2 + nI i).toNatClampNeg = 2 + i := by simp (disch := omega) only [lit_nI, nI_add, pk_mul, nI_clamp, vp_nI, nI_inj, nI_lt', nI_le', nI_neg1, nI_neg9, nI_neg3, neg1_nI, neg9_nI, neg_l0, neg_g0, ↓reduceIte, true_and, and_true, not_true_eq_false, not_false_eq_true, Nat.reduceEqDiff, Nat.reduceLeDiff, Nat.reduceAdd, Nat.reduceSub, Nat.reduceDiv, Nat.reduceMod, Nat.reducePow, Nat.reduceLT, Nat.reduceMul, Nat.not_lt_zero, Nat.zero_le, Nat.succ_ne_self, one_ne0, zero_ne1, ne_eq]
  have i4 : vp_in (2 + nI i) 5280 := by simp (disch := omega) only [lit_nI, nI_add, pk_mul, nI_clamp, vp_nI, nI_inj, nI_lt', nI_le', nI_neg1, nI_neg9, nI_neg3, neg1_nI, neg9_nI, neg_l0, neg_g0, ↓reduceIte, true_and, and_true, not_true_eq_false, not_false_eq_true, Nat.reduceEqDiff, Nat.reduceLeDiff, Nat.reduceAdd, Nat.reduceSub, Nat.reduceDiv, Nat.reduceMod, Nat.reducePow, Nat.reduceLT, Nat.reduceMul, Nat.not_lt_zero, Nat.zero_le, Nat.succ_ne_self, one_ne0, zero_ne1, ne_eq]; omega
  unfold wp_X9_laySlips L_X9_laySlips_6
  refine for2_1 21 (fun j τ => τ.1 = m.1 ∧ (∀ x, x < j → τ.2 18 x = S 0 x) ∧ ∀ a b, a ≠ 18 → a ≠ 19 → τ.2 a b = m.2 a b) ?_ ?_ 0 _ (Nat.zero_le _) ⟨rfl, fun x hx => by omega, fun _ _ _ _ => rfl⟩
  · rintro τ Φ ⟨t1, t2, t3⟩
    unfold B_X9_laySlips_6 L_X9_laySlips_48
    refine ite_tt ?_ (by decide)
    refine for3_2 n (fun j x τ => x = P j ∧ τ.1 = m.1 ∧ (∀ x, x < 21 → τ.2 18 x = S j x) ∧ ∀ a b, a ≠ 18 → a ≠ 19 → τ.2 a b = m.2 a b) ?_ ?_ 0 _ _ (Nat.zero_le _) ⟨P0.symm, t1, t2, t3⟩
    · rintro _ τ Φ' ⟨rfl, u1, u2, u3⟩
      unfold B_X9_laySlips_48
      exact ite_tt (hK τ u1 u2 u3) (Int32.le_refl _)
    · rintro j _ τ Φ' hj ⟨rfl, u1, u2, u3⟩ hΦ'
      unfold B_X9_laySlips_48 L_X9_laySlips_65
      refine ite_ff ?_ (nI_ge hj (by omega))
      rw [← Ps]
      obtain ⟨F, Fe⟩ : ∃ F, S j = F := ⟨_, rfl⟩
      have Sj := Ss j
      rw [Fe] at Sj u2
      obtain ⟨C, C0, Cs, Ce⟩ : ∃ C : Nat → Nat → Int64, (∀ y, C 0 y = 0) ∧ (∀ n y, C (n + 1) y = if aN k n q = y then C n y + F n * (12 - v4).toInt64 else C n y) ∧ cntL k q (12 - v4).toInt64 F = C := ⟨cntL k q (12 - v4).toInt64 F, fun _ => rfl, fun _ _ => rfl, rfl⟩
      obtain ⟨D, D0, Ds, De⟩ : ∃ C : Nat → Nat → Int64, (∀ y, C 0 y = 0) ∧ (∀ n y, C (n + 1) y = if aN k n (q + 1) = y then C n y + F n * v4.toInt64 else C n y) ∧ cntL k (q + 1) v4.toInt64 F = C := ⟨cntL k (q + 1) v4.toInt64 F, fun _ => rfl, fun _ _ => rfl, rfl⟩
      rw [Ce, De] at Sj
      refine for2_1 21 (fun l τ => τ.1 = m.1 ∧ (∀ x, x < 21 → τ.2 18 x = F x) ∧ (∀ x, x < l → τ.2 19 x = 0) ∧ ∀ a b, a ≠ 18 → a ≠ 19 → τ.2 a b = m.2 a b) ?_ ?_ 0 _ (Nat.zero_le _) ⟨u1, u2, fun x hx => by omega, u3⟩
      · rintro τ Ψ ⟨w1, w2, w3, w4⟩
        unfold B_X9_laySlips_65 L_X9_laySlips_89
        refine ite_tt ?_ (by decide)
        refine for2_1 21 (fun l τ => τ.1 = m.1 ∧ (∀ x, x < 21 → τ.2 18 x = F x) ∧ (∀ x, x < 21 → τ.2 19 x = 0 + C l x + D l x) ∧ ∀ a b, a ≠ 18 → a ≠ 19 → τ.2 a b = m.2 a b) ?_ ?_ 0 _ (Nat.zero_le _) ⟨w1, w2, fun x hx => by rw [C0, D0, w3 x hx]; rfl, w4⟩
        · rintro τ Ψ ⟨x1, x2, x3, x4⟩
          unfold B_X9_laySlips_89 L_X9_laySlips_224
          refine ite_tt ?_ (by decide)
          refine for2_1 21 (fun l τ => τ.1 = m.1 ∧ (∀ x, x < l → τ.2 18 x = S (j + 1) x) ∧ (∀ x, x < 21 → τ.2 19 x = S (j + 1) x) ∧ ∀ a b, a ≠ 18 → a ≠ 19 → τ.2 a b = m.2 a b) ?_ ?_ 0 _ (Nat.zero_le _) ⟨x1, fun x hx => by omega, fun x hx => by rw [x3 x hx, Sj], x4⟩
          · rintro τ Ψ ⟨y1, y2, y3, y4⟩
            unfold B_X9_laySlips_224
            rw [show nI j + 1 = nI (j + 1) from nI_1 j]
            exact ite_tt (hΦ' _ _ ⟨rfl, y1, y2, y4⟩) (by decide)
          · rintro l τ Ψ hl ⟨y1, y2, y3, y4⟩ hΨ
            unfold B_X9_laySlips_224
            have hv := vp_in_nI hl (show 21 < 2 ^ 31 by decide)
            rw [nI_clamp (by omega), show nI l + 1 = nI (l + 1) from nI_1 l]
            refine ite_ff ⟨hv, hv, hΨ _ ⟨y1, fun x hx => ?_, fun x hx => (uL_c (by decide)).trans (y3 x hx), fun a b ha hb => (uL_c ha).trans (y4 a b ha hb)⟩⟩ (by rw [lit_nI, nI_lt' (by decide) (by omega)]; omega)
            by_cases e : x = l
            · subst e; rw [uL_s]; exact y3 x hl
            · rw [uL_n e]; exact y2 x (by omega)
        · rintro l τ Ψ hl ⟨x1, x2, x3, x4⟩ hΨ
          unfold B_X9_laySlips_89
          rw [i3, x1, hb, show nI q + 1 = nI (q + 1) from nI_1 q]
          refine ite_ff ⟨i4, afterM_s hk (by omega) (by omega) ⟨i4, afterM_s hk (by omega) (by omega) (slipM_s (aN_le _ _ _) (aN_le _ _ _) hl (hΨ _ ⟨?_, fun x hx => ?_, fun x hx => ?_, fun a b ha hb => ?_⟩))⟩⟩ (by rw [lit_nI, nI_lt' (by decide) (by omega)]; omega)
          · rw [uA_1, uA_1]; exact x1
          · rw [uA_o (by decide), uA_o (by decide)]; exact x2 x hx
          · rw [uA_19 hx, uA_19 hx, Cs, Ds, x3 x hx, x2 l hl]
            by_cases e1 : aN k l q = x
            · rw [if_pos e1, if_pos e1]
              by_cases e2 : aN k l (q + 1) = x
              · rw [if_pos e2, if_pos e2, ← Int64.add_assoc (0 + (C l x + F l * (12 - v4).toInt64)), addX]
              · rw [if_neg e2, if_neg e2, ← addX]
            · rw [if_neg e1, if_neg e1]
              by_cases e2 : aN k l (q + 1) = x
              · rw [if_pos e2, if_pos e2, ← Int64.add_assoc]
              · rw [if_neg e2, if_neg e2]
          · rw [uA_o hb, uA_o hb]; exact x4 a b ha hb
      · rintro l τ Ψ hl ⟨w1, w2, w3, w4⟩ hΨ
        unfold B_X9_laySlips_65
        rw [nI_clamp (by omega), show nI l + 1 = nI (l + 1) from nI_1 l]
        refine ite_ff ⟨vp_in_nI hl (by decide), hΨ _ ⟨w1, fun x hx => (uL_c (by decide)).trans (w2 x hx), fun x hx => ?_, fun a b ha hb => (uL_c hb).trans (w4 a b ha hb)⟩⟩ (by rw [lit_nI, nI_lt' (by decide) (by omega)]; omega)
        by_cases e : x = l
        · subst e; exact uL_s _ _ _ _
        · rw [uL_n e]; exact w3 x (by omega)
  · rintro j τ Φ hj ⟨t1, t2, t3⟩ hΦ
    have fin : ∀ v, v = S 0 j → J_X9_laySlips_38 (nI i) (nI q) (nI n) v4 1 (nI j) 18 21 (nI j) v τ K Φ := by
      rintro _ rfl
      unfold J_X9_laySlips_38
      rw [nI_clamp (by omega), show nI j + 1 = nI (j + 1) from nI_1 j]
      refine ⟨vp_in_nI hj (by decide), hΦ _ ⟨t1, fun x hx => ?_, fun a b ha hb => (uL_c ha).trans (t3 a b ha hb)⟩⟩
      by_cases e : x = j
      · subst e; exact uL_s _ _ _ _
      · rw [uL_n e]; exact t2 x (by omega)
    unfold B_X9_laySlips_6
    rw [i1, t1, hb3]
    refine ite_ff ⟨i2, ite_c (fun z => fin _ ?_) (fun z => fin _ ?_)⟩ (by rw [lit_nI, nI_lt' (by decide) (by omega)]; omega)
    · rw [nI_inj (by omega) (by omega)] at z
      rw [S0, if_pos z]
    · rw [nI_inj (by omega) (by omega)] at z
      rw [S0, if_neg z]
/-- who may ask for chances -/
theorem slips_j {c m : St} {n dm d : Nat} (N : Now c m n dm d) (a b e p : Int32) : ∃ ρ : Int32, (∀ K : Int32 → Prop, K ρ → wp_X8_refuseSlips a b e p c K) ∧ (∀ K : Int32 → Prop, K ρ → wp_X9_againstSlips a b e p m K) ∧ (ρ = -1 ∨ ρ = -4 ∨ (ρ = 0 ∧ ∃ i q s, i < n ∧ q < 7 ∧ s ≤ 8 ∧ a = nI i ∧ b = nI q ∧ e = nI s)) := by
  have hn6 := N.1.1
  by_cases hall : vp_in a n ∧ vp_in b 7 ∧ vp_in e 9 ∧ vp_in p 13
  · obtain ⟨ha, hb, he, hp⟩ := hall
    obtain ⟨i, hi, rfl⟩ := vp_in_of ha (by omega)
    obtain ⟨q, hq, rfl⟩ := vp_in_of hb (by decide)
    obtain ⟨s, hs, rfl⟩ := vp_in_of he (by decide)
    obtain ⟨t, ht, rfl⟩ := vp_in_of hp (by decide)
    have kc : ∀ K : Int32 → Prop, wp_X8_refuseBell (nI i) c (fun r33 => K r33) → wp_X8_refuseSlips (nI i) (nI q) (nI s) (nI t) c K := by
      intro K hK
      unfold wp_X8_refuseSlips J_X8_refuseSlips_29
      exact isPull_y hq (ite_ff (ite_ff (ite_ff (ite_ff (ite_tt hK (by rw [lit_nI, nI_le' (by omega) (by decide)]; omega)) (by rw [lit_nI, nI_lt' (by omega) (by decide)]; omega)) (by rw [lit_nI, nI_lt' (by decide) (by omega)]; omega)) (by rw [lit_nI, nI_lt' (by omega) (by decide)]; omega)) (by decide))
    have km : ∀ K : Int32 → Prop, wp_X9_isOver (nI i) m (fun r44 => if r44 = 0 then K 0 else K (-4)) → wp_X9_againstSlips (nI i) (nI q) (nI s) (nI t) m K := by
      intro K hK
      unfold wp_X9_againstSlips J_X9_againstSlips_40 J_X9_againstSlips_56
      refine isBell_y N hi (ite_ff (isPullM_y hq (ite_ff ?_ (by decide))) (by decide))
      refine inM (x := s) (l := 0) (h := 8) (by rw [toInt_L, nI_toInt (by omega)]) (by decide) (by decide) (fun _ _ => ite_ff ?_ (by decide)) (fun z => by omega)
      exact inM (x := t) (l := 0) (h := 12) (by rw [toInt_L, nI_toInt (by omega)]) (by decide) (by decide) (fun _ _ => ite_ff hK (by decide)) (fun z => by omega)
    have b4 := (N.2.2.2 i hi).1.2.2.2.1
    by_cases o : od c i = 1
    · exact ⟨-4, fun K hK => kc K (refuse_s N hi (fun _ => hK) (fun z => by omega)), fun K hK => km K (isOver_s N hi (fun _ => ite_ff hK (by decide)) (fun z => by omega)), Or.inr (Or.inl rfl)⟩
    · exact ⟨0, fun K hK => kc K (refuse_s N hi (fun z => by omega) (fun _ => hK)), fun K hK => km K (isOver_s N hi (fun z => by omega) (fun _ => ite_tt hK rfl)), Or.inr (Or.inr ⟨rfl, i, q, s, hi, hq, by omega, rfl, rfl, rfl⟩)⟩
  · refine ⟨-1, fun K hK => ?_, fun K hK => ?_, Or.inl rfl⟩
    · unfold wp_X8_refuseSlips J_X8_refuseSlips_29
      by_cases hb : vp_in b 7
      · obtain ⟨q, hq, rfl⟩ := vp_in_of hb (by decide)
        refine isPull_y hq (ite_ff (ite_c (fun _ => hK) (fun z1 => ite_c (fun _ => hK) (fun z2 => ite_c (fun _ => hK) (fun z3 => ite_c (fun z4 => ?_) (fun _ => hK))))) (by decide))
        by_cases ha : vp_in a n
        · obtain ⟨s, hs, rfl⟩ := le_nI (n := 8) (by decide) (Int32.not_lt.mp z2) (Int32.not_lt.mp z1)
          obtain ⟨t, ht, rfl⟩ := le_nI (n := 12) (by decide) z4 (Int32.not_lt.mp z3)
          exact absurd ⟨ha, hb, vp_in_nI (by omega) (by decide), vp_in_nI (by omega) (by decide)⟩ hall
        · exact refuse_bad N ha hK
      · exact isPull_n hb (ite_tt hK rfl)
    · unfold wp_X9_againstSlips J_X9_againstSlips_40
      by_cases ha : vp_in a n
      · obtain ⟨i, hi, rfl⟩ := vp_in_of ha (by omega)
        refine isBell_y N hi (ite_ff ?_ (by decide))
        by_cases hb : vp_in b 7
        · obtain ⟨q, hq, rfl⟩ := vp_in_of hb (by decide)
          refine isPullM_y hq (ite_ff ?_ (by decide))
          refine inM (x := e.toInt) (l := 0) (h := 8) (toInt_L e) (by decide) (by decide) (fun q1 q2 => ite_ff ?_ (by decide)) (fun _ => ite_tt hK rfl)
          exact inM (x := p.toInt) (l := 0) (h := 12) (toInt_L p) (by decide) (by decide) (fun r1 r2 => absurd ⟨ha, hb, vp_in_iff.mpr ⟨q1, by omega⟩, vp_in_iff.mpr ⟨r1, by omega⟩⟩ hall) (fun _ => ite_tt hK rfl)
        · exact isPullM_n hb (ite_tt hK rfl)
      · exact isBell_n N ha (ite_tt hK rfl)
theorem Rel.parts {c τ m m' : St} {F T : Nat → Int64} (h : Rel c m) (hτ : FL c τ F T) (e1 : m'.1 = m.1) (e2 : ∀ a b, a ≠ 18 → a ≠ 19 → m'.2 a b = m.2 a b) : Rel τ m' :=
  (hτ.keep h).keep (KeepC.rf _) ⟨⟨by rw [e1], by rw [e1], by rw [e1]⟩, fun _ _ => by rw [e1], fun _ _ _ => by rw [e1], e2 _ _ (by decide) (by decide), e2 _ _ (by decide) (by decide)⟩
theorem op_odds {c m : St} (h : Rel c m) (a b e p : Int32) : wp_X8_odds a b e p c (fun r c' => wp_X9_odds a b e p m (fun r' m' => r = r' ∧ Rel c' m')) := by
  obtain ⟨n, dm, d, N⟩ := h.now
  have hn := N.1.1
  obtain ⟨ρ, h1, h2, h3⟩ := slips_j N a b e p
  unfold wp_X8_odds
  refine h1 _ ?_
  rcases h3 with rfl | rfl | ⟨rfl, i, q, s, hi, hq, hs, rfl, rfl, rfl⟩
  · refine ite_ff ?_ (by decide)
    unfold wp_X9_odds
    exact h2 _ (ite_ff ⟨rfl, h⟩ (by decide))
  · refine ite_ff ?_ (by decide)
    unfold wp_X9_odds
    exact h2 _ (ite_ff ⟨rfl, h⟩ (by decide))
  · obtain ⟨⟨b1, b2, b3, b4, b5⟩, ⟨c1, c2, c3, c4⟩, d1, d2, d3, d4, d5⟩ := N.2.2.2 i hi
    refine ite_tt ⟨vp_in_nI (by omega) (by decide), ?_⟩ rfl
    rw [nI_clamp (show i < 2 ^ 31 by omega)]
    refine slip_s b1 b3 c1 c3 hq hs (fun τ hτ => ?_)
    have hp := pw12_ne s (by omega)
    obtain ⟨F, Fe⟩ : ∃ F, SL (kd c i) q (hdN c i) (12 - p).toInt64 p.toInt64 s = F := ⟨_, rfl⟩
    rw [Fe] at hτ
    obtain ⟨A, A0, As⟩ : ∃ A : Nat → Int64, A 0 = 0 ∧ ∀ j, A (j + 1) = A j + F j := ⟨sumL F, rfl, fun _ => rfl⟩
    unfold L_X8_odds_44
    refine for2_2 21 (fun j x => x = A j) ?_ ?_ 0 _ (Nat.zero_le _) A0.symm
    · rintro _ Φ rfl
      unfold B_X8_odds_44
      refine ite_tt (tellParts_s hp ?_) (by decide)
      unfold wp_X9_odds
      refine h2 _ (ite_tt (laySlips_s b1 b3 (by omega) d1 d3 hq hs (fun m' e1 e2 e3 => ?_)) (by decide))
      rw [Fe] at e2
      unfold L_X9_odds_36
      refine for2_2 21 (fun j x => x = A j) ?_ ?_ 0 _ (Nat.zero_le _) A0.symm
      · rintro _ Ψ rfl
        unfold B_X9_odds_36
        exact ite_tt (chance_s hp ⟨rfl, (h.parts hτ e1 e3).tellL _ _⟩) (by decide)
      · rintro j _ Ψ hj rfl hΨ
        unfold B_X9_odds_36
        rw [nI_clamp (by omega), show nI j + 1 = nI (j + 1) from nI_1 j, e2 j hj]
        exact ite_ff ⟨vp_in_nI hj (by decide), hΨ _ (As j).symm⟩ (by rw [lit_nI, nI_lt' (by decide) (by omega)]; omega)
    · rintro j _ Φ hj rfl hΦ
      unfold B_X8_odds_44
      rw [nI_clamp (by omega), show nI j + 1 = nI (j + 1) from nI_1 j, hτ.2.1 j hj]
      exact ite_ff ⟨vp_in_nI hj (by decide), hΦ _ (As j).symm⟩ (nI_ge hj (by decide))
theorem op_mid {c m : St} (h : Rel c m) (a b e p : Int32) : wp_X8_mid a b e p c (fun r c' => wp_X9_mid a b e p m (fun r' m' => r = r' ∧ Rel c' m')) := by
  obtain ⟨n, dm, d, N⟩ := h.now
  have hn := N.1.1
  obtain ⟨ρ, h1, h2, h3⟩ := slips_j N a b e p
  unfold wp_X8_mid
  refine h1 _ ?_
  rcases h3 with rfl | rfl | ⟨rfl, i, q, s, hi, hq, hs, rfl, rfl, rfl⟩
  · refine ite_ff ?_ (by decide)
    unfold wp_X9_mid
    exact h2 _ (ite_ff ⟨rfl, h⟩ (by decide))
  · refine ite_ff ?_ (by decide)
    unfold wp_X9_mid
    exact h2 _ (ite_ff ⟨rfl, h⟩ (by decide))
  · obtain ⟨⟨b1, b2, b3, b4, b5⟩, ⟨c1, c2, c3, c4⟩, d1, d2, d3, d4, d5⟩ := N.2.2.2 i hi
    refine ite_tt ⟨vp_in_nI (by omega) (by decide), ?_⟩ rfl
    rw [nI_clamp (show i < 2 ^ 31 by omega)]
    refine slip_s b1 b3 c1 c3 hq hs (fun τ hτ => ?_)
    have hp := pw12_ne s (by omega)
    obtain ⟨F, Fe⟩ : ∃ F, SL (kd c i) q (hdN c i) (12 - p).toInt64 p.toInt64 s = F := ⟨_, rfl⟩
    rw [Fe] at hτ
    obtain ⟨A, A0, As⟩ : ∃ A : Nat → Int64, A 0 = 0 ∧ ∀ j, A (j + 1) = A j + F j * (nI j).toInt64 := ⟨sumL (fun j => F j * (nI j).toInt64), rfl, fun _ => rfl⟩
    unfold L_X8_mid_44
    refine for2_2 21 (fun j x => x = A j) ?_ ?_ 0 _ (Nat.zero_le _) A0.symm
    · rintro _ Φ rfl
      unfold B_X8_mid_44
      refine ite_tt (tellParts_s hp ?_) (by decide)
      unfold wp_X9_mid
      refine h2 _ (ite_tt (laySlips_s b1 b3 (by omega) d1 d3 hq hs (fun m' e1 e2 e3 => ?_)) (by decide))
      rw [Fe] at e2
      unfold L_X9_mid_36
      refine for2_2 21 (fun j x => x = A j) ?_ ?_ 0 _ (Nat.zero_le _) A0.symm
      · rintro _ Ψ rfl
        unfold B_X9_mid_36
        exact ite_tt (chance_s hp ⟨rfl, (h.parts hτ e1 e3).tellL _ _⟩) (by decide)
      · rintro j _ Ψ hj rfl hΨ
        unfold B_X9_mid_36
        rw [nI_clamp (by omega), show nI j + 1 = nI (j + 1) from nI_1 j, e2 j hj, Int64.mul_comm _ (F j)]
        exact ite_ff ⟨vp_in_nI hj (by decide), hΨ _ (As j).symm⟩ (by rw [lit_nI, nI_lt' (by decide) (by omega)]; omega)
    · rintro j _ Φ hj rfl hΦ
      unfold B_X8_mid_44
      rw [nI_clamp (by omega), show nI j + 1 = nI (j + 1) from nI_1 j, hτ.2.1 j hj]
      exact ite_ff ⟨vp_in_nI hj (by decide), hΦ _ (As j).symm⟩ (nI_ge hj (by decide))

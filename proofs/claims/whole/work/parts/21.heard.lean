/-! what was heard: kinds, damps, heights, broke -/
theorem irm2 {s : Nat} (hs : s < 2 ^ 31) : irm (nI s) 2 = nI (s % 2) := pk_rem hs (by decide) (by decide)
/-- every st-th place is a pull -/
def AllP (f : Nat → Int32) (s st : Nat) : Prop := ∀ j, st * j < s → vp_in (f (st * j)) 7
theorem hasPulls_c {c : St} {k n s st : Nat} (hst : st = 1 ∨ st = 2) (hs : s ≤ n) (hn : n < 2 ^ 20) (h2 : c.1 k 2 = nI s) {K : Int32 → Prop} (k1 : AllP (fun j => c.1 (k + 1) j) s st → K 1) (k0 : ¬ AllP (fun j => c.1 (k + 1) j) s st → K 0) : wp_X6_hasPulls k n (nI st) c K := by
  unfold wp_X6_hasPulls L_X6_hasPulls_2
  have em : imax 1 (nI st) = nI st := by rcases hst with rfl | rfl <;> decide
  refine wl1_ind (fun v => ∃ j, v = nI (st * j) ∧ st * j < s + st ∧ ∀ i, i < j → vp_in (c.1 (k + 1) (st * i)) 7) (fun v => s + st - v.toNatClampNeg) ?_ 0 ⟨0, rfl, by omega, fun i hi => by omega⟩
  rintro _ ⟨j, rfl, hj, hall⟩ Φ hΦ
  unfold B_X6_hasPulls_2
  rw [h2, nI_clamp (by omega), em, nI_add]
  refine ite_c (fun z => k1 (fun i hi => hall i ?_)) (fun z => ?_)
  · rw [nI_le' (by omega) (by omega)] at z
    have : st * i < st * j := by omega
    exact Nat.lt_of_mul_lt_mul_left this
  · rw [nI_le' (by omega) (by omega)] at z
    refine ⟨vp_in_nI (by omega) (by omega), ?_⟩
    by_cases hp : vp_in (c.1 (k + 1) (st * j)) 7
    · obtain ⟨p, hp7, ep⟩ := vp_in_of hp (by decide)
      rw [ep]
      refine isPull_y hp7 (ite_ff (hΦ _ ⟨j + 1, by rw [Nat.mul_succ], by rw [Nat.mul_succ]; omega, fun i hi => ?_⟩ ?_) (by decide))
      · by_cases e : i = j
        · subst e; exact hp
        · exact hall i (by omega)
      · rw [nI_clamp (by omega), nI_clamp (by omega)]; omega
    · exact isPull_n hp (ite_tt (k0 (fun h => hp (h j (by omega)))) rfl)
/-- all of several -/
def allB (P : Nat → Bool) : Nat → Bool
  | 0 => true
  | n + 1 => allB P n && P n
theorem allB_iff {P : Nat → Bool} {n : Nat} : allB P n = true ↔ ∀ i, i < n → P i = true := by
  induction n with
  | zero => exact ⟨fun _ i hi => by omega, fun _ => rfl⟩
  | succ n ih =>
    simp only [allB, Bool.and_eq_true, ih]
    constructor
    · rintro ⟨h1, h2⟩ i hi
      by_cases e : i = n
      · subst e; exact h2
      · exact h1 i (by omega)
    · intro h; exact ⟨fun i hi => h i (by omega), h n (by omega)⟩
/-- the height behind j strokes that were heard; 21: over -/
def hsN (k h : Nat) (f : Nat → Int32) : Nat → Nat
  | 0 => h
  | j + 1 => if hsN k h f j = 21 then 21 else aN k (hsN k h f j) (f (2 * j)).toNatClampNeg
theorem hsN_le {k h : Nat} {f : Nat → Int32} (hh : h ≤ 20) (j : Nat) : hsN k h f j ≤ 21 := by
  induction j with
  | zero => show h ≤ 21; omega
  | succ j ih => simp only [hsN]; split; omega; exact aN_le _ _ _
def soB (k w dm h : Nat) (f : Nat → Int32) (q : Nat) : Bool := allB (fun j => decide (eT (tN k w dm (hsN k h f (j + 1))) = f (2 * j + 1))) q
theorem fits_s {c : St} {k0 n0 k w dm h q : Nat} (hk : k < 6) (hw : w ≤ 9) (hd : dm ≤ 3) (hh : h ≤ 20) (h2 : c.1 k0 2 = nI (2 * q)) (hq : 2 * q ≤ n0) (hn0 : n0 < 2 ^ 20) (hp : AllP (fun j => c.1 (k0 + 1) j) (2 * q) 2) {K : Int32 → Prop} (k1 : soB k w dm h (fun j => c.1 (k0 + 1) j) q = true → K 1) (k0' : soB k w dm h (fun j => c.1 (k0 + 1) j) q = false → K 0) : wp_X8_fits k0 n0 (nI k) (nI w) (nI dm) (nI h) c K := by
  unfold wp_X8_fits L_X8_fits_7
  obtain ⟨H, H0, Hs, Hl, Hso⟩ : ∃ H : Nat → Nat, H 0 = h ∧ (∀ j, H (j + 1) = if H j = 21 then 21 else aN k (H j) (c.1 (k0 + 1) (2 * j)).toNatClampNeg) ∧ (∀ j, H j ≤ 21) ∧ soB k w dm h (fun j => c.1 (k0 + 1) j) q = allB (fun j => decide (eT (tN k w dm (H (j + 1))) = c.1 (k0 + 1) (2 * j + 1))) q := ⟨hsN k h (fun j => c.1 (k0 + 1) j), rfl, fun _ => rfl, fun j => hsN_le hh j, rfl⟩
  rw [Hso] at k1 k0'
  refine wl2_ind (fun v u => ∃ j, u = nI (2 * j) ∧ v = eA (H j) ∧ j ≤ q ∧ ∀ i, i < j → eT (tN k w dm (H (i + 1))) = c.1 (k0 + 1) (2 * i + 1)) (fun _ u => 2 * q + 2 - u.toNatClampNeg) ?_ _ _ ⟨0, rfl, by rw [H0, eA_n (by omega)], Nat.zero_le _, fun i hi => by omega⟩
  rintro _ _ ⟨j, rfl, rfl, hj, hall⟩ Φ hΦ
  have e1 : nI (2 * j) + 1 = nI (2 * j + 1) := nI_1 _
  have e2 : nI (2 * j) + 2 = nI (2 * (j + 1)) := by rw [lit_nI, nI_add]; rfl
  unfold B_X8_fits_7 J_X8_fits_39
  rw [h2, e1, e2, nI_clamp (n := 2 * j) (by omega), nI_clamp (n := 2 * j + 1) (by omega)]
  refine ite_c (fun z => k1 ?_) (fun z => ?_)
  · rw [nI_le' (by omega) (by omega)] at z
    have : j = q := by omega
    subst this
    exact allB_iff.mpr (fun i hi => decide_eq_true (hall i hi))
  · rw [nI_le' (by omega) (by omega)] at z
    have hv : vp_in (nI (2 * j + 1)) n0 := vp_in_nI (by omega) (by omega)
    have step : ∀ x, x = H (j + 1) → wp_X8_tenths (nI k) (nI w) (nI dm) (eA x) (fun r44 => vp_in (nI (2 * j + 1)) n0 ∧ if r44 = c.1 (k0 + 1) (2 * j + 1) then Φ (eA x) (nI (2 * (j + 1))) else K 0) := by
      rintro x rfl
      refine tenths_s hk hw hd (Hl _) ⟨hv, ite_c (fun y => hΦ _ _ ⟨j + 1, rfl, rfl, by omega, fun i hi => ?_⟩ ?_) (fun y => k0' ?_)⟩
      · by_cases e : i = j
        · subst e; exact y
        · exact hall i (by omega)
      · rw [nI_clamp (by omega), nI_clamp (by omega)]; omega
      · cases e : allB (fun j => decide (eT (tN k w dm (H (j + 1))) = c.1 (k0 + 1) (2 * j + 1))) q with
        | false => rfl
        | true => exact absurd (of_decide_eq_true (allB_iff.mp e j (by omega))) y
    refine ite_c (fun y => ?_) (fun y => ?_)
    · rw [eA_m1 (Hl j)] at y
      have := step (H j) (by rw [Hs, if_pos y]; exact y)
      exact this
    · rw [eA_m1 (Hl j)] at y
      have hlj := Hl j
      obtain ⟨p, hp7, ep⟩ := vp_in_of (hp j (by omega)) (by decide)
      have ep' : c.1 (k0 + 1) (2 * j) = nI p := ep
      rw [ep', eA_n y]
      refine ⟨vp_in_nI (by omega) (by omega), after_s hk (by omega) (by omega) (step _ ?_)⟩
      rw [Hs, if_neg y, ep', nI_clamp (by omega)]
theorem isSo_s {c m : St} {ρ k w dm h q : Nat} (hρ : ρ < 6) (hk : k < 6) (hw : w ≤ 9) (hd : dm ≤ 3) (hh : h ≤ 20) (h2 : m.1 4 ρ = nI (2 * q)) (hq : 2 * q ≤ 40) (hf : ∀ i, i < 2 * q → m.1 3 (40 * ρ + i) = c.1 (5 + 2 * ρ + 1) i) (hp : AllP (fun j => c.1 (5 + 2 * ρ + 1) j) (2 * q) 2) {K : Int32 → Prop} (k1 : soB k w dm h (fun j => c.1 (5 + 2 * ρ + 1) j) q = true → K 1) (k0' : soB k w dm h (fun j => c.1 (5 + 2 * ρ + 1) j) q = false → K 0) : wp_X9_isSo (nI ρ) (nI k) (nI w) (nI h) (nI dm) m K := by
  unfold wp_X9_isSo L_X9_isSo_10
  obtain ⟨H, H0, Hs, Hl, Hso⟩ : ∃ H : Nat → Nat, H 0 = h ∧ (∀ j, H (j + 1) = if H j = 21 then 21 else aN k (H j) (c.1 (5 + 2 * ρ + 1) (2 * j)).toNatClampNeg) ∧ (∀ j, H j ≤ 21) ∧ ∀ q, soB k w dm h (fun j => c.1 (5 + 2 * ρ + 1) j) q = allB (fun j => decide (eT (tN k w dm (H (j + 1))) = c.1 (5 + 2 * ρ + 1) (2 * j + 1))) q := ⟨hsN k h (fun j => c.1 (5 + 2 * ρ + 1) j), rfl, fun _ => rfl, fun j => hsN_le hh j, fun _ => rfl⟩
  rw [Hso] at k1 k0'
  obtain ⟨B, B0, Bs, Bq⟩ : ∃ B : Nat → Bool, B 0 = true ∧ (∀ j, B (j + 1) = (B j && decide (eT (tN k w dm (H (j + 1))) = c.1 (5 + 2 * ρ + 1) (2 * j + 1)))) ∧ allB (fun j => decide (eT (tN k w dm (H (j + 1))) = c.1 (5 + 2 * ρ + 1) (2 * j + 1))) q = B q := ⟨allB (fun j => decide (eT (tN k w dm (H (j + 1))) = c.1 (5 + 2 * ρ + 1) (2 * j + 1))), rfl, fun _ => rfl, rfl⟩
  rw [Bq] at k1 k0'
  refine wl3_ind (fun b v u => ∃ j, u = nI (2 * j) ∧ v = eA (H j) ∧ j ≤ q ∧ b = if B j then 1 else 0) (fun _ _ u => 2 * q + 2 - u.toNatClampNeg) ?_ _ _ _ ⟨0, rfl, by rw [H0, eA_n (by omega)], Nat.zero_le _, by rw [B0]; rfl⟩
  rintro _ _ _ ⟨j, rfl, rfl, hj, rfl⟩ Φ hΦ
  have e2 : nI (2 * j) + 2 = nI (2 * (j + 1)) := by rw [lit_nI, nI_add]; rfl
  unfold B_X9_isSo_10
  rw [nI_clamp (by omega), h2]
  refine ⟨vp_in_nI hρ (by decide), ite_c (fun z => ?_) (fun z => ?_)⟩
  · rw [nI_le' (by omega) (by omega)] at z
    have : j = q := by omega
    subst this
    cases e : B j with
    | true => exact ⟨zok1, k1 e⟩
    | false => exact ⟨zok0, k0' e⟩
  · rw [nI_le' (by omega) (by omega)] at z
    have i1 : (40 * nI ρ + nI (2 * j)).toNatClampNeg = 40 * ρ + 2 * j := by simp (disch := omega) only [lit_nI, nI_add, pk_mul, nI_clamp, vp_nI, nI_inj, nI_lt', nI_le', nI_neg1, nI_neg9, nI_neg3, neg1_nI, neg9_nI, neg_l0, neg_g0, ↓reduceIte, true_and, and_true, not_true_eq_false, not_false_eq_true, Nat.reduceEqDiff, Nat.reduceLeDiff, Nat.reduceAdd, Nat.reduceSub, Nat.reduceDiv, Nat.reduceMod, Nat.reducePow, Nat.reduceLT, Nat.reduceMul, Nat.not_lt_zero, Nat.zero_le, Nat.succ_ne_self, one_ne0, zero_ne1, ne_eq]
    have i2 : vp_in (40 * nI ρ + nI (2 * j)) 240 := by simp (disch := omega) only [lit_nI, nI_add, pk_mul, nI_clamp, vp_nI, nI_inj, nI_lt', nI_le', nI_neg1, nI_neg9, nI_neg3, neg1_nI, neg9_nI, neg_l0, neg_g0, ↓reduceIte, true_and, and_true, not_true_eq_false, not_false_eq_true, Nat.reduceEqDiff, Nat.reduceLeDiff, Nat.reduceAdd, Nat.reduceSub, Nat.reduceDiv, Nat.reduceMod, Nat.reducePow, Nat.reduceLT, Nat.reduceMul, Nat.not_lt_zero, Nat.zero_le, Nat.succ_ne_self, one_ne0, zero_ne1, ne_eq]; omega
    have i3 : (40 * nI ρ + nI (2 * j) + 1).toNatClampNeg = 40 * ρ + (2 * j + 1) := by simp (disch := omega) only [lit_nI, nI_add, pk_mul, nI_clamp, vp_nI, nI_inj, nI_lt', nI_le', nI_neg1, nI_neg9, nI_neg3, neg1_nI, neg9_nI, neg_l0, neg_g0, ↓reduceIte, true_and, and_true, not_true_eq_false, not_false_eq_true, Nat.reduceEqDiff, Nat.reduceLeDiff, Nat.reduceAdd, Nat.reduceSub, Nat.reduceDiv, Nat.reduceMod, Nat.reducePow, Nat.reduceLT, Nat.reduceMul, Nat.not_lt_zero, Nat.zero_le, Nat.succ_ne_self, one_ne0, zero_ne1, ne_eq]; omega
    have i4 : vp_in (40 * nI ρ + nI (2 * j) + 1) 240 := by simp (disch := omega) only [lit_nI, nI_add, pk_mul, nI_clamp, vp_nI, nI_inj, nI_lt', nI_le', nI_neg1, nI_neg9, nI_neg3, neg1_nI, neg9_nI, neg_l0, neg_g0, ↓reduceIte, true_and, and_true, not_true_eq_false, not_false_eq_true, Nat.reduceEqDiff, Nat.reduceLeDiff, Nat.reduceAdd, Nat.reduceSub, Nat.reduceDiv, Nat.reduceMod, Nat.reducePow, Nat.reduceLT, Nat.reduceMul, Nat.not_lt_zero, Nat.zero_le, Nat.succ_ne_self, one_ne0, zero_ne1, ne_eq]; omega
    have step : ∀ x, x = H (j + 1) → J_X9_isSo_49 (nI ρ) (nI k) (nI w) (nI dm) (if B j then 1 else 0) (nI (2 * j)) (eA x) m K Φ := by
      rintro x rfl
      unfold J_X9_isSo_49 J_X9_isSo_86 J_X9_isSo_87
      rw [e2, i3, hf (2 * j + 1) (by omega)]
      have mu : 2 * q + 2 - (nI (2 * (j + 1))).toNatClampNeg < 2 * q + 2 - (nI (2 * j)).toNatClampNeg := by
        rw [nI_clamp (by omega), nI_clamp (by omega)]; omega
      cases e : B j with
      | false => exact ite_tt (hΦ _ _ _ ⟨j + 1, rfl, rfl, by omega, by rw [Bs, e]; rfl⟩ mu) rfl
      | true =>
        refine ite_ff (tenthsM_s hk hw hd (Hl _) ⟨i4, ite_c (fun y => hΦ _ _ _ ⟨j + 1, rfl, rfl, by omega, ?_⟩ mu) (fun y => hΦ _ _ _ ⟨j + 1, rfl, rfl, by omega, ?_⟩ mu)⟩) (by decide)
        · rw [Bs, e, decide_eq_true y]; rfl
        · rw [Bs, e, decide_eq_false y]; rfl
    refine ite_c (fun y => ?_) (fun y => ?_)
    · rw [eA_m1 (Hl j)] at y
      have := step 21 (by rw [Hs, if_pos y])
      exact this
    · rw [eA_m1 (Hl j)] at y
      have hlj := Hl j
      obtain ⟨p, hp7, ep⟩ := vp_in_of (hp j (by omega)) (by decide)
      have ep' : c.1 (5 + 2 * ρ + 1) (2 * j) = nI p := ep
      rw [i1, hf (2 * j) (by omega), ep', eA_n y]
      refine ⟨i2, afterM_s hk (by omega) (by omega) (step _ ?_)⟩
      rw [Hs, if_neg y, ep', nI_clamp (by omega)]
/-- refused, or not, by one and the other -/
theorem told_c {c m : St} (h : Rel c m) {n dm d : Nat} (N : Now c m n dm d) (a b : Int32) {KC : Int32 → St → Prop}
    (bad : ∀ (r : Int32) (c' : St), ¬ r = 0 → ¬ 0 ≤ r → (∀ KM : Int32 → St → Prop, (∀ m', Rel c' m' → KM r m') → wp_X9_againstPairs a b m KM) → KC r c')
    (ok : ∀ i ρ q : Nat, i < n → ρ < 6 → od c i = 0 → a = nI i → b = nI ρ → 2 * q ≤ 40 → c.1 (5 + 2 * ρ) 2 = nI (2 * q) → m.1 4 ρ = nI (2 * q) → (∀ j, j < 2 * q → m.1 3 (40 * ρ + j) = c.1 (5 + 2 * ρ + 1) j) → AllP (fun j => c.1 (5 + 2 * ρ + 1) j) (2 * q) 2 → (∀ KM : Int32 → St → Prop, KM 0 m → wp_X9_againstPairs a b m KM) → KC 0 c) : wp_X8_refuseTold a b c KC := by
  have hn := N.1.1
  unfold wp_X8_refuseTold J_X8_refuseTold_16 J_X8_refuseTold_83
  have m4 : ¬ (-1 : Int32) = 0 ∧ ¬ (0 : Int32) ≤ -1 ∧ ¬ (-3 : Int32) = 0 ∧ ¬ (0 : Int32) ≤ -3 ∧ ¬ (-4 : Int32) = 0 ∧ ¬ (0 : Int32) ≤ -4 := by decide
  by_cases hb : vp_in b 6
  · obtain ⟨ρ, hρ, rfl⟩ := vp_in_of hb (by decide)
    refine isRow_y hρ (ite_ff ?_ (by decide))
    by_cases ha : vp_in a n
    · obtain ⟨i, hi, rfl⟩ := vp_in_of ha (by omega)
      have e := nI_clamp (n := ρ) (by omega)
      refine refuse_s N hi (fun ho => ite_ff ?_ m4.2.2.2.2.1) (fun ho => ite_tt ⟨hb, ?_⟩ rfl)
      · refine bad _ _ m4.2.2.2.2.1 m4.2.2.2.2.2 (fun KM hM => ?_)
        unfold wp_X9_againstPairs
        refine isBell_y N hi (ite_ff (isRowM_y hρ (ite_ff ?_ (by decide))) (by decide))
        exact isOver_s N hi (fun _ => ite_ff (hM m h) (by decide)) (fun q => by omega)
      · rw [e]
        have mod : ∀ {KM : Int32 → St → Prop}, (if 0 ≤ m.1 4 ρ then (vp_in (nI ρ) 6 ∧ (if irm (m.1 4 ρ) 2 = 0 then L_X9_againstPairs_62 (nI ρ) m KM 0 else wp_X9_found 5 m (fun r56 t56 => KM r56 t56))) else wp_X9_found 1 m (fun r39 t39 => KM r39 t39)) → wp_X9_againstPairs (nI i) (nI ρ) m KM := by
          intro KM hh
          unfold wp_X9_againstPairs
          refine isBell_y N hi (ite_ff (isRowM_y hρ (ite_ff ?_ (by decide))) (by decide))
          refine isOver_s N hi (fun q => by omega) (fun _ => ite_tt ⟨hb, ?_⟩ rfl)
          rw [e]; exact hh
        rcases h.2.1 ρ hρ with ⟨s, a1, a2, a3, a4, a5⟩ | ⟨a1, a2, a3⟩
        · refine ite_ff ⟨hb, ?_⟩ (by rw [a2]; decide)
          rw [a3, irm2 (by omega)]
          have hpos : 0 ≤ m.1 4 ρ := by rw [a4]; exact nI_pos' (by omega)
          by_cases hs : s % 2 = 0
          · have es : nI (s % 2) = 0 := by rw [hs]; rfl
            have es2 : irm (m.1 4 ρ) 2 = 0 := by rw [a4, irm2 (by omega)]; exact es
            obtain ⟨q, rfl⟩ : ∃ q, s = 2 * q := ⟨s / 2, by omega⟩
            refine ite_tt ⟨hb, ?_⟩ es
            have lp : ∀ {KM : Int32 → St → Prop}, (AllP (fun j => c.1 (5 + 2 * ρ + 1) j) (2 * q) 2 → KM 0 m) → (¬ AllP (fun j => c.1 (5 + 2 * ρ + 1) j) (2 * q) 2 → KM (-3) (fM m 3)) → L_X9_againstPairs_62 (nI ρ) m KM 0 := by
              intro KM hy hno
              unfold L_X9_againstPairs_62
              refine wl1_ind (fun v => ∃ j, v = nI (2 * j) ∧ j ≤ q ∧ ∀ i, i < j → vp_in (c.1 (5 + 2 * ρ + 1) (2 * i)) 7) (fun v => 2 * q + 2 - v.toNatClampNeg) ?_ 0 ⟨0, rfl, by omega, fun i hi => by omega⟩
              rintro _ ⟨j, rfl, hj, hall⟩ Φ hΦ
              unfold B_X9_againstPairs_62
              rw [e, a4]
              refine ⟨hb, ite_c (fun z => hy (fun i hi => hall i ?_)) (fun z => ?_)⟩
              · rw [nI_le' (by omega) (by omega)] at z; omega
              · rw [nI_le' (by omega) (by omega)] at z
                have i1 : (40 * nI ρ + nI (2 * j)).toNatClampNeg = 40 * ρ + 2 * j := by simp (disch := omega) only [lit_nI, nI_add, pk_mul, nI_clamp, vp_nI, nI_inj, nI_lt', nI_le', nI_neg1, nI_neg9, nI_neg3, neg1_nI, neg9_nI, neg_l0, neg_g0, ↓reduceIte, true_and, and_true, not_true_eq_false, not_false_eq_true, Nat.reduceEqDiff, Nat.reduceLeDiff, Nat.reduceAdd, Nat.reduceSub, Nat.reduceDiv, Nat.reduceMod, Nat.reducePow, Nat.reduceLT, Nat.reduceMul, Nat.not_lt_zero, Nat.zero_le, Nat.succ_ne_self, one_ne0, zero_ne1, ne_eq]
                have i2 : vp_in (40 * nI ρ + nI (2 * j)) 240 := by simp (disch := omega) only [lit_nI, nI_add, pk_mul, nI_clamp, vp_nI, nI_inj, nI_lt', nI_le', nI_neg1, nI_neg9, nI_neg3, neg1_nI, neg9_nI, neg_l0, neg_g0, ↓reduceIte, true_and, and_true, not_true_eq_false, not_false_eq_true, Nat.reduceEqDiff, Nat.reduceLeDiff, Nat.reduceAdd, Nat.reduceSub, Nat.reduceDiv, Nat.reduceMod, Nat.reducePow, Nat.reduceLT, Nat.reduceMul, Nat.not_lt_zero, Nat.zero_le, Nat.succ_ne_self, one_ne0, zero_ne1, ne_eq]; omega
                rw [i1, a5 (2 * j) (by omega)]
                refine ⟨i2, ?_⟩
                by_cases hp : vp_in (c.1 (5 + 2 * ρ + 1) (2 * j)) 7
                · obtain ⟨p, hp7, ep⟩ := vp_in_of hp (by decide)
                  rw [ep]
                  refine isPullM_y hp7 (ite_ff (hΦ _ ⟨j + 1, by rw [lit_nI, nI_add]; rfl, by omega, fun i hi => ?_⟩ ?_) (by decide))
                  · by_cases e : i = j
                    · subst e; exact hp
                    · exact hall i (by omega)
                  · rw [lit_nI, nI_add, nI_clamp (by omega), nI_clamp (by omega)]; omega
                · exact isPullM_n hp (ite_tt (found_s 3 (by decide) (hno (fun hh => hp (hh j (by omega))))) rfl)
            refine hasPulls_c (st := 2) (Or.inr rfl) a1 (by decide) a3 (fun hy => ite_ff ?_ (by decide)) (fun hno => ite_tt ?_ rfl)
            · exact ok i ρ q hi hρ ho rfl rfl a1 a3 a4 a5 hy (fun KM hM => mod (ite_tt ⟨hb, ite_tt (lp (fun _ => hM) (fun z => absurd hy z)) es2⟩ hpos))
            · refine find_s 3 (by decide) (bad _ _ m4.2.2.1 m4.2.2.2.1 (fun KM hM => mod (ite_tt ⟨hb, ite_tt (lp (fun z => absurd z hno) (fun _ => hM _ (h.find 3 (by decide)))) es2⟩ hpos)))
          · have es : ¬ nI (s % 2) = 0 := nI_ne0 (by omega) (by omega)
            have es2 : ¬ irm (m.1 4 ρ) 2 = 0 := by rw [a4, irm2 (by omega)]; exact es
            refine ite_ff (find_s 5 (by decide) (bad _ _ m4.2.2.1 m4.2.2.2.1 (fun KM hM => mod (ite_tt ⟨hb, ite_ff (found_s 5 (by decide) (hM _ (h.find 5 (by decide)))) es2⟩ hpos)))) es
        · refine ite_tt (find_s 1 (by decide) (bad _ _ m4.2.2.1 m4.2.2.2.1 (fun KM hM => mod (ite_ff (found_s 1 (by decide) (hM _ (h.find 1 (by decide)))) (by rw [a3]; decide))))) a1
    · refine refuse_bad N ha (ite_ff (bad _ _ m4.1 m4.2.1 (fun KM hM => ?_)) m4.1)
      unfold wp_X9_againstPairs J_X9_againstPairs_15
      exact isBell_n N ha (ite_tt (hM m h) rfl)
  · refine isRow_n hb (ite_tt (ite_ff (bad _ _ m4.1 m4.2.1 (fun KM hM => ?_)) m4.1) rfl)
    unfold wp_X9_againstPairs J_X9_againstPairs_15
    by_cases ha : vp_in a n
    · obtain ⟨i, hi, rfl⟩ := vp_in_of ha (by omega)
      exact isBell_y N hi (ite_ff (isRowM_n hb (ite_tt (hM m h) rfl)) (by decide))
    · exact isBell_n N ha (ite_tt (hM m h) rfl)

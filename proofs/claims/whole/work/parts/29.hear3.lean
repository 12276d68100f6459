/-! a round heard: error -/
theorem laysPulls_s {c m : St} {n dm d ρ : Nat} (N : Now c m n dm d) (hρ : ρ < 6) {p : Nat → Nat} (hp : ∀ i, i < n → m.1 3 (40 * ρ + i) = nI (p i) ∧ p i < 2 ^ 18) {K : St → Prop} (hK : ∀ m', HM m' (hearF (fun i => hN c dm i (p i)) n) → m'.1 0 17 = (if anyB (fun i => bkB c i (p i)) n then 1 else 0) → (∀ i, i < n → m'.1 10 i = eH (hN c dm i (p i)) i) → (∀ i, i < n → m'.1 9 i = nI (p i)) → (∀ a b, ¬ (a = 0 ∧ (b = 17 ∨ b = 18)) → a ≠ 9 → a ≠ 10 → a ≠ 11 → m'.1 a b = m.1 a b) → m'.2 = m.2 → K m') : wp_X9_laysPulls (nI ρ) m K := by
  have hn := N.1.1
  unfold wp_X9_laysPulls L_X9_laysPulls_2
  refine for2_1 n (fun i τ => (∀ j, j < i → τ.1 9 j = nI (p j)) ∧ (∀ a b, a ≠ 9 → τ.1 a b = m.1 a b) ∧ τ.2 = m.2) ?_ ?_ 0 _ (Nat.zero_le _) ⟨fun j hj => by omega, fun _ _ _ => rfl, rfl⟩
  · rintro τ Φ ⟨h1, h2, h3⟩
    unfold B_X9_laysPulls_2
    rw [show (0 : Int32).toNatClampNeg = 0 from rfl, h2 1 0 (by omega), N.2.2.1.1]
    have N' : Now c τ n dm d := N.mm (fun j hj => h2 1 j (by omega)) (h2 0 1 (by omega))
    exact ⟨in0, ite_tt (rings_s N' (fun i hi => ⟨h1 i hi, (hp i hi).2⟩) (fun m' g1 g2 g3 g4 => hK m' g1 g2 g3 (fun i hi => (g4.1 9 i (by omega) (by omega) (by omega)).trans (h1 i hi)) (fun a b y1 y2 y3 y4 => (g4.1 a b y1 y3 y4).trans (h2 a b y2)) (g4.2.trans h3))) (Int32.le_refl _)⟩
  · rintro i τ Φ hi ⟨h1, h2, h3⟩ hΦ
    have i1 : (40 * nI ρ + nI i).toNatClampNeg = 40 * ρ + i := by simp (disch := omega) only [lit_nI, nI_add, pk_mul, nI_clamp, vp_nI, nI_inj, nI_lt', nI_le', nI_neg1, nI_neg9, nI_neg3, neg1_nI, neg9_nI, neg_l0, neg_g0, ↓reduceIte, true_and, and_true, not_true_eq_false, not_false_eq_true, Nat.reduceEqDiff, Nat.reduceLeDiff, Nat.reduceAdd, Nat.reduceSub, Nat.reduceDiv, Nat.reduceMod, Nat.reducePow, Nat.reduceLT, Nat.reduceMul, Nat.not_lt_zero, Nat.zero_le, Nat.succ_ne_self, one_ne0, zero_ne1, ne_eq]
    have i2 : vp_in (40 * nI ρ + nI i) 240 := by simp (disch := omega) only [lit_nI, nI_add, pk_mul, nI_clamp, vp_nI, nI_inj, nI_lt', nI_le', nI_neg1, nI_neg9, nI_neg3, neg1_nI, neg9_nI, neg_l0, neg_g0, ↓reduceIte, true_and, and_true, not_true_eq_false, not_false_eq_true, Nat.reduceEqDiff, Nat.reduceLeDiff, Nat.reduceAdd, Nat.reduceSub, Nat.reduceDiv, Nat.reduceMod, Nat.reducePow, Nat.reduceLT, Nat.reduceMul, Nat.not_lt_zero, Nat.zero_le, Nat.succ_ne_self, one_ne0, zero_ne1, ne_eq]; omega
    unfold B_X9_laysPulls_2
    rw [show (0 : Int32).toNatClampNeg = 0 from rfl, h2 1 0 (by omega), N.2.2.1.1, i1, nI_clamp (by omega), h2 3 _ (by omega), (hp i hi).1, show nI i + 1 = nI (i + 1) from nI_1 i]
    refine ⟨in0, ite_ff ⟨i2, vp_in_nI (by omega) (by decide), hΦ _ ⟨fun j hj => ?_, fun a b ha => (uI_c ha).trans (h2 a b ha), h3⟩⟩ (nI_ge hi (by omega))⟩
    by_cases e : j = i
    · subst e; exact uI_s _ _ _ _
    · exact (uI_n e).trans (h1 j (by omega))
/-- a round refused, or not, by one and the other -/
theorem rnd_c {c m : St} (h : Rel c m) {n dm d : Nat} (N : Now c m n dm d) (a : Int32) {KC : Int32 → St → Prop}
    (bad : ∀ (r : Int32) (c' : St), ¬ r = 0 → ¬ 0 ≤ r → (∀ KM : Int32 → St → Prop, (∀ m', Rel c' m' → KM r m') → wp_X9_against a m KM) → KC r c')
    (ok : ∀ (ρ : Nat) (p : Nat → Nat), ρ < 6 → 0 < n → a = nI ρ → c.1 (5 + 2 * ρ) 2 = nI n → (∀ i, i < n → c.1 (5 + 2 * ρ + 1) i = nI (p i) ∧ p i < 7) → (∀ i, i < n → m.1 3 (40 * ρ + i) = nI (p i)) → (∀ KM : Int32 → St → Prop, KM 0 m → wp_X9_against a m KM) → KC 0 c) : wp_X8_refuseRound a c KC := by
  have hn := N.1.1
  have m4 : ¬ (-1 : Int32) = 0 ∧ ¬ (0 : Int32) ≤ -1 ∧ ¬ (-3 : Int32) = 0 ∧ ¬ (0 : Int32) ≤ -3 ∧ ¬ (-4 : Int32) = 0 ∧ ¬ (0 : Int32) ≤ -4 := by decide
  unfold wp_X8_refuseRound J_X8_refuseRound_87
  by_cases ha : vp_in a 6
  · obtain ⟨ρ, hρ, rfl⟩ := vp_in_of ha (by decide)
    have e := nI_clamp (n := ρ) (by omega)
    have e0 : (0 : Int32).toNatClampNeg = 0 := rfl
    refine isRow_y hρ (ite_ff ?_ (by decide))
    rw [N.2.1.1, e]
    by_cases n0 : n = 0
    · subst n0
      refine ite_tt (bad _ _ m4.2.2.2.2.1 m4.2.2.2.2.2 (fun KM hM => ?_)) rfl
      unfold wp_X9_against
      refine isRowM_y hρ (ite_ff ⟨in0, ?_⟩ (by decide))
      rw [e0, N.2.2.1.1]
      exact ite_tt (hM m h) rfl
    · have nn : ¬ nI n = 0 := nI_ne0 (by omega) (by omega)
      refine ite_ff ⟨ha, ?_⟩ nn
      have mod : ∀ {KM : Int32 → St → Prop}, (if 0 ≤ m.1 4 ρ then (vp_in (nI ρ) 6 ∧ (vp_in 0 5280 ∧ (if m.1 4 ρ = nI n then L_X9_against_59 (nI ρ) m KM 0 else wp_X9_found 5 m (fun r53 t53 => KM r53 t53)))) else wp_X9_found 1 m (fun r32 t32 => KM r32 t32)) → wp_X9_against (nI ρ) m KM := by
        intro KM hh
        unfold wp_X9_against
        refine isRowM_y hρ (ite_ff ⟨in0, ?_⟩ (by decide))
        rw [e0, N.2.2.1.1, e]
        exact ite_ff ⟨ha, hh⟩ nn
      rcases h.2.1 ρ hρ with ⟨s, a1, a2, a3, a4, a5⟩ | ⟨a1, a2, a3⟩
      · refine ite_ff ⟨ha, ?_⟩ (by rw [a2]; decide)
        have hpos : 0 ≤ m.1 4 ρ := by rw [a4]; exact nI_pos' (by omega)
        rw [a3]
        by_cases hs : s = n
        · subst hs
          refine ite_tt ⟨ha, ?_⟩ rfl
          have lp : ∀ {KM : Int32 → St → Prop}, (AllP (fun j => c.1 (5 + 2 * ρ + 1) j) s 1 → KM 0 m) → (¬ AllP (fun j => c.1 (5 + 2 * ρ + 1) j) s 1 → KM (-3) (fM m 3)) → L_X9_against_59 (nI ρ) m KM 0 := by
            intro KM hy hno
            unfold L_X9_against_59
            refine for1_1 s (fun j => ∀ i, i < j → vp_in (c.1 (5 + 2 * ρ + 1) i) 7) ?_ ?_ 0 (Nat.zero_le _) (fun i hi => by omega)
            · intro Φ hall
              unfold B_X9_against_59
              rw [e0, N.2.2.1.1]
              exact ⟨in0, ite_tt (hy (fun j hj => by rw [Nat.one_mul] at hj ⊢; exact hall j hj)) (Int32.le_refl _)⟩
            · intro j Φ hj hall hΦ
              have i1 : (40 * nI ρ + nI j).toNatClampNeg = 40 * ρ + j := by simp (disch := omega) only [lit_nI, nI_add, pk_mul, nI_clamp, vp_nI, nI_inj, nI_lt', nI_le', nI_neg1, nI_neg9, nI_neg3, neg1_nI, neg9_nI, neg_l0, neg_g0, ↓reduceIte, true_and, and_true, not_true_eq_false, not_false_eq_true, Nat.reduceEqDiff, Nat.reduceLeDiff, Nat.reduceAdd, Nat.reduceSub, Nat.reduceDiv, Nat.reduceMod, Nat.reducePow, Nat.reduceLT, Nat.reduceMul, Nat.not_lt_zero, Nat.zero_le, Nat.succ_ne_self, one_ne0, zero_ne1, ne_eq]
              have i2 : vp_in (40 * nI ρ + nI j) 240 := by simp (disch := omega) only [lit_nI, nI_add, pk_mul, nI_clamp, vp_nI, nI_inj, nI_lt', nI_le', nI_neg1, nI_neg9, nI_neg3, neg1_nI, neg9_nI, neg_l0, neg_g0, ↓reduceIte, true_and, and_true, not_true_eq_false, not_false_eq_true, Nat.reduceEqDiff, Nat.reduceLeDiff, Nat.reduceAdd, Nat.reduceSub, Nat.reduceDiv, Nat.reduceMod, Nat.reducePow, Nat.reduceLT, Nat.reduceMul, Nat.not_lt_zero, Nat.zero_le, Nat.succ_ne_self, one_ne0, zero_ne1, ne_eq]; omega
              unfold B_X9_against_59
              rw [e0, N.2.2.1.1, i1, a5 j hj]
              refine ⟨in0, ite_ff ⟨i2, ?_⟩ (nI_ge hj (by omega))⟩
              by_cases hp : vp_in (c.1 (5 + 2 * ρ + 1) j) 7
              · obtain ⟨p, hp7, ep⟩ := vp_in_of hp (by decide)
                rw [ep, show nI j + 1 = nI (j + 1) from nI_1 j]
                refine isPullM_y hp7 (ite_ff (hΦ (fun i hi => ?_)) (by decide))
                by_cases e : i = j
                · subst e; exact hp
                · exact hall i (by omega)
              · refine isPullM_n hp (ite_tt (found_s 3 (by decide) (hno (fun hh => hp ?_))) rfl)
                have := hh j (by omega)
                rw [Nat.one_mul] at this
                exact this
          refine hasPulls_c (st := 1) (Or.inl rfl) a1 (by decide) a3 (fun hy => ite_ff ?_ (by decide)) (fun hno => ite_tt ?_ rfl)
          · have hall : ∀ i, i < s → vp_in (c.1 (5 + 2 * ρ + 1) i) 7 := fun i hi => by
              have := hy i (by omega)
              rw [Nat.one_mul] at this
              exact this
            have hpn : ∀ i, i < s → c.1 (5 + 2 * ρ + 1) i = nI ((c.1 (5 + 2 * ρ + 1) i).toNatClampNeg) ∧ (c.1 (5 + 2 * ρ + 1) i).toNatClampNeg < 7 := by
              intro i hi
              obtain ⟨p, hp7, ep⟩ := vp_in_of (hall i hi) (by decide)
              rw [ep, nI_clamp (by omega)]
              exact ⟨rfl, hp7⟩
            exact ok ρ (fun i => (c.1 (5 + 2 * ρ + 1) i).toNatClampNeg) hρ (by omega) rfl a3 hpn (fun i hi => (a5 i hi).trans (hpn i hi).1) (fun KM hM => mod (ite_tt ⟨ha, in0, ite_tt (lp (fun _ => hM) (fun z => absurd hy z)) a4⟩ hpos))
          · exact find_s 3 (by decide) (bad _ _ m4.2.2.1 m4.2.2.2.1 (fun KM hM => mod (ite_tt ⟨ha, in0, ite_tt (lp (fun z => absurd z hno) (fun _ => hM _ (h.find 3 (by decide)))) a4⟩ hpos)))
        · have hne : ¬ nI s = nI n := by rw [nI_inj (by omega) (by omega)]; exact hs
          exact ite_ff (find_s 5 (by decide) (bad _ _ m4.2.2.1 m4.2.2.2.1 (fun KM hM => mod (ite_tt ⟨ha, in0, ite_ff (found_s 5 (by decide) (hM _ (h.find 5 (by decide)))) (by rw [a4]; exact hne)⟩ hpos)))) hne
      · exact ite_tt (find_s 1 (by decide) (bad _ _ m4.2.2.1 m4.2.2.2.1 (fun KM hM => mod (ite_ff (found_s 1 (by decide) (hM _ (h.find 1 (by decide)))) (by rw [a3]; decide))))) a1
  · refine isRow_n ha (ite_tt (bad _ _ m4.1 m4.2.1 (fun KM hM => ?_)) rfl)
    unfold wp_X9_against
    exact isRowM_n ha (ite_tt (hM m h) rfl)

/-! keep, on -/
/-- a tower becomes as another one is -/
theorem become_s {c : St} {T U n dm d : Nat} (hTU : T + 9 ≤ U ∨ U + 9 ≤ T) (TC : TowC c U n dm d) {K : St → Prop} (hK : ∀ c', (∀ j, 2 ≤ j → j ≤ 4 → c'.1 T j = c.1 U j) → (∀ i j, i < n → j ≤ 5 → c'.1 (T + 3 + i) j = c.1 (U + 3 + i) j) → (∀ j, j < d → c'.1 (T + 2) j = c.1 (U + 2) j) → (∀ a b, a < T ∨ T + 9 ≤ a → c'.1 a b = c.1 a b) → c'.2 = c.2 → K c') : wp_X7_become T U c K := by
  obtain ⟨h1, h2, h3, h4, h5, h6, h7, h8⟩ := TC
  unfold wp_X7_become L_X7_become_26
  have ok : ∀ i, i < n → zok (c.1 (U + 3 + i) 5) := by
    intro i hi
    obtain ⟨⟨k, hk, ek⟩, -, ⟨x, hx, ex⟩, est⟩ := h7 i hi
    obtain ⟨a, o, -, ho, -, -, eo⟩ := stC_ok hk ek hx ex d
    rw [← est] at eo
    have eo' : c.1 (U + 3 + i) 5 = nI o := eo
    rw [eo']
    rcases (show o = 0 ∨ o = 1 by omega) with rfl | rfl
    · exact zok0
    · exact zok1
  refine for2_1 n (fun q τ => (∀ j, 2 ≤ j → j ≤ 4 → τ.1 T j = c.1 U j) ∧ (∀ i j, i < q → j ≤ 5 → τ.1 (T + 3 + i) j = c.1 (U + 3 + i) j) ∧ (∀ a b, a < T ∨ T + 9 ≤ a → τ.1 a b = c.1 a b) ∧ τ.2 = c.2) ?_ ?_ 0 _ (Nat.zero_le _) ⟨fun j z1 z2 => ?_, fun i j z => by omega, fun a b z => ?_, rfl⟩
  · rintro τ Φ ⟨q1, q2, q3, q4⟩
    unfold B_X7_become_26 L_X7_become_57
    rw [q1 2 (by omega) (by omega), h4]
    refine ite_tt ?_ (Int32.le_refl _)
    refine for2_1 d (fun q σ => (∀ j, 2 ≤ j → j ≤ 4 → σ.1 T j = c.1 U j) ∧ (∀ i j, i < n → j ≤ 5 → σ.1 (T + 3 + i) j = c.1 (U + 3 + i) j) ∧ (∀ j, j < q → σ.1 (T + 2) j = c.1 (U + 2) j) ∧ (∀ a b, a < T ∨ T + 9 ≤ a → σ.1 a b = c.1 a b) ∧ σ.2 = c.2) ?_ ?_ 0 _ (Nat.zero_le _) ⟨q1, q2, fun j z => by omega, q3, q4⟩
    · rintro σ Φ ⟨r1, r2, r3, r4, r5⟩
      unfold B_X7_become_57
      rw [r1 4 (by omega) (by omega), h6]
      exact ite_tt (hK σ r1 r2 r3 r4 r5) (Int32.le_refl _)
    · rintro q σ Φ hq ⟨r1, r2, r3, r4, r5⟩ hΦ
      unfold B_X7_become_57
      rw [r1 4 (by omega) (by omega), h6, nI_clamp (by omega), r4 (U + 2) q (by omega), show nI q + 1 = nI (q + 1) from nI_1 q]
      have hv := vp_in_nI (n := q) (N := 40) (by omega) (by decide)
      refine ite_ff ⟨hv, hv, hΦ _ ⟨fun j z1 z2 => ?_, fun i j z1 z2 => ?_, fun j z => ?_, fun a b z => ?_, r5⟩⟩ (nI_ge hq (by omega))
      · rw [uI_c (by omega)]; exact r1 j z1 z2
      · rw [uI_c (by omega)]; exact r2 i j z1 z2
      · by_cases e : j = q
        · subst e; rw [uI_s]
        · rw [uI_n e]; exact r3 j (by omega)
      · rw [uI_c (by omega)]; exact r4 a b z
  · rintro q τ Φ hq ⟨q1, q2, q3, q4⟩ hΦ
    unfold B_X7_become_26 wp_X0_become wp_X0_begin wp_X0_rewind
    rw [q1 2 (by omega) (by omega), h4, nI_clamp (by omega), show nI q + 1 = nI (q + 1) from nI_1 q]
    have hv := vp_in_nI (n := q) (N := 6) (by omega) (by decide)
    have eU : ∀ j, τ.1 (U + 3 + q) j = c.1 (U + 3 + q) j := fun j => q3 _ _ (by omega)
    refine ite_ff ⟨hv, hv, ?_⟩ (nI_ge hq (by omega))
    have hne : U + 3 + q ≠ T + 3 + q := by omega
    simp only [uI_1, hne, false_and, if_false, eU]
    refine ⟨ok q hq, hΦ _ ⟨fun j z1 z2 => ?_, fun i j z1 z2 => ?_, fun a b z => ?_, q4⟩⟩
    · simp only [uI_1]
      simp only [show T ≠ T + 3 + q by omega, false_and, if_false]
      exact q1 j z1 z2
    · by_cases e : i = q
      · subst e
        simp only [uI_1, true_and]
        (repeat' split) <;> first | (subst_vars; rfl) | (exfalso; omega)
      · simp only [uI_1]
        simp only [show T + 3 + i ≠ T + 3 + q by omega, false_and, if_false]
        exact q2 i j (by omega) z2
    · simp only [uI_1]
      simp only [show a ≠ T + 3 + q by omega, false_and, if_false]
      exact q3 a b z
  · simp only [uI_1]
    (repeat' split) <;> first | (exfalso; omega) | skip
    all_goals sorry
  · simp only [uI_1]
    rw [if_neg (by omega), if_neg (by omega), if_neg (by omega)]

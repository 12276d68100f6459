theorem layStands_s {m : St} {k : Nat} (hk : k < 6) {K : St → Prop} (hK : ∀ m', (∀ r x, r ≤ 30 → x ≤ 20 → m'.1 12 (21 * r + x) = bI (exB k 20 r x)) → (∀ a b, a ≠ 12 → m'.1 a b = m.1 a b) → m'.2 = m.2 → K m') : wp_X9_layStands (nI k) m K := by
  obtain ⟨T, T0, Ts, Tq⟩ : ∃ T : Nat → Nat → Bool, (∀ h, T 0 h = decide (20 ≤ h)) ∧ (∀ r h, T (r + 1) h = anyB (wpB k h (T r)) 7) ∧ exB k 20 = T := ⟨exB k 20, fun _ => rfl, fun _ _ => rfl, rfl⟩
  rw [Tq] at hK
  unfold wp_X9_layStands L_X9_layStands_2
  refine for2_1 31 (fun r τ => (∀ r' x, r' < r → x ≤ 20 → τ.1 12 (21 * r' + x) = bI (T r' x)) ∧ (∀ a b, a ≠ 12 → τ.1 a b = m.1 a b) ∧ τ.2 = m.2) ?_ ?_ 0 _ (Nat.zero_le _) ⟨fun r' x hr => by omega, fun _ _ _ => rfl, rfl⟩
  · rintro τ Φ ⟨t1, t2, t3⟩
    unfold B_X9_layStands_2
    exact ite_tt (hK τ (fun r x hr hx => t1 r x (by omega) hx) t2 t3) (by decide)
  · rintro r τ Φ hr ⟨t1, t2, t3⟩ hΦ
    unfold B_X9_layStands_2 L_X9_layStands_10
    refine ite_ff ?_ (by rw [lit_nI, nI_lt' (by decide) (by omega)]; omega)
    refine for2_1 21 (fun h τ => (∀ r' x, r' < r → x ≤ 20 → τ.1 12 (21 * r' + x) = bI (T r' x)) ∧ (∀ x, x < h → τ.1 12 (21 * r + x) = bI (T r x)) ∧ (∀ a b, a ≠ 12 → τ.1 a b = m.1 a b) ∧ τ.2 = m.2) ?_ ?_ 0 _ (Nat.zero_le _) ⟨t1, fun x hx => by omega, t2, t3⟩
    · rintro τ Φ' ⟨u1, u2, u3, u4⟩
      unfold B_X9_layStands_10
      rw [show nI r + 1 = nI (r + 1) from nI_1 r]
      refine ite_tt (hΦ τ ⟨fun r' x hr' hx => ?_, u3, u4⟩) (by decide)
      by_cases e : r' = r
      · subst e; exact u2 x (by omega)
      · exact u1 r' x (by omega) hx
    · rintro h τ Φ' hh ⟨u1, u2, u3, u4⟩ hΦ'
      have i1 : (21 * nI r + nI h).toNatClampNeg = 21 * r + h := by simp (disch := omega) only [lit_nI, nI_add, pk_mul, nI_clamp, vp_nI, nI_inj, nI_lt', nI_le', nI_neg1, nI_neg9, nI_neg3, neg1_nI, neg9_nI, neg_l0, neg_g0, ↓reduceIte, true_and, and_true, not_true_eq_false, not_false_eq_true, Nat.reduceEqDiff, Nat.reduceLeDiff, Nat.reduceAdd, Nat.reduceSub, Nat.reduceDiv, Nat.reduceMod, Nat.reducePow, Nat.reduceLT, Nat.reduceMul, Nat.not_lt_zero, Nat.zero_le, Nat.succ_ne_self, one_ne0, zero_ne1, ne_eq]
      have i2 : vp_in (21 * nI r + nI h) 651 := by simp (disch := omega) only [lit_nI, nI_add, pk_mul, nI_clamp, vp_nI, nI_inj, nI_lt', nI_le', nI_neg1, nI_neg9, nI_neg3, neg1_nI, neg9_nI, neg_l0, neg_g0, ↓reduceIte, true_and, and_true, not_true_eq_false, not_false_eq_true, Nat.reduceEqDiff, Nat.reduceLeDiff, Nat.reduceAdd, Nat.reduceSub, Nat.reduceDiv, Nat.reduceMod, Nat.reducePow, Nat.reduceLT, Nat.reduceMul, Nat.not_lt_zero, Nat.zero_le, Nat.succ_ne_self, one_ne0, zero_ne1, ne_eq]; omega
      have fin : ∀ b, b = T r h → J_X9_layStands_97 (nI k) (nI r) (nI h) (bI b) τ K Φ Φ' := by
        rintro _ rfl
        unfold J_X9_layStands_97
        rw [i1, nar_bI, show nI h + 1 = nI (h + 1) from nI_1 h]
        refine ⟨i2, hΦ' _ ⟨fun r' x hr' hx => (uI_n (by omega)).trans (u1 r' x hr' hx), fun x hx => ?_, fun a b z => (uI_c z).trans (u3 a b z), u4⟩⟩
        by_cases e : x = h
        · subst e; exact uI_s _ _ _ _
        · exact (uI_n (by omega)).trans (u2 x (by omega))
      unfold B_X9_layStands_10
      refine ite_ff ?_ (by rw [lit_nI, nI_lt' (by decide) (by omega)]; omega)
      cases r with
      | zero =>
        unfold J_X9_layStands_30 J_X9_layStands_31 L_X9_layStands_36
        have go : ∀ b, b = T 0 h → wl2 (B_X9_layStands_36 (nI k) (nI 0) (nI h) τ K Φ Φ') (bI b) 0 := by
          intro b hb
          refine for2_2 7 (fun p x => p = 0 ∧ x = bI b) ?_ ?_ 0 _ (Nat.zero_le _) ⟨rfl, rfl⟩
          · rintro _ Ψ ⟨z, rfl⟩; omega
          · rintro p _ Ψ hp ⟨rfl, rfl⟩ hΨ
            unfold B_X9_layStands_36
            exact ite_ff (ite_tt (fin b hb) (by decide)) (by decide)
        refine ite_tt (ite_c (fun z => go true ?_) (fun z => go false ?_)) rfl
        · rw [lit_nI, nI_inj (by omega) (by decide)] at z
          rw [T0, z]; rfl
        · rw [lit_nI, nI_inj (by omega) (by decide)] at z
          rw [T0, decide_eq_false (by omega)]
      | succ r =>
        have erp : nI (r + 1) - 1 = nI r := nI_pred r
        have npos : ¬ nI (r + 1) ≤ 0 := by rw [lit_nI, nI_le' (by omega) (by decide)]; omega
        have n0 : ¬ nI (r + 1) = 0 := nI_ne0 (by omega) (by omega)
        have cell : ∀ a, a ≤ 20 → vp_in (21 * nI r + nI a) 651 ∧ τ.1 12 (21 * nI r + nI a).toNatClampNeg = bI (T r a) := by
          intro a ha
          have j1 : (21 * nI r + nI a).toNatClampNeg = 21 * r + a := by simp (disch := omega) only [lit_nI, nI_add, pk_mul, nI_clamp, vp_nI, nI_inj, nI_lt', nI_le', nI_neg1, nI_neg9, nI_neg3, neg1_nI, neg9_nI, neg_l0, neg_g0, ↓reduceIte, true_and, and_true, not_true_eq_false, not_false_eq_true, Nat.reduceEqDiff, Nat.reduceLeDiff, Nat.reduceAdd, Nat.reduceSub, Nat.reduceDiv, Nat.reduceMod, Nat.reducePow, Nat.reduceLT, Nat.reduceMul, Nat.not_lt_zero, Nat.zero_le, Nat.succ_ne_self, one_ne0, zero_ne1, ne_eq]
          have j2 : vp_in (21 * nI r + nI a) 651 := by simp (disch := omega) only [lit_nI, nI_add, pk_mul, nI_clamp, vp_nI, nI_inj, nI_lt', nI_le', nI_neg1, nI_neg9, nI_neg3, neg1_nI, neg9_nI, neg_l0, neg_g0, ↓reduceIte, true_and, and_true, not_true_eq_false, not_false_eq_true, Nat.reduceEqDiff, Nat.reduceLeDiff, Nat.reduceAdd, Nat.reduceSub, Nat.reduceDiv, Nat.reduceMod, Nat.reducePow, Nat.reduceLT, Nat.reduceMul, Nat.not_lt_zero, Nat.zero_le, Nat.succ_ne_self, one_ne0, zero_ne1, ne_eq]; omega
          exact ⟨j2, by rw [j1]; exact u1 r a (by omega) ha⟩
        have ht := Ts r h
        unfold J_X9_layStands_30 J_X9_layStands_31 L_X9_layStands_36
        refine ite_ff ?_ n0
        obtain ⟨A, A0, As, Ae⟩ : ∃ A : Nat → Bool, A 0 = false ∧ (∀ j, A (j + 1) = (A j || wpB k h (T r) j)) ∧ anyB (wpB k h (T r)) 7 = A 7 := ⟨anyB (wpB k h (T r)), rfl, fun _ => rfl, rfl⟩
        rw [Ae] at ht
        refine for2_2 7 (fun p x => x = bI (A p)) ?_ ?_ 0 _ (Nat.zero_le _) (by rw [A0]; rfl)
        · rintro _ Ψ rfl
          unfold B_X9_layStands_36
          exact ite_tt (fin _ ht.symm) (by decide)
        · rintro p _ Ψ hp rfl hΨ
          have hl := aN_le k h p
          have hs := As p
          unfold B_X9_layStands_36 J_X9_layStands_84 J_X9_layStands_88 J_X9_layStands_89
          rw [erp, show nI p + 1 = nI (p + 1) from nI_1 p]
          refine ite_ff (ite_ff (afterM_s hk (by omega) (by omega) ?_) npos) (nI_ge hp (by decide))
          cases e1 : A p with
          | true => exact ite_ff (hΨ _ (by rw [hs, e1]; rfl)) (by decide)
          | false =>
            refine ite_tt (ite_c (fun z => hΨ _ ?_) (fun z => ?_)) rfl
            · rw [eA_m1 hl] at z
              rw [hs, e1]; unfold wpB; simp [z, bI]
            · rw [eA_m1 hl] at z
              rw [eA_n z, (cell _ (by omega)).2]
              have hw : wpB k h (T r) p = T r (aN k h p) := by unfold wpB; simp [z]
              refine ⟨(cell _ (by omega)).1, ?_⟩
              cases e2 : T r (aN k h p) with
              | true => exact ite_ff (hΨ _ (by rw [hs, e1, hw, e2]; rfl)) (by decide)
              | false => exact ite_tt (hΨ _ (by rw [hs, e1, hw, e2]; rfl)) rfl

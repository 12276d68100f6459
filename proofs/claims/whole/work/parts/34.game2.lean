theorem layGame_s {m : St} {k v : Nat} (hk : k < 6) (hv : v ≤ 3) {K : St → Prop} (hK : ∀ m', (∀ r x, r ≤ 2 * v → x ≤ 20 → m'.1 17 (21 * r + x) = bI (gmT k r x)) → (∀ a b, a ≠ 17 → m'.1 a b = m.1 a b) → m'.2 = m.2 → K m') : wp_X9_layGame (nI k) (nI v) m K := by
  obtain ⟨T, T0, Ts, Tq⟩ : ∃ T : Nat → Nat → Bool, (∀ h, T 0 h = decide (h = 20)) ∧ (∀ r h, T (r + 1) h = if r % 2 = 0 then allB (waB k h (T r)) 4 else anyB (wpB k h (T r)) 7) ∧ gmT k = T := ⟨gmT k, fun _ => rfl, fun _ _ => rfl, rfl⟩
  rw [Tq] at hK
  unfold wp_X9_layGame L_X9_layGame_2
  have e2v : (2 : Int32) * nI v = nI (2 * v) := by simp (disch := omega) only [lit_nI, nI_add, pk_mul, nI_clamp, vp_nI, nI_inj, nI_lt', nI_le', nI_neg1, nI_neg9, nI_neg3, neg1_nI, neg9_nI, neg_l0, neg_g0, ↓reduceIte, true_and, and_true, not_true_eq_false, not_false_eq_true, Nat.reduceEqDiff, Nat.reduceLeDiff, Nat.reduceAdd, Nat.reduceSub, Nat.reduceDiv, Nat.reduceMod, Nat.reducePow, Nat.reduceLT, Nat.reduceMul, Nat.not_lt_zero, Nat.zero_le, Nat.succ_ne_self, one_ne0, zero_ne1, ne_eq]
  refine for2_1 (2 * v + 1) (fun r τ => (∀ r' x, r' < r → x ≤ 20 → τ.1 17 (21 * r' + x) = bI (T r' x)) ∧ (∀ a b, a ≠ 17 → τ.1 a b = m.1 a b) ∧ τ.2 = m.2) ?_ ?_ 0 _ (Nat.zero_le _) ⟨fun r' x hr => by omega, fun _ _ _ => rfl, rfl⟩
  · rintro τ Φ ⟨t1, t2, t3⟩
    unfold B_X9_layGame_2
    rw [e2v]
    exact ite_tt (hK τ (fun r x hr hx => t1 r x (by omega) hx) t2 t3) (by rw [nI_lt' (by omega) (by omega)]; omega)
  · rintro r τ Φ hr ⟨t1, t2, t3⟩ hΦ
    unfold B_X9_layGame_2 L_X9_layGame_12
    rw [e2v]
    refine ite_ff ?_ (by rw [nI_lt' (by omega) (by omega)]; omega)
    refine for2_1 21 (fun h τ => (∀ r' x, r' < r → x ≤ 20 → τ.1 17 (21 * r' + x) = bI (T r' x)) ∧ (∀ x, x < h → τ.1 17 (21 * r + x) = bI (T r x)) ∧ (∀ a b, a ≠ 17 → τ.1 a b = m.1 a b) ∧ τ.2 = m.2) ?_ ?_ 0 _ (Nat.zero_le _) ⟨t1, fun x hx => by omega, t2, t3⟩
    · rintro τ Φ' ⟨u1, u2, u3, u4⟩
      unfold B_X9_layGame_12
      rw [show nI r + 1 = nI (r + 1) from nI_1 r]
      refine ite_tt (hΦ τ ⟨fun r' x hr' hx => ?_, u3, u4⟩) (by decide)
      by_cases e : r' = r
      · subst e; exact u2 x (by omega)
      · exact u1 r' x (by omega) hx
    · rintro h τ Φ' hh ⟨u1, u2, u3, u4⟩ hΦ'
      have i1 : (21 * nI r + nI h).toNatClampNeg = 21 * r + h := by simp (disch := omega) only [lit_nI, nI_add, pk_mul, nI_clamp, vp_nI, nI_inj, nI_lt', nI_le', nI_neg1, nI_neg9, nI_neg3, neg1_nI, neg9_nI, neg_l0, neg_g0, ↓reduceIte, true_and, and_true, not_true_eq_false, not_false_eq_true, Nat.reduceEqDiff, Nat.reduceLeDiff, Nat.reduceAdd, Nat.reduceSub, Nat.reduceDiv, Nat.reduceMod, Nat.reducePow, Nat.reduceLT, Nat.reduceMul, Nat.not_lt_zero, Nat.zero_le, Nat.succ_ne_self, one_ne0, zero_ne1, ne_eq]
      have i2 : vp_in (21 * nI r + nI h) 147 := by simp (disch := omega) only [lit_nI, nI_add, pk_mul, nI_clamp, vp_nI, nI_inj, nI_lt', nI_le', nI_neg1, nI_neg9, nI_neg3, neg1_nI, neg9_nI, neg_l0, neg_g0, ↓reduceIte, true_and, and_true, not_true_eq_false, not_false_eq_true, Nat.reduceEqDiff, Nat.reduceLeDiff, Nat.reduceAdd, Nat.reduceSub, Nat.reduceDiv, Nat.reduceMod, Nat.reducePow, Nat.reduceLT, Nat.reduceMul, Nat.not_lt_zero, Nat.zero_le, Nat.succ_ne_self, one_ne0, zero_ne1, ne_eq]; omega
      have fin : ∀ b, b = T r h → J_X9_layGame_177 (nI k) (nI v) (nI r) (nI h) (bI b) τ K Φ Φ' := by
        rintro _ rfl
        unfold J_X9_layGame_177
        rw [i1, nar_bI, show nI h + 1 = nI (h + 1) from nI_1 h]
        refine ⟨i2, hΦ' _ ⟨fun r' x hr' hx => (uI_n (by omega)).trans (u1 r' x hr' hx), fun x hx => ?_, fun a b z => (uI_c z).trans (u3 a b z), u4⟩⟩
        by_cases e : x = h
        · subst e; exact uI_s _ _ _ _
        · exact (uI_n (by omega)).trans (u2 x (by omega))
      have irr : irm (nI r) 2 = nI (r % 2) := irm2 (by omega)
      unfold B_X9_layGame_12
      rw [irr]
      refine ite_ff ?_ (by rw [lit_nI, nI_lt' (by decide) (by omega)]; omega)
      cases r with
      | zero =>
        refine ite_tt ?_ rfl
        unfold J_X9_layGame_30 J_X9_layGame_61 L_X9_layGame_66
        have go : ∀ b, b = T 0 h → wl2 (B_X9_layGame_66 (nI k) (nI v) (nI 0) (nI h) 1 τ K Φ Φ') (bI b) 0 := by
          intro b hb
          refine for2_2 7 (fun p x => p = 0 ∧ x = bI b) ?_ ?_ 0 _ (Nat.zero_le _) ⟨rfl, rfl⟩
          · rintro _ Ψ ⟨z, rfl⟩; omega
          · rintro p _ Ψ hp ⟨rfl, rfl⟩ hΨ
            unfold B_X9_layGame_66 J_X9_layGame_79
            exact ite_ff (ite_ff (ite_tt (fin b hb) (by decide)) (by decide)) (by decide)
        refine ite_tt (ite_c (fun z => go true ?_) (fun z => go false ?_)) rfl
        · rw [lit_nI, nI_inj (by omega) (by decide)] at z
          rw [T0, z]; rfl
        · rw [lit_nI, nI_inj (by omega) (by decide)] at z
          rw [T0, decide_eq_false z]
      | succ r =>
        have erp : nI (r + 1) - 1 = nI r := nI_pred r
        have npos : ¬ nI (r + 1) ≤ 0 := by rw [lit_nI, nI_le' (by omega) (by decide)]; omega
        have n0 : ¬ nI (r + 1) = 0 := nI_ne0 (by omega) (by omega)
        have cell : ∀ a, a ≤ 20 → vp_in (21 * nI r + nI a) 147 ∧ τ.1 17 (21 * nI r + nI a).toNatClampNeg = bI (T r a) := by
          intro a ha
          have j1 : (21 * nI r + nI a).toNatClampNeg = 21 * r + a := by simp (disch := omega) only [lit_nI, nI_add, pk_mul, nI_clamp, vp_nI, nI_inj, nI_lt', nI_le', nI_neg1, nI_neg9, nI_neg3, neg1_nI, neg9_nI, neg_l0, neg_g0, ↓reduceIte, true_and, and_true, not_true_eq_false, not_false_eq_true, Nat.reduceEqDiff, Nat.reduceLeDiff, Nat.reduceAdd, Nat.reduceSub, Nat.reduceDiv, Nat.reduceMod, Nat.reducePow, Nat.reduceLT, Nat.reduceMul, Nat.not_lt_zero, Nat.zero_le, Nat.succ_ne_self, one_ne0, zero_ne1, ne_eq]
          have j2 : vp_in (21 * nI r + nI a) 147 := by simp (disch := omega) only [lit_nI, nI_add, pk_mul, nI_clamp, vp_nI, nI_inj, nI_lt', nI_le', nI_neg1, nI_neg9, nI_neg3, neg1_nI, neg9_nI, neg_l0, neg_g0, ↓reduceIte, true_and, and_true, not_true_eq_false, not_false_eq_true, Nat.reduceEqDiff, Nat.reduceLeDiff, Nat.reduceAdd, Nat.reduceSub, Nat.reduceDiv, Nat.reduceMod, Nat.reducePow, Nat.reduceLT, Nat.reduceMul, Nat.not_lt_zero, Nat.zero_le, Nat.succ_ne_self, one_ne0, zero_ne1, ne_eq]; omega
          exact ⟨j2, by rw [j1]; exact u1 r a (by omega) ha⟩
        by_cases hm : r % 2 = 0
        · have ht := Ts r h
          rw [if_pos hm] at ht
          refine ite_ff ?_ (nI_ne0 (by omega) (by omega))
          unfold J_X9_layGame_30 J_X9_layGame_61 L_X9_layGame_66
          refine ite_ff (ite_tt ?_ rfl) n0
          obtain ⟨A, A0, As, Ae⟩ : ∃ A : Nat → Bool, A 0 = true ∧ (∀ j, A (j + 1) = (A j && waB k h (T r) j)) ∧ allB (waB k h (T r)) 4 = A 4 := ⟨allB (waB k h (T r)), rfl, fun _ => rfl, rfl⟩
          rw [Ae] at ht
          refine for2_2 4 (fun p x => x = bI (A p)) ?_ ?_ 0 _ (Nat.zero_le _) (by rw [A0]; rfl)
          · rintro _ Ψ rfl
            unfold B_X9_layGame_66 J_X9_layGame_79
            exact ite_tt (ite_tt (fin _ ht.symm) (by decide)) rfl
          · rintro p _ Ψ hp rfl hΨ
            have hl := aN_le k h p
            have nx : ∀ b, b = waB k h (T r) p → J_X9_layGame_129 (nI k) (nI v) (nI (r + 1)) (nI h) 0 (bI (A p)) (nI p) (bI b) τ K Φ Φ' Ψ := by
              rintro _ rfl
              unfold J_X9_layGame_129 J_X9_layGame_168 J_X9_layGame_169
              rw [show nI p + 1 = nI (p + 1) from nI_1 p]
              refine ite_tt ?_ rfl
              have hs := As p
              cases e1 : A p <;> cases e2 : waB k h (T r) p <;> rw [e1, e2] at hs
              · exact ite_tt (hΨ _ (by rw [hs]; rfl)) rfl
              · exact ite_tt (hΨ _ (by rw [hs]; rfl)) rfl
              · exact ite_ff (ite_tt (hΨ _ (by rw [hs]; rfl)) rfl) (by decide)
              · exact ite_ff (ite_ff (hΨ _ (by rw [hs]; rfl)) (by decide)) (by decide)
            unfold B_X9_layGame_66 J_X9_layGame_79
            rw [erp]
            refine ite_tt (ite_ff (ite_ff (afterM_s hk (by omega) (by omega) (ite_c (fun z => ite_tt (nx true ?_) rfl) (fun z => ?_))) npos) (by rw [lit_nI, nI_le' (by decide) (by omega)]; omega)) rfl
            · rw [eA_m1 hl] at z
              unfold waB; simp [z]
            · rw [eA_m1 hl] at z
              rw [eA_n z, (cell _ (by omega)).2]
              refine ⟨(cell _ (by omega)).1, nx _ ?_⟩
              unfold waB; simp [z]
        · have ht := Ts r h
          rw [if_neg hm] at ht
          refine ite_tt ?_ (by rw [show (r + 1) % 2 = 0 by omega]; rfl)
          unfold J_X9_layGame_30 J_X9_layGame_61 L_X9_layGame_66
          refine ite_ff (ite_ff ?_ (by decide)) n0
          obtain ⟨A, A0, As, Ae⟩ : ∃ A : Nat → Bool, A 0 = false ∧ (∀ j, A (j + 1) = (A j || wpB k h (T r) j)) ∧ anyB (wpB k h (T r)) 7 = A 7 := ⟨anyB (wpB k h (T r)), rfl, fun _ => rfl, rfl⟩
          rw [Ae] at ht
          refine for2_2 7 (fun p x => x = bI (A p)) ?_ ?_ 0 _ (Nat.zero_le _) (by rw [A0]; rfl)
          · rintro _ Ψ rfl
            unfold B_X9_layGame_66 J_X9_layGame_79
            exact ite_ff (ite_tt (fin _ ht.symm) (by decide)) (by decide)
          · rintro p _ Ψ hp rfl hΨ
            have hl := aN_le k h p
            have nx : ∀ b, b = wpB k h (T r) p → J_X9_layGame_129 (nI k) (nI v) (nI (r + 1)) (nI h) 1 (bI (A p)) (nI p) (bI b) τ K Φ Φ' Ψ := by
              rintro _ rfl
              unfold J_X9_layGame_129 J_X9_layGame_146 J_X9_layGame_169
              rw [show nI p + 1 = nI (p + 1) from nI_1 p]
              refine ite_ff ?_ (by decide)
              have hs := As p
              cases e1 : A p <;> cases e2 : wpB k h (T r) p <;> rw [e1, e2] at hs
              · exact ite_tt (ite_tt (hΨ _ (by rw [hs]; rfl)) rfl) rfl
              · exact ite_tt (ite_ff (hΨ _ (by rw [hs]; rfl)) (by decide)) rfl
              · exact ite_ff (hΨ _ (by rw [hs]; rfl)) (by decide)
              · exact ite_ff (hΨ _ (by rw [hs]; rfl)) (by decide)
            unfold B_X9_layGame_66 J_X9_layGame_79
            rw [erp]
            refine ite_ff (ite_ff (ite_ff (afterM_s hk (by omega) (by omega) (ite_c (fun z => ite_ff (nx false ?_) (by decide)) (fun z => ?_))) npos) (nI_ge hp (by decide))) (by decide)
            · rw [eA_m1 hl] at z
              unfold wpB; simp [z]
            · rw [eA_m1 hl] at z
              rw [eA_n z, (cell _ (by omega)).2]
              refine ⟨(cell _ (by omega)).1, nx _ ?_⟩
              unfold wpB; simp [z]

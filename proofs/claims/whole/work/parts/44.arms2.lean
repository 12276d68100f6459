/-! arms: the reference; the call -/
theorem armsM_s {m : St} {k g n h i ρ : Nat} (hk : k < 6) (hg : g ≤ 20) (hn : n ≤ 12) (hh : h ≤ 20) (hi : i < 6) (hρ : ρ < 6) (hb3 : m.1 1 (14 + i) = nI h) {K : Int32 → St → Prop}
    (k9 : arN k g n h = 1000000 → ∀ m' : St, (∀ a b, a ≠ 13 → m'.1 a b = m.1 a b) → m'.2 = m.2 → K (-9) m')
    (k1 : arN k g n h < 1000000 → ∀ m' : St, m'.1 4 ρ = nI n → (∀ j, j < n → m'.1 3 (40 * ρ + j) = nI (aP k g n h j)) → (∀ a b, a ≠ 3 → a ≠ 4 → a ≠ 13 → m'.1 a b = m.1 a b) → (∀ j, j ≠ ρ → m'.1 4 j = m.1 4 j) → (∀ j, j < 40 * ρ ∨ 40 * ρ + 40 ≤ j → m'.1 3 j = m.1 3 j) → m'.2 = m.2 → K (nI (arN k g n h)) m') : L_X9_arms_66 (nI i) (nI n) (nI g) (nI ρ) (nI k) K 0 m := by
  have hpok := aH_ok (k := k) (g := g) (n := n) hh
  have hpst := fun j => aP_st (k := k) (g := g) (n := n) (j := j) hh
  obtain ⟨T, T0, Ts, Tk, Te⟩ : ∃ T : Nat → Nat → Nat, (∀ h, T 0 h = if h = g then 0 else 1000000) ∧ (∀ r h, T (r + 1) h = mnN (fA k (T r) h) 7) ∧ (∀ r, r ≤ 12 → okW (T r)) ∧ arN k g = T := ⟨arN k g, fun _ => rfl, fun _ _ => rfl, fun r hr => arN_ok hr, rfl⟩
  rw [Te] at k9 k1 hpok hpst
  have i1 : (14 + nI i).toNatClampNeg = 14 + i := by simp (disch := omega) only [lit_nI, nI_add, pk_mul, nI_clamp, vp_nI, nI_inj, nI_lt', nI_le', nI_neg1, nI_neg9, nI_neg3, neg1_nI, neg9_nI, neg_l0, neg_g0, ↓reduceIte, true_and, and_true, not_true_eq_false, not_false_eq_true, Nat.reduceEqDiff, Nat.reduceLeDiff, Nat.reduceAdd, Nat.reduceSub, Nat.reduceDiv, Nat.reduceMod, Nat.reducePow, Nat.reduceLT, Nat.reduceMul, Nat.not_lt_zero, Nat.zero_le, Nat.succ_ne_self, one_ne0, zero_ne1, ne_eq]
  have i2 : vp_in (14 + nI i) 5280 := by simp (disch := omega) only [lit_nI, nI_add, pk_mul, nI_clamp, vp_nI, nI_inj, nI_lt', nI_le', nI_neg1, nI_neg9, nI_neg3, neg1_nI, neg9_nI, neg_l0, neg_g0, ↓reduceIte, true_and, and_true, not_true_eq_false, not_false_eq_true, Nat.reduceEqDiff, Nat.reduceLeDiff, Nat.reduceAdd, Nat.reduceSub, Nat.reduceDiv, Nat.reduceMod, Nat.reducePow, Nat.reduceLT, Nat.reduceMul, Nat.not_lt_zero, Nat.zero_le, Nat.succ_ne_self, one_ne0, zero_ne1, ne_eq]; omega
  have ix : ∀ r a, r ≤ 12 → a ≤ 20 → vp_in (21 * nI r + nI a) 273 ∧ (21 * nI r + nI a).toNatClampNeg = 21 * r + a := by
    intro r a hr ha
    have j1 : (21 * nI r + nI a).toNatClampNeg = 21 * r + a := by simp (disch := omega) only [lit_nI, nI_add, pk_mul, nI_clamp, vp_nI, nI_inj, nI_lt', nI_le', nI_neg1, nI_neg9, nI_neg3, neg1_nI, neg9_nI, neg_l0, neg_g0, ↓reduceIte, true_and, and_true, not_true_eq_false, not_false_eq_true, Nat.reduceEqDiff, Nat.reduceLeDiff, Nat.reduceAdd, Nat.reduceSub, Nat.reduceDiv, Nat.reduceMod, Nat.reducePow, Nat.reduceLT, Nat.reduceMul, Nat.not_lt_zero, Nat.zero_le, Nat.succ_ne_self, one_ne0, zero_ne1, ne_eq]
    have j2 : vp_in (21 * nI r + nI a) 273 := by simp (disch := omega) only [lit_nI, nI_add, pk_mul, nI_clamp, vp_nI, nI_inj, nI_lt', nI_le', nI_neg1, nI_neg9, nI_neg3, neg1_nI, neg9_nI, neg_l0, neg_g0, ↓reduceIte, true_and, and_true, not_true_eq_false, not_false_eq_true, Nat.reduceEqDiff, Nat.reduceLeDiff, Nat.reduceAdd, Nat.reduceSub, Nat.reduceDiv, Nat.reduceMod, Nat.reducePow, Nat.reduceLT, Nat.reduceMul, Nat.not_lt_zero, Nat.zero_le, Nat.succ_ne_self, one_ne0, zero_ne1, ne_eq]; omega
    exact ⟨j2, j1⟩
  unfold L_X9_arms_66
  refine for2_1 (n + 1) (fun r τ => (∀ r' x, r' < r → x ≤ 20 → τ.1 13 (21 * r' + x) = nI (T r' x)) ∧ (∀ a b, a ≠ 13 → τ.1 a b = m.1 a b) ∧ τ.2 = m.2) ?_ ?_ 0 _ (Nat.zero_le _) ⟨fun r' x hr => by omega, fun _ _ _ => rfl, rfl⟩
  · rintro τ Φ ⟨t1, t2, t3⟩
    unfold B_X9_arms_66
    obtain ⟨y1, y2⟩ := ix n h (by omega) hh
    have hTn := Tk n hn h
    rw [i1, t2 1 _ (by decide), hb3, y2, t1 n h (by omega) hh]
    refine ite_tt ⟨i2, y1, ite_c (fun z => anewM_s hρ ?_) (fun z => k9 ?_ τ t2 t3)⟩ (by rw [nI_lt' (by omega) (by omega)]; omega)
    · rw [lit_nI, nI_lt' (by omega) (by decide)] at z
      unfold L_X9_arms_252
      obtain ⟨HT, PL, H0, Hle, Hst⟩ : ∃ HT PL : Nat → Nat, HT 0 = h ∧ (∀ j, j ≤ n → HT j ≤ 20) ∧ ∀ j, j < n → PL j = aP k g n h j ∧ PL j < 7 ∧ aN k (HT j) (PL j) = HT (j + 1) ∧ T (n - j) (HT j) = PL j + T (n - 1 - j) (HT (j + 1)) ∧ ∀ q, q < PL j → aN k (HT j) q ≠ 21 → T (n - j) (HT j) ≠ q + T (n - 1 - j) (aN k (HT j) q) := by
        refine ⟨aH k g n h, aP k g n h, rfl, fun j hj => (hpok z j hj).1, fun j hj => ?_⟩
        obtain ⟨e1, e2, e3, e4, e5⟩ := hpst j z hj
        exact ⟨rfl, e2, e3, e4, e5⟩
      have w13 : ∀ r x, r ≤ n → x ≤ 20 → (anewM τ ρ n).1 13 (21 * r + x) = nI (T r x) := fun r x hr hx => by rw [← t1 r x (by omega) hx]; simp [anewM]
      have e0 : nI h = nI (HT 0) := by rw [H0]
      rw [e0]
      refine for3_2 n (fun j x υ => x = nI (HT j) ∧ (∀ i, i < j → υ.1 3 (40 * ρ + i) = nI (PL i)) ∧ (∀ a x, a ≠ 3 → υ.1 a x = (anewM τ ρ n).1 a x) ∧ (∀ x, x < 40 * ρ ∨ 40 * ρ + 40 ≤ x → υ.1 3 x = (anewM τ ρ n).1 3 x) ∧ υ.2 = τ.2) ?_ ?_ 0 _ _ (Nat.zero_le _) ⟨rfl, fun i hi => by omega, fun _ _ _ => rfl, fun _ _ => rfl, rfl⟩
      · rintro _ υ Ψ ⟨rfl, u1, u2, u3, u4⟩
        unfold B_X9_arms_252
        refine ite_tt (k1 z υ ?_ (fun j hj => ?_) (fun a b z1 z2 z3 => ?_) (fun j hj => ?_) (fun j hj => ?_) (u4.trans t3)) (Int32.le_refl _)
        · rw [u2 4 ρ (by decide)]; simp [anewM]
        · rw [u1 j hj, (Hst j hj).1]
        · rw [u2 a b z1, ← t2 a b z3]; simp [anewM, z1, z2]
        · rw [u2 4 j (by decide), ← t2 4 j (by decide)]; simp [anewM, hj]
        · rw [u3 j hj, ← t2 3 j (by decide)]
          show (if (3 = 3 ∧ 40 * ρ ≤ j ∧ j < 40 * ρ + 40) then nI 0 else if (3 = 4 ∧ j = ρ) then nI n else τ.1 3 j) = τ.1 3 j
          rw [if_neg (by omega), if_neg (by omega)]
      · rintro j _ υ Ψ hj ⟨rfl, u1, u2, u3, u4⟩ hΨ
        unfold B_X9_arms_252 L_X9_arms_271
        obtain ⟨s1, s2, s3, s4, s5⟩ := Hst j hj
        have hle := Hle j (by omega)
        have hle1 := Hle (j + 1) (by omega)
        have v13 : ∀ r x, r ≤ n → x ≤ 20 → υ.1 13 (21 * r + x) = nI (T r x) := fun r x hr hx => by rw [u2 13 _ (by decide)]; exact w13 r x hr hx
        obtain ⟨x1, x2⟩ := ix (n - j) (HT j) (by omega) hle
        have bd1 := Tk (n - j) (by omega) (HT j)
        have esub : nI n - nI j = nI (n - j) := pk_sub (by omega)
        have esub1 : nI (n - j) - 1 = nI (n - 1 - j) := by rw [show n - j = (n - 1 - j) + 1 by omega]; exact nI_pred _
        refine ite_ff (afterM_s (p := 0) hk (by omega) (by decide) ?_) (nI_ge hj (by omega))
        refine for2_1 (PL j) (fun p x => x = eA (aN k (HT j) p)) ?_ ?_ 0 _ (Nat.zero_le _) rfl
        · rintro _ Ψ' rfl
          unfold B_X9_arms_271
          obtain ⟨y1, y2⟩ := ix (n - 1 - j) (HT (j + 1)) (by omega) hle1
          have bd2 := Tk (n - 1 - j) (by omega) (HT (j + 1))
          have i5 : (40 * nI ρ + nI j).toNatClampNeg = 40 * ρ + j := by simp (disch := omega) only [lit_nI, nI_add, pk_mul, nI_clamp, vp_nI, nI_inj, nI_lt', nI_le', nI_neg1, nI_neg9, nI_neg3, neg1_nI, neg9_nI, neg_l0, neg_g0, ↓reduceIte, true_and, and_true, not_true_eq_false, not_false_eq_true, Nat.reduceEqDiff, Nat.reduceLeDiff, Nat.reduceAdd, Nat.reduceSub, Nat.reduceDiv, Nat.reduceMod, Nat.reducePow, Nat.reduceLT, Nat.reduceMul, Nat.not_lt_zero, Nat.zero_le, Nat.succ_ne_self, one_ne0, zero_ne1, ne_eq]
          have i6 : vp_in (40 * nI ρ + nI j) 240 := by simp (disch := omega) only [lit_nI, nI_add, pk_mul, nI_clamp, vp_nI, nI_inj, nI_lt', nI_le', nI_neg1, nI_neg9, nI_neg3, neg1_nI, neg9_nI, neg_l0, neg_g0, ↓reduceIte, true_and, and_true, not_true_eq_false, not_false_eq_true, Nat.reduceEqDiff, Nat.reduceLeDiff, Nat.reduceAdd, Nat.reduceSub, Nat.reduceDiv, Nat.reduceMod, Nat.reducePow, Nat.reduceLT, Nat.reduceMul, Nat.not_lt_zero, Nat.zero_le, Nat.succ_ne_self, one_ne0, zero_ne1, ne_eq]; omega
          rw [s3, eA_n (by omega), esub, esub1, show nI j + 1 = nI (j + 1) from nI_1 j, y2, x2, v13 _ _ (by omega) hle1, v13 _ _ (by omega) hle, i5, nI_add]
          refine ite_ff ⟨y1, x1, ite_tt ⟨i6, hΨ _ _ ⟨rfl, fun i' hi' => ?_, fun a x z => (uI_c z).trans (u2 a x z), fun x hx => (uI_n (by omega)).trans (u3 x hx), u4⟩⟩ (by rw [s4])⟩ (fun e => (nI_neg1 (a := HT (j + 1)) (by omega)).mp e)
          by_cases e : i' = j
          · subst e; exact uI_s _ _ _ _
          · exact (uI_n (by omega)).trans (u1 i' (by omega))
        · rintro p _ Ψ' hp rfl hΨ'
          unfold B_X9_arms_271 J_X9_arms_315
          have hl := aN_le k (HT j) p
          rw [esub, esub1, show nI p + 1 = nI (p + 1) from nI_1 p, x2, v13 _ _ (by omega) hle]
          refine ite_c (fun z => afterM_s (p := p + 1) hk (by omega) (by omega) (hΨ' _ rfl)) (fun z => ?_)
          rw [eA_m1 hl] at z
          obtain ⟨y1, y2⟩ := ix (n - 1 - j) (aN k (HT j) p) (by omega) (by omega)
          have bd2 := Tk (n - 1 - j) (by omega) (aN k (HT j) p)
          rw [eA_n z, y2, v13 _ _ (by omega) (by omega), nI_add]
          refine ⟨y1, x1, ite_ff (afterM_s (p := p + 1) hk (by omega) (by omega) (hΨ' _ rfl)) ?_⟩
          rw [nI_inj (by omega) (by omega)]
          exact fun e => s5 p hp z e.symm
    · rw [lit_nI, nI_lt' (by omega) (by decide)] at z
      omega
  · rintro r τ Φ hr ⟨t1, t2, t3⟩ hΦ
    unfold B_X9_arms_66 L_X9_arms_75
    refine ite_ff ?_ (by rw [nI_lt' (by omega) (by omega)]; omega)
    refine for2_1 21 (fun h τ => (∀ r' x, r' < r → x ≤ 20 → τ.1 13 (21 * r' + x) = nI (T r' x)) ∧ (∀ x, x < h → τ.1 13 (21 * r + x) = nI (T r x)) ∧ (∀ a b, a ≠ 13 → τ.1 a b = m.1 a b) ∧ τ.2 = m.2) ?_ ?_ 0 _ (Nat.zero_le _) ⟨t1, fun x hx => by omega, t2, t3⟩
    · rintro τ Φ' ⟨u1, u2, u3, u4⟩
      unfold B_X9_arms_75
      rw [show nI r + 1 = nI (r + 1) from nI_1 r]
      refine ite_tt (hΦ τ ⟨fun r' x hr' hx => ?_, u3, u4⟩) (by decide)
      by_cases e : r' = r
      · subst e; exact u2 x (by omega)
      · exact u1 r' x (by omega) hx
    · rintro h τ Φ' hh ⟨u1, u2, u3, u4⟩ hΦ'
      obtain ⟨x1, x2⟩ := ix r h (by omega) (by omega)
      have fin : ∀ v, v = nI (T r h) → J_X9_arms_180 (nI i) (nI n) (nI g) (nI ρ) (nI k) (nI r) (nI h) v τ K Φ Φ' := by
        rintro _ rfl
        unfold J_X9_arms_180
        rw [x2, show nI h + 1 = nI (h + 1) from nI_1 h]
        refine ⟨x1, hΦ' _ ⟨fun r' x hr' hx => (uI_n (by omega)).trans (u1 r' x hr' hx), fun x hx => ?_, fun a b z => (uI_c z).trans (u3 a b z), u4⟩⟩
        by_cases e : x = h
        · subst e; exact uI_s _ _ _ _
        · exact (uI_n (by omega)).trans (u2 x (by omega))
      unfold B_X9_arms_75
      refine ite_ff ?_ (by rw [lit_nI, nI_lt' (by decide) (by omega)]; omega)
      cases r with
      | zero =>
        unfold J_X9_arms_97 J_X9_arms_99 L_X9_arms_104
        have go : ∀ v, v = nI (T 0 h) → wl2 (B_X9_arms_104 (nI i) (nI n) (nI g) (nI ρ) (nI k) (nI 0) (nI h) τ K Φ Φ') v 0 := by
          intro v hv
          refine for2_2 7 (fun p x => p = 0 ∧ x = v) ?_ ?_ 0 _ (Nat.zero_le _) ⟨rfl, rfl⟩
          · rintro _ Ψ ⟨z, rfl⟩; omega
          · rintro p _ Ψ hp ⟨rfl, rfl⟩ hΨ
            unfold B_X9_arms_104
            exact ite_ff (ite_tt (fin _ hv) (by decide)) (by decide)
        refine ite_tt (ite_c (fun z => go 0 ?_) (fun z => go 1000000 ?_)) rfl
        · rw [nI_inj (by omega) (by omega)] at z
          rw [T0, if_pos z]; rfl
        · rw [nI_inj (by omega) (by omega)] at z
          rw [T0, if_neg z]; rfl
      | succ r =>
        have erp : nI (r + 1) - 1 = nI r := nI_pred r
        have npos : ¬ nI (r + 1) ≤ 0 := by rw [lit_nI, nI_le' (by omega) (by decide)]; omega
        have n0 : ¬ nI (r + 1) = 0 := nI_ne0 (by omega) (by omega)
        have ht := Ts r h
        have hok := Tk r (by omega)
        unfold J_X9_arms_97 J_X9_arms_99 L_X9_arms_104
        refine ite_ff ?_ n0
        obtain ⟨f, hf⟩ : ∃ f, fA k (T r) h = f := ⟨_, rfl⟩
        have hfv : ∀ p, f p = if aN k h p = 21 then 1000000 else p + T r (aN k h p) := fun p => by rw [← hf]; rfl
        have hfb : ∀ p, p < 7 → f p ≤ 78 ∨ (1000000 ≤ f p ∧ f p ≤ 1000006) := fun p hp => by rw [← hf]; exact fA_b hok h hp
        rw [hf] at ht
        obtain ⟨M, M0, Ms, Ml, Me⟩ : ∃ M : Nat → Nat, M 0 = 1000000 ∧ (∀ p, M (p + 1) = if f p < M p then f p else M p) ∧ (∀ p, M p ≤ 1000000) ∧ mnN f 7 = M 7 := ⟨mnN f, rfl, fun _ => rfl, mnN_le f, rfl⟩
        rw [Me] at ht
        refine for2_2 7 (fun p x => x = nI (M p)) ?_ ?_ 0 _ (Nat.zero_le _) (by rw [M0]; rfl)
        · rintro _ Ψ rfl
          unfold B_X9_arms_104
          exact ite_tt (fin _ (by rw [ht])) (by decide)
        · rintro p _ Ψ hp rfl hΨ
          have hl := aN_le k h p
          have ms := Ms p
          have ml := Ml p
          have fb := hfb p hp
          have fv := hfv p
          have mid : ∀ v, v = nI (f p) → J_X9_arms_156 (nI i) (nI n) (nI g) (nI ρ) (nI k) (nI (r + 1)) (nI h) (nI (M p)) (nI p) v τ K Φ Φ' Ψ := by
            rintro _ rfl
            unfold J_X9_arms_156 J_X9_arms_172
            rw [show nI p + 1 = nI (p + 1) from nI_1 p]
            refine ite_c (fun z => hΨ _ ?_) (fun z => hΨ _ ?_)
            · rw [nI_le' (by omega) (by omega)] at z
              rw [ms, if_neg (by omega)]
            · rw [nI_le' (by omega) (by omega)] at z
              rw [ms, if_pos (by omega)]
          unfold B_X9_arms_104
          rw [erp]
          refine ite_ff (ite_ff (afterM_s hk (by omega) (by omega) (ite_c (fun z => mid _ ?_) (fun z => ?_))) npos) (nI_ge hp (by decide))
          · rw [eA_m1 hl] at z
            rw [fv, if_pos z]; rfl
          · rw [eA_m1 hl] at z
            rw [if_neg z] at fv
            obtain ⟨y1, y2⟩ := ix r (aN k h p) (by omega) (by omega)
            rw [eA_n z, y2, u1 r _ (by omega) (by omega), nI_add, ← fv]
            exact ⟨y1, mid _ rfl⟩
theorem op_arms {c m : St} (h : Rel c m) (a b e p : Int32) : wp_X8_arms a b e p c (fun r c' => wp_X9_arms a b e p m (fun r' m' => r = r' ∧ Rel c' m')) := by
  obtain ⟨n, dm, d, N⟩ := h.now
  have hn := N.1.1
  by_cases hall : vp_in a n ∧ vp_in b 13 ∧ vp_in e 21 ∧ vp_in p 6
  · obtain ⟨ha, hb, he, hp⟩ := hall
    obtain ⟨i, hi, rfl⟩ := vp_in_of ha (by omega)
    obtain ⟨s, hs, rfl⟩ := vp_in_of hb (by decide)
    obtain ⟨g, hg, rfl⟩ := vp_in_of he (by decide)
    obtain ⟨ρ, hρ, rfl⟩ := vp_in_of hp (by decide)
    obtain ⟨⟨b1, b2, b3, b4, b5⟩, ⟨c1, c2, c3, c4⟩, d1, d2, d3, d4, d5⟩ := N.2.2.2 i hi
    have km : ∀ K : Int32 → St → Prop, wp_X9_isOver (nI i) m (fun r44 => if r44 = 0 then (vp_in (2 + nI i) 5280 ∧ L_X9_arms_66 (nI i) (nI s) (nI g) (nI ρ) (m.1 1 (2 + nI i).toNatClampNeg) K 0 m) else K (-4) m) → wp_X9_arms (nI i) (nI s) (nI g) (nI ρ) m K := by
      intro K hK
      unfold wp_X9_arms J_X9_arms_40
      refine isBell_y N hi (ite_ff ?_ (by decide))
      refine inM (x := s) (l := 0) (h := 12) (by rw [toInt_L, nI_toInt (by omega)]) (by decide) (by decide) (fun _ _ => ite_ff ?_ (by decide)) (fun z => by omega)
      refine inM (x := g) (l := 0) (h := 20) (by rw [toInt_L, nI_toInt (by omega)]) (by decide) (by decide) (fun _ _ => ite_ff ?_ (by decide)) (fun z => by omega)
      exact isRowM_y hρ (ite_ff hK (by decide))
    unfold wp_X8_arms J_X8_arms_28 J_X8_arms_109
    refine ite_ff (ite_ff (ite_ff (ite_ff (isRow_y hρ (ite_ff ?_ (by decide))) (by rw [lit_nI, nI_lt' (by decide) (by omega)]; omega)) (by rw [lit_nI, nI_lt' (by omega) (by decide)]; omega)) (by rw [lit_nI, nI_lt' (by decide) (by omega)]; omega)) (by rw [lit_nI, nI_lt' (by omega) (by decide)]; omega)
    refine refuse_s N hi (fun o => ite_ff ?_ (by decide)) (fun o => ite_tt ?_ rfl)
    · exact km _ (isOver_s N hi (fun _ => ite_ff ⟨rfl, h⟩ (by decide)) (fun q => by omega))
    · refine ⟨vp_in_nI (by omega) (by decide), ?_⟩
      have i3 : (2 + nI i).toNatClampNeg = 2 + i := by simp (disch := omega) only [lit_nI, nI_add, pk_mul, nI_clamp, vp_nI, nI_inj, nI_lt', nI_le', nI_neg1, nI_neg9, nI_neg3, neg1_nI, neg9_nI, neg_l0, neg_g0, ↓reduceIte, true_and, and_true, not_true_eq_false, not_false_eq_true, Nat.reduceEqDiff, Nat.reduceLeDiff, Nat.reduceAdd, Nat.reduceSub, Nat.reduceDiv, Nat.reduceMod, Nat.reducePow, Nat.reduceLT, Nat.reduceMul, Nat.not_lt_zero, Nat.zero_le, Nat.succ_ne_self, one_ne0, zero_ne1, ne_eq]
      have i4 : vp_in (2 + nI i) 5280 := by simp (disch := omega) only [lit_nI, nI_add, pk_mul, nI_clamp, vp_nI, nI_inj, nI_lt', nI_le', nI_neg1, nI_neg9, nI_neg3, neg1_nI, neg9_nI, neg_l0, neg_g0, ↓reduceIte, true_and, and_true, not_true_eq_false, not_false_eq_true, Nat.reduceEqDiff, Nat.reduceLeDiff, Nat.reduceAdd, Nat.reduceSub, Nat.reduceDiv, Nat.reduceMod, Nat.reducePow, Nat.reduceLT, Nat.reduceMul, Nat.not_lt_zero, Nat.zero_le, Nat.succ_ne_self, one_ne0, zero_ne1, ne_eq]; omega
      rw [nI_clamp (show i < 2 ^ 31 by omega), nI_clamp (show ρ < 2 ^ 31 by omega), c1]
      refine weigh_s b1 (by omega) (by omega) (fun c' g1 g2 g3 => ?_)
      have hR : Rel c' m := h.keep ⟨fun k j hk => g2 k j (by omega), fun j => by rw [g3]⟩ (KeepM.rf m)
      rw [g2 (28 + i) 3 (by omega), c3]
      have hab := arN_b (kd c i) g s (hdN c i)
      refine armsFrom_s (by omega) b3 (g1 s _ (Nat.le_refl _) b3) ?_
      by_cases ha : arN (kd c i) g s (hdN c i) = 1000000
      · refine ite_tt ?_ (eS_M (by omega))
        rw [eS_M (by omega)]
        refine km _ (isOver_s N hi (fun q => by omega) (fun _ => ite_tt ⟨i4, ?_⟩ rfl))
        rw [i3, d1]
        refine armsM_s b1 (by omega) (by omega) b3 (by omega) hρ d3 (fun _ m' e1 e2 => ⟨rfl, ?_⟩) (fun q => by omega)
        exact hR.keep (KeepC.rf _) ⟨⟨e1 _ _ (by decide), e1 _ _ (by decide), e1 _ _ (by decide)⟩, fun _ _ => e1 _ _ (by decide), fun k _ hk => e1 _ _ (by omega), by rw [e2], by rw [e2]⟩
      · have ha1 : arN (kd c i) g s (hdN c i) < 1000000 := by omega
        rw [eS_n ha1]
        refine ite_ff ⟨hp, ?_⟩ (fun e => (nI_neg9 (a := arN (kd c i) g s (hdN c i)) (by omega)).mp e)
        refine layLight_s b1 (by omega) b3 hρ (by omega) (by rw [g2 _ _ (by omega)]; exact c1) (by rw [g2 _ _ (by omega)]; exact c3) g1 ha1 (fun c'' r1 r2 r3 r4 r5 => ?_)
        refine km _ (isOver_s N hi (fun q => by omega) (fun _ => ite_tt ⟨i4, ?_⟩ rfl))
        rw [i3, d1]
        refine armsM_s b1 (by omega) (by omega) b3 (by omega) hρ d3 (fun q => by omega) (fun _ m' e1 e2 e3 e4 e5 e6 => ⟨rfl, ?_⟩)
        obtain ⟨mm, em, em2⟩ : ∃ mm : St, (∀ k j, mm.1 k j = if k = 13 then m'.1 k j else m.1 k j) ∧ mm.2 = m.2 := ⟨(fun k j => if k = 13 then m'.1 k j else m.1 k j, m.2), fun _ _ => rfl, rfl⟩
        have k13 : ∀ k j, k ≠ 13 → mm.1 k j = m.1 k j := fun k j hk => by rw [em, if_neg hk]
        have hM : Rel c' mm := hR.keep (KeepC.rf _) ⟨⟨k13 _ _ (by decide), k13 _ _ (by decide), k13 _ _ (by decide)⟩, fun _ _ => k13 _ _ (by decide), fun k _ hk => k13 _ _ (by omega), by rw [em2], by rw [em2]⟩
        refine hM.row hρ (Or.inl ⟨s, by omega, r1, r2, e1, fun j hj => ?_⟩) r4 r5 (fun k j z1 z2 _ => ?_) (fun j hj => ?_) (fun j hj => ?_) (e6.trans em2.symm)
        · rw [e2 j hj, r3 j hj]
        · rw [em]
          by_cases e13 : k = 13
          · rw [if_pos e13]
          · rw [if_neg e13]; exact e3 k j z1 z2 e13
        · rw [k13 4 j (by decide)]; exact e4 j hj
        · rw [k13 3 j (by decide)]; exact e5 j hj
  · have hbad : wp_X9_arms a b e p m (fun r' m' => (-1 : Int32) = r' ∧ Rel c m') := by
      unfold wp_X9_arms J_X9_arms_40
      by_cases ha : vp_in a n
      · obtain ⟨i, hi, rfl⟩ := vp_in_of ha (by omega)
        refine isBell_y N hi (ite_ff ?_ (by decide))
        refine inM (x := b.toInt) (l := 0) (h := 12) (toInt_L b) (by decide) (by decide) (fun q1 q2 => ite_ff ?_ (by decide)) (fun _ => ite_tt ⟨rfl, h⟩ rfl)
        refine inM (x := e.toInt) (l := 0) (h := 20) (toInt_L e) (by decide) (by decide) (fun r1 r2 => ite_ff ?_ (by decide)) (fun _ => ite_tt ⟨rfl, h⟩ rfl)
        by_cases hp : vp_in p 6
        · exact absurd ⟨ha, vp_in_iff.mpr ⟨q1, by omega⟩, vp_in_iff.mpr ⟨r1, by omega⟩, hp⟩ hall
        · exact isRowM_n hp (ite_tt ⟨rfl, h⟩ rfl)
      · exact isBell_n N ha (ite_tt ⟨rfl, h⟩ rfl)
    unfold wp_X8_arms J_X8_arms_28
    refine ite_c (fun _ => hbad) (fun z1 => ite_c (fun _ => hbad) (fun z2 => ite_c (fun _ => hbad) (fun z3 => ite_c (fun _ => hbad) (fun z4 => ?_))))
    obtain ⟨s, hs, rfl⟩ := le_nI (n := 12) (by decide) (Int32.not_lt.mp z2) (Int32.not_lt.mp z1)
    obtain ⟨g, hg, rfl⟩ := le_nI (n := 20) (by decide) (Int32.not_lt.mp z4) (Int32.not_lt.mp z3)
    by_cases hp : vp_in p 6
    · obtain ⟨ρ, hρ, rfl⟩ := vp_in_of hp (by decide)
      refine isRow_y hρ (ite_ff ?_ (by decide))
      by_cases ha : vp_in a n
      · exact absurd ⟨ha, vp_in_nI (by omega) (by decide), vp_in_nI (by omega) (by decide), hp⟩ hall
      · exact refuse_bad N ha (ite_ff hbad (by decide))
    · exact isRow_n hp (ite_tt hbad rfl)

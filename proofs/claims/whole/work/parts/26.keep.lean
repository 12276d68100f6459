/-! keep, on -/
/-- a tower becomes as another one is -/
theorem become_s {c : St} {T U n dm d : Nat} (hTU : T + 9 ≤ U ∨ U + 9 ≤ T) (TC : TowC c U n dm d) {K : St → Prop} (hK : ∀ c', (∀ j, 2 ≤ j → j ≤ 4 → c'.1 T j = c.1 U j) → (∀ i j, i < n → j ≤ 5 → c'.1 (T + 3 + i) j = c.1 (U + 3 + i) j) → (∀ j, j < d → c'.1 (T + 2) j = c.1 (U + 2) j) → (∀ a b, a < T ∨ T + 9 ≤ a → c'.1 a b = c.1 a b) → c'.2 = c.2 → K c') : wp_X7_become T U c K := by
  obtain ⟨h1, h2, h3, h4, h5, h6, h7, h8⟩ := TC
  unfold wp_X7_become L_X7_become_26
  have ok : ∀ i, i < n → zok (c.1 (U + 3 + i) 5) := by
    intro i hi
    obtain ⟨⟨k, hk, ek⟩, -, ⟨x, hx, ex⟩, est⟩ := h7 i hi
    obtain ⟨a, o, -, ho, -, -, eo⟩ := stC_ok hk ek hx ex d
    rw [← est] at eo
    have eo' : c.1 (U + 3 + i) 5 = nI o := eo
    rw [eo']
    rcases (show o = 0 ∨ o = 1 by omega) with rfl | rfl
    · exact zok0
    · exact zok1
  refine for2_1 n (fun q τ => (∀ j, 2 ≤ j → j ≤ 4 → τ.1 T j = c.1 U j) ∧ (∀ i j, i < q → j ≤ 5 → τ.1 (T + 3 + i) j = c.1 (U + 3 + i) j) ∧ (∀ a b, a < T ∨ T + 9 ≤ a → τ.1 a b = c.1 a b) ∧ τ.2 = c.2) ?_ ?_ 0 _ (Nat.zero_le _) ⟨fun j z1 z2 => ?_, fun i j z => by omega, fun a b z => ?_, rfl⟩
  · rintro τ Φ ⟨q1, q2, q3, q4⟩
    unfold B_X7_become_26 L_X7_become_57
    rw [q1 2 (by omega) (by omega), h4]
    refine ite_tt ?_ (Int32.le_refl _)
    refine for2_1 d (fun q σ => (∀ j, 2 ≤ j → j ≤ 4 → σ.1 T j = c.1 U j) ∧ (∀ i j, i < n → j ≤ 5 → σ.1 (T + 3 + i) j = c.1 (U + 3 + i) j) ∧ (∀ j, j < q → σ.1 (T + 2) j = c.1 (U + 2) j) ∧ (∀ a b, a < T ∨ T + 9 ≤ a → σ.1 a b = c.1 a b) ∧ σ.2 = c.2) ?_ ?_ 0 _ (Nat.zero_le _) ⟨q1, q2, fun j z => by omega, q3, q4⟩
    · rintro σ Φ ⟨r1, r2, r3, r4, r5⟩
      unfold B_X7_become_57
      rw [r1 4 (by omega) (by omega), h6]
      exact ite_tt (hK σ r1 r2 r3 r4 r5) (Int32.le_refl _)
    · rintro q σ Φ hq ⟨r1, r2, r3, r4, r5⟩ hΦ
      unfold B_X7_become_57
      rw [r1 4 (by omega) (by omega), h6, nI_clamp (by omega), r4 (U + 2) q (by omega), show nI q + 1 = nI (q + 1) from nI_1 q]
      have hv := vp_in_nI (n := q) (N := 40) (by omega) (by decide)
      refine ite_ff ⟨hv, hv, hΦ _ ⟨fun j z1 z2 => ?_, fun i j z1 z2 => ?_, fun j z => ?_, fun a b z => ?_, r5⟩⟩ (nI_ge hq (by omega))
      · rw [uI_c (by omega)]; exact r1 j z1 z2
      · rw [uI_c (by omega)]; exact r2 i j z1 z2
      · by_cases e : j = q
        · subst e; rw [uI_s]
        · rw [uI_n e]; exact r3 j (by omega)
      · rw [uI_c (by omega)]; exact r4 a b z
  · rintro q τ Φ hq ⟨q1, q2, q3, q4⟩ hΦ
    unfold B_X7_become_26 wp_X0_become wp_X0_begin wp_X0_rewind
    rw [q1 2 (by omega) (by omega), h4, nI_clamp (by omega), show nI q + 1 = nI (q + 1) from nI_1 q]
    have hv := vp_in_nI (n := q) (N := 6) (by omega) (by decide)
    have eU : ∀ j, τ.1 (U + 3 + q) j = c.1 (U + 3 + q) j := fun j => q3 _ _ (by omega)
    refine ite_ff ⟨hv, hv, ?_⟩ (nI_ge hq (by omega))
    have hne : U + 3 + q ≠ T + 3 + q := by omega
    simp only [uI_1, hne, false_and, if_false, eU]
    refine ⟨ok q hq, hΦ _ ⟨fun j z1 z2 => ?_, fun i j z1 z2 => ?_, fun a b z => ?_, q4⟩⟩
    · simp only [uI_1]
      simp only [show T ≠ T + 3 + q by omega, false_and, if_false]
      exact q1 j z1 z2
    · by_cases e : i = q
      · subst e
        simp only [uI_1, true_and]
        (repeat' split) <;> first | (subst_vars; rfl) | (exfalso; omega)
      · simp only [uI_1]
        simp only [show T + 3 + i ≠ T + 3 + q by omega, false_and, if_false]
        exact q2 i j (by omega) z2
    · simp only [uI_1]
      simp only [show a ≠ T + 3 + q by omega, false_and, if_false]
      exact q3 a b z
  · have hne : U ≠ T := by omega
    rcases (show j = 2 ∨ j = 3 ∨ j = 4 by omega) with rfl | rfl | rfl <;> simp [uI, hne]
  · simp only [uI_1]
    rw [if_neg (by omega), if_neg (by omega), if_neg (by omega)]
theorem isKept_y {ρ : Nat} (h : ρ < 3) {K : Int32 → Prop} (hK : K 1) : wp_X8_isKept (nI ρ) K := by
  unfold wp_X8_isKept J_X8_isKept_14
  simp (disch := omega) only [lit_nI, nI_add, pk_mul, nI_clamp, vp_nI, nI_inj, nI_lt', nI_le', nI_neg1, nI_neg9, nI_neg3, neg1_nI, neg9_nI, neg_l0, neg_g0, ↓reduceIte, true_and, and_true, not_true_eq_false, not_false_eq_true, Nat.reduceEqDiff, Nat.reduceLeDiff, Nat.reduceAdd, Nat.reduceSub, Nat.reduceDiv, Nat.reduceMod, Nat.reducePow, Nat.reduceLT, Nat.reduceMul, Nat.not_lt_zero, Nat.zero_le, Nat.succ_ne_self, one_ne0, zero_ne1, ne_eq]
  rw [if_neg (by omega)]
  exact ⟨zok1, hK⟩
theorem isKept_n {r : Int32} (h : ¬ vp_in r 3) {K : Int32 → Prop} (hK : K 0) : wp_X8_isKept r K := by
  unfold wp_X8_isKept J_X8_isKept_13 J_X8_isKept_14
  rcases out_of (by decide) h with q | q
  · exact ite_tt ⟨zok0, hK⟩ q
  · exact ite_c (fun _ => ⟨zok0, hK⟩) (fun _ => ite_tt ⟨zok0, hK⟩ q)
theorem kept_in_y {ρ : Nat} (h : ρ < 3) {K : Int32 → Prop} (hK : K 1) : wp_X9_in (nI ρ).toInt64 0 2 K :=
  inM (x := ρ) (l := 0) (h := 2) (by rw [toInt_L, nI_toInt (by omega)]) (by decide) (by decide) (fun _ _ => hK) (fun z => by omega)
theorem kept_in_n {r : Int32} (h : ¬ vp_in r 3) {K : Int32 → Prop} (hK : K 0) : wp_X9_in r.toInt64 0 2 K :=
  inM (x := r.toInt) (l := 0) (h := 2) (toInt_L r) (by decide) (by decide) (fun q1 q2 => absurd (vp_in_iff.mpr ⟨q1, by omega⟩) h) (fun _ => hK)
theorem op_keep {c m : St} (h : Rel c m) (a : Int32) : wp_X8_keep a c (fun r c' => wp_X9_keep a m (fun r' m' => r = r' ∧ Rel c' m')) := by
  obtain ⟨n, dm, d, N⟩ := h.now
  have hn := N.1.1
  have hd40 := N.1.2.2
  obtain ⟨TC, TM⟩ := h.tower N
  unfold wp_X8_keep wp_X9_keep
  by_cases ha : vp_in a 3
  · obtain ⟨k, hk, rfl⟩ := vp_in_of ha (by decide)
    refine isKept_y hk (ite_ff ?_ (by decide))
    rw [N.2.1.1, nI_clamp (by omega), show (0 : Int32).toNatClampNeg = 0 from rfl, N.2.2.1.1]
    refine ite_c (fun z => kept_in_y hk (ite_ff ⟨in0, ite_tt ⟨rfl, h⟩ z⟩ (by decide))) (fun z => ⟨ha, ?_⟩)
    have n0 : 0 < n := Nat.pos_of_ne_zero (fun e => z (by rw [e]; rfl))
    refine become_s (by omega) TC (fun c' u1 u2 u3 u4 u5 => kept_in_y hk (ite_ff ⟨in0, ite_ff ?_ z⟩ (by decide)))
    have e : (1312 * (nI k + 1) : Int32) = nI (1312 * (k + 1)) := by simp (disch := omega) only [lit_nI, nI_add, pk_mul, nI_clamp, vp_nI, nI_inj, nI_lt', nI_le', nI_neg1, nI_neg9, nI_neg3, neg1_nI, neg9_nI, neg_l0, neg_g0, ↓reduceIte, true_and, and_true, not_true_eq_false, not_false_eq_true, Nat.reduceEqDiff, Nat.reduceLeDiff, Nat.reduceAdd, Nat.reduceSub, Nat.reduceDiv, Nat.reduceMod, Nat.reducePow, Nat.reduceLT, Nat.reduceMul, Nat.not_lt_zero, Nat.zero_le, Nat.succ_ne_self, one_ne0, zero_ne1, ne_eq]
    rw [e]
    refine copyAll_s (f := 0) (t := 1312 * (k + 1)) (len := 1312) (by omega) (by omega) (by omega) (fun m1 v1 v2 v3 => ⟨ha, ?_, ?_⟩)
    · rw [uI_c (by omega), v2 0 1 (by omega), N.2.2.1.2.2, u4 25 4 (by omega)]; exact N.2.1.2.2
    · obtain ⟨t1, t2, t3, t4, t5⟩ := h.1
      have w2 : ∀ a b, ¬ (a = 1 ∧ 1312 * (k + 1) ≤ b ∧ b < 1312 * (k + 1) + 1312) → ¬ (a = 2 ∧ b = k) → (uI m1 2 k (m1.1 0 1)).1 a b = m.1 a b := fun a b z1 z2 => by
        rw [uI_1, if_neg z2]; exact v2 a b (by omega)
      refine ⟨⟨fun f hf => by rw [u4 _ _ (by omega), w2 _ _ (by omega) (by omega)]; exact t1 f hf, by rw [u4 _ _ (by omega), w2 _ _ (by omega) (by omega)]; exact t2, by rw [u4 _ _ (by omega), w2 _ _ (by omega) (by omega)]; exact t3, by rw [u5]; show _ = m1.2 0 11; rw [v3]; exact t4, by rw [u5]; show _ = m1.2 0 12; rw [v3]; exact t5⟩,
        fun ρ hρ => row_same (h.2.1 ρ hρ) (fun j => u4 _ _ (by omega)) (fun j => u4 _ _ (by omega)) (w2 _ _ (by omega) (by omega)) (fun i _ => w2 _ _ (by omega) (by omega)),
        fun ρ hρ => text_same (h.2.2.1 ρ hρ) (fun j => u4 _ _ (by omega)) (fun j => u4 _ _ (by omega)) (w2 _ _ (by omega) (by omega)) (fun i _ => w2 _ _ (by omega) (by omega)),
        ⟨n, dm, d, TowC_congr TC (fun j _ _ => u4 _ _ (by omega)) (fun i j hi => u4 _ _ (by omega)) (fun j hj => u4 _ _ (by omega)), TowM_congr TM (fun j hj => w2 _ _ (by omega) (by omega)) hn (fun i j hi _ => u4 _ _ (by omega)) (fun j hj => u4 _ _ (by omega)), by rw [w2 _ _ (by omega) (by omega)]; exact N.2.2.1.2.2⟩, fun k' hk' => ?_⟩
      by_cases e : k' = k
      · subst e
        refine Or.inr ⟨n, dm, d, n0, ?_, ?_, ?_⟩
        · obtain ⟨h1, h2, h3, h4, h5, h6, h7, h8⟩ := TC
          have hs : ∀ i, i < n → stC c' (43 + 9 * k') d i = stC c 25 d i := fun i hi => stC_congr (u2 i 0 hi (by omega)) (u2 i 2 hi (by omega)) u3
          refine ⟨h1, h2, h3, by rw [u1 2 (by omega) (by omega)]; exact h4, by rw [u1 3 (by omega) (by omega)]; exact h5, by rw [u1 4 (by omega) (by omega)]; exact h6, fun i hi => ?_, fun j hj => by rw [u3 j hj]; exact h8 j hj⟩
          rw [hs i hi, u2 i 0 hi (by omega), u2 i 1 hi (by omega), u2 i 2 hi (by omega), u2 i 3 hi (by omega), u2 i 4 hi (by omega), u2 i 5 hi (by omega)]
          exact h7 i hi
        · refine TowM_congr TM (fun j hj => ?_) hn (fun i j hi hj => u2 i j hi (by omega)) u3
          rw [uI_c (by omega)]; exact v1 j (by omega)
        · rw [uI_s, v2 0 1 (by omega)]; exact N.2.2.1.2.2
      · rcases h.2.2.2.2 k' hk' with ⟨a1, a2⟩ | ⟨n', dm', d', a0, a1, a2, a3⟩
        · exact Or.inl ⟨by rw [u4 _ _ (by omega)]; exact a1, by rw [w2 _ _ (by omega) (by omega)]; exact a2⟩
        · have q6 := a1.1
          have q4 := a1.2.2.1
          exact Or.inr ⟨n', dm', d', a0, TowC_congr a1 (fun j _ _ => u4 _ _ (by omega)) (fun i j hi => u4 _ _ (by omega)) (fun j hj => u4 _ _ (by omega)), TowM_congr a2 (fun j hj => w2 _ _ (by omega) (by omega)) q6 (fun i j hi _ => u4 _ _ (by omega)) (fun j hj => u4 _ _ (by omega)), by rw [w2 _ _ (by omega) (by omega)]; exact a3⟩
  · exact isKept_n ha (ite_tt (kept_in_n ha (ite_tt ⟨rfl, h⟩ rfl)) rfl)
theorem op_on {c m : St} (h : Rel c m) (a : Int32) : wp_X8_on a c (fun r c' => wp_X9_on a m (fun r' m' => r = r' ∧ Rel c' m')) := by
  unfold wp_X8_on wp_X9_on
  by_cases ha : vp_in a 3
  · obtain ⟨k, hk, rfl⟩ := vp_in_of ha (by decide)
    refine isKept_y hk (ite_ff ⟨ha, ?_⟩ (by decide))
    rw [nI_clamp (by omega)]
    rcases h.2.2.2.2 k hk with ⟨a1, a2⟩ | ⟨n, dm, d, n0, TC, TM, a3⟩
    · refine ite_tt (find_s 1 (by decide) (kept_in_y hk (ite_ff ⟨ha, ite_ff (found_s 1 (by decide) ⟨rfl, h.find 1 (by decide)⟩) ?_⟩ (by decide)))) a1
      rw [a2]; decide
    · have hn := TC.1
      have hd40 := TC.2.2.1
      refine ite_ff ⟨ha, ?_⟩ (by rw [TC.2.2.2.1]; exact nI_ne0 n0 (by omega))
      have hpos : 0 ≤ m.1 2 k := by rw [a3]; exact nI_pos' (by omega)
      refine become_s (by omega) TC (fun c' u1 u2 u3 u4 u5 => kept_in_y hk (ite_ff ⟨ha, ite_tt ?_ hpos⟩ (by decide)))
      have e : (1312 * (nI k + 1) : Int32) = nI (1312 * (k + 1)) := by simp (disch := omega) only [lit_nI, nI_add, pk_mul, nI_clamp, vp_nI, nI_inj, nI_lt', nI_le', nI_neg1, nI_neg9, nI_neg3, neg1_nI, neg9_nI, neg_l0, neg_g0, ↓reduceIte, true_and, and_true, not_true_eq_false, not_false_eq_true, Nat.reduceEqDiff, Nat.reduceLeDiff, Nat.reduceAdd, Nat.reduceSub, Nat.reduceDiv, Nat.reduceMod, Nat.reducePow, Nat.reduceLT, Nat.reduceMul, Nat.not_lt_zero, Nat.zero_le, Nat.succ_ne_self, one_ne0, zero_ne1, ne_eq]
      rw [e]
      refine copyAll_s (f := 1312 * (k + 1)) (t := 0) (len := 1312) (by omega) (by omega) (by omega) (fun m1 v1 v2 v3 => ⟨ha, ?_, ?_⟩)
      · rw [uI_s, v2 2 k (by omega), a3, u1 4 (by omega) (by omega)]; exact TC.2.2.2.2.2.1
      · obtain ⟨t1, t2, t3, t4, t5⟩ := h.1
        have w2 : ∀ a b, ¬ (a = 1 ∧ b < 1312) → ¬ (a = 0 ∧ b = 1) → (uI m1 0 1 (m1.1 2 k)).1 a b = m.1 a b := fun a b z1 z2 => by
          rw [uI_1, if_neg z2]; exact v2 a b (by omega)
        refine ⟨⟨fun f hf => by rw [u4 _ _ (by omega), w2 _ _ (by omega) (by omega)]; exact t1 f hf, by rw [u4 _ _ (by omega), w2 _ _ (by omega) (by omega)]; exact t2, by rw [u4 _ _ (by omega), w2 _ _ (by omega) (by omega)]; exact t3, by rw [u5]; show _ = m1.2 0 11; rw [v3]; exact t4, by rw [u5]; show _ = m1.2 0 12; rw [v3]; exact t5⟩,
          fun ρ hρ => row_same (h.2.1 ρ hρ) (fun j => u4 _ _ (by omega)) (fun j => u4 _ _ (by omega)) (w2 _ _ (by omega) (by omega)) (fun i _ => w2 _ _ (by omega) (by omega)),
          fun ρ hρ => text_same (h.2.2.1 ρ hρ) (fun j => u4 _ _ (by omega)) (fun j => u4 _ _ (by omega)) (w2 _ _ (by omega) (by omega)) (fun i _ => w2 _ _ (by omega) (by omega)),
          ⟨n, dm, d, ?_, ?_, ?_⟩, fun k' hk' => kept_same (fun k j z => u4 _ _ (by omega)) (fun j z1 z2 => w2 _ _ (by omega) (by omega)) (fun j => w2 _ _ (by omega) (by omega)) hk' (h.2.2.2.2 k' hk')⟩
        · obtain ⟨h1, h2, h3, h4, h5, h6, h7, h8⟩ := TC
          have hs : ∀ i, i < n → stC c' 25 d i = stC c (43 + 9 * k) d i := fun i hi => stC_congr (u2 i 0 hi (by omega)) (u2 i 2 hi (by omega)) u3
          refine ⟨h1, h2, h3, by rw [u1 2 (by omega) (by omega)]; exact h4, by rw [u1 3 (by omega) (by omega)]; exact h5, by rw [u1 4 (by omega) (by omega)]; exact h6, fun i hi => ?_, fun j hj => by rw [u3 j hj]; exact h8 j hj⟩
          rw [hs i hi, u2 i 0 hi (by omega), u2 i 1 hi (by omega), u2 i 2 hi (by omega), u2 i 3 hi (by omega), u2 i 4 hi (by omega), u2 i 5 hi (by omega)]
          exact h7 i hi
        · refine TowM_congr TM (fun j hj => ?_) hn (fun i j hi hj => u2 i j hi (by omega)) u3
          rw [uI_c (by omega)]; exact v1 j (by omega)
        · rw [uI_s, v2 2 k (by omega)]; exact a3
  · exact isKept_n ha (ite_tt (kept_in_n ha (ite_tt ⟨rfl, h⟩ rfl)) rfl)

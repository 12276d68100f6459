theorem uL_uL (m : St) (x y : Int64) : uL (uL m 0 27 x) 0 27 y = uL m 0 27 y := by
  unfold uL
  congr 1
  funext a b
  dsimp only
  split <;> rfl
theorem mix_s (m : St) (x : Int64) {v : Int32} {K : St → Prop} (hK : K (uL m 0 27 (31 * x + v.toInt64))) : wp_X9_mix v.toInt64 (uL m 0 27 x) K := by
  unfold wp_X9_mix
  rw [uL_s, uL_uL]
  exact hK
theorem Now.uL {c m : St} {n dm d : Nat} (N : Now c m n dm d) (x : Int64) : Now c (uL m 0 27 x) n dm d := N
theorem row_sz {c m : St} (h : Rel c m) {i : Nat} (hi : i < 6) : rLen m i ≤ 40 ∧ ((c.1 (5 + 2 * i) 1 = nI 1 ∧ c.1 (5 + 2 * i) 2 = nI (rLen m i) ∧ m.1 4 i = nI (rLen m i) ∧ ∀ k, k < rLen m i → m.1 3 (40 * i + k) = c.1 (5 + 2 * i + 1) k) ∨ (c.1 (5 + 2 * i) 1 = nI 0 ∧ c.1 (5 + 2 * i) 2 = nI 0 ∧ m.1 4 i = -1 ∧ rLen m i = 0)) := by
  unfold rLen
  rcases h.2.1 i hi with ⟨s, a1, a2, a3, a4, a5⟩ | ⟨a1, a2, a3⟩
  · rw [a4, nI_clamp (by omega)]
    exact ⟨a1, Or.inl ⟨a2, a3, rfl, a5⟩⟩
  · rw [a3]
    exact ⟨by decide, Or.inr ⟨a1, a2, rfl, by decide⟩⟩
theorem text_sz {c m : St} (h : Rel c m) {i : Nat} (hi : i < 4) : xLen m i ≤ 60 ∧ ((c.1 (17 + 2 * i) 1 = nI 1 ∧ c.1 (17 + 2 * i) 2 = nI (xLen m i) ∧ m.1 6 i = nI (xLen m i) ∧ ∀ k, k < xLen m i → m.1 5 (60 * i + k) = c.1 (17 + 2 * i + 1) k) ∨ (c.1 (17 + 2 * i) 1 = nI 0 ∧ c.1 (17 + 2 * i) 2 = nI 0 ∧ m.1 6 i = -1 ∧ xLen m i = 0)) := by
  unfold xLen
  rcases h.2.2.1 i hi with ⟨s, a1, a2, a3, a4, a5⟩ | ⟨a1, a2, a3⟩
  · rw [a4, nI_clamp (by omega)]
    exact ⟨a1, Or.inl ⟨a2, a3, rfl, a5⟩⟩
  · rw [a3]
    exact ⟨by decide, Or.inr ⟨a1, a2, rfl, by decide⟩⟩
theorem digest_c {c m : St} (h : Rel c m) {n dm d : Nat} (N : Now c m n dm d) {K : Int64 → Prop} (hK : K (digV c m n dm d)) : wp_X8_digest c K := by
  have hn := N.1.1
  unfold wp_X8_digest L_X8_digest_6
  refine for2_2 9 (fun p x => x = mixH (fun p => cntV c m n dm d (nI p)) 17 p) ?_ ?_ 0 _ (Nat.zero_le _) rfl
  · rintro x1 Φ e1
    unfold B_X8_digest_6 L_X8_digest_33
    refine ite_tt ?_ (by decide)
    refine for2_2 n (fun p x => x = mixB (fun i q => tellV c i q) x1 p) ?_ ?_ 0 _ (Nat.zero_le _) rfl
    · rintro x2 Φ e2
      unfold B_X8_digest_33 L_X8_digest_90
      rw [N.2.1.1]
      refine ite_tt ?_ (Int32.le_refl _)
      refine for2_2 3 (fun p x => x = mixH (fun i => m.1 2 i) x2 p) ?_ ?_ 0 _ (Nat.zero_le _) rfl
      · rintro x3 Φ e3
        unfold B_X8_digest_90 L_X8_digest_136
        refine ite_tt ?_ (by decide)
        refine for2_2 6 (fun p x => x = mixR (fun i => m.1 4 i) (rLen m) (fun i k => m.1 3 (40 * i + k)) x3 p) ?_ ?_ 0 _ (Nat.zero_le _) rfl
        · rintro x4 Φ e4
          unfold B_X8_digest_136 L_X8_digest_161
          refine ite_tt ?_ (by decide)
          refine for2_2 4 (fun p x => x = mixR (fun i => m.1 6 i) (xLen m) (fun i k => m.1 5 (60 * i + k)) x4 p) ?_ ?_ 0 _ (Nat.zero_le _) rfl
          · rintro x5 Φ e5
            unfold B_X8_digest_161
            refine ite_tt ?_ (by decide)
            have : x5 = digV c m n dm d := by rw [e5, e4, e3, e2, e1]; rfl
            rw [this]; exact hK
          · rintro p x Φ hp e hΦ
            obtain ⟨l1, l2⟩ := text_sz h hp
            unfold B_X8_digest_161
            rw [nI_clamp (by omega), show nI p + 1 = nI (p + 1) from nI_1 p]
            refine ite_ff ⟨vp_in_nI hp (by decide), digestOn_s l1 (by decide) (m.1 6 p) (fun k => m.1 5 (60 * p + k)) l2 (hΦ _ ?_)⟩ (nI_ge hp (by decide))
            simp only [mixR]; rw [← e]
        · rintro p x Φ hp e hΦ
          obtain ⟨l1, l2⟩ := row_sz h hp
          unfold B_X8_digest_136
          rw [nI_clamp (by omega), show nI p + 1 = nI (p + 1) from nI_1 p]
          refine ite_ff ⟨vp_in_nI hp (by decide), digestOn_s l1 (by decide) (m.1 4 p) (fun k => m.1 3 (40 * p + k)) l2 (hΦ _ ?_)⟩ (nI_ge hp (by decide))
          simp only [mixR]; rw [← e]
      · rintro p x Φ hp e hΦ
        unfold B_X8_digest_90 J_X8_digest_125
        rw [nI_clamp (by omega), show nI p + 1 = nI (p + 1) from nI_1 p]
        have hv := vp_in_nI (n := p) (N := 3) hp (by decide)
        refine ite_ff ⟨hv, ?_⟩ (nI_ge hp (by decide))
        rcases h.2.2.2.2 p hp with ⟨a1, a2⟩ | ⟨n', dm', d', a0, a1, a2, a3⟩
        · refine ite_tt (hΦ _ ?_) a1
          simp only [mixH]; rw [← e, a2]; rfl
        · have q1 := a1.1
          refine ite_ff ⟨hv, hΦ _ ?_⟩ (by rw [a1.2.2.2.1]; exact nI_ne0 a0 (by omega))
          simp only [mixH]; rw [← e, a3, a1.2.2.2.2.2.1]
    · rintro p x Φ hp e hΦ
      unfold B_X8_digest_33 L_X8_digest_47
      rw [N.2.1.1]
      refine ite_ff ?_ (nI_ge hp (by omega))
      refine for2_2 6 (fun q y => y = mixH (fun q => tellV c p q) x q) ?_ ?_ 0 _ (Nat.zero_le _) rfl
      · rintro y Ψ e2
        unfold B_X8_digest_47
        rw [show nI p + 1 = nI (p + 1) from nI_1 p]
        refine ite_tt (hΦ _ ?_) (by decide)
        simp only [mixB]; rw [e2, e]
      · rintro q y Ψ hq e2 hΨ
        unfold B_X8_digest_47
        rw [nI_clamp (by omega), show nI q + 1 = nI (q + 1) from nI_1 q]
        refine ite_ff ⟨vp_in_nI (by omega) (by decide), tell_s N hp hq (hΨ _ ?_)⟩ (nI_ge hq (by decide))
        simp only [mixH]; rw [← e2]
  · rintro p x Φ hp e hΦ
    unfold B_X8_digest_6
    rw [show nI p + 1 = nI (p + 1) from nI_1 p]
    refine ite_ff (count_s h N _ (hΦ _ ?_)) (nI_ge hp (by decide))
    simp only [mixH]; rw [← e]
theorem digest_m {c m : St} (h : Rel c m) {n dm d : Nat} (N : Now c m n dm d) {K : Int64 → St → Prop} (hK : K (digV c m n dm d) (uL m 0 27 (digV c m n dm d))) : wp_X9_digest m K := by
  have hn := N.1.1
  have z0 : (0 : Int32).toNatClampNeg = 0 := rfl
  unfold wp_X9_digest L_X9_digest_9
  refine for2_1 9 (fun p τ => τ = uL m 0 27 (mixH (fun p => cntV c m n dm d (nI p)) 17 p)) ?_ ?_ 0 _ (Nat.zero_le _) rfl
  · rintro _ Φ rfl
    unfold B_X9_digest_9 L_X9_digest_33
    refine ite_tt ?_ (by decide)
    generalize e1 : mixH (fun p => cntV c m n dm d (nI p)) 17 9 = x1
    refine for2_1 n (fun p τ => τ = uL m 0 27 (mixB (fun i q => tellV c i q) x1 p)) ?_ ?_ 0 _ (Nat.zero_le _) rfl
    · rintro _ Φ rfl
      unfold B_X9_digest_33 L_X9_digest_76
      rw [z0, uL_1, N.2.2.1.1]
      refine ⟨in0, ite_tt ?_ (Int32.le_refl _)⟩
      generalize e2 : mixB (fun i q => tellV c i q) x1 n = x2
      refine for2_1 3 (fun p τ => τ = uL m 0 27 (mixH (fun i => m.1 2 i) x2 p)) ?_ ?_ 0 _ (Nat.zero_le _) rfl
      · rintro _ Φ rfl
        unfold B_X9_digest_76 L_X9_digest_100
        refine ite_tt ?_ (by decide)
        generalize e3 : mixH (fun i => m.1 2 i) x2 3 = x3
        refine for2_1 6 (fun p τ => τ = uL m 0 27 (mixR (fun i => m.1 4 i) (rLen m) (fun i k => m.1 3 (40 * i + k)) x3 p)) ?_ ?_ 0 _ (Nat.zero_le _) rfl
        · rintro _ Φ rfl
          unfold B_X9_digest_100 L_X9_digest_159
          refine ite_tt ?_ (by decide)
          generalize e4 : mixR (fun i => m.1 4 i) (rLen m) (fun i k => m.1 3 (40 * i + k)) x3 6 = x4
          refine for2_1 4 (fun p τ => τ = uL m 0 27 (mixR (fun i => m.1 6 i) (xLen m) (fun i k => m.1 5 (60 * i + k)) x4 p)) ?_ ?_ 0 _ (Nat.zero_le _) rfl
          · rintro _ Φ rfl
            unfold B_X9_digest_159
            refine ite_tt ?_ (by decide)
            have : mixR (fun i => m.1 6 i) (xLen m) (fun i k => m.1 5 (60 * i + k)) x4 4 = digV c m n dm d := by rw [← e4, ← e3, ← e2, ← e1]; rfl
            rw [uL_s, this]; exact hK
          · rintro p _ Φ hp rfl hΦ
            obtain ⟨l1, l2⟩ := text_sz h hp
            generalize e5 : mixR (fun i => m.1 6 i) (xLen m) (fun i k => m.1 5 (60 * i + k)) x4 p = x at hΦ ⊢
            unfold B_X9_digest_159
            rw [nI_clamp (by omega), uL_1]
            refine ite_ff ⟨vp_in_nI hp (by decide), mix_s m x ?_⟩ (nI_ge hp (by decide))
            unfold L_X9_digest_177
            have hl : m.1 6 p = nI (xLen m p) ∨ (m.1 6 p = -1 ∧ xLen m p = 0) := by
              rcases l2 with ⟨-, -, q, -⟩ | ⟨-, -, q1, q2⟩
              · exact Or.inl q
              · exact Or.inr ⟨q1, q2⟩
            refine for2_1 (xLen m p) (fun q τ => τ = uL m 0 27 (mixH (fun k => m.1 5 (60 * p + k)) (31 * x + (m.1 6 p).toInt64) q)) ?_ ?_ 0 _ (Nat.zero_le _) rfl
            · rintro _ Ψ rfl
              unfold B_X9_digest_177
              rw [nI_clamp (by omega), uL_1, show nI p + 1 = nI (p + 1) from nI_1 p]
              refine ⟨vp_in_nI hp (by decide), ite_tt (hΦ _ ?_) ?_⟩
              · simp only [mixR]; rw [e5]
              · rcases hl with q | ⟨q1, q2⟩
                · rw [← q]; exact Int32.le_refl _
                · rw [q1, q2]; decide
            · rintro q _ Ψ hq rfl hΨ
              unfold B_X9_digest_177
              have i1 : (60 * nI p + nI q).toNatClampNeg = 60 * p + q := by simp (disch := omega) only [lit_nI, nI_add, pk_mul, nI_clamp, vp_nI, nI_inj, nI_lt', nI_le', nI_neg1, nI_neg9, nI_neg3, neg1_nI, neg9_nI, neg_l0, neg_g0, ↓reduceIte, true_and, and_true, not_true_eq_false, not_false_eq_true, Nat.reduceEqDiff, Nat.reduceLeDiff, Nat.reduceAdd, Nat.reduceSub, Nat.reduceDiv, Nat.reduceMod, Nat.reducePow, Nat.reduceLT, Nat.reduceMul, Nat.not_lt_zero, Nat.zero_le, Nat.succ_ne_self, one_ne0, zero_ne1, ne_eq]
              have i2 : vp_in (60 * nI p + nI q) 240 := by simp (disch := omega) only [lit_nI, nI_add, pk_mul, nI_clamp, vp_nI, nI_inj, nI_lt', nI_le', nI_neg1, nI_neg9, nI_neg3, neg1_nI, neg9_nI, neg_l0, neg_g0, ↓reduceIte, true_and, and_true, not_true_eq_false, not_false_eq_true, Nat.reduceEqDiff, Nat.reduceLeDiff, Nat.reduceAdd, Nat.reduceSub, Nat.reduceDiv, Nat.reduceMod, Nat.reducePow, Nat.reduceLT, Nat.reduceMul, Nat.not_lt_zero, Nat.zero_le, Nat.succ_ne_self, one_ne0, zero_ne1, ne_eq]; omega
              rw [nI_clamp (by omega), uL_1, i1, show nI q + 1 = nI (q + 1) from nI_1 q]
              have hne : ¬ m.1 6 p ≤ nI q := by
                rcases hl with q' | ⟨q1, q2⟩
                · rw [q']; exact nI_ge hq (by omega)
                · omega
              refine ⟨vp_in_nI hp (by decide), ite_ff ⟨i2, mix_s m _ (hΨ _ ?_)⟩ hne⟩
              simp only [mixH]
        · rintro p _ Φ hp rfl hΦ
          obtain ⟨l1, l2⟩ := row_sz h hp
          generalize e5 : mixR (fun i => m.1 4 i) (rLen m) (fun i k => m.1 3 (40 * i + k)) x3 p = x at hΦ ⊢
          unfold B_X9_digest_100
          rw [nI_clamp (by omega), uL_1]
          refine ite_ff ⟨vp_in_nI hp (by decide), mix_s m x ?_⟩ (nI_ge hp (by decide))
          unfold L_X9_digest_119
          have hl : m.1 4 p = nI (rLen m p) ∨ (m.1 4 p = -1 ∧ rLen m p = 0) := by
            rcases l2 with ⟨-, -, q, -⟩ | ⟨-, -, q1, q2⟩
            · exact Or.inl q
            · exact Or.inr ⟨q1, q2⟩
          refine for2_1 (rLen m p) (fun q τ => τ = uL m 0 27 (mixH (fun k => m.1 3 (40 * p + k)) (31 * x + (m.1 4 p).toInt64) q)) ?_ ?_ 0 _ (Nat.zero_le _) rfl
          · rintro _ Ψ rfl
            unfold B_X9_digest_119
            rw [nI_clamp (by omega), uL_1, show nI p + 1 = nI (p + 1) from nI_1 p]
            refine ⟨vp_in_nI hp (by decide), ite_tt (hΦ _ ?_) ?_⟩
            · simp only [mixR]; rw [e5]
            · rcases hl with q | ⟨q1, q2⟩
              · rw [← q]; exact Int32.le_refl _
              · rw [q1, q2]; decide
          · rintro q _ Ψ hq rfl hΨ
            unfold B_X9_digest_119
            have i1 : (40 * nI p + nI q).toNatClampNeg = 40 * p + q := by simp (disch := omega) only [lit_nI, nI_add, pk_mul, nI_clamp, vp_nI, nI_inj, nI_lt', nI_le', nI_neg1, nI_neg9, nI_neg3, neg1_nI, neg9_nI, neg_l0, neg_g0, ↓reduceIte, true_and, and_true, not_true_eq_false, not_false_eq_true, Nat.reduceEqDiff, Nat.reduceLeDiff, Nat.reduceAdd, Nat.reduceSub, Nat.reduceDiv, Nat.reduceMod, Nat.reducePow, Nat.reduceLT, Nat.reduceMul, Nat.not_lt_zero, Nat.zero_le, Nat.succ_ne_self, one_ne0, zero_ne1, ne_eq]
            have i2 : vp_in (40 * nI p + nI q) 240 := by simp (disch := omega) only [lit_nI, nI_add, pk_mul, nI_clamp, vp_nI, nI_inj, nI_lt', nI_le', nI_neg1, nI_neg9, nI_neg3, neg1_nI, neg9_nI, neg_l0, neg_g0, ↓reduceIte, true_and, and_true, not_true_eq_false, not_false_eq_true, Nat.reduceEqDiff, Nat.reduceLeDiff, Nat.reduceAdd, Nat.reduceSub, Nat.reduceDiv, Nat.reduceMod, Nat.reducePow, Nat.reduceLT, Nat.reduceMul, Nat.not_lt_zero, Nat.zero_le, Nat.succ_ne_self, one_ne0, zero_ne1, ne_eq]; omega
            rw [nI_clamp (by omega), uL_1, i1, show nI q + 1 = nI (q + 1) from nI_1 q]
            have hne : ¬ m.1 4 p ≤ nI q := by
              rcases hl with q' | ⟨q1, q2⟩
              · rw [q']; exact nI_ge hq (by omega)
              · omega
            refine ⟨vp_in_nI hp (by decide), ite_ff ⟨i2, mix_s m _ (hΨ _ ?_)⟩ hne⟩
            simp only [mixH]
      · rintro p _ Φ hp rfl hΦ
        unfold B_X9_digest_76
        rw [nI_clamp (by omega), uL_1, show nI p + 1 = nI (p + 1) from nI_1 p]
        refine ite_ff ⟨vp_in_nI hp (by decide), mix_s m _ (hΦ _ ?_)⟩ (nI_ge hp (by decide))
        simp only [mixH]
    · rintro p _ Φ hp rfl hΦ
      unfold B_X9_digest_33 L_X9_digest_45
      rw [z0, uL_1, N.2.2.1.1]
      refine ⟨in0, ite_ff ?_ (nI_ge hp (by omega))⟩
      generalize e5 : mixB (fun i q => tellV c i q) x1 p = x at hΦ ⊢
      refine for2_1 6 (fun q τ => τ = uL m 0 27 (mixH (fun q => tellV c p q) x q)) ?_ ?_ 0 _ (Nat.zero_le _) rfl
      · rintro _ Ψ rfl
        unfold B_X9_digest_45
        rw [show nI p + 1 = nI (p + 1) from nI_1 p]
        refine ite_tt (hΦ _ ?_) (by decide)
        simp only [mixB]; rw [e5]
      · rintro q _ Ψ hq rfl hΨ
        unfold B_X9_digest_45
        rw [show nI q + 1 = nI (q + 1) from nI_1 q]
        refine ite_ff (tellM_s (N.uL _) hp hq (mix_s m _ (hΨ _ ?_))) (nI_ge hq (by decide))
        simp only [mixH]
  · rintro p _ Φ hp rfl hΦ
    unfold B_X9_digest_9
    rw [show nI p + 1 = nI (p + 1) from nI_1 p]
    refine ite_ff (countM_s (N.uL _) _ (mix_s m _ (hΦ _ ?_))) (nI_ge hp (by decide))
    simp only [mixH]
    rfl
theorem op_digest {c m : St} (h : Rel c m) : wp_X8_digest c (fun r => wp_X9_digest m (fun r' m' => r = r' ∧ Rel c m')) := by
  obtain ⟨n, dm, d, N⟩ := h.now
  refine digest_c h N (digest_m h N ⟨rfl, h.keep (KeepC.rf c) ?_⟩)
  exact ⟨⟨rfl, rfl, rfl⟩, fun _ _ => rfl, fun _ _ _ => rfl, uL_n (by decide), uL_n (by decide)⟩

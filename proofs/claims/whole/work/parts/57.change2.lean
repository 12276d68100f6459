/-! change: the reference; the call -/
theorem has_s {x i : Nat} (hx : x < 64) (hi : i < 6) {K : Int32 → Prop} (h1 : x / 2 ^ i % 2 = 1 → K 1) (h0 : x / 2 ^ i % 2 = 0 → K 0) : wp_X9_has (nI x) (nI i) K := by
  unfold wp_X9_has J_X9_has_14
  rw [shr_bit i hi x hx]
  have hb := Nat.mod_lt (x / 2 ^ i) (show 0 < 2 by decide)
  refine ite_c (fun zz1 => ⟨zok1, h1 (by rw [lit_nI, nI_inj (by omega) (by decide)] at zz1; exact zz1)⟩) (fun zz1 => ⟨zok0, h0 (by rw [lit_nI, nI_inj (by omega) (by decide)] at zz1; omega)⟩)
theorem changeOrd_s {c m : St} {n dm d : Nat} (N : Now c m n dm d) {ρ ρ' s : Nat} (hρ : ρ < 6) (hs : s ≤ 6) {v : Nat → Int32} (hv : ∀ j, j < s → m.1 3 (40 * ρ + j) = v j) {K : Int32 → St → Prop} (hy : okP c n v s → wp_X9_begins m (fun t140 => L_X9_change_146 (nI ρ) (nI ρ') (nI s) K 1 t140)) (hno : ¬ okP c n v s → wp_X9_found 3 m (fun r t => K r t)) : L_X9_change_70 (nI ρ) (nI ρ') (nI s) m K 0 0 := by
  have hn := N.1.1
  unfold L_X9_change_70
  refine for2_2 s (fun k x => okP c n v k ∧ x = nI (msk (fun i => anyB (fun j => decide ((v j).toNatClampNeg = i)) k) 6)) ?_ ?_ 0 _ (Nat.zero_le _) ⟨fun j hj => by omega, by
    have : msk (fun i => anyB (fun j => decide ((v j).toNatClampNeg = i)) 0) 6 = 0 := rfl
    rw [this]; rfl⟩
  · rintro _ Φ ⟨ok, rfl⟩
    unfold B_X9_change_70
    exact ite_tt (hy ok) (Int32.le_refl _)
  · rintro k _ Φ hk ⟨ok, rfl⟩ hΦ
    unfold B_X9_change_70 J_X9_change_118
    have i5 : (40 * nI ρ + nI k).toNatClampNeg = 40 * ρ + k := by simp (disch := omega) only [lit_nI, nI_add, pk_mul, nI_clamp, vp_nI, nI_inj, nI_lt', nI_le', nI_neg1, nI_neg9, nI_neg3, neg1_nI, neg9_nI, neg_l0, neg_g0, ↓reduceIte, true_and, and_true, not_true_eq_false, not_false_eq_true, Nat.reduceEqDiff, Nat.reduceLeDiff, Nat.reduceAdd, Nat.reduceSub, Nat.reduceDiv, Nat.reduceMod, Nat.reducePow, Nat.reduceLT, Nat.reduceMul, Nat.not_lt_zero, Nat.zero_le, Nat.succ_ne_self, one_ne0, zero_ne1, ne_eq]
    have i6 : vp_in (40 * nI ρ + nI k) 240 := by simp (disch := omega) only [lit_nI, nI_add, pk_mul, nI_clamp, vp_nI, nI_inj, nI_lt', nI_le', nI_neg1, nI_neg9, nI_neg3, neg1_nI, neg9_nI, neg_l0, neg_g0, ↓reduceIte, true_and, and_true, not_true_eq_false, not_false_eq_true, Nat.reduceEqDiff, Nat.reduceLeDiff, Nat.reduceAdd, Nat.reduceSub, Nat.reduceDiv, Nat.reduceMod, Nat.reducePow, Nat.reduceLT, Nat.reduceMul, Nat.not_lt_zero, Nat.zero_le, Nat.succ_ne_self, one_ne0, zero_ne1, ne_eq]; omega
    rw [i5, hv k hk, show nI k + 1 = nI (k + 1) from nI_1 k]
    refine ite_ff ⟨i6, ?_⟩ (nI_ge hk (by omega))
    by_cases hvk : vp_in (v k) n
    · obtain ⟨i, hi, e⟩ := vp_in_of hvk (by omega)
      have ew : (v k).toNatClampNeg = i := by rw [e, nI_clamp (by omega)]
      rw [e]
      have hlt := msk_lt (fun i => anyB (fun j => decide ((v j).toNatClampNeg = i)) k) 6
      have hbit := msk_bit (fun i => anyB (fun j => decide ((v j).toNatClampNeg = i)) k) (Nat.le_refl 6) i (by omega)
      have hadd := fun h => msk_add (S := fun i => anyB (fun j => decide ((v j).toNatClampNeg = i)) k) (b := i) h 6
      have hnx : msk (fun i => anyB (fun j => decide ((v j).toNatClampNeg = i)) (k + 1)) 6 = msk (fun a => anyB (fun j => decide ((v j).toNatClampNeg = a)) k || decide (i = a)) 6 := msk_congr (fun a _ => by simp only [anyB]; rw [ew])
      obtain ⟨M, eM⟩ := ex_eq (msk (fun i => anyB (fun j => decide ((v j).toNatClampNeg = i)) k) 6)
      rw [eM] at hlt hbit hadd ⊢
      have hlt : M < 64 := hlt
      have leaf1 : od c i = 1 → ¬ okP c n v s := by
        intro zzo hok
        have h0 := (hok k hk).2.1
        rw [ew] at h0; omega
      have leaf2 : M / 2 ^ i % 2 = 1 → ¬ okP c n v s := by
        intro zzb hok
        rw [hbit] at zzb
        cases hS : anyB (fun j => decide ((v j).toNatClampNeg = i)) k with
        | true =>
          obtain ⟨jj, hjj, ej⟩ := anyB_ex hS
          have := (hok k hk).2.2 jj hjj
          rw [ew] at this
          exact this (of_decide_eq_true ej)
        | false => rw [hS] at zzb; exact absurd zzb (by decide)
      have leaf3 : od c i = 0 → M / 2 ^ i % 2 = 0 → okP c n v (k + 1) ∧ nI M ||| shl 1 (nI i) = nI (msk (fun i => anyB (fun j => decide ((v j).toNatClampNeg = i)) (k + 1)) 6) := by
        intro zzo zzb
        rw [or_bit2 i (by omega) M hlt zzb]
        rw [hbit] at zzb
        cases hS : anyB (fun j => decide ((v j).toNatClampNeg = i)) k with
        | true => rw [hS] at zzb; exact absurd zzb (by decide)
        | false =>
          have ha := hadd hS
          rw [if_pos (by omega)] at ha
          refine ⟨fun jj hjj => ?_, by rw [hnx, ha]⟩
          by_cases ej : jj = k
          · subst ej
            rw [ew]
            exact ⟨hvk, zzo, fun aa haa => of_decide_eq_false (anyB_n hS haa)⟩
          · exact ok jj (by omega)
      exact isBell_y N hi (ite_ff (isOver_s N hi (fun zzo => ite_ff (hno (leaf1 zzo)) (by decide)) (fun zzo => ite_tt (has_s hlt (by omega) (fun zzb => ite_ff (hno (leaf2 zzb)) (by decide)) (fun zzb => ite_tt (hΦ _ (leaf3 zzo zzb)) rfl)) rfl)) (by decide))
    · exact isBell_n N hvk (ite_tt (hno (fun h => hvk (h k hk).1)) rfl)
/-- is the round that was rung in the order that is asked for -/
theorem cmp_s {m1 : St} {X : HS} {ρ ρ' s n : Nat} {w : Nat → Nat} (hs : s ≤ 6) (hρ : ρ < 6) (hX : HM m1 X) (hX1 : X.1 = s) (ok : HOK X n) (hn : n ≤ 6) (hw6 : ∀ j, j < s → w j < 6) (hv : ∀ j, j < s → m1.1 3 (40 * ρ + j) = nI (w j)) {K : Int32 → St → Prop} {Φ : Int32 → St → Prop} (k1 : (∀ j, j < s → X.2.1 j = w j) → J_X9_change_206 (nI ρ) (nI ρ') (nI s) 1 m1 K Φ) (k0 : (¬ ∀ j, j < s → X.2.1 j = w j) → J_X9_change_206 (nI ρ) (nI ρ') (nI s) 0 m1 K Φ) : L_X9_change_160 (nI ρ) (nI ρ') (nI s) m1 K Φ 1 0 := by
  unfold L_X9_change_160
  refine for2_2 s (fun k x => (x = 1 ∧ ∀ j, j < k → X.2.1 j = w j) ∨ (x = 0 ∧ ¬ ∀ j, j < s → X.2.1 j = w j)) ?_ ?_ 0 _ (Nat.zero_le _) (Or.inl ⟨rfl, fun j hj => by omega⟩)
  · rintro _ Ψ (⟨rfl, h⟩ | ⟨rfl, h⟩)
    · unfold B_X9_change_160; exact ite_tt (k1 h) (Int32.le_refl _)
    · unfold B_X9_change_160; exact ite_tt (k0 h) (Int32.le_refl _)
  · rintro k _ Ψ hk (⟨rfl, h⟩ | ⟨rfl, h⟩) hΨ
    · unfold B_X9_change_160 J_X9_change_198
      have i5 : (40 * nI ρ + nI k).toNatClampNeg = 40 * ρ + k := by simp (disch := omega) only [lit_nI, nI_add, pk_mul, nI_clamp, vp_nI, nI_inj, nI_lt', nI_le', nI_neg1, nI_neg9, nI_neg3, neg1_nI, neg9_nI, neg_l0, neg_g0, ↓reduceIte, true_and, and_true, not_true_eq_false, not_false_eq_true, Nat.reduceEqDiff, Nat.reduceLeDiff, Nat.reduceAdd, Nat.reduceSub, Nat.reduceDiv, Nat.reduceMod, Nat.reducePow, Nat.reduceLT, Nat.reduceMul, Nat.not_lt_zero, Nat.zero_le, Nat.succ_ne_self, one_ne0, zero_ne1, ne_eq]
      have i6 : vp_in (40 * nI ρ + nI k) 240 := by simp (disch := omega) only [lit_nI, nI_add, pk_mul, nI_clamp, vp_nI, nI_inj, nI_lt', nI_le', nI_neg1, nI_neg9, nI_neg3, neg1_nI, neg9_nI, neg_l0, neg_g0, ↓reduceIte, true_and, and_true, not_true_eq_false, not_false_eq_true, Nat.reduceEqDiff, Nat.reduceLeDiff, Nat.reduceAdd, Nat.reduceSub, Nat.reduceDiv, Nat.reduceMod, Nat.reducePow, Nat.reduceLT, Nat.reduceMul, Nat.not_lt_zero, Nat.zero_le, Nat.succ_ne_self, one_ne0, zero_ne1, ne_eq]; omega
      have hXk := (ok.2 k (by omega)).1
      have hwk := hw6 k hk
      rw [i5, hv k hk, nI_clamp (show k < 2 ^ 31 by omega), (hX.2 k (by omega)).1, show nI k + 1 = nI (k + 1) from nI_1 k]
      refine ite_ff (ite_ff ⟨vp_in_nI (by omega) (by decide), i6, ite_c (fun zz1 => hΨ _ (Or.inl ⟨rfl, fun j hj => ?_⟩)) (fun zz1 => hΨ _ (Or.inr ⟨rfl, fun h2 => zz1 (by rw [h2 k hk])⟩))⟩ (by decide)) (nI_ge hk (by omega))
      rw [nI_inj (by omega) (by omega)] at zz1
      by_cases e : j = k
      · subst e; exact zz1
      · exact h j (by omega)
    · unfold B_X9_change_160
      exact ite_ff (ite_tt (k0 h) rfl) (nI_ge hk (by omega))
theorem changeM_s {c m : St} {n dm d : Nat} (N : Now c m n dm d) {ρ ρ' s : Nat} (hρ : ρ < 6) (hρ' : ρ' < 6) {w : Nat → Nat} (hv : ∀ j, j < s → m.1 3 (40 * ρ + j) = nI (w j)) (hw : isOrd c n s w) {K : Int32 → St → Prop}
    (k9 : ¬ (∀ k, k < s → grY (rkN (sN c dm)) w k = true) → ∀ m', SrM m m' → K (-9) m')
    (k1 : (∀ k, k < s → grY (rkN (sN c dm)) w k = true) → ∀ m1 m' : St, SrM m m1 → m'.1 4 ρ' = nI n → (∀ j, j < n → m'.1 3 (40 * ρ' + j) = nI (gRow (rkN (sN c dm)) w s j)) → (∀ a x, a ≠ 3 → a ≠ 4 → m'.1 a x = m1.1 a x) → (∀ j, j ≠ ρ' → m'.1 4 j = m1.1 4 j) → (∀ j, j < 40 * ρ' ∨ 40 * ρ' + 40 ≤ j → m'.1 3 j = m1.1 3 j) → m'.2 = m1.2 → K (nI (erN (gTm c dm w) (s - 1))) m') : wp_X9_begins m (fun t140 => L_X9_change_146 (nI ρ) (nI ρ') (nI s) K 1 t140) := by
  have hn := N.1.1
  have hs6 : s ≤ 6 := by have := hw.1; omega
  have hw6 : ∀ j, j < s → w j < 6 := fun j hj => by have := (hw.2.1 j hj).1; omega
  refine begins_s (fun m0 z1 z2 z3 => ?_)
  unfold L_X9_change_146
  have S0 : SrM m m0 := ⟨fun a b _ h9 _ _ _ _ => z2 a b h9, z3⟩
  -- rows that ring the order
  have ring : ∀ r, rowA n (od c) (sN c dm) r → (∀ j, j < s → (hearF (rowF (od c) (sN c dm) r) n).2.1 j = w j) → (∀ k, k < s → grY (rkN (sN c dm)) w k = true) ∧ ∀ j, j < n → gRow (rkN (sN c dm)) w s j ≤ r j := by
    intro r hA hj
    obtain ⟨a1, a2, a3, a4⟩ := row_order N hA
    refine gr_first N hA hw (fun k hk => ?_)
    have b := a4 k (by have := hw.1; omega)
    rw [hj k (by omega), hj (k + 1) hk] at b
    exact b
  have gring : (∀ k, k < s → grY (rkN (sN c dm)) w k = true) → rowA n (od c) (sN c dm) (gRow (rkN (sN c dm)) w s) ∧ (hearF (rowF (od c) (sN c dm) (gRow (rkN (sN c dm)) w s)) n).1 = s ∧ (∀ j, j < s → (hearF (rowF (od c) (sN c dm) (gRow (rkN (sN c dm)) w s)) n).2.1 j = w j) ∧ rowE n (od c) (sN c dm) (gRow (rkN (sN c dm)) w s) = erN (gTm c dm w) (s - 1) := by
    intro hf
    obtain ⟨g1, g2⟩ := gr_row N hw hf
    obtain ⟨i1, i2⟩ := row_is N g1 hw g2
    refine ⟨g1, i1, fun j hj => (i2 j hj).1, ?_⟩
    have hT : ∀ j, j < s → (hearF (rowF (od c) (sN c dm) (gRow (rkN (sN c dm)) w s)) n).2.2 j = gTm c dm w j := by
      intro j hj
      rw [(i2 j hj).2, gRow_w hw.2.2 j hj]; rfl
    unfold rowE erH
    rw [i1]
    have cong : ∀ (t t' : Nat → Nat) k, (∀ j, j ≤ k → t j = t' j) → erN t k = erN t' k := by
      intro t t' k
      induction k with
      | zero => intro _; rfl
      | succ k ih => intro h; simp only [erN]; rw [ih (fun j hj => h j (by omega)), h (k + 1) (Nat.le_refl _), h k (by omega)]
    rcases Nat.eq_zero_or_pos s with e | e
    · rw [e]; rfl
    · exact cong _ _ _ (fun j hj => hT j (by omega))
  obtain ⟨G, eG⟩ := ex_eq (gRow (rkN (sN c dm)) w s)
  obtain ⟨E, eE'⟩ := ex_eq (erN (gTm c dm w) (s - 1))
  obtain ⟨Fe, eF⟩ := ex_eq (∀ k, k < s → grY (rkN (sN c dm)) w k = true)
  rw [eG] at ring gring k1
  rw [eE'] at gring k1
  rw [eF] at ring gring k1 k9
  refine wl2_ind (fun v5 τ => SrM m τ ∧ ((v5 = 1 ∧ ∃ p, (∀ j, j < n → τ.1 9 j = nI (p j)) ∧ admR c n p ∧ (Fe → vN p n ≤ vN G n)) ∨ (v5 = 0 ∧ ¬ Fe))) (fun v5 τ => if v5 = 0 then 0 else 7 ^ n + 1 - vN (fun j => (τ.1 9 j).toNatClampNeg) n) ?_ _ _ ⟨S0, Or.inl ⟨rfl, fun _ => 0, fun j hj => z1 j (by omega), fun j hj => ⟨Nat.lt_of_lt_of_le Nat.one_pos (by decide), fun _ => rfl⟩, fun _ => by rw [vN_zero]; exact Nat.zero_le _⟩⟩
  rintro v5 τ ⟨S, h⟩ Φ hΦ
  rcases h with ⟨rfl, p, h9, ha, hle⟩ | ⟨rfl, hnf⟩
  · have N' := S.now N
    have meas : ∀ q : Nat → Nat, (∀ j, j < n → (q j) < 7) → ∀ σ : St, (∀ j, j < n → σ.1 9 j = nI (q j)) → vN (fun j => (σ.1 9 j).toNatClampNeg) n = vN q n := fun q hq σ hσ => vN_congr (fun j hj => by rw [hσ j hj, nI_clamp (by have := hq j hj; omega)])
    unfold B_X9_change_146
    refine ite_ff (isAll_s N' (fun i hi => ⟨h9 i hi, (ha i hi).1⟩) (fun m1 y1 y2 => ?_)) (by decide)
    have S1 : SrM m m1 := ⟨fun a x z1 z2 z3 z4 z5 z6 => (y2.1 a x z1 z3 z4).trans (S.1 a x z1 z2 z3 z4 z5 z6), y2.2.trans S.2⟩
    have h91 : ∀ j, j < n → m1.1 9 j = nI (p j) := fun j hj => (y2.1 9 j (by omega) (by omega) (by omega)).trans (h9 j hj)
    -- this row isn't it: the next one
    have next : (Fe → vN p n < vN G n) → J_X9_change_206 (nI ρ) (nI ρ') (nI s) 0 m1 K Φ := by
      intro hlt
      unfold J_X9_change_206
      refine ite_tt (isNext_s (S1.now N) h91 ha (fun m2 p' g1 g2 g3 g4 g5 g6 => hΦ _ _ ⟨⟨fun a x y1 y2 y3 y4 y5 y6 => (g5 a x y2).trans (S1.1 a x y1 y2 y3 y4 y5 y6), g6.trans S1.2⟩, Or.inl ⟨rfl, p', g1, g2, fun hf => g4 G (rowA_a (gring hf).1) (hlt hf)⟩⟩ ?_) (fun g1 m2 g5 g6 => hΦ _ _ ⟨⟨fun a x y1 y2 y3 y4 y5 y6 => (g5 a x y2).trans (S1.1 a x y1 y2 y3 y4 y5 y6), g6.trans S1.2⟩, Or.inr ⟨rfl, fun hf => ?_⟩⟩ ?_)) rfl
      · have v1 := vN_lt (p := p') (n := n) (fun j hj => (g2 j hj).1)
        rw [if_neg (by decide), if_neg (by decide), meas p' (fun j hj => (g2 j hj).1) m2 g1, meas p (fun j hj => (ha j hj).1) τ h9]
        omega
      · have a1 := g1 G (rowA_a (gring hf).1)
        have a2 := hlt hf
        omega
      · have v1 := vN_lt (p := p) (n := n) (fun j hj => (ha j hj).1)
        rw [if_pos rfl, if_neg (by decide), meas p (fun j hj => (ha j hj).1) τ h9]
        omega
    refine ⟨fun hval => ?_, fun hval => ?_⟩
    · have hA := rowA_i ha hval
      have ok : HOK (hearF (rowF (od c) (sN c dm) p) n) n := hearF_ok (fun j hj => rowF_le N p hj) hn
      have hX1 := (row_order N hA).1
      rw [← hw.1] at hX1
      have hE2 : (∀ j, j < n → p j = G j) → erH (hearF (rowF (od c) (sN c dm) p) n) = rowE n (od c) (sN c dm) G := fun he => rowE_congr (p := p) (r := G) (fun j hj => by unfold rowF; rw [he j hj])
      have ringp := ring p hA
      refine cmp_s hs6 hρ y1 hX1 ok hn hw6 (fun j hj => (S1.1 3 _ (by omega) (by omega) (by omega) (by omega) (by omega) (by omega)).trans (hv j hj)) (fun hj => ?_) (fun hj => next (fun hf => ?_))
      · obtain ⟨r1, r2⟩ := ringp hj
        have r3 := hle r1
        have r4 : vN G n ≤ vN p n := next_none r2
        have he : ∀ j, j < n → p j = G j := vN_inj (fun j hj => (ha j hj).1) (fun j hj => ((gring r1).1 j hj).1) (by omega)
        unfold J_X9_change_206
        refine ite_ff (errorNow_s y1 ok hn (hearF_srt _ _) ?_) (by decide)
        rw [hE2 he, (gring r1).2.2.2]
        refine keepsBest_s (fun m2 g1 g2 g3 => ?_)
        have S2 : SrM m m2 := ⟨fun a x z1 z2 z3 z4 z5 z6 => (g2 a x z5).trans (S1.1 a x z1 z2 z3 z4 z5 z6), g3.trans S1.2⟩
        have h0 : m2.1 1 0 = nI n := (S2.now N).2.2.1.1
        refine tellsBest_s (b := G) hn hρ' h0 (fun j hj => by rw [g1 j (by omega), h91 j hj, he j hj]) (fun m3 e1 e2 e3 e4 e5 e6 => ?_)
        exact k1 r1 m2 m3 S2 e1 e2 e3 e4 e5 e6
      · have a1 := hle hf
        rcases Nat.lt_or_ge (vN p n) (vN G n) with q | q
        · exact q
        · have he : ∀ j, j < n → p j = G j := vN_inj (fun j hj => (ha j hj).1) (fun j hj => ((gring hf).1 j hj).1) (by omega)
          have hcg : hearF (rowF (od c) (sN c dm) p) n = hearF (rowF (od c) (sN c dm) G) n := hearF_congr (fun j hj => by unfold rowF; rw [he j hj])
          rw [hcg] at hj
          exact absurd (gring hf).2.2.1 hj
    · have hx : L_X9_change_160 (nI ρ) (nI ρ') (nI s) m1 K Φ 0 0 = wl2 (B_X9_change_160 (nI ρ) (nI ρ') (nI s) m1 K Φ) 0 0 := rfl
      rw [hx]
      refine ⟨1, ?_⟩
      have nx := next (fun hf => by
        have a1 := hle hf
        rcases Nat.lt_or_ge (vN p n) (vN G n) with q | q
        · exact q
        · have he : ∀ j, j < n → p j = G j := vN_inj (fun j hj => (ha j hj).1) (fun j hj => ((gring hf).1 j hj).1) (by omega)
          exact absurd (rowA_v (rowA_congr (fun j hj => (he j hj).symm) (gring hf).1)) hval)
      show B_X9_change_160 (nI ρ) (nI ρ') (nI s) m1 K Φ (it2 (B_X9_change_160 (nI ρ) (nI ρ') (nI s) m1 K Φ) 0) 0 0
      generalize it2 (B_X9_change_160 (nI ρ) (nI ρ') (nI s) m1 K Φ) 0 = Ψ
      unfold B_X9_change_160
      exact ite_c (fun _ => nx) (fun _ => ite_tt nx rfl)
  · unfold B_X9_change_146
    exact ite_tt (k9 hnf τ S) rfl
theorem op_change {c m : St} (h : Rel c m) (a b : Int32) : wp_X8_change a b c (fun r c' => wp_X9_change a b m (fun r' m' => r = r' ∧ Rel c' m')) := by
  obtain ⟨n, dm, d, N⟩ := h.now
  have hn := N.1.1
  have hov := ovN_le (c := c) N.od1
  unfold wp_X8_change J_X8_change_14
  by_cases ha : vp_in a 6
  · obtain ⟨ρ, hρ, rfl⟩ := vp_in_of ha (by decide)
    refine isRow_y hρ (ite_ff ?_ (by decide))
    by_cases hb : vp_in b 6
    · obtain ⟨ρ', hρ', rfl⟩ := vp_in_of hb (by decide)
      refine isRow_y hρ' (ite_ff ?_ (by decide))
      have pre : ∀ K : Int32 → St → Prop, (if nI n = 0 then K (-4) m else (if 0 ≤ (m.1 4 ρ) then (if (m.1 4 ρ) = nI (n - ovN c n) then L_X9_change_70 (nI ρ) (nI ρ') (nI (n - ovN c n)) m K 0 0 else wp_X9_found 5 m (fun r60 t60 => K r60 t60)) else wp_X9_found 1 m (fun r39 t39 => K r39 t39))) → wp_X9_change (nI ρ) (nI ρ') m K := by
        intro K hK
        unfold wp_X9_change
        rw [show (0 : Int32).toNatClampNeg = 0 from rfl, N.2.2.1.1, nI_clamp (show ρ < 2 ^ 31 by omega)]
        refine isRowM_y hρ (ite_ff (isRowM_y hρ' (ite_ff ⟨in0, ?_⟩ (by decide))) (by decide))
        refine ite_c (fun z => ?_) (fun z => ⟨ha, ite_c (fun y => sounds_s N ⟨ha, ?_⟩) (fun y => ?_)⟩)
        · rw [if_pos z] at hK; exact hK
        · rw [if_neg z, if_pos y] at hK; exact hK
        · rw [if_neg z, if_neg y] at hK; exact hK
      rw [N.2.1.1, nI_clamp (show ρ < 2 ^ 31 by omega), nI_clamp (show ρ' < 2 ^ 31 by omega)]
      refine ite_c (fun z => pre _ (ite_tt ⟨rfl, h⟩ z)) (fun z => ⟨ha, ?_⟩)
      rcases h.2.1 ρ hρ with ⟨s, a1, a2, a3, a4, a5⟩ | ⟨a1, a2, a3⟩
      · refine ite_ff (ringing_s N ?_) (by rw [a2]; decide)
        have pos : 0 ≤ m.1 4 ρ := by rw [a4]; exact nI_pos' (by omega)
        rw [a3]
        by_cases es : s = n - ovN c n
        · refine ite_tt ?_ (by rw [es])
          rw [← es] at pre
          have hs6 : s ≤ 6 := by omega
          refine isOrder_s N hs6 a3 (fun ok => ite_ff ⟨hb, ?_⟩ (by decide)) (fun ok => ite_tt (find_s 3 (by decide) (pre _ (ite_ff (ite_tt (ite_tt (changeOrd_s N hρ hs6 (v := c.1 (5 + 2 * ρ + 1)) (fun j hj => a5 j hj) (fun h2 => absurd h2 ok) (fun _ => found_s 3 (by decide) ⟨rfl, h.find 3 (by decide)⟩)) a4) pos) z))) rfl)
          have hw := okP_ord hn es ok
          have hvw : ∀ j, j < s → c.1 (5 + 2 * ρ + 1) j = nI ((fun j => (c.1 (5 + 2 * ρ + 1) j).toNatClampNeg) j) := fun j hj => (okP_w hn ok j hj).1
          obtain ⟨w, ew⟩ := ex_eq (fun j => (c.1 (5 + 2 * ρ + 1) j).toNatClampNeg)
          rw [ew] at hw hvw
          have fin : ∀ (r : Int32) (c' : St), wp_X9_begins m (fun t140 => L_X9_change_146 (nI ρ) (nI ρ') (nI s) (fun r' m' => r = r' ∧ Rel c' m') 1 t140) → wp_X9_change (nI ρ) (nI ρ') m (fun r' m' => r = r' ∧ Rel c' m') := fun r c' hB => pre _ (ite_ff (ite_tt (ite_tt (changeOrd_s N hρ hs6 (v := c.1 (5 + 2 * ρ + 1)) (fun j hj => a5 j hj) (fun _ => hB) (fun h2 => absurd ok h2)) a4) pos) z)
          have hvm : ∀ j, j < s → m.1 3 (40 * ρ + j) = nI (w j) := fun j hj => (a5 j hj).trans (hvw j hj)
          refine ringOrder_s N hρ hρ' a3 hvw hw (fun hnf c' g1 g2 => fin _ _ (changeM_s N hρ hρ' hvm hw (fun _ m' S => ⟨rfl, ?_⟩) (fun hf => absurd hf hnf))) (fun hf c' r1 r2 r3 r4 r5 => fin _ _ (changeM_s N hρ hρ' hvm hw (fun hnf => absurd hf hnf) (fun _ m1 m' S e1 e2 e3 e4 e5 e6 => ⟨rfl, ?_⟩)))
          · exact S.keep (h.keep ⟨fun k j hk => g1 k j (by omega), fun j => by rw [g2]⟩ (KeepM.rf m))
          · obtain ⟨cc, ec1, ec2⟩ : ∃ cc : St, (∀ k j, cc.1 k j = if k < 70 ∨ 75 < k then c.1 k j else c'.1 k j) ∧ cc.2 = c.2 := ⟨(fun k j => if k < 70 ∨ 75 < k then c.1 k j else c'.1 k j, c.2), fun _ _ => rfl, rfl⟩
            have hR : Rel cc m1 := S.keep (h.keep ⟨fun k j hk => by rw [ec1, if_pos (by omega)], fun j => by rw [ec2]⟩ (KeepM.rf m))
            refine hR.rowPut hρ' (by omega) r1 r2 r3 (fun a x y1 y2 => ?_) (r5.trans ec2.symm) e1 e2 e3 e4 e5 e6
            rw [ec1]
            by_cases e : a < 70 ∨ 75 < a
            · rw [if_pos e]; exact r4 a x e y1 y2
            · rw [if_neg e]
        · have ne1 : ¬ nI s = nI (n - ovN c n) := by rw [nI_inj (by omega) (by omega)]; exact es
          refine ite_ff (find_s 5 (by decide) (pre _ (ite_ff (ite_tt (ite_ff (found_s 5 (by decide) ⟨rfl, h.find 5 (by decide)⟩) (by rw [a4]; exact ne1)) pos) z))) ne1
      · refine ite_tt (find_s 1 (by decide) (pre _ (ite_ff (ite_ff (found_s 1 (by decide) ⟨rfl, h.find 1 (by decide)⟩) ?_) z))) a1
        rw [a3]; decide
    · refine isRow_n hb (ite_tt ?_ rfl)
      unfold wp_X9_change J_X9_change_14
      exact isRowM_y hρ (ite_ff (isRowM_n hb (ite_tt ⟨rfl, h⟩ rfl)) (by decide))
  · refine isRow_n ha (ite_tt ?_ rfl)
    unfold wp_X9_change J_X9_change_14
    exact isRowM_n ha (ite_tt ⟨rfl, h⟩ rfl)

/-! mark, count -/
section MARK2
variable {c m : St} {n dm d : Nat}
def hvP (c : St) (i k : Nat) : Bool := decide (k ≠ i ∧ wd c i ≤ wd c k)
theorem heavy_s (N : Now c m n dm d) {i : Nat} (hi : i < n) {K : Int32 → Prop} (hK : K (nI (cnt (hvP c i) n))) : wp_X8_othersAsHeavy (nI i) c K := by
  have hn := N.1.1
  obtain ⟨⟨b1, b2, b3, b4, b5⟩, ⟨c1, c2, c3, c4⟩, -⟩ := N.2.2.2 i hi
  unfold wp_X8_othersAsHeavy L_X8_othersAsHeavy_4
  refine for2_2 n (fun p x => x = nI (cnt (hvP c i) p)) ?_ ?_ 0 _ (Nat.zero_le _) rfl
  · rintro _ Φ rfl
    unfold B_X8_othersAsHeavy_4
    rw [N.2.1.1]
    exact ite_tt hK (Int32.le_refl _)
  · rintro p _ Φ hp rfl hΦ
    obtain ⟨⟨e1, e2, e3, e4, e5⟩, ⟨f1, f2, f3, f4⟩, -⟩ := N.2.2.2 p hp
    have hle := cnt_le (hvP c i) p
    unfold B_X8_othersAsHeavy_4 J_X8_othersAsHeavy_50
    rw [N.2.1.1, nI_clamp (n := p) (by omega), nI_clamp (n := i) (by omega), f2, c2, show nI p + 1 = nI (p + 1) from nI_1 p]
    refine ite_ff (ite_c (fun z => hΦ _ ?_) (fun z => ⟨vp_in_nI (by omega) (by decide), vp_in_nI (by omega) (by decide), ite_c (fun z2 => hΦ _ ?_) (fun z2 => hΦ _ ?_)⟩)) (nI_ge hp (by omega))
    · rw [nI_inj (by omega) (by omega)] at z
      simp [cnt, hvP, z]
    · rw [nI_inj (by omega) (by omega)] at z
      rw [nI_lt' (by omega) (by omega)] at z2
      simp only [cnt, hvP, decide_eq_true_eq]
      rw [if_neg (by omega)]; rfl
    · rw [nI_inj (by omega) (by omega)] at z
      rw [nI_lt' (by omega) (by omega)] at z2
      simp only [cnt, hvP, decide_eq_true_eq]
      rw [if_pos ⟨z, by omega⟩]
      exact nI_1 _
theorem heavyM_s (N : Now c m n dm d) {i : Nat} (hi : i < n) {K : Int32 → Prop} (hK : K (nI (cnt (hvP c i) n))) : L_X9_markOf_106 (nI i) m K 0 0 := by
  have hn := N.1.1
  obtain ⟨⟨b1, b2, b3, b4, b5⟩, ⟨c1, c2, c3, c4⟩, d1, d2, d3, d4, d5⟩ := N.2.2.2 i hi
  unfold L_X9_markOf_106
  refine for2_2 n (fun p x => x = nI (cnt (hvP c i) p)) ?_ ?_ 0 _ (Nat.zero_le _) rfl
  · rintro _ Φ rfl
    unfold B_X9_markOf_106
    rw [show (0 : Int32).toNatClampNeg = 0 from rfl, N.2.2.1.1]
    exact ⟨in0, ite_tt hK (Int32.le_refl _)⟩
  · rintro p _ Φ hp rfl hΦ
    obtain ⟨⟨e1, e2, e3, e4, e5⟩, ⟨f1, f2, f3, f4⟩, g1, g2, g3, g4, g5⟩ := N.2.2.2 p hp
    have hle := cnt_le (hvP c i) p
    unfold B_X9_markOf_106 J_X9_markOf_151 J_X9_markOf_152
    have q1 : (8 + nI p).toNatClampNeg = 8 + p := by simp (disch := omega) only [lit_nI, nI_add, pk_mul, nI_clamp, vp_nI, nI_inj, nI_lt', nI_le', nI_neg1, nI_neg9, nI_neg3, neg1_nI, neg9_nI, neg_l0, neg_g0, ↓reduceIte, true_and, and_true, not_true_eq_false, not_false_eq_true, Nat.reduceEqDiff, Nat.reduceLeDiff, Nat.reduceAdd, Nat.reduceSub, Nat.reduceDiv, Nat.reduceMod, Nat.reducePow, Nat.reduceLT, Nat.reduceMul, Nat.not_lt_zero, Nat.zero_le, Nat.succ_ne_self, one_ne0, zero_ne1, ne_eq]
    have q2 : (8 + nI i).toNatClampNeg = 8 + i := by simp (disch := omega) only [lit_nI, nI_add, pk_mul, nI_clamp, vp_nI, nI_inj, nI_lt', nI_le', nI_neg1, nI_neg9, nI_neg3, neg1_nI, neg9_nI, neg_l0, neg_g0, ↓reduceIte, true_and, and_true, not_true_eq_false, not_false_eq_true, Nat.reduceEqDiff, Nat.reduceLeDiff, Nat.reduceAdd, Nat.reduceSub, Nat.reduceDiv, Nat.reduceMod, Nat.reducePow, Nat.reduceLT, Nat.reduceMul, Nat.not_lt_zero, Nat.zero_le, Nat.succ_ne_self, one_ne0, zero_ne1, ne_eq]
    have q3 : vp_in (8 + nI p) 5280 := by simp (disch := omega) only [lit_nI, nI_add, pk_mul, nI_clamp, vp_nI, nI_inj, nI_lt', nI_le', nI_neg1, nI_neg9, nI_neg3, neg1_nI, neg9_nI, neg_l0, neg_g0, ↓reduceIte, true_and, and_true, not_true_eq_false, not_false_eq_true, Nat.reduceEqDiff, Nat.reduceLeDiff, Nat.reduceAdd, Nat.reduceSub, Nat.reduceDiv, Nat.reduceMod, Nat.reducePow, Nat.reduceLT, Nat.reduceMul, Nat.not_lt_zero, Nat.zero_le, Nat.succ_ne_self, one_ne0, zero_ne1, ne_eq]; omega
    have q4 : vp_in (8 + nI i) 5280 := by simp (disch := omega) only [lit_nI, nI_add, pk_mul, nI_clamp, vp_nI, nI_inj, nI_lt', nI_le', nI_neg1, nI_neg9, nI_neg3, neg1_nI, neg9_nI, neg_l0, neg_g0, ↓reduceIte, true_and, and_true, not_true_eq_false, not_false_eq_true, Nat.reduceEqDiff, Nat.reduceLeDiff, Nat.reduceAdd, Nat.reduceSub, Nat.reduceDiv, Nat.reduceMod, Nat.reducePow, Nat.reduceLT, Nat.reduceMul, Nat.not_lt_zero, Nat.zero_le, Nat.succ_ne_self, one_ne0, zero_ne1, ne_eq]; omega
    rw [show (0 : Int32).toNatClampNeg = 0 from rfl, N.2.2.1.1, q1, q2, g2, d2, show nI p + 1 = nI (p + 1) from nI_1 p]
    refine ⟨in0, ite_ff (ite_c (fun z => hΦ _ ?_) (fun z => ⟨q3, q4, ite_c (fun z2 => hΦ _ ?_) (fun z2 => hΦ _ ?_)⟩)) (nI_ge hp (by omega))⟩
    · rw [nI_inj (by omega) (by omega)] at z
      simp [cnt, hvP, z]
    · rw [nI_inj (by omega) (by omega)] at z
      rw [nI_lt' (by omega) (by omega)] at z2
      simp only [cnt, hvP, decide_eq_true_eq]
      rw [if_neg (by omega)]; exact nI_add _ 0
    · rw [nI_inj (by omega) (by omega)] at z
      rw [nI_lt' (by omega) (by omega)] at z2
      simp only [cnt, hvP, decide_eq_true_eq]
      rw [if_pos ⟨z, by omega⟩]
      exact nI_1 _
def snP (c : St) (dm t k : Nat) : Bool := decide (sN c dm k 1 ≠ 0 ∧ sN c dm k 1 < t)
theorem sooner_s (N : Now c m n dm d) {i : Nat} (hi : i < n) {K : Int32 → Prop} (hK : K (if sN c dm i 1 = 0 then -9 else nI (cnt (snP c dm (sN c dm i 1)) n))) : wp_X8_othersSooner (nI i) c K := by
  have hn := N.1.1
  have hl := sN_le N hi 1
  unfold wp_X8_othersSooner
  refine tenthsBy_s (p := 1) N hi (by decide) ?_
  by_cases f0 : sN c dm i 1 = 0
  · rw [if_pos f0] at hK
    exact ite_tt hK (by rw [eT_m9 hl]; exact f0)
  · rw [if_neg f0] at hK
    refine ite_ff ?_ (by rw [eT_m9 hl]; exact f0)
    rw [eT_n f0]
    unfold L_X8_othersSooner_24
    refine for2_2 n (fun p x => x = nI (cnt (snP c dm (sN c dm i 1)) p)) ?_ ?_ 0 _ (Nat.zero_le _) rfl
    · rintro _ Φ rfl
      unfold B_X8_othersSooner_24
      rw [N.2.1.1]
      exact ite_tt hK (Int32.le_refl _)
    · rintro p _ Φ hp rfl hΦ
      have hp1 := sN_le N hp 1
      unfold B_X8_othersSooner_24 J_X8_othersSooner_64
      rw [N.2.1.1, show nI p + 1 = nI (p + 1) from nI_1 p]
      refine ite_ff (tenthsBy_s (p := 1) N hp (by decide) ?_) (nI_ge hp (by omega))
      by_cases z : sN c dm p 1 = 0
      · refine ite_tt (hΦ _ ?_) (by rw [eT_m9 hp1]; exact z)
        simp [cnt, snP, z]
      · refine ite_ff ?_ (by rw [eT_m9 hp1]; exact z)
        rw [eT_n z]
        refine ite_c (fun z2 => hΦ _ ?_) (fun z2 => hΦ _ ?_)
        · rw [nI_le' (by omega) (by omega)] at z2
          simp only [cnt, snP, decide_eq_true_eq]
          rw [if_neg (by omega)]; rfl
        · rw [nI_le' (by omega) (by omega)] at z2
          simp only [cnt, snP, decide_eq_true_eq]
          rw [if_pos ⟨z, by omega⟩]
          exact nI_1 _
theorem soonerM_s (N : Now c m n dm d) {i : Nat} (hi : i < n) {K : Int32 → Prop} (hK : K (if sN c dm i 1 = 0 then -9 else nI (cnt (snP c dm (sN c dm i 1)) n))) : L_X9_markOf_176 (nI i) (eT (sN c dm i 1)) m K 0 0 := by
  have hn := N.1.1
  have hl := sN_le N hi 1
  unfold L_X9_markOf_176
  refine for2_2 n (fun p x => sN c dm i 1 ≠ 0 → x = nI (cnt (snP c dm (sN c dm i 1)) p)) ?_ ?_ 0 _ (Nat.zero_le _) (fun _ => rfl)
  · rintro x Φ hx
    unfold B_X9_markOf_176 J_X9_markOf_256
    rw [show (0 : Int32).toNatClampNeg = 0 from rfl, N.2.2.1.1]
    refine ⟨in0, ite_tt ?_ (Int32.le_refl _)⟩
    by_cases f0 : sN c dm i 1 = 0
    · rw [if_pos f0] at hK
      exact ite_tt hK (by rw [eT_m9 hl]; exact f0)
    · rw [if_neg f0] at hK
      rw [hx f0]
      exact ite_ff hK (by rw [eT_m9 hl]; exact f0)
  · rintro p x Φ hp hx hΦ
    obtain ⟨⟨e1, e2, e3, e4, e5⟩, ⟨f1, f2, f3, f4⟩, g1, g2, g3, g4, g5⟩ := N.2.2.2 p hp
    have hp1 := sN_le N hp 1
    unfold B_X9_markOf_176 J_X9_markOf_232 J_X9_markOf_233
    have q1 : (14 + nI p).toNatClampNeg = 14 + p := by simp (disch := omega) only [lit_nI, nI_add, pk_mul, nI_clamp, vp_nI, nI_inj, nI_lt', nI_le', nI_neg1, nI_neg9, nI_neg3, neg1_nI, neg9_nI, neg_l0, neg_g0, ↓reduceIte, true_and, and_true, not_true_eq_false, not_false_eq_true, Nat.reduceEqDiff, Nat.reduceLeDiff, Nat.reduceAdd, Nat.reduceSub, Nat.reduceDiv, Nat.reduceMod, Nat.reducePow, Nat.reduceLT, Nat.reduceMul, Nat.not_lt_zero, Nat.zero_le, Nat.succ_ne_self, one_ne0, zero_ne1, ne_eq]
    have q3 : vp_in (14 + nI p) 5280 := by simp (disch := omega) only [lit_nI, nI_add, pk_mul, nI_clamp, vp_nI, nI_inj, nI_lt', nI_le', nI_neg1, nI_neg9, nI_neg3, neg1_nI, neg9_nI, neg_l0, neg_g0, ↓reduceIte, true_and, and_true, not_true_eq_false, not_false_eq_true, Nat.reduceEqDiff, Nat.reduceLeDiff, Nat.reduceAdd, Nat.reduceSub, Nat.reduceDiv, Nat.reduceMod, Nat.reducePow, Nat.reduceLT, Nat.reduceMul, Nat.not_lt_zero, Nat.zero_le, Nat.succ_ne_self, one_ne0, zero_ne1, ne_eq]; omega
    rw [show (0 : Int32).toNatClampNeg = 0 from rfl, N.2.2.1.1, q1, g3, show nI p + 1 = nI (p + 1) from nI_1 p]
    refine ⟨in0, ite_ff ⟨q3, strikesBy_s (p := 1) N hp (by decide) ?_⟩ (nI_ge hp (by omega))⟩
    refine ite_c (fun z => hΦ _ (fun f0 => ?_)) (fun z => ?_)
    · rw [nI_inj (by omega) (by omega)] at z
      subst z
      rw [hx f0]
      simp [cnt, snP]
    · by_cases z0 : sN c dm p 1 = 0
      · refine ite_tt (hΦ _ (fun f0 => ?_)) (by rw [eT_m9 hp1]; exact z0)
        rw [hx f0]
        simp [cnt, snP, z0]
      · refine ite_ff ?_ (by rw [eT_m9 hp1]; exact z0)
        rw [eT_n z0]
        refine ite_c (fun z2 => hΦ _ (fun f0 => ?_)) (fun z2 => hΦ _ (fun f0 => ?_))
        · rw [eT_n f0, nI_le' (by omega) (by omega)] at z2
          rw [hx f0]
          simp only [cnt, snP, decide_eq_true_eq]
          rw [if_neg (by omega)]; exact nI_add _ 0
        · rw [eT_n f0, nI_le' (by omega) (by omega)] at z2
          rw [hx f0]
          simp only [cnt, snP, decide_eq_true_eq]
          rw [if_pos ⟨z0, by omega⟩]
          exact nI_1 _
end MARK2
def mkV (c : St) (dm n i q : Nat) : Int32 := if q = 1 then nI (gr (fun p => decide (aN (kd c i) (hdN c i) p ≠ 21)) 7) else if q = 2 then 20 - nI (hdN c i) else if q = 3 then eT (sN c dm i 1) else if q = 4 then nI (cnt (hvP c i) n) else if sN c dm i 1 = 0 then -9 else nI (cnt (snP c dm (sN c dm i 1)) n)
theorem markM_s {c m : St} {n dm d : Nat} (N : Now c m n dm d) {i q : Nat} (hi : i < n) (hq : q < 6) {K : Int32 → Prop} (hK : K (mkV c dm n i q)) : wp_X9_markOf (nI i) (nI q) m K := by
  have hn := N.1.1
  obtain ⟨⟨b1, b2, b3, b4, b5⟩, ⟨c1, c2, c3, c4⟩, d1, d2, d3, d4, d5⟩ := N.2.2.2 i hi
  have q3 : (14 + nI i).toNatClampNeg = 14 + i := by simp (disch := omega) only [lit_nI, nI_add, pk_mul, nI_clamp, vp_nI, nI_inj, nI_lt', nI_le', nI_neg1, nI_neg9, nI_neg3, neg1_nI, neg9_nI, neg_l0, neg_g0, ↓reduceIte, true_and, and_true, not_true_eq_false, not_false_eq_true, Nat.reduceEqDiff, Nat.reduceLeDiff, Nat.reduceAdd, Nat.reduceSub, Nat.reduceDiv, Nat.reduceMod, Nat.reducePow, Nat.reduceLT, Nat.reduceMul, Nat.not_lt_zero, Nat.zero_le, Nat.succ_ne_self, one_ne0, zero_ne1, ne_eq]
  have q4 : vp_in (14 + nI i) 5280 := by simp (disch := omega) only [lit_nI, nI_add, pk_mul, nI_clamp, vp_nI, nI_inj, nI_lt', nI_le', nI_neg1, nI_neg9, nI_neg3, neg1_nI, neg9_nI, neg_l0, neg_g0, ↓reduceIte, true_and, and_true, not_true_eq_false, not_false_eq_true, Nat.reduceEqDiff, Nat.reduceLeDiff, Nat.reduceAdd, Nat.reduceSub, Nat.reduceDiv, Nat.reduceMod, Nat.reducePow, Nat.reduceLT, Nat.reduceMul, Nat.not_lt_zero, Nat.zero_le, Nat.succ_ne_self, one_ne0, zero_ne1, ne_eq]; omega
  have e : ∀ k, k < 6 → (nI q = nI k ↔ q = k) := fun k hk => nI_eq (by omega) (by omega)
  unfold wp_X9_markOf
  unfold mkV at hK
  rw [q3, d3]
  refine ⟨q4, ite_c (fun z => ?_) (fun z1 => ite_c (fun z => ?_) (fun z2 => ite_c (fun z => ?_) (fun z3 => ite_c (fun z => ?_) (fun z4 => ?_))))⟩
  · rw [if_pos ((e 1 (by decide)).mp z)] at hK
    exact greatestM_s N hi hK
  · rw [if_neg (fun y => z1 ((e 1 (by decide)).mpr y)), if_pos ((e 2 (by decide)).mp z)] at hK
    exact hK
  · rw [if_neg (fun y => z1 ((e 1 (by decide)).mpr y)), if_neg (fun y => z2 ((e 2 (by decide)).mpr y)), if_pos ((e 3 (by decide)).mp z)] at hK
    exact strikesBy_s (p := 1) N hi (by decide) hK
  · rw [if_neg (fun y => z1 ((e 1 (by decide)).mpr y)), if_neg (fun y => z2 ((e 2 (by decide)).mpr y)), if_neg (fun y => z3 ((e 3 (by decide)).mpr y)), if_pos ((e 4 (by decide)).mp z)] at hK
    exact heavyM_s N hi hK
  · rw [if_neg (fun y => z1 ((e 1 (by decide)).mpr y)), if_neg (fun y => z2 ((e 2 (by decide)).mpr y)), if_neg (fun y => z3 ((e 3 (by decide)).mpr y)), if_neg (fun y => z4 ((e 4 (by decide)).mpr y))] at hK
    exact strikesBy_s (p := 1) N hi (by decide) (soonerM_s N hi hK)
theorem op_mark {c m : St} (h : Rel c m) (a b : Int32) : wp_X8_mark a b c (fun r c' => wp_X9_mark a b m (fun r' m' => r = r' ∧ Rel c' m')) := by
  obtain ⟨n, dm, d, N⟩ := h.now
  have hn := N.1.1
  unfold wp_X8_mark J_X8_mark_21
  by_cases ha : vp_in a n
  · obtain ⟨i, hi, rfl⟩ := vp_in_of ha (by omega)
    obtain ⟨⟨b1, b2, b3, b4, b5⟩, ⟨c1, c2, c3, c4⟩, d1, d2, d3, d4, d5⟩ := N.2.2.2 i hi
    refine has7_y N hi (ite_ff ?_ (by decide))
    by_cases hb : vp_in b 6 ∧ ¬ b = 0
    · obtain ⟨q, hq, rfl⟩ := vp_in_of hb.1 (by decide)
      have hq0 : 0 < q := Nat.pos_of_ne_zero (fun e => hb.2 (by rw [e]; rfl))
      refine ite_ff (ite_tt ⟨vp_in_nI (by omega) (by decide), ?_⟩ (nI_lt hq (by decide))) (nI_nle hq0 (by omega))
      rw [nI_clamp (by omega), c1]
      have q1 : (2 + nI i).toNatClampNeg = 2 + i := by simp (disch := omega) only [lit_nI, nI_add, pk_mul, nI_clamp, vp_nI, nI_inj, nI_lt', nI_le', nI_neg1, nI_neg9, nI_neg3, neg1_nI, neg9_nI, neg_l0, neg_g0, ↓reduceIte, true_and, and_true, not_true_eq_false, not_false_eq_true, Nat.reduceEqDiff, Nat.reduceLeDiff, Nat.reduceAdd, Nat.reduceSub, Nat.reduceDiv, Nat.reduceMod, Nat.reducePow, Nat.reduceLT, Nat.reduceMul, Nat.not_lt_zero, Nat.zero_le, Nat.succ_ne_self, one_ne0, zero_ne1, ne_eq]
      have q2 : vp_in (2 + nI i) 5280 := by simp (disch := omega) only [lit_nI, nI_add, pk_mul, nI_clamp, vp_nI, nI_inj, nI_lt', nI_le', nI_neg1, nI_neg9, nI_neg3, neg1_nI, neg9_nI, neg_l0, neg_g0, ↓reduceIte, true_and, and_true, not_true_eq_false, not_false_eq_true, Nat.reduceEqDiff, Nat.reduceLeDiff, Nat.reduceAdd, Nat.reduceSub, Nat.reduceDiv, Nat.reduceMod, Nat.reducePow, Nat.reduceLT, Nat.reduceMul, Nat.not_lt_zero, Nat.zero_le, Nat.succ_ne_self, one_ne0, zero_ne1, ne_eq]; omega
      have mk : ∀ {K : Int32 → Prop}, K 1 → wp_X9_in (nI q).toInt64 1 5 K := fun hK => inM (x := q) (l := 1) (h := 5) (by rw [toInt_L, nI_toInt (by omega)]) (by decide) (by decide) (fun _ _ => hK) (fun z => by omega)
      have e : ∀ k, k < 6 → (nI q = nI k ↔ q = k) := fun k hk => nI_eq (by omega) (by omega)
      have ek : ∀ k, k < 6 → (nI (kd c i) = nI k ↔ kd c i = k) := fun k hk => nI_eq (by omega) (by omega)
      refine isOf_s b1 ⟨hq0, hq⟩ (fun z => ite_ff ?_ (by decide)) (fun z => ite_tt ?_ rfl)
      · have is : ∀ r : Int32, r = mkV c dm n i q → wp_X9_mark (nI i) (nI q) m (fun r' m' => r = r' ∧ Rel c m') := by
          intro r hr
          have fin : wp_X9_markOf (nI i) (nI q) m (fun r71 => r = r71 ∧ Rel c m) := markM_s N hi hq ⟨hr, h⟩
          unfold wp_X9_mark J_X9_mark_46 J_X9_mark_56 J_X9_mark_60 J_X9_mark_61 J_X9_mark_82
          refine isBell_y N hi (ite_ff (mk (ite_ff ⟨q2, ?_⟩ (by decide))) (by decide))
          rw [q1, d1]
          refine ite_c (fun _ => ite_ff fin (by decide)) (fun y0 => ite_c (fun y1 => ite_c (fun _ => ite_ff fin (by decide)) (fun y2 => ite_c (fun y3 => ite_c (fun _ => ite_ff fin (by decide)) (fun y4 => ?_)) (fun y3 => ?_))) (fun y1 => ite_c (fun y3 => ite_c (fun _ => ite_ff fin (by decide)) (fun y4 => ?_)) (fun y3 => ?_)))
          all_goals (exfalso; simp (disch := omega) only [lit_nI, nI_inj] at *; omega)
        have e1 := e 1 (by decide)
        have e2 := e 2 (by decide)
        have e3 := e 3 (by decide)
        have e4 := e 4 (by decide)
        refine ite_c (fun y => ?_) (fun y1 => ite_c (fun y => ?_) (fun y2 => ite_c (fun y => ?_) (fun y3 => ite_c (fun y => ?_) (fun y4 => ?_))))
        · refine greatest_s N hi (is _ ?_)
          unfold mkV; rw [if_pos (e1.mp y)]
        · refine is _ ?_
          unfold mkV; rw [if_neg (fun w => y1 (e1.mpr w)), if_pos (e2.mp y), c3]
        · refine tenthsBy_s (p := 1) N hi (by decide) (is _ ?_)
          unfold mkV; rw [if_neg (fun w => y1 (e1.mpr w)), if_neg (fun w => y2 (e2.mpr w)), if_pos (e3.mp y)]
        · refine heavy_s N hi (is _ ?_)
          unfold mkV; rw [if_neg (fun w => y1 (e1.mpr w)), if_neg (fun w => y2 (e2.mpr w)), if_neg (fun w => y3 (e3.mpr w)), if_pos (e4.mp y)]
        · refine sooner_s N hi (is _ ?_)
          unfold mkV; rw [if_neg (fun w => y1 (e1.mpr w)), if_neg (fun w => y2 (e2.mpr w)), if_neg (fun w => y3 (e3.mpr w)), if_neg (fun w => y4 (e4.mpr w))]
      · refine find_s 3 (by decide) ?_
        have fin : wp_X9_found 3 m (fun r79 t79 => (-3 : Int32) = r79 ∧ Rel (fC c 3) t79) := found_s 3 (by decide) ⟨rfl, h.find 3 (by decide)⟩
        unfold wp_X9_mark J_X9_mark_46 J_X9_mark_56 J_X9_mark_60 J_X9_mark_61 J_X9_mark_82
        refine isBell_y N hi (ite_ff (mk (ite_ff ⟨q2, ?_⟩ (by decide))) (by decide))
        rw [q1, d1]
        refine ite_c (fun y0 => ?_) (fun y0 => ite_c (fun y1 => ite_c (fun y2 => ?_) (fun y2 => ite_c (fun y3 => ite_c (fun y4 => ?_) (fun y4 => ite_tt fin rfl)) (fun y3 => ite_tt fin rfl))) (fun y1 => ite_c (fun y3 => ite_c (fun y4 => ?_) (fun y4 => ite_tt fin rfl)) (fun y3 => ite_tt fin rfl)))
        all_goals (exfalso; simp (disch := omega) only [lit_nI, nI_inj] at *; omega)
    · have e5 : wp_X9_mark (nI i) b m (fun r' m' => (-1 : Int32) = r' ∧ Rel c m') := by
        unfold wp_X9_mark J_X9_mark_20
        refine isBell_y N hi (ite_ff (inM (x := b.toInt) (l := 1) (h := 5) (toInt_L b) (by decide) (by decide) (fun z1 z2 => absurd ⟨vp_in_iff.mpr ⟨by omega, by omega⟩, fun z => ?_⟩ hb) (fun _ => ite_tt ⟨rfl, h⟩ rfl)) (by decide))
        rw [z] at z1
        exact absurd z1 (by decide)
      refine ite_c (fun _ => e5) (fun z => ite_c (fun z2 => absurd ⟨?_, ?_⟩ hb) (fun _ => e5))
      · have e0 : (0 : Int32).toInt = 0 := by decide
        have e6 : (6 : Int32).toInt = 6 := by decide
        rw [Int32.le_iff_toInt_le, e0] at z
        rw [Int32.lt_iff_toInt_lt, e6] at z2
        exact vp_in_iff.mpr ⟨by omega, by omega⟩
      · intro w; exact z (w ▸ Int32.le_refl _)
  · unfold wp_X9_mark J_X9_mark_20
    exact has7_n N ha (ite_tt (isBell_n N ha (ite_tt ⟨rfl, h⟩ rfl)) rfl)
/-- bells over: how many, as bits -/
def ovN (c : St) : Nat → Nat
  | 0 => 0
  | i + 1 => ovN c i + od c i
def obN (c : St) : Nat → Nat
  | 0 => 0
  | i + 1 => obN c i + od c i * 2 ^ i
def pc6 (x : Nat) : Nat := x % 2 + x / 2 % 2 + x / 4 % 2 + x / 8 % 2 + x / 16 % 2 + x / 32 % 2
theorem or_bit : ∀ i, i < 6 → ∀ x, x < 64 → x < 2 ^ i → nI x ||| shl 1 (nI i) = nI (x + 2 ^ i) := by decide +kernel
theorem pc6_s : ∀ i, i < 6 → ∀ x, x < 64 → x < 2 ^ i → pc6 (x + 2 ^ i) = pc6 x + 1 := by decide +kernel
theorem obN_lt {c : St} {n : Nat} (h : ∀ i, i < n → od c i ≤ 1) : obN c n < 2 ^ n := by
  induction n with
  | zero => exact Nat.lt_succ_self 0
  | succ n ih =>
    have h1 := ih (fun i hi => h i (by omega))
    have h2 := h n (by omega)
    simp only [obN]
    rcases (show od c n = 0 ∨ od c n = 1 by omega) with e | e <;> rw [e, Nat.pow_succ] <;> omega
theorem ovN_le {c : St} {n : Nat} (h : ∀ i, i < n → od c i ≤ 1) : ovN c n ≤ n := by
  induction n with
  | zero => exact Nat.le_refl _
  | succ n ih =>
    have h1 := ih (fun i hi => h i (by omega))
    have h2 := h n (by omega)
    simp only [ovN]; omega
theorem p26 {i : Nat} (h : i < 6) : 2 ^ i ≤ 32 := (by decide : ∀ i, i < 6 → 2 ^ i ≤ 32) i h
theorem pc6_ob {c : St} {n : Nat} (hn : n ≤ 6) (h : ∀ i, i < n → od c i ≤ 1) : pc6 (obN c n) = ovN c n := by
  induction n with
  | zero => show pc6 0 = 0; decide
  | succ n ih =>
    have h1 := ih (by omega) (fun i hi => h i (by omega))
    have h2 := h n (by omega)
    have h3 := obN_lt (c := c) (n := n) (fun i hi => h i (by omega))
    have h4 := p26 (i := n) (by omega)
    simp only [obN, ovN]
    rcases (show od c n = 0 ∨ od c n = 1 by omega) with e | e
    · rw [e]; simp; exact h1
    · rw [e, Nat.one_mul, pc6_s n (by omega) _ (by omega) h3, h1]
theorem bitCount_s {x : Nat} (hx : x < 64) {K : Int32 → Prop} (hK : K (nI (pc6 x))) : wp_J6_bitCount_0f7a4 (nI x) K := by
  have key : ∀ x, x < 64 → wp_J6_bitCount_0f7a4 (nI x) (fun r => (r = nI (pc6 x))) := by
    intro x hx
    unfold wp_J6_bitCount_0f7a4
    revert x
    decide +kernel
  have := key x hx
  unfold wp_J6_bitCount_0f7a4 at this ⊢
  rw [this]; exact hK
section CNT
variable {c m : St} {n dm d : Nat}
theorem Now.od1 (N : Now c m n dm d) : ∀ i, i < n → od c i ≤ 1 := fun i hi => (N.2.2.2 i hi).1.2.2.2.1
theorem overBits_s (N : Now c m n dm d) {K : Int32 → Prop} (hK : K (nI (obN c n))) : wp_X7_overBits 25 c K := by
  have hn := N.1.1
  unfold wp_X7_overBits L_X7_overBits_4
  refine for2_2 n (fun p x => x = nI (obN c p)) ?_ ?_ 0 _ (Nat.zero_le _) rfl
  · rintro _ Φ rfl
    unfold B_X7_overBits_4
    rw [N.2.1.1]
    exact ite_tt hK (Int32.le_refl _)
  · rintro p _ Φ hp rfl hΦ
    have h3 := obN_lt (c := c) (n := p) (fun i hi => N.od1 i (by omega))
    have h4 := p26 (i := p) (by omega)
    have ho := N.od1 p hp
    have f4 := (N.2.2.2 p hp).2.1.2.2.2
    unfold B_X7_overBits_4 J_X7_overBits_30
    rw [N.2.1.1, nI_clamp (by omega), show 25 + 3 + p = 28 + p from rfl, f4, show nI p + 1 = nI (p + 1) from nI_1 p]
    refine ite_ff ⟨vp_in_nI (by omega) (by decide), ite_c (fun z => hΦ _ ?_) (fun z => hΦ _ ?_)⟩ (nI_ge hp (by omega))
    · rw [lit_nI, nI_inj (by omega) (by decide)] at z
      simp [obN, z]
    · rw [lit_nI, nI_inj (by omega) (by decide)] at z
      rw [or_bit p (by omega) _ (by omega) h3]
      simp [obN, show od c p = 1 by omega]
theorem ringing_s (N : Now c m n dm d) {K : Int32 → Prop} (hK : K (nI (n - ovN c n))) : wp_X7_ringing 25 c K := by
  have hn := N.1.1
  have h3 := obN_lt (c := c) (n := n) N.od1
  have h4 : 2 ^ n ≤ 64 := (by decide : ∀ i, i < 7 → 2 ^ i ≤ 64) n (by omega)
  have h5 := ovN_le (c := c) N.od1
  unfold wp_X7_ringing
  refine overBits_s N (bitCount_s (by omega) ?_)
  rw [N.2.1.1, pc6_ob hn N.od1, pk_sub h5]
  exact hK
theorem sounds_s (N : Now c m n dm d) {K : Int32 → Prop} (hK : K (nI (n - ovN c n))) : wp_X9_sounds m K := by
  have hn := N.1.1
  unfold wp_X9_sounds L_X9_sounds_4
  refine for2_2 n (fun p x => x = nI (p - ovN c p)) ?_ ?_ 0 _ (Nat.zero_le _) rfl
  · rintro _ Φ rfl
    unfold B_X9_sounds_4
    rw [show (0 : Int32).toNatClampNeg = 0 from rfl, N.2.2.1.1]
    exact ⟨in0, ite_tt hK (Int32.le_refl _)⟩
  · rintro p _ Φ hp rfl hΦ
    have h5 := ovN_le (c := c) (n := p) (fun i hi => N.od1 i (by omega))
    unfold B_X9_sounds_4 J_X9_sounds_28
    rw [show (0 : Int32).toNatClampNeg = 0 from rfl, N.2.2.1.1, show nI p + 1 = nI (p + 1) from nI_1 p]
    refine ⟨in0, ite_ff (isOver_s N hp (fun ho => ite_ff (hΦ _ ?_) (by decide)) (fun ho => ite_tt (hΦ _ ?_) rfl)) (nI_ge hp (by omega))⟩
    · simp only [ovN, ho]
      rw [show p + 1 - (ovN c p + 1) = p - ovN c p by omega]
      exact nI_add _ 0
    · simp only [ovN, ho]
      rw [show p + 1 - (ovN c p + 0) = p - ovN c p + 1 by omega]
      exact nI_1 _
end CNT
section CNT2
variable {c m : St} {n dm d : Nat}
theorem standing_s (N : Now c m n dm d) {K : Int32 → Prop} (hK : K (nI (cnt (fun i => decide (hdN c i = 20)) n))) : wp_X7_standing 25 c K := by
  have hn := N.1.1
  unfold wp_X7_standing L_X7_standing_4
  refine for2_2 n (fun p x => x = nI (cnt (fun i => decide (hdN c i = 20)) p)) ?_ ?_ 0 _ (Nat.zero_le _) rfl
  · rintro _ Φ rfl
    unfold B_X7_standing_4
    rw [N.2.1.1]
    exact ite_tt hK (Int32.le_refl _)
  · rintro p _ Φ hp rfl hΦ
    obtain ⟨⟨e1, e2, e3, e4, e5⟩, ⟨f1, f2, f3, f4⟩, -⟩ := N.2.2.2 p hp
    unfold B_X7_standing_4 wp_X0_tell J_X0_tell_78
    rw [N.2.1.1, nI_clamp (by omega), show 25 + 3 + p = 28 + p from rfl, f3, show nI p + 1 = nI (p + 1) from nI_1 p]
    refine ite_ff ⟨vp_in_nI (by omega) (by decide), ite_ff (ite_ff (ite_ff (ite_ff (ite_tt (ite_c (fun z => hΦ _ ?_) (fun z => hΦ _ ?_)) rfl) (by decide)) (by decide)) (by decide)) (by decide)⟩ (nI_ge hp (by omega))
    · rw [lit_nI, nI_inj (by omega) (by decide)] at z
      simp only [cnt, decide_eq_true_eq, if_pos z]
      exact nI_1 _
    · rw [lit_nI, nI_inj (by omega) (by decide)] at z
      simp only [cnt, decide_eq_true_eq, if_neg z]
      exact nI_add _ 0
theorem standingM_s (N : Now c m n dm d) {K : Int32 → Prop} (hK : K (nI (cnt (fun i => decide (hdN c i = 20)) n))) : wp_X9_standing m K := by
  have hn := N.1.1
  unfold wp_X9_standing L_X9_standing_4
  refine for2_2 n (fun p x => x = nI (cnt (fun i => decide (hdN c i = 20)) p)) ?_ ?_ 0 _ (Nat.zero_le _) rfl
  · rintro _ Φ rfl
    unfold B_X9_standing_4
    rw [show (0 : Int32).toNatClampNeg = 0 from rfl, N.2.2.1.1]
    exact ⟨in0, ite_tt hK (Int32.le_refl _)⟩
  · rintro p _ Φ hp rfl hΦ
    obtain ⟨⟨e1, e2, e3, e4, e5⟩, ⟨f1, f2, f3, f4⟩, g1, g2, g3, g4, g5⟩ := N.2.2.2 p hp
    unfold B_X9_standing_4 J_X9_standing_34
    have q1 : (14 + nI p).toNatClampNeg = 14 + p := by simp (disch := omega) only [lit_nI, nI_add, pk_mul, nI_clamp, vp_nI, nI_inj, nI_lt', nI_le', nI_neg1, nI_neg9, nI_neg3, neg1_nI, neg9_nI, neg_l0, neg_g0, ↓reduceIte, true_and, and_true, not_true_eq_false, not_false_eq_true, Nat.reduceEqDiff, Nat.reduceLeDiff, Nat.reduceAdd, Nat.reduceSub, Nat.reduceDiv, Nat.reduceMod, Nat.reducePow, Nat.reduceLT, Nat.reduceMul, Nat.not_lt_zero, Nat.zero_le, Nat.succ_ne_self, one_ne0, zero_ne1, ne_eq]
    have q3 : vp_in (14 + nI p) 5280 := by simp (disch := omega) only [lit_nI, nI_add, pk_mul, nI_clamp, vp_nI, nI_inj, nI_lt', nI_le', nI_neg1, nI_neg9, nI_neg3, neg1_nI, neg9_nI, neg_l0, neg_g0, ↓reduceIte, true_and, and_true, not_true_eq_false, not_false_eq_true, Nat.reduceEqDiff, Nat.reduceLeDiff, Nat.reduceAdd, Nat.reduceSub, Nat.reduceDiv, Nat.reduceMod, Nat.reducePow, Nat.reduceLT, Nat.reduceMul, Nat.not_lt_zero, Nat.zero_le, Nat.succ_ne_self, one_ne0, zero_ne1, ne_eq]; omega
    rw [show (0 : Int32).toNatClampNeg = 0 from rfl, N.2.2.1.1, q1, g3, show nI p + 1 = nI (p + 1) from nI_1 p]
    refine ⟨in0, ite_ff ⟨q3, ite_c (fun z => hΦ _ ?_) (fun z => hΦ _ ?_)⟩ (nI_ge hp (by omega))⟩
    · rw [lit_nI, nI_inj (by omega) (by decide)] at z
      simp only [cnt, decide_eq_true_eq, if_pos z]
      exact nI_1 _
    · rw [lit_nI, nI_inj (by omega) (by decide)] at z
      simp only [cnt, decide_eq_true_eq, if_neg z]
      exact nI_add _ 0
theorem heavies_s (N : Now c m n dm d) {K : Int32 → Prop} (hK : K (nI (cnt (fun i => decide (kd c i = 1 ∨ kd c i = 4)) n))) : wp_X7_heavyOnes 25 c K := by
  have hn := N.1.1
  unfold wp_X7_heavyOnes L_X7_heavyOnes_4
  refine for2_2 n (fun p x => x = nI (cnt (fun i => decide (kd c i = 1 ∨ kd c i = 4)) p)) ?_ ?_ 0 _ (Nat.zero_le _) rfl
  · rintro _ Φ rfl
    unfold B_X7_heavyOnes_4
    rw [N.2.1.1]
    exact ite_tt hK (Int32.le_refl _)
  · rintro p _ Φ hp rfl hΦ
    obtain ⟨⟨e1, e2, e3, e4, e5⟩, ⟨f1, f2, f3, f4⟩, -⟩ := N.2.2.2 p hp
    unfold B_X7_heavyOnes_4 J_X7_heavyOnes_31
    rw [N.2.1.1, nI_clamp (by omega), show 25 + 3 + p = 28 + p from rfl, f1, show nI p + 1 = nI (p + 1) from nI_1 p]
    refine ite_ff ⟨vp_in_nI (by omega) (by decide), isOf_s (o := 1) e1 (by decide) (fun z => ite_ff (hΦ _ ?_) (by decide)) (fun z => ite_tt (hΦ _ ?_) rfl)⟩ (nI_ge hp (by omega))
    · simp only [cnt, decide_eq_true_eq]
      rw [if_pos (by omega)]
      exact nI_1 _
    · simp only [cnt, decide_eq_true_eq]
      rw [if_neg (by omega)]; rfl
theorem heaviesM_s (N : Now c m n dm d) {K : Int32 → Prop} (hK : K (nI (cnt (fun i => decide (kd c i = 1 ∨ kd c i = 4)) n))) : wp_X9_heavies m K := by
  have hn := N.1.1
  unfold wp_X9_heavies L_X9_heavies_4
  refine for2_2 n (fun p x => x = nI (cnt (fun i => decide (kd c i = 1 ∨ kd c i = 4)) p)) ?_ ?_ 0 _ (Nat.zero_le _) rfl
  · rintro _ Φ rfl
    unfold B_X9_heavies_4
    rw [show (0 : Int32).toNatClampNeg = 0 from rfl, N.2.2.1.1]
    exact ⟨in0, ite_tt hK (Int32.le_refl _)⟩
  · rintro p _ Φ hp rfl hΦ
    obtain ⟨⟨e1, e2, e3, e4, e5⟩, ⟨f1, f2, f3, f4⟩, g1, g2, g3, g4, g5⟩ := N.2.2.2 p hp
    unfold B_X9_heavies_4 J_X9_heavies_34
    have q1 : (2 + nI p).toNatClampNeg = 2 + p := by simp (disch := omega) only [lit_nI, nI_add, pk_mul, nI_clamp, vp_nI, nI_inj, nI_lt', nI_le', nI_neg1, nI_neg9, nI_neg3, neg1_nI, neg9_nI, neg_l0, neg_g0, ↓reduceIte, true_and, and_true, not_true_eq_false, not_false_eq_true, Nat.reduceEqDiff, Nat.reduceLeDiff, Nat.reduceAdd, Nat.reduceSub, Nat.reduceDiv, Nat.reduceMod, Nat.reducePow, Nat.reduceLT, Nat.reduceMul, Nat.not_lt_zero, Nat.zero_le, Nat.succ_ne_self, one_ne0, zero_ne1, ne_eq]
    have q3 : vp_in (2 + nI p) 5280 := by simp (disch := omega) only [lit_nI, nI_add, pk_mul, nI_clamp, vp_nI, nI_inj, nI_lt', nI_le', nI_neg1, nI_neg9, nI_neg3, neg1_nI, neg9_nI, neg_l0, neg_g0, ↓reduceIte, true_and, and_true, not_true_eq_false, not_false_eq_true, Nat.reduceEqDiff, Nat.reduceLeDiff, Nat.reduceAdd, Nat.reduceSub, Nat.reduceDiv, Nat.reduceMod, Nat.reducePow, Nat.reduceLT, Nat.reduceMul, Nat.not_lt_zero, Nat.zero_le, Nat.succ_ne_self, one_ne0, zero_ne1, ne_eq]; omega
    rw [show (0 : Int32).toNatClampNeg = 0 from rfl, N.2.2.1.1, q1, g1, show nI p + 1 = nI (p + 1) from nI_1 p]
    refine ⟨in0, ite_ff ⟨q3, isHeavy_s e1 (fun z => ite_ff (hΦ _ ?_) (by decide)) (fun z => ite_tt (hΦ _ ?_) rfl)⟩ (nI_ge hp (by omega))⟩
    · simp only [cnt, decide_eq_true_eq]
      rw [if_pos z]
      exact nI_1 _
    · simp only [cnt, decide_eq_true_eq]
      rw [if_neg z]; exact nI_add _ 0
/-- rows, texts, kept towers that are there -/
theorem thereOf_s {k N b : Nat} (hN : N ≤ 6) (P : Nat → Bool) (hP : ∀ i, i < N → (c.1 (b + 2 * i) 1 = 0 ↔ P i = false)) {K : Int32 → Prop} (hK : K (nI (cnt P N))) : wp_X8_thereOf k N b c K := by
  unfold wp_X8_thereOf L_X8_thereOf_4
  refine for2_2 N (fun p x => x = nI (cnt P p)) ?_ ?_ 0 _ (Nat.zero_le _) rfl
  · rintro _ Φ rfl
    unfold B_X8_thereOf_4
    exact ite_tt hK (Int32.le_refl _)
  · rintro p _ Φ hp rfl hΦ
    have hv := vp_in_nI (n := p) (N := N) hp (by omega)
    unfold B_X8_thereOf_4 J_X8_thereOf_28
    rw [nI_clamp (by omega), show nI p + 1 = nI (p + 1) from nI_1 p]
    refine ite_ff ⟨hv, hv, ite_c (fun z => hΦ _ ?_) (fun z => hΦ _ ?_)⟩ (nI_ge hp (by omega))
    · simp only [cnt, (hP p hp).mp z]; rfl
    · have : P p = true := by
        cases e : P p with
        | true => rfl
        | false => exact absurd ((hP p hp).mpr e) z
      simp only [cnt, this, if_true]
      exact nI_1 _
theorem thereOfM_s {k N0 N : Nat} (hN : N ≤ 6) (hN0 : N ≤ N0) (P : Nat → Bool) (hP : ∀ i, i < N → (0 ≤ m.1 k i ↔ P i = true)) {K : Int32 → Prop} (hK : K (nI (cnt P N))) : wp_X9_thereOf k N0 (nI N) m K := by
  unfold wp_X9_thereOf L_X9_thereOf_4
  refine for2_2 N (fun p x => x = nI (cnt P p)) ?_ ?_ 0 _ (Nat.zero_le _) rfl
  · rintro _ Φ rfl
    unfold B_X9_thereOf_4
    exact ite_tt hK (Int32.le_refl _)
  · rintro p _ Φ hp rfl hΦ
    unfold B_X9_thereOf_4 J_X9_thereOf_21
    rw [nI_clamp (by omega), show nI p + 1 = nI (p + 1) from nI_1 p]
    refine ite_ff ⟨?_, ite_c (fun z => hΦ _ ?_) (fun z => hΦ _ ?_)⟩ (nI_ge hp (by omega))
    · rw [vp_nI (by omega)]; omega
    · simp only [cnt, (hP p hp).mp z, if_true]
      exact nI_1 _
    · have : P p = false := by
        cases e : P p with
        | false => rfl
        | true => exact absurd ((hP p hp).mpr e) z
      simp only [cnt, this]
      exact nI_add _ 0
theorem keptTowers_s (P : Nat → Bool) (hP : ∀ i, i < 3 → (c.1 (43 + 9 * i) 2 ≤ 0 ↔ P i = false)) {K : Int32 → Prop} (hK : K (nI (cnt P 3))) : wp_X8_keptTowers c K := by
  unfold wp_X8_keptTowers L_X8_keptTowers_4
  refine for2_2 3 (fun p x => x = nI (cnt P p)) ?_ ?_ 0 _ (Nat.zero_le _) rfl
  · rintro _ Φ rfl
    unfold B_X8_keptTowers_4
    exact ite_tt hK (by decide)
  · rintro p _ Φ hp rfl hΦ
    unfold B_X8_keptTowers_4 J_X8_keptTowers_24
    rw [nI_clamp (by omega), show nI p + 1 = nI (p + 1) from nI_1 p]
    refine ite_ff ⟨vp_in_nI hp (by decide), ite_c (fun z => hΦ _ ?_) (fun z => hΦ _ ?_)⟩ (nI_ge hp (by decide))
    · simp only [cnt, (hP p hp).mp z]; rfl
    · have : P p = true := by
        cases e : P p with
        | true => rfl
        | false => exact absurd ((hP p hp).mpr e) z
      simp only [cnt, this, if_true]
      exact nI_1 _
end CNT2
/-- what count tells of one and the other -/
def cntV (c m : St) (n dm d : Nat) (a : Int32) : Int32 := if a = 0 then nI n else if a = 1 then nI dm else if a = 2 then nI d else if a = 3 then nI n - nI (n - ovN c n) else if a = 4 then nI (cnt (fun i => decide (hdN c i = 20)) n) else if a = 5 then nI (cnt (fun i => decide (kd c i = 1 ∨ kd c i = 4)) n) else if a = 6 then nI (cnt (fun i => decide (0 ≤ m.1 4 i)) 6) else if a = 7 then nI (cnt (fun i => decide (0 ≤ m.1 6 i)) 4) else if a = 8 then nI (cnt (fun i => decide (0 ≤ m.1 2 i)) 3) else -1
theorem count_s {c m : St} (h : Rel c m) {n dm d : Nat} (N : Now c m n dm d) (a : Int32) {K : Int32 → Prop} (hK : K (cntV c m n dm d a)) : wp_X8_count a c K := by
  have hn := N.1.1
  have pr : ∀ i, i < 6 → (c.1 (5 + 2 * i) 1 = 0 ↔ decide (0 ≤ m.1 4 i) = false) := by
    intro i hi
    rcases h.2.1 i hi with ⟨s, a1, a2, a3, a4, a5⟩ | ⟨a1, a2, a3⟩
    · rw [a2, a4]; simp only [decide_eq_false_iff_not]
      exact ⟨fun z => absurd z (by decide), fun z => absurd (nI_pos' (by omega)) z⟩
    · rw [a1, a3]; decide
  have pt : ∀ i, i < 4 → (c.1 (17 + 2 * i) 1 = 0 ↔ decide (0 ≤ m.1 6 i) = false) := by
    intro i hi
    rcases h.2.2.1 i hi with ⟨s, a1, a2, a3, a4, a5⟩ | ⟨a1, a2, a3⟩
    · rw [a2, a4]; simp only [decide_eq_false_iff_not]
      exact ⟨fun z => absurd z (by decide), fun z => absurd (nI_pos' (by omega)) z⟩
    · rw [a1, a3]; decide
  have pk : ∀ i, i < 3 → (c.1 (43 + 9 * i) 2 ≤ 0 ↔ decide (0 ≤ m.1 2 i) = false) := by
    intro i hi
    rcases h.2.2.2.2 i hi with ⟨a1, a2⟩ | ⟨n, dm, d, a0, a1, a2, a3⟩
    · rw [a1, a2]; decide
    · have q1 := a1.1
      have q2 := a1.2.2.1
      rw [a1.2.2.2.1, a3]; simp only [decide_eq_false_iff_not]
      exact ⟨fun z => absurd z (nI_nle a0 (by omega)), fun z => absurd (nI_pos' (by omega)) z⟩
  unfold wp_X8_count
  unfold cntV at hK
  rw [N.2.1.1, N.2.1.2.1, N.2.1.2.2]
  refine ite_c (fun e => ?_) (fun e0 => ite_c (fun e => ?_) (fun e1 => ite_c (fun e => ?_) (fun e2 => ite_c (fun e => ?_) (fun e3 => ite_c (fun e => ?_) (fun e4 => ite_c (fun e => ?_) (fun e5 => ite_c (fun e => ?_) (fun e6 => ite_c (fun e => ?_) (fun e7 => ite_c (fun e => ?_) (fun e8 => ?_)))))))))
  · rw [if_pos e] at hK; exact hK
  · rw [if_neg e0, if_pos e] at hK; exact hK
  · rw [if_neg e0, if_neg e1, if_pos e] at hK; exact hK
  · rw [if_neg e0, if_neg e1, if_neg e2, if_pos e] at hK; exact ringing_s N hK
  · rw [if_neg e0, if_neg e1, if_neg e2, if_neg e3, if_pos e] at hK; exact standing_s N hK
  · rw [if_neg e0, if_neg e1, if_neg e2, if_neg e3, if_neg e4, if_pos e] at hK; exact heavies_s N hK
  · rw [if_neg e0, if_neg e1, if_neg e2, if_neg e3, if_neg e4, if_neg e5, if_pos e] at hK; exact thereOf_s (N := 6) (by decide) _ pr hK
  · rw [if_neg e0, if_neg e1, if_neg e2, if_neg e3, if_neg e4, if_neg e5, if_neg e6, if_pos e] at hK; exact thereOf_s (N := 4) (by decide) _ pt hK
  · rw [if_neg e0, if_neg e1, if_neg e2, if_neg e3, if_neg e4, if_neg e5, if_neg e6, if_neg e7, if_pos e] at hK; exact keptTowers_s _ pk hK
  · rw [if_neg e0, if_neg e1, if_neg e2, if_neg e3, if_neg e4, if_neg e5, if_neg e6, if_neg e7, if_neg e8] at hK; exact hK
theorem countM_s {c m : St} {n dm d : Nat} (N : Now c m n dm d) (a : Int32) {K : Int32 → Prop} (hK : K (cntV c m n dm d a)) : wp_X9_count a m K := by
  have hn := N.1.1
  unfold wp_X9_count
  unfold cntV at hK
  rw [show (0 : Int32).toNatClampNeg = 0 from rfl, show (1 : Int32).toNatClampNeg = 1 from rfl, N.2.2.1.1, N.2.2.1.2.1, N.2.2.1.2.2]
  refine ite_c (fun e => ?_) (fun e0 => ite_c (fun e => ?_) (fun e1 => ite_c (fun e => ?_) (fun e2 => ite_c (fun e => ?_) (fun e3 => ite_c (fun e => ?_) (fun e4 => ite_c (fun e => ?_) (fun e5 => ite_c (fun e => ?_) (fun e6 => ite_c (fun e => ?_) (fun e7 => ite_c (fun e => ?_) (fun e8 => ?_)))))))))
  · rw [if_pos e] at hK; exact ⟨in0, hK⟩
  · rw [if_neg e0, if_pos e] at hK; exact ⟨in1, hK⟩
  · rw [if_neg e0, if_neg e1, if_pos e] at hK; exact hK
  · rw [if_neg e0, if_neg e1, if_neg e2, if_pos e] at hK; exact ⟨in0, sounds_s N hK⟩
  · rw [if_neg e0, if_neg e1, if_neg e2, if_neg e3, if_pos e] at hK; exact standingM_s N hK
  · rw [if_neg e0, if_neg e1, if_neg e2, if_neg e3, if_neg e4, if_pos e] at hK; exact heaviesM_s N hK
  · rw [if_neg e0, if_neg e1, if_neg e2, if_neg e3, if_neg e4, if_neg e5, if_pos e] at hK; exact thereOfM_s (N := 6) (by decide) (by decide) _ (fun i _ => by simp) hK
  · rw [if_neg e0, if_neg e1, if_neg e2, if_neg e3, if_neg e4, if_neg e5, if_neg e6, if_pos e] at hK; exact thereOfM_s (N := 4) (by decide) (by decide) _ (fun i _ => by simp) hK
  · rw [if_neg e0, if_neg e1, if_neg e2, if_neg e3, if_neg e4, if_neg e5, if_neg e6, if_neg e7, if_pos e] at hK; exact thereOfM_s (N := 3) (by decide) (by decide) _ (fun i _ => by simp) hK
  · rw [if_neg e0, if_neg e1, if_neg e2, if_neg e3, if_neg e4, if_neg e5, if_neg e6, if_neg e7, if_neg e8] at hK; exact hK
theorem op_count {c m : St} (h : Rel c m) (a : Int32) : wp_X8_count a c (fun r => wp_X9_count a m (fun r' => r = r')) := by
  obtain ⟨n, dm, d, N⟩ := h.now
  exact count_s h N a (countM_s N a rfl)

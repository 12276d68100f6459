theorem op_game {c m : St} (h : Rel c m) (a b : Int32) : wp_X8_game a b c (fun r c' => wp_X9_game a b m (fun r' m' => r = r' ∧ Rel c' m')) := by
  obtain ⟨n, dm, d, N⟩ := h.now
  have hn := N.1.1
  unfold wp_X8_game J_X8_game_9 J_X8_game_71
  by_cases hb : vp_in b 4
  · obtain ⟨v, hv, rfl⟩ := vp_in_of hb (by decide)
    refine ite_ff (ite_tt ?_ (by rw [lit_nI, nI_le' (by omega) (by decide)]; omega)) (by rw [lit_nI, nI_lt' (by omega) (by decide)]; omega)
    have inr : ∀ {K : Int32 → Prop}, K 1 → wp_X9_in (nI v).toInt64 (0 : Int64) (3 : Int64) K := fun hK => inM (x := v) (l := 0) (h := 3) (by rw [toInt_L, nI_toInt (by omega)]) (by decide) (by decide) (fun _ _ => hK) (fun q => by omega)
    by_cases ha : vp_in a n
    · obtain ⟨i, hi, rfl⟩ := vp_in_of ha (by omega)
      obtain ⟨⟨b1, b2, b3, b4, b5⟩, ⟨c1, c2, c3, c4⟩, d1, d2, d3, d4, d5⟩ := N.2.2.2 i hi
      refine refuse_s N hi (fun o => ite_ff ?_ (by decide)) (fun o => ite_tt ?_ rfl)
      · unfold wp_X9_game
        exact isBell_y N hi (ite_ff (inr (ite_ff (isOver_s N hi (fun _ => ite_ff ⟨rfl, h⟩ (by decide)) (fun q => by omega)) (by decide))) (by decide))
      · have hv6 := vp_in_nI (n := i) (N := 6) (by omega) (by decide)
        refine ⟨hv6, ?_⟩
        rw [nI_clamp (by omega), c1]
        refine reckon_s b1 (by omega) (fun c' g1 g2 g3 g4 => ⟨hv6, ?_⟩)
        rw [g3 (28 + i) 3 (by omega) (by omega), c3, nI_clamp (by omega), g1 _ b3]
        refine ⟨vp_in_nI (by omega) (by decide), ?_⟩
        have i1 : (14 + nI i).toNatClampNeg = 14 + i := by simp (disch := omega) only [lit_nI, nI_add, pk_mul, nI_clamp, vp_nI, nI_inj, nI_lt', nI_le', nI_neg1, nI_neg9, nI_neg3, neg1_nI, neg9_nI, neg_l0, neg_g0, ↓reduceIte, true_and, and_true, not_true_eq_false, not_false_eq_true, Nat.reduceEqDiff, Nat.reduceLeDiff, Nat.reduceAdd, Nat.reduceSub, Nat.reduceDiv, Nat.reduceMod, Nat.reducePow, Nat.reduceLT, Nat.reduceMul, Nat.not_lt_zero, Nat.zero_le, Nat.succ_ne_self, one_ne0, zero_ne1, ne_eq]
        have i2 : vp_in (14 + nI i) 5280 := by simp (disch := omega) only [lit_nI, nI_add, pk_mul, nI_clamp, vp_nI, nI_inj, nI_lt', nI_le', nI_neg1, nI_neg9, nI_neg3, neg1_nI, neg9_nI, neg_l0, neg_g0, ↓reduceIte, true_and, and_true, not_true_eq_false, not_false_eq_true, Nat.reduceEqDiff, Nat.reduceLeDiff, Nat.reduceAdd, Nat.reduceSub, Nat.reduceDiv, Nat.reduceMod, Nat.reducePow, Nat.reduceLT, Nat.reduceMul, Nat.not_lt_zero, Nat.zero_le, Nat.succ_ne_self, one_ne0, zero_ne1, ne_eq]; omega
        have i3 : (2 + nI i).toNatClampNeg = 2 + i := by simp (disch := omega) only [lit_nI, nI_add, pk_mul, nI_clamp, vp_nI, nI_inj, nI_lt', nI_le', nI_neg1, nI_neg9, nI_neg3, neg1_nI, neg9_nI, neg_l0, neg_g0, ↓reduceIte, true_and, and_true, not_true_eq_false, not_false_eq_true, Nat.reduceEqDiff, Nat.reduceLeDiff, Nat.reduceAdd, Nat.reduceSub, Nat.reduceDiv, Nat.reduceMod, Nat.reducePow, Nat.reduceLT, Nat.reduceMul, Nat.not_lt_zero, Nat.zero_le, Nat.succ_ne_self, one_ne0, zero_ne1, ne_eq]
        have i4 : vp_in (2 + nI i) 5280 := by simp (disch := omega) only [lit_nI, nI_add, pk_mul, nI_clamp, vp_nI, nI_inj, nI_lt', nI_le', nI_neg1, nI_neg9, nI_neg3, neg1_nI, neg9_nI, neg_l0, neg_g0, ↓reduceIte, true_and, and_true, not_true_eq_false, not_false_eq_true, Nat.reduceEqDiff, Nat.reduceLeDiff, Nat.reduceAdd, Nat.reduceSub, Nat.reduceDiv, Nat.reduceMod, Nat.reducePow, Nat.reduceLT, Nat.reduceMul, Nat.not_lt_zero, Nat.zero_le, Nat.succ_ne_self, one_ne0, zero_ne1, ne_eq]; omega
        have i5 : (42 * nI v + nI (hdN c i)).toNatClampNeg = 21 * (2 * v) + hdN c i := by simp (disch := omega) only [lit_nI, nI_add, pk_mul, nI_clamp, vp_nI, nI_inj, nI_lt', nI_le', nI_neg1, nI_neg9, nI_neg3, neg1_nI, neg9_nI, neg_l0, neg_g0, ↓reduceIte, true_and, and_true, not_true_eq_false, not_false_eq_true, Nat.reduceEqDiff, Nat.reduceLeDiff, Nat.reduceAdd, Nat.reduceSub, Nat.reduceDiv, Nat.reduceMod, Nat.reducePow, Nat.reduceLT, Nat.reduceMul, Nat.not_lt_zero, Nat.zero_le, Nat.succ_ne_self, one_ne0, zero_ne1, ne_eq]; omega
        have i6 : vp_in (42 * nI v + nI (hdN c i)) 147 := by simp (disch := omega) only [lit_nI, nI_add, pk_mul, nI_clamp, vp_nI, nI_inj, nI_lt', nI_le', nI_neg1, nI_neg9, nI_neg3, neg1_nI, neg9_nI, neg_l0, neg_g0, ↓reduceIte, true_and, and_true, not_true_eq_false, not_false_eq_true, Nat.reduceEqDiff, Nat.reduceLeDiff, Nat.reduceAdd, Nat.reduceSub, Nat.reduceDiv, Nat.reduceMod, Nat.reducePow, Nat.reduceLT, Nat.reduceMul, Nat.not_lt_zero, Nat.zero_le, Nat.succ_ne_self, one_ne0, zero_ne1, ne_eq]; omega
        have mod : ∀ r, r = bI (gmT (kd c i) (2 * v) (hdN c i)) → wp_X9_game (nI i) (nI v) m (fun r' m' => r = r' ∧ Rel c' m') := by
          rintro r rfl
          unfold wp_X9_game J_X9_game_73
          refine isBell_y N hi (ite_ff (inr (ite_ff (isOver_s N hi (fun q => by omega) (fun _ => ite_tt ⟨i4, ?_⟩ rfl)) (by decide))) (by decide))
          rw [i3, d1]
          refine layGame_s b1 (by omega) (fun m' y1 y2 y3 => ⟨i2, ?_⟩)
          rw [i1, y2 1 (14 + i) (by omega), d3, i5, y1 _ _ (by omega) b3]
          have hR : Rel c' m' := h.keep ⟨fun k j hk => g3 k j (by omega) (by omega), fun j => by rw [g4]⟩ ⟨⟨y2 0 1 (by omega), y2 0 8 (by omega), y2 0 10 (by omega)⟩, fun j _ => y2 1 j (by omega), fun k j hk => y2 k j (by omega), by rw [y3], by rw [y3]⟩
          refine ⟨i6, ?_⟩
          cases gmT (kd c i) (2 * v) (hdN c i) with
          | true => exact ite_ff ⟨rfl, hR⟩ (by decide)
          | false => exact ite_tt ⟨rfl, hR⟩ (by decide)
        generalize gmT (kd c i) (2 * v) (hdN c i) = t at mod
        cases t with
        | true => exact ite_ff (mod 1 rfl) (by decide)
        | false => exact ite_tt (mod 0 rfl) (by decide)
    · refine refuse_bad N ha (ite_ff ?_ (by decide))
      unfold wp_X9_game J_X9_game_20
      exact isBell_n N ha (ite_tt ⟨rfl, h⟩ rfl)
  · have mod : wp_X9_game a b m (fun r' m' => -1 = r' ∧ Rel c m') := by
      unfold wp_X9_game J_X9_game_20
      by_cases ha : vp_in a n
      · obtain ⟨i, hi, rfl⟩ := vp_in_of ha (by omega)
        refine isBell_y N hi (ite_ff (inM (x := b.toInt) (l := 0) (h := 3) (toInt_L b) (by decide) (by decide) (fun q1 q2 => ?_) (fun q => ite_tt ⟨rfl, h⟩ rfl)) (by decide))
        exact absurd (vp_in_iff.mpr ⟨q1, by omega⟩) hb
      · exact isBell_n N ha (ite_tt ⟨rfl, h⟩ rfl)
    refine ite_c (fun _ => mod) (fun z => ite_c (fun z2 => ?_) (fun _ => mod))
    rcases out_of (by decide) hb with q | q
    · exact absurd q z
    · exact absurd (Int32.le_trans q z2) (by decide)
theorem op_first {c m : St} (h : Rel c m) (a b : Int32) : wp_X8_first a b c (fun r c' => wp_X9_first a b m (fun r' m' => r = r' ∧ Rel c' m')) := by
  obtain ⟨n, dm, d, N⟩ := h.now
  have hn := N.1.1
  unfold wp_X8_first J_X8_first_10
  by_cases hb0 : vp_in b 4 ∧ b ≠ 0
  · obtain ⟨hb, hb1⟩ := hb0
    obtain ⟨v, hv, rfl⟩ := vp_in_of hb (by decide)
    have hv1 : 1 ≤ v := by
      cases v with
      | zero => exact absurd rfl hb1
      | succ v => omega
    refine ite_ff (ite_tt ?_ (by rw [lit_nI, nI_le' (by omega) (by decide)]; omega)) (by rw [lit_nI, nI_lt' (by omega) (by decide)]; omega)
    have inr : ∀ {K : Int32 → Prop}, K 1 → wp_X9_in (nI v).toInt64 (1 : Int64) (3 : Int64) K := fun hK => inM (x := v) (l := 1) (h := 3) (by rw [toInt_L, nI_toInt (by omega)]) (by decide) (by decide) (fun _ _ => hK) (fun q => by omega)
    by_cases ha : vp_in a n
    · obtain ⟨i, hi, rfl⟩ := vp_in_of ha (by omega)
      obtain ⟨⟨b1, b2, b3, b4, b5⟩, ⟨c1, c2, c3, c4⟩, d1, d2, d3, d4, d5⟩ := N.2.2.2 i hi
      refine refuse_s N hi (fun o => ite_ff ?_ (by decide)) (fun o => ite_tt ?_ rfl)
      · unfold wp_X9_first
        exact isBell_y N hi (ite_ff (inr (ite_ff (isOver_s N hi (fun _ => ite_ff ⟨rfl, h⟩ (by decide)) (fun q => by omega)) (by decide))) (by decide))
      · have hv6 := vp_in_nI (n := i) (N := 6) (by omega) (by decide)
        refine ⟨hv6, ?_⟩
        rw [nI_clamp (n := i) (by omega), c1]
        refine reckon_s b1 (by omega) (fun c' g1 g2 g3 g4 => ⟨hv6, hv6, ?_⟩)
        rw [g3 (28 + i) 0 (by omega) (by omega), g3 (28 + i) 3 (by omega) (by omega), c1, c3]
        have i1 : (14 + nI i).toNatClampNeg = 14 + i := by simp (disch := omega) only [lit_nI, nI_add, pk_mul, nI_clamp, vp_nI, nI_inj, nI_lt', nI_le', nI_neg1, nI_neg9, nI_neg3, neg1_nI, neg9_nI, neg_l0, neg_g0, ↓reduceIte, true_and, and_true, not_true_eq_false, not_false_eq_true, Nat.reduceEqDiff, Nat.reduceLeDiff, Nat.reduceAdd, Nat.reduceSub, Nat.reduceDiv, Nat.reduceMod, Nat.reducePow, Nat.reduceLT, Nat.reduceMul, Nat.not_lt_zero, Nat.zero_le, Nat.succ_ne_self, one_ne0, zero_ne1, ne_eq]
        have i2 : vp_in (14 + nI i) 5280 := by simp (disch := omega) only [lit_nI, nI_add, pk_mul, nI_clamp, vp_nI, nI_inj, nI_lt', nI_le', nI_neg1, nI_neg9, nI_neg3, neg1_nI, neg9_nI, neg_l0, neg_g0, ↓reduceIte, true_and, and_true, not_true_eq_false, not_false_eq_true, Nat.reduceEqDiff, Nat.reduceLeDiff, Nat.reduceAdd, Nat.reduceSub, Nat.reduceDiv, Nat.reduceMod, Nat.reducePow, Nat.reduceLT, Nat.reduceMul, Nat.not_lt_zero, Nat.zero_le, Nat.succ_ne_self, one_ne0, zero_ne1, ne_eq]; omega
        have i3 : (2 + nI i).toNatClampNeg = 2 + i := by simp (disch := omega) only [lit_nI, nI_add, pk_mul, nI_clamp, vp_nI, nI_inj, nI_lt', nI_le', nI_neg1, nI_neg9, nI_neg3, neg1_nI, neg9_nI, neg_l0, neg_g0, ↓reduceIte, true_and, and_true, not_true_eq_false, not_false_eq_true, Nat.reduceEqDiff, Nat.reduceLeDiff, Nat.reduceAdd, Nat.reduceSub, Nat.reduceDiv, Nat.reduceMod, Nat.reducePow, Nat.reduceLT, Nat.reduceMul, Nat.not_lt_zero, Nat.zero_le, Nat.succ_ne_self, one_ne0, zero_ne1, ne_eq]
        have i4 : vp_in (2 + nI i) 5280 := by simp (disch := omega) only [lit_nI, nI_add, pk_mul, nI_clamp, vp_nI, nI_inj, nI_lt', nI_le', nI_neg1, nI_neg9, nI_neg3, neg1_nI, neg9_nI, neg_l0, neg_g0, ↓reduceIte, true_and, and_true, not_true_eq_false, not_false_eq_true, Nat.reduceEqDiff, Nat.reduceLeDiff, Nat.reduceAdd, Nat.reduceSub, Nat.reduceDiv, Nat.reduceMod, Nat.reducePow, Nat.reduceLT, Nat.reduceMul, Nat.not_lt_zero, Nat.zero_le, Nat.succ_ne_self, one_ne0, zero_ne1, ne_eq]; omega
        have mod : ∀ {KM : Int32 → St → Prop}, (∀ p m', p < 7 → wpB (kd c i) (hdN c i) (gmT (kd c i) (2 * v - 1)) p = true → anyB (wpB (kd c i) (hdN c i) (gmT (kd c i) (2 * v - 1))) p = false → Rel c' m' → KM (nI p) m') → (∀ m', anyB (wpB (kd c i) (hdN c i) (gmT (kd c i) (2 * v - 1))) 7 = false → Rel c' m' → KM (-9) m') → wp_X9_first (nI i) (nI v) m KM := by
          intro KM kp k9
          unfold wp_X9_first L_X9_first_48
          refine isBell_y N hi (ite_ff (inr (ite_ff (isOver_s N hi (fun q => by omega) (fun _ => ite_tt ⟨i4, ?_⟩ rfl)) (by decide))) (by decide))
          rw [i3, d1]
          refine layGame_s b1 (by omega) (fun m' y1 y2 y3 => ?_)
          have hR : Rel c' m' := h.keep ⟨fun k j hk => g3 k j (by omega) (by omega), fun j => by rw [g4]⟩ ⟨⟨y2 0 1 (by omega), y2 0 8 (by omega), y2 0 10 (by omega)⟩, fun j _ => y2 1 j (by omega), fun k j hk => y2 k j (by omega), by rw [y3], by rw [y3]⟩
          have cell := fun x => y1 (2 * v - 1) x (by omega)
          generalize gmT (kd c i) (2 * v - 1) = G at kp k9 cell
          obtain ⟨A, A0, As, Ae⟩ : ∃ A : Nat → Bool, A 0 = false ∧ (∀ j, A (j + 1) = (A j || wpB (kd c i) (hdN c i) G j)) ∧ ∀ p, anyB (wpB (kd c i) (hdN c i) G) p = A p := ⟨anyB (wpB (kd c i) (hdN c i) G), rfl, fun _ => rfl, fun _ => rfl⟩
          refine for1_1 7 (fun p => A p = false) ?_ ?_ 0 (Nat.zero_le _) A0
          · intro Φ hA
            unfold B_X9_first_48
            exact ite_tt (k9 m' ((Ae 7).trans hA) hR) (by decide)
          · intro p Φ hp hA hΦ
            have hl := aN_le (kd c i) (hdN c i) p
            unfold B_X9_first_48 J_X9_first_104
            rw [i1, i3, y2 1 (2 + i) (by omega), y2 1 (14 + i) (by omega), d1, d3, show nI p + 1 = nI (p + 1) from nI_1 p]
            refine ite_ff ⟨i4, i2, afterM_s b1 (by omega) (by omega) (ite_c (fun z => hΦ ?_) (fun z => ?_))⟩ (nI_ge hp (by decide))
            · rw [eA_m1 hl] at z
              rw [As, hA]; unfold wpB; simp [z]
            · rw [eA_m1 hl] at z
              have ev : (2 : Int32) * nI v - 1 = nI (2 * v - 1) := by
                rw [show (2 : Int32) * nI v = nI (2 * v) by simp (disch := omega) only [lit_nI, nI_add, pk_mul, nI_clamp, vp_nI, nI_inj, nI_lt', nI_le', nI_neg1, nI_neg9, nI_neg3, neg1_nI, neg9_nI, neg_l0, neg_g0, ↓reduceIte, true_and, and_true, not_true_eq_false, not_false_eq_true, Nat.reduceEqDiff, Nat.reduceLeDiff, Nat.reduceAdd, Nat.reduceSub, Nat.reduceDiv, Nat.reduceMod, Nat.reducePow, Nat.reduceLT, Nat.reduceMul, Nat.not_lt_zero, Nat.zero_le, Nat.succ_ne_self, one_ne0, zero_ne1, ne_eq]]
                exact pk_sub (b := 1) (by omega)
              have x1 : ∀ y, y ≤ 20 → (21 * nI (2 * v - 1) + nI y).toNatClampNeg = 21 * (2 * v - 1) + y ∧ vp_in (21 * nI (2 * v - 1) + nI y) 147 := by
                intro y hy
                generalize hu : 2 * v - 1 = u
                have hu5 : u ≤ 5 := by omega
                exact ⟨by simp (disch := omega) only [lit_nI, nI_add, pk_mul, nI_clamp, vp_nI, nI_inj, nI_lt', nI_le', nI_neg1, nI_neg9, nI_neg3, neg1_nI, neg9_nI, neg_l0, neg_g0, ↓reduceIte, true_and, and_true, not_true_eq_false, not_false_eq_true, Nat.reduceEqDiff, Nat.reduceLeDiff, Nat.reduceAdd, Nat.reduceSub, Nat.reduceDiv, Nat.reduceMod, Nat.reducePow, Nat.reduceLT, Nat.reduceMul, Nat.not_lt_zero, Nat.zero_le, Nat.succ_ne_self, one_ne0, zero_ne1, ne_eq], by simp (disch := omega) only [lit_nI, nI_add, pk_mul, nI_clamp, vp_nI, nI_inj, nI_lt', nI_le', nI_neg1, nI_neg9, nI_neg3, neg1_nI, neg9_nI, neg_l0, neg_g0, ↓reduceIte, true_and, and_true, not_true_eq_false, not_false_eq_true, Nat.reduceEqDiff, Nat.reduceLeDiff, Nat.reduceAdd, Nat.reduceSub, Nat.reduceDiv, Nat.reduceMod, Nat.reducePow, Nat.reduceLT, Nat.reduceMul, Nat.not_lt_zero, Nat.zero_le, Nat.succ_ne_self, one_ne0, zero_ne1, ne_eq]; omega⟩
              rw [eA_n z, ev, (x1 _ (by omega)).1, cell _ (by omega)]
              refine ⟨(x1 _ (by omega)).2, ite_c (fun y => hΦ ?_) (fun y => kp p m' hp ?_ ((Ae p).trans hA) hR)⟩
              · rw [bI_0] at y
                rw [As, hA]; unfold wpB; simp [y]
              · rw [bI_0] at y
                unfold wpB; simp [z]
                simpa using y
        refine winP_s b1 b3 (g2 (by omega)) (fun p hp z1 z2 => mod (fun p' m' hp' y1 y2 hR => ⟨?_, hR⟩) (fun m' y hR => ?_)) (fun z => mod (fun p' m' hp' y1 y2 hR => ?_) (fun m' y hR => ⟨rfl, hR⟩))
        · rw [fst_uniq z1 z2 y1 y2]
        · rw [anyB_t hp z1] at y; exact absurd y (by decide)
        · rw [anyB_t hp' y1] at z; exact absurd z (by decide)
    · refine refuse_bad N ha (ite_ff ?_ (by decide))
      unfold wp_X9_first J_X9_first_20
      exact isBell_n N ha (ite_tt ⟨rfl, h⟩ rfl)
  · have mod : wp_X9_first a b m (fun r' m' => -1 = r' ∧ Rel c m') := by
      unfold wp_X9_first J_X9_first_20
      by_cases ha : vp_in a n
      · obtain ⟨i, hi, rfl⟩ := vp_in_of ha (by omega)
        refine isBell_y N hi (ite_ff (inM (x := b.toInt) (l := 1) (h := 3) (toInt_L b) (by decide) (by decide) (fun q1 q2 => ?_) (fun q => ite_tt ⟨rfl, h⟩ rfl)) (by decide))
        refine absurd ⟨vp_in_iff.mpr ⟨by omega, by omega⟩, ?_⟩ hb0
        rintro rfl
        exact absurd q1 (by decide)
      · exact isBell_n N ha (ite_tt ⟨rfl, h⟩ rfl)
    refine ite_c (fun _ => mod) (fun z => ite_c (fun z2 => ?_) (fun _ => mod))
    refine absurd ⟨?_, ?_⟩ hb0
    · by_cases hb : vp_in b 4
      · exact hb
      · rcases out_of (by decide) hb with q | q
        · exact absurd (Int32.lt_trans q (by decide)) z
        · exact absurd (Int32.le_trans q z2) (by decide)
    · rintro rfl
      exact absurd z (by decide)

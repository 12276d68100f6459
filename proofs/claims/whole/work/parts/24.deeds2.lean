/-- the reference: the state minded, the bells as a deed makes them -/
def ActedM (c m m' : St) (n d dd : Nat) : Prop := (∀ i, i < n → (m'.1 1 (14 + i), m'.1 1 (26 + i), m'.1 1 (20 + i)) = dAct dd i (c.1 (28 + i) 0) (bl c (28 + i))) ∧ (∀ j, j < 32 → m'.1 1 (32 * (d + 1) + j) = m.1 1 j) ∧ m'.1 0 1 = nI (d + 1) ∧ (∀ a b, ¬ (a = 1 ∧ 32 * (d + 1) ≤ b ∧ b < 32 * (d + 1) + 32) → ¬ (a = 0 ∧ b = 1) → ¬ (a = 1 ∧ 14 ≤ b ∧ b < 32) → m'.1 a b = m.1 a b) ∧ m'.2 = m.2
/-- the tower's own rows of Rel, in one place -/
theorem Rel.tower {c m : St} (h : Rel c m) {n dm d : Nat} (N : Now c m n dm d) : TowC c 25 n dm d ∧ TowM c m 25 0 n dm d := by
  obtain ⟨n', dm', d', TC, TM, hd⟩ := h.2.2.2.1
  have e1 : n' = n := by
    have := TC.2.2.2.1.symm.trans N.2.1.1
    rwa [nI_inj (by have := TC.1; omega) (by have := N.1.1; omega)] at this
  have e2 : dm' = dm := by
    have := TC.2.2.2.2.1.symm.trans N.2.1.2.1
    rwa [nI_inj (by have := TC.2.1; omega) (by have := N.1.2.1; omega)] at this
  have e3 : d' = d := by
    have := TC.2.2.2.2.2.1.symm.trans N.2.1.2.2
    rwa [nI_inj (by have := TC.2.2.1; omega) (by have := N.1.2.2; omega)] at this
  subst e1; subst e2; subst e3
  exact ⟨TC, TM⟩
theorem Now.ok {c m : St} {n dm d : Nat} (N : Now c m n dm d) : ∀ i, i < n → (∃ k, k < 6 ∧ c.1 (28 + i) 0 = nI k) ∧ BlOK (bl c (28 + i)) := by
  intro i hi
  obtain ⟨⟨b1, b2, b3, b4, b5⟩, ⟨c1, c2, c3, c4⟩, -⟩ := N.2.2.2 i hi
  exact ⟨⟨_, b1, c1⟩, hdN c i, od c i, b3, b4, b5, c3, c4⟩
theorem Rel.deed {c m c' m' : St} (h : Rel c m) {n dm d dd : Nat} (N : Now c m n dm d) (hd : d < 40) (hdd : dd < 117697) (hc : Acted c c' n d dd) (hm : ActedM c m m' n d dd) : Rel c' m' := by
  obtain ⟨TC, TM⟩ := h.tower N
  obtain ⟨t1, t2, t3, t4, t5⟩ := h.1
  obtain ⟨u1, u2, u3, u4, u5⟩ := hc
  obtain ⟨v1, v2, v3, v4, v5⟩ := hm
  obtain ⟨h1, h2, h3, h4, h5, h6, h7, h8⟩ := TC
  obtain ⟨g1, g2, g3, g4⟩ := TM
  have hs : ∀ e i, e ≤ d → i < n → stC c' 25 e i = stC c 25 e i := fun e i he hi => stC_congr (u4 _ _ (by omega) (by omega) (by omega)) (u4 _ _ (by omega) (by omega) (by omega)) (fun j hj => u4 _ _ (by omega) (by omega) (by omega))
  have cur : ∀ i, i < n → bl c (28 + i) = stC c 25 d i := fun i hi => (h7 i hi).2.2.2
  have nxt : ∀ i, i < n → stC c' 25 (d + 1) i = dAct dd i (c.1 (28 + i) 0) (bl c (28 + i)) := by
    intro i hi
    have e27 : c'.1 (25 + 2) d = nI dd := u3
    simp only [stC]
    rw [e27, nI_clamp (by omega), hs d i (Nat.le_refl _) hi, cur i hi, u4 (25 + 3 + i) 0 (by omega) (by omega) (by omega)]
  refine ⟨⟨fun f hf => by rw [u4 _ _ (by omega) (by omega) (by omega), v4 _ _ (by omega) (by omega) (by omega)]; exact t1 f hf, by rw [u4 _ _ (by omega) (by omega) (by omega), v4 _ _ (by omega) (by omega) (by omega)]; exact t2, by rw [u4 _ _ (by omega) (by omega) (by omega), v4 _ _ (by omega) (by omega) (by omega)]; exact t3, by rw [u5, v5]; exact t4, by rw [u5, v5]; exact t5⟩,
    fun ρ hρ => row_same (h.2.1 ρ hρ) (fun j => u4 _ _ (by omega) (by omega) (by omega)) (fun j => u4 _ _ (by omega) (by omega) (by omega)) (v4 _ _ (by omega) (by omega) (by omega)) (fun i _ => v4 _ _ (by omega) (by omega) (by omega)),
    fun ρ hρ => text_same (h.2.2.1 ρ hρ) (fun j => u4 _ _ (by omega) (by omega) (by omega)) (fun j => u4 _ _ (by omega) (by omega) (by omega)) (v4 _ _ (by omega) (by omega) (by omega)) (fun i _ => v4 _ _ (by omega) (by omega) (by omega)),
    ⟨n, dm, d + 1, ⟨h1, h2, by omega, by rw [u4 _ _ (by omega) (by omega) (by omega)]; exact h4, by rw [u4 _ _ (by omega) (by omega) (by omega)]; exact h5, u2, fun i hi => ?_, fun j hj => ?_⟩, ⟨by rw [v4 _ _ (by omega) (by omega) (by omega)]; exact g1, by rw [v4 _ _ (by omega) (by omega) (by omega)]; exact g2, fun i hi => ?_, fun e he => ?_⟩, v3⟩,
    fun k hk => kept_same (fun k j z => u4 _ _ (by omega) (by omega) (by omega)) (fun j z1 z2 => v4 _ _ (by omega) (by omega) (by omega)) (fun j => v4 _ _ (by omega) (by omega) (by omega)) hk (h.2.2.2.2 k hk)⟩
  · obtain ⟨w1, w2, w3, w4⟩ := h7 i hi
    refine ⟨by rw [u4 _ _ (by omega) (by omega) (by omega)]; exact w1, by rw [u4 _ _ (by omega) (by omega) (by omega)]; exact w2, by rw [u4 _ _ (by omega) (by omega) (by omega)]; exact w3, ?_⟩
    rw [nxt i hi]; exact u1 i hi
  · by_cases e : j = d
    · subst e; exact ⟨dd, hdd, u3⟩
    · rw [u4 _ _ (by omega) (by omega) (by omega)]; exact h8 j (by omega)
  · obtain ⟨w1, w2, w3⟩ := g3 i hi
    refine ⟨by rw [v4 _ _ (by omega) (by omega) (by omega), u4 _ _ (by omega) (by omega) (by omega)]; exact w1, by rw [v4 _ _ (by omega) (by omega) (by omega), u4 _ _ (by omega) (by omega) (by omega)]; exact w2, ?_⟩
    rw [nxt i hi, ← v1 i hi, show 0 + 14 + i = 14 + i by omega, show 0 + 26 + i = 26 + i by omega, show 0 + 20 + i = 20 + i by omega]
  · by_cases e' : e = d
    · subst e'
      refine ⟨?_, fun i hi => ?_⟩
      · have := v2 0 (by omega)
        rw [show 0 + 32 * (e + 1) = 32 * (e + 1) + 0 by omega, this]; exact g1
      · obtain ⟨w1, w2, w3⟩ := g3 i hi
        rw [hs e i (Nat.le_refl _) hi, u4 (25 + 3 + i) 0 (by omega) (by omega) (by omega), u4 (25 + 3 + i) 1 (by omega) (by omega) (by omega), ← w1, ← w2, ← w3]
        rw [show 0 + 32 * (e + 1) + 2 + i = 32 * (e + 1) + (2 + i) by omega, show 0 + 32 * (e + 1) + 8 + i = 32 * (e + 1) + (8 + i) by omega, show 0 + 32 * (e + 1) + 14 + i = 32 * (e + 1) + (14 + i) by omega, show 0 + 32 * (e + 1) + 26 + i = 32 * (e + 1) + (26 + i) by omega, show 0 + 32 * (e + 1) + 20 + i = 32 * (e + 1) + (20 + i) by omega]
        rw [v2 _ (by omega), v2 _ (by omega), v2 _ (by omega), v2 _ (by omega), v2 _ (by omega)]
        simp only [Nat.zero_add]
        exact ⟨trivial, trivial, trivial⟩
    · obtain ⟨w0, w⟩ := g4 e (by omega)
      refine ⟨by rw [v4 _ _ (by omega) (by omega) (by omega)]; exact w0, fun i hi => ?_⟩
      obtain ⟨w1, w2, w3⟩ := w i hi
      rw [hs e i (by omega) hi, u4 (25 + 3 + i) 0 (by omega) (by omega) (by omega), u4 (25 + 3 + i) 1 (by omega) (by omega) (by omega), ← w1, ← w2, ← w3]
      have em : ∀ b, 32 ≤ b → b < 32 * (d + 1) → m'.1 1 b = m.1 1 b := fun b q1 q2 => v4 _ _ (by omega) (by omega) (by omega)
      rw [em _ (by omega) (by omega), em _ (by omega) (by omega), em _ (by omega) (by omega), em _ (by omega) (by omega), em _ (by omega) (by omega)]
      exact ⟨rfl, rfl, rfl⟩
/-- the reference's stroke of one bell that is not over -/
theorem strokesM_s {m : St} {i k h p : Nat} (hi : i < 6) (hk : k < 6) (hh : h ≤ 20) (hp : p < 2 ^ 18) (h2 : m.1 1 (2 + i) = nI k) (h14 : m.1 1 (14 + i) = nI h) {K : St → Prop} (hK : ∀ m', (m'.1 1 (14 + i), m'.1 1 (26 + i), m'.1 1 (20 + i)) = bSw (nI k) (nI p) (nI h, m.1 1 (26 + i), 0) → (∀ a b, a ≠ 1 ∨ (b ≠ 14 + i ∧ b ≠ 20 + i ∧ b ≠ 26 + i) → m'.1 a b = m.1 a b) → m'.2 = m.2 → K m') : wp_X9_strokes (nI i) (nI p) m K := by
  unfold wp_X9_strokes J_X9_strokes_40 J_X9_strokes_59
  have i1 : (2 + nI i).toNatClampNeg = 2 + i := by simp (disch := omega) only [lit_nI, nI_add, pk_mul, nI_clamp, vp_nI, nI_inj, nI_lt', nI_le', nI_neg1, nI_neg9, nI_neg3, neg1_nI, neg9_nI, neg_l0, neg_g0, ↓reduceIte, true_and, and_true, not_true_eq_false, not_false_eq_true, Nat.reduceEqDiff, Nat.reduceLeDiff, Nat.reduceAdd, Nat.reduceSub, Nat.reduceDiv, Nat.reduceMod, Nat.reducePow, Nat.reduceLT, Nat.reduceMul, Nat.not_lt_zero, Nat.zero_le, Nat.succ_ne_self, one_ne0, zero_ne1, ne_eq]
  have i2 : vp_in (2 + nI i) 5280 := by simp (disch := omega) only [lit_nI, nI_add, pk_mul, nI_clamp, vp_nI, nI_inj, nI_lt', nI_le', nI_neg1, nI_neg9, nI_neg3, neg1_nI, neg9_nI, neg_l0, neg_g0, ↓reduceIte, true_and, and_true, not_true_eq_false, not_false_eq_true, Nat.reduceEqDiff, Nat.reduceLeDiff, Nat.reduceAdd, Nat.reduceSub, Nat.reduceDiv, Nat.reduceMod, Nat.reducePow, Nat.reduceLT, Nat.reduceMul, Nat.not_lt_zero, Nat.zero_le, Nat.succ_ne_self, one_ne0, zero_ne1, ne_eq]; omega
  have i3 : (14 + nI i).toNatClampNeg = 14 + i := by simp (disch := omega) only [lit_nI, nI_add, pk_mul, nI_clamp, vp_nI, nI_inj, nI_lt', nI_le', nI_neg1, nI_neg9, nI_neg3, neg1_nI, neg9_nI, neg_l0, neg_g0, ↓reduceIte, true_and, and_true, not_true_eq_false, not_false_eq_true, Nat.reduceEqDiff, Nat.reduceLeDiff, Nat.reduceAdd, Nat.reduceSub, Nat.reduceDiv, Nat.reduceMod, Nat.reducePow, Nat.reduceLT, Nat.reduceMul, Nat.not_lt_zero, Nat.zero_le, Nat.succ_ne_self, one_ne0, zero_ne1, ne_eq]
  have i4 : vp_in (14 + nI i) 5280 := by simp (disch := omega) only [lit_nI, nI_add, pk_mul, nI_clamp, vp_nI, nI_inj, nI_lt', nI_le', nI_neg1, nI_neg9, nI_neg3, neg1_nI, neg9_nI, neg_l0, neg_g0, ↓reduceIte, true_and, and_true, not_true_eq_false, not_false_eq_true, Nat.reduceEqDiff, Nat.reduceLeDiff, Nat.reduceAdd, Nat.reduceSub, Nat.reduceDiv, Nat.reduceMod, Nat.reducePow, Nat.reduceLT, Nat.reduceMul, Nat.not_lt_zero, Nat.zero_le, Nat.succ_ne_self, one_ne0, zero_ne1, ne_eq]; omega
  have i5 : (20 + nI i).toNatClampNeg = 20 + i := by simp (disch := omega) only [lit_nI, nI_add, pk_mul, nI_clamp, vp_nI, nI_inj, nI_lt', nI_le', nI_neg1, nI_neg9, nI_neg3, neg1_nI, neg9_nI, neg_l0, neg_g0, ↓reduceIte, true_and, and_true, not_true_eq_false, not_false_eq_true, Nat.reduceEqDiff, Nat.reduceLeDiff, Nat.reduceAdd, Nat.reduceSub, Nat.reduceDiv, Nat.reduceMod, Nat.reducePow, Nat.reduceLT, Nat.reduceMul, Nat.not_lt_zero, Nat.zero_le, Nat.succ_ne_self, one_ne0, zero_ne1, ne_eq]
  have i6 : vp_in (20 + nI i) 5280 := by simp (disch := omega) only [lit_nI, nI_add, pk_mul, nI_clamp, vp_nI, nI_inj, nI_lt', nI_le', nI_neg1, nI_neg9, nI_neg3, neg1_nI, neg9_nI, neg_l0, neg_g0, ↓reduceIte, true_and, and_true, not_true_eq_false, not_false_eq_true, Nat.reduceEqDiff, Nat.reduceLeDiff, Nat.reduceAdd, Nat.reduceSub, Nat.reduceDiv, Nat.reduceMod, Nat.reducePow, Nat.reduceLT, Nat.reduceMul, Nat.not_lt_zero, Nat.zero_le, Nat.succ_ne_self, one_ne0, zero_ne1, ne_eq]; omega
  have i7 : (26 + nI i).toNatClampNeg = 26 + i := by simp (disch := omega) only [lit_nI, nI_add, pk_mul, nI_clamp, vp_nI, nI_inj, nI_lt', nI_le', nI_neg1, nI_neg9, nI_neg3, neg1_nI, neg9_nI, neg_l0, neg_g0, ↓reduceIte, true_and, and_true, not_true_eq_false, not_false_eq_true, Nat.reduceEqDiff, Nat.reduceLeDiff, Nat.reduceAdd, Nat.reduceSub, Nat.reduceDiv, Nat.reduceMod, Nat.reducePow, Nat.reduceLT, Nat.reduceMul, Nat.not_lt_zero, Nat.zero_le, Nat.succ_ne_self, one_ne0, zero_ne1, ne_eq]
  have i8 : vp_in (26 + nI i) 5280 := by simp (disch := omega) only [lit_nI, nI_add, pk_mul, nI_clamp, vp_nI, nI_inj, nI_lt', nI_le', nI_neg1, nI_neg9, nI_neg3, neg1_nI, neg9_nI, neg_l0, neg_g0, ↓reduceIte, true_and, and_true, not_true_eq_false, not_false_eq_true, Nat.reduceEqDiff, Nat.reduceLeDiff, Nat.reduceAdd, Nat.reduceSub, Nat.reduceDiv, Nat.reduceMod, Nat.reducePow, Nat.reduceLT, Nat.reduceMul, Nat.not_lt_zero, Nat.zero_le, Nat.succ_ne_self, one_ne0, zero_ne1, ne_eq]; omega
  rw [i1, i3, i5, i7, h2, h14]
  have ea := aftI_s hk (h := h) (by omega) hp
  unfold bSw at hK
  dsimp only at hK
  rw [if_pos (rfl : (0 : Int32) = 0), ea] at hK
  refine ⟨i2, i4, afterM_s hk (by omega) hp (ite_c (fun y => ⟨i4, ite_tt ⟨i6, i8, i8, hK _ ?_ (fun a b hab => ?_) rfl⟩ y⟩) (fun y => ⟨i4, ite_ff ⟨i6, i8, i8, hK _ ?_ (fun a b hab => ?_) rfl⟩ y⟩))⟩
  · rw [if_pos y, uI_n (show 14 + i ≠ 26 + i by omega), uI_n (show 14 + i ≠ 20 + i by omega), uI_s, uI_s, uI_n (show 26 + i ≠ 20 + i by omega), uI_n (show 26 + i ≠ 14 + i by omega), uI_n (show 20 + i ≠ 26 + i by omega), uI_s]
  · simp only [uI_1]
    rw [if_neg (by omega), if_neg (by omega), if_neg (by omega)]
  · rw [if_neg y, uI_n (show 14 + i ≠ 26 + i by omega), uI_n (show 14 + i ≠ 20 + i by omega), uI_s, uI_s, uI_n (show 26 + i ≠ 20 + i by omega), uI_n (show 26 + i ≠ 14 + i by omega), uI_n (show 20 + i ≠ 26 + i by omega), uI_s]
  · simp only [uI_1]
    rw [if_neg (by omega), if_neg (by omega), if_neg (by omega)]
theorem op_stroke {c m : St} (h : Rel c m) (a b : Int32) : wp_X8_stroke a b c (fun r c' => wp_X9_stroke a b m (fun r' m' => r = r' ∧ Rel c' m')) := by
  obtain ⟨n, dm, d, N⟩ := h.now
  have hn := N.1.1
  have hd40 := N.1.2.2
  unfold wp_X8_stroke wp_X7_roomLeft wp_X7_strokeDeed
  by_cases hb : vp_in b 7
  · obtain ⟨p, hp, rfl⟩ := vp_in_of hb (by decide)
    refine isPull_y hp (ite_ff ?_ (by decide))
    by_cases ha : vp_in a n
    · obtain ⟨i, hi, rfl⟩ := vp_in_of ha (by omega)
      obtain ⟨⟨b1, b2, b3, b4, b5⟩, ⟨c1, c2, c3, c4⟩, d1, d2, d3, d4, d5⟩ := N.2.2.2 i hi
      have pre : ∀ {K : Int32 → St → Prop}, (od c i = 1 → K (-4) m) → (od c i = 0 → if m.1 0 1 = 40 then K (-2) m else wp_X9_minds m (fun t41 => wp_X9_strokes (nI i) (nI p) t41 (fun t47 => vp_in (14 + nI i) 5280 ∧ K (t47.1 1 (14 + nI i).toNatClampNeg) t47))) → wp_X9_stroke (nI i) (nI p) m K := by
        intro K k1 k0
        unfold wp_X9_stroke
        refine isBell_y N hi (ite_ff (isPullM_y hp (ite_ff ?_ (by decide))) (by decide))
        exact isOver_s N hi (fun q => ite_ff (k1 q) (by decide)) (fun q => ite_tt (k0 q) rfl)
      refine refuse_s N hi (fun ho => ite_ff (pre (fun _ => ⟨rfl, h⟩) (fun q => by omega)) (by decide)) (fun ho => ite_tt ?_ rfl)
      rw [N.2.1.2.2]
      by_cases e40 : d = 40
      · refine ite_ff (pre (fun q => by omega) (fun _ => ite_tt ⟨rfl, h⟩ (by rw [N.2.2.1.2.2, e40]; rfl))) ?_
        rw [e40]; decide
      · have er : (40 - nI d : Int32) = nI (40 - d) := pk_sub (a := 40) (by omega)
        refine ite_tt ?_ (by rw [er, lit_nI, nI_le' (by decide) (by omega)]; omega)
        have edd : nI i * 7 + nI p = nI (i * 7 + p) := by rw [lit_nI, pk_mul, nI_add]
        rw [edd, nI_clamp (n := i) (by omega)]
        have da : ∀ j, dAct (i * 7 + p) j (c.1 (28 + j) 0) (bl c (28 + j)) = if j = i then bSw (nI (kd c i)) (nI p) (nI (hdN c i), c.1 (28 + i) 4, 0) else bl c (28 + j) := by
          intro j
          simp only [dAct]
          rw [if_neg (by omega), if_neg (by omega), show (i * 7 + p) / 7 = i by omega, show (i * 7 + p) % 7 = p by omega]
          by_cases e : j = i
          · subst e
            rw [if_pos rfl, if_pos rfl, c1]
            unfold bl
            rw [c3, c4, ho]; rfl
          · rw [if_neg (fun q => e q.symm), if_neg e]
        refine act_s hn N.2.1.1 N.2.1.2.2 (by omega) (by omega) N.ok (fun c' hc => ⟨vp_in_nI (by omega) (by decide), pre (fun q => by omega) (fun _ => ite_ff ?_ ?_)⟩)
        · refine minds_s (d := d) (by omega) N.2.2.1.2.2 (fun m1 hm1 => ?_)
          obtain ⟨v1, v2, v3, v4⟩ := hm1
          have s2 : m1.1 1 (2 + i) = nI (kd c i) := by rw [v3 _ _ (by omega) (by omega)]; exact d1
          have s14 : m1.1 1 (14 + i) = nI (hdN c i) := by rw [v3 _ _ (by omega) (by omega)]; exact d3
          have s26 : m1.1 1 (26 + i) = c.1 (28 + i) 4 := by rw [v3 _ _ (by omega) (by omega)]; exact d5
          refine strokesM_s (by omega) b1 b3 (by omega) s2 s14 (fun m2 w1 w2 w3 => ?_)
          rw [s26] at w1
          have i3 : (14 + nI i).toNatClampNeg = 14 + i := by simp (disch := omega) only [lit_nI, nI_add, pk_mul, nI_clamp, vp_nI, nI_inj, nI_lt', nI_le', nI_neg1, nI_neg9, nI_neg3, neg1_nI, neg9_nI, neg_l0, neg_g0, ↓reduceIte, true_and, and_true, not_true_eq_false, not_false_eq_true, Nat.reduceEqDiff, Nat.reduceLeDiff, Nat.reduceAdd, Nat.reduceSub, Nat.reduceDiv, Nat.reduceMod, Nat.reducePow, Nat.reduceLT, Nat.reduceMul, Nat.not_lt_zero, Nat.zero_le, Nat.succ_ne_self, one_ne0, zero_ne1, ne_eq]
          have i4 : vp_in (14 + nI i) 5280 := by simp (disch := omega) only [lit_nI, nI_add, pk_mul, nI_clamp, vp_nI, nI_inj, nI_lt', nI_le', nI_neg1, nI_neg9, nI_neg3, neg1_nI, neg9_nI, neg_l0, neg_g0, ↓reduceIte, true_and, and_true, not_true_eq_false, not_false_eq_true, Nat.reduceEqDiff, Nat.reduceLeDiff, Nat.reduceAdd, Nat.reduceSub, Nat.reduceDiv, Nat.reduceMod, Nat.reducePow, Nat.reduceLT, Nat.reduceMul, Nat.not_lt_zero, Nat.zero_le, Nat.succ_ne_self, one_ne0, zero_ne1, ne_eq]; omega
          rw [i3]
          refine ⟨i4, ?_, h.deed N (by omega) (by omega) hc ⟨fun j hj => ?_, fun j hj => ?_, ?_, fun a b q1 q2 q3 => ?_, w3.trans v4⟩⟩
          · have x1 := hc.1 i hi
            rw [da i, if_pos rfl, ← w1] at x1
            exact congrArg Prod.fst x1
          · rw [da j]
            by_cases e : j = i
            · subst e; rw [if_pos rfl]; exact w1
            · rw [if_neg e]
              obtain ⟨-, ⟨-, -, x3, x4⟩, -, -, y3, y4, y5⟩ := N.2.2.2 j hj
              rw [w2 _ _ (by omega), w2 _ _ (by omega), w2 _ _ (by omega), v3 _ _ (by omega) (by omega), v3 _ _ (by omega) (by omega), v3 _ _ (by omega) (by omega), y3, y4, y5]
              unfold bl
              rw [x3, x4]
          · rw [w2 _ _ (by omega)]; exact v1 j hj
          · rw [w2 _ _ (by omega)]; exact v2
          · rw [w2 _ _ (by omega)]; exact v3 _ _ (by omega) (by omega)
        · rw [N.2.2.1.2.2, lit_nI, nI_inj (by omega) (by decide)]; exact e40
    · unfold wp_X9_stroke J_X9_stroke_15
      exact refuse_bad N ha (ite_ff (isBell_n N ha (ite_tt ⟨rfl, h⟩ rfl)) (by decide))
  · refine isPull_n hb (ite_tt ?_ rfl)
    unfold wp_X9_stroke J_X9_stroke_15
    by_cases ha : vp_in a n
    · obtain ⟨i, hi, rfl⟩ := vp_in_of ha (by omega)
      exact isBell_y N hi (ite_ff (isPullM_n hb (ite_tt ⟨rfl, h⟩ rfl)) (by decide))
    · exact isBell_n N ha (ite_tt ⟨rfl, h⟩ rfl)

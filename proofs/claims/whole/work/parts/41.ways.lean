/-! ways -/
def spA (k : Nat) (F : Nat → Int64) : Nat → Nat → Int64
  | 0, _ => 0
  | P + 1, y => spA k F P y + cntL k P 1 F 21 y
/-- the class's ways, from h -/
def Fw (k h : Nat) : Nat → Nat → Int64
  | 0, y => if y = h then 1 else 0
  | n + 1, y => spA k (Fw k h n) 7 y
def gW (k : Nat) (W : Nat → Int64) (x p : Nat) : Int64 := if aN k x p = 21 then 0 else W (aN k x p)
/-- the reference's, to the top -/
def Ww (k : Nat) : Nat → Nat → Int64
  | 0, x => if x = 20 then 1 else 0
  | r + 1, x => sumL (gW k (Ww k r) x) 7
theorem dot_sp (k : Nat) (F W : Nat → Int64) (P : Nat) : sumL (fun y => spA k F P y * W y) 21 = sumL (fun x => F x * sumL (gW k W x) P) 21 := by
  induction P with
  | zero =>
    rw [sumL_zero (fun y _ => by show (0 : Int64) * W y = 0; exact Int64.zero_mul), sumL_zero (fun y _ => by show F y * (0 : Int64) = 0; exact Int64.mul_zero)]
  | succ P ih =>
    have h := dot_cnt k P 1 F (spA k F P) W 21
    show sumL (fun y => (spA k F P y + cntL k P 1 F 21 y) * W y) 21 = _
    rw [h, ih, sumL_add]
    refine sumL_congr (fun x _ => ?_)
    show F x * sumL (gW k W x) P + (if aN k x P = 21 then 0 else F x * 1 * W (aN k x P)) = F x * (sumL (gW k W x) P + gW k W x P)
    rw [Int64.mul_add]
    congr 1
    unfold gW
    by_cases e : aN k x P = 21
    · rw [if_pos e, if_pos e, Int64.mul_zero]
    · rw [if_neg e, if_neg e, Int64.mul_one]
theorem dot_ways (k h n : Nat) : ∀ r, sumL (fun y => Fw k h n y * Ww k r y) 21 = sumL (fun y => Fw k h 0 y * Ww k (n + r) y) 21 := by
  induction n with
  | zero => intro r; rw [Nat.zero_add]
  | succ n ih =>
    intro r
    have h1 := dot_sp k (Fw k h n) (Ww k r) 7
    have h2 := ih (r + 1)
    rw [show n + 1 + r = n + (r + 1) by omega, ← h2]
    exact h1
theorem sumL_delta (W : Nat → Int64) (h n : Nat) : sumL (fun y => (if y = h then 1 else 0) * W y) n = if h < n then W h else 0 := by
  induction n with
  | zero => rfl
  | succ n ih =>
    simp only [sumL]
    rw [ih]
    by_cases e : n = h
    · subst e
      rw [if_neg (by omega), if_pos rfl, if_pos (by omega), Int64.zero_add, Int64.mul_comm, Int64.mul_one]
    · rw [if_neg e, Int64.zero_mul, Int64.add_zero]
      by_cases e2 : h < n
      · rw [if_pos e2, if_pos (by omega)]
      · rw [if_neg e2, if_neg (by omega)]
theorem ways_eq {k h : Nat} (hh : h ≤ 20) (n : Nat) : Fw k h n 20 = Ww k n h := by
  have h1 := dot_ways k h n 0
  have h2 := sumL_delta (Ww k n) h 21
  rw [if_pos (by omega)] at h2
  rw [Nat.add_zero] at h1
  have h3 : sumL (fun y => Fw k h n y * Ww k 0 y) 21 = Fw k h n 20 := by
    have h4 := sumL_delta (Fw k h n) 20 21
    rw [if_pos (by omega)] at h4
    rw [← h4]
    exact sumL_congr (fun y _ => Int64.mul_comm _ _)
  rw [← h3, h1]
  exact h2
theorem lrm_1 (a : Int64) : lrm a 1 = 0 := by
  unfold lrm
  rw [Int64.div_one, Int64.mul_one]
  exact Int64.sub_self _
theorem divisor1_s {a : Int64} {K : Int64 → Prop} (hK : K 1) : wp_X8_commonDivisor a 1 K := by
  unfold wp_X8_commonDivisor L_X8_commonDivisor_9
  refine ⟨2, ?_⟩
  have h1 : it3 (B_X8_commonDivisor_9 K) 1 1 (lrm a 1) (0 + 1) := by
    show B_X8_commonDivisor_9 K (it3 (B_X8_commonDivisor_9 K) 0) 1 (lrm a 1) (0 + 1)
    unfold B_X8_commonDivisor_9 J_X8_commonDivisor_45
    rw [lrm_1]
    exact ite_ff (ite_tt hK (by rw [lg_eq0])) (by decide)
  show B_X8_commonDivisor_9 K (it3 (B_X8_commonDivisor_9 K) 1) a 1 0
  generalize it3 (B_X8_commonDivisor_9 K) 1 = Ψ at h1
  unfold B_X8_commonDivisor_9
  exact ite_ff (ite_ff ⟨by decide, h1⟩ (by rw [lg_eq0]; decide)) (by decide)
theorem tellParts1_s {c : St} {a : Int64} {K : Int32 → St → Prop} (hK : K 1 (uL (uL c 0 13 a) 0 14 1)) : wp_X8_tellParts a 1 c K := by
  unfold wp_X8_tellParts J_X8_tellParts_30
  refine divisor1_s (ite_ff ⟨by decide, by decide, ?_⟩ (by rw [lg_eq0]; decide))
  rw [Int64.div_one, Int64.div_one]
  exact hK
theorem waysC_s {c : St} {k h b n : Nat} (hk : k < 6) (hh : h ≤ 20) (hb : c.1 b 0 = nI k) (hn : n ≤ 12) {K : Int32 → St → Prop} {t0 : St} (h0 : FL c t0 (fun x => if x = h then 1 else 0) (fun _ => 0)) (hK : ∀ τ, FL c τ (Fw k h n) (fun _ => 0) → K 1 (uL (uL τ 0 13 (Fw k h n 20)) 0 14 1)) : L_X8_ways_50 (nI n) b K 0 t0 := by
  obtain ⟨W, W0, Ws, We⟩ : ∃ W : Nat → Nat → Int64, W 0 = (fun x => if x = h then 1 else 0) ∧ (∀ j, W (j + 1) = spA k (W j) 7) ∧ Fw k h = W := ⟨Fw k h, rfl, fun _ => rfl, rfl⟩
  rw [We] at hK
  unfold L_X8_ways_50
  refine for2_1 n (fun j τ => FL c τ (W j) (fun _ => 0)) ?_ ?_ 0 _ (Nat.zero_le _) (by rw [W0]; exact h0)
  · rintro τ Φ ht
    unfold B_X8_ways_50
    refine ite_tt ⟨vp_in_nI (n := 20) (by decide) (by decide), ?_⟩ (Int32.le_refl _)
    rw [show (20 : Int32).toNatClampNeg = 20 from rfl, ht.2.1 20 (by decide)]
    exact tellParts1_s (hK τ ht)
  · rintro j τ Φ hj ht hΦ
    unfold B_X8_ways_50 L_X8_ways_59
    refine ite_ff ?_ (nI_ge hj (by omega))
    obtain ⟨A, A0, As, Ae⟩ : ∃ A : Nat → Nat → Int64, A 0 = (fun _ => 0) ∧ (∀ p, A (p + 1) = fun y => A p y + cntL k p 1 (W j) 21 y) ∧ spA k (W j) = A := ⟨spA k (W j), rfl, fun _ => rfl, rfl⟩
    have hs := Ws j
    rw [Ae] at hs
    refine for2_1 7 (fun p τ => FL c τ (W j) (A p)) ?_ ?_ 0 _ (Nat.zero_le _) (by rw [A0]; exact ht)
    · rintro τ Ψ hτ
      unfold B_X8_ways_59
      rw [show nI j + 1 = nI (j + 1) from nI_1 j]
      refine ite_tt (turn_s hτ (fun τ' hτ' => hΦ _ ?_)) (by decide)
      rw [hs]; exact hτ'
    · rintro p τ Ψ hp hτ hΨ
      unfold B_X8_ways_59
      rw [show nI p + 1 = nI (p + 1) from nI_1 p, hτ.1, hb]
      refine ite_ff (spread_s hk (by omega) hτ (fun τ' hτ' => hΨ _ ?_)) (nI_ge hp (by decide))
      rw [As]; exact hτ'
theorem waysM_s {m : St} {k h i n : Nat} (hk : k < 6) (hh : h ≤ 20) (hi : i < 6) (hb : m.1 1 (2 + i) = nI k) (hb2 : m.1 1 (14 + i) = nI h) (hn : n ≤ 12) {K : Int32 → St → Prop} (hK : ∀ τ : St, τ.1 = m.1 → (∀ a b, a ≠ 14 → τ.2 a b = m.2 a b) → K 1 (uL (uL τ 0 11 (Ww k n h)) 0 12 1)) : L_X9_ways_35 (nI i) (nI n) K 0 m := by
  obtain ⟨T, T0, Ts, Te⟩ : ∃ T : Nat → Nat → Int64, (∀ x, T 0 x = if x = 20 then 1 else 0) ∧ (∀ r x, T (r + 1) x = sumL (gW k (T r) x) 7) ∧ Ww k = T := ⟨Ww k, fun _ => rfl, fun _ _ => rfl, rfl⟩
  rw [Te] at hK
  have i1 : (14 + nI i).toNatClampNeg = 14 + i := by simp (disch := omega) only [lit_nI, nI_add, pk_mul, nI_clamp, vp_nI, nI_inj, nI_lt', nI_le', nI_neg1, nI_neg9, nI_neg3, neg1_nI, neg9_nI, neg_l0, neg_g0, ↓reduceIte, true_and, and_true, not_true_eq_false, not_false_eq_true, Nat.reduceEqDiff, Nat.reduceLeDiff, Nat.reduceAdd, Nat.reduceSub, Nat.reduceDiv, Nat.reduceMod, Nat.reducePow, Nat.reduceLT, Nat.reduceMul, Nat.not_lt_zero, Nat.zero_le, Nat.succ_ne_self, one_ne0, zero_ne1, ne_eq]
  have i2 : vp_in (14 + nI i) 5280 := by simp (disch := omega) only [lit_nI, nI_add, pk_mul, nI_clamp, vp_nI, nI_inj, nI_lt', nI_le', nI_neg1, nI_neg9, nI_neg3, neg1_nI, neg9_nI, neg_l0, neg_g0, ↓reduceIte, true_and, and_true, not_true_eq_false, not_false_eq_true, Nat.reduceEqDiff, Nat.reduceLeDiff, Nat.reduceAdd, Nat.reduceSub, Nat.reduceDiv, Nat.reduceMod, Nat.reducePow, Nat.reduceLT, Nat.reduceMul, Nat.not_lt_zero, Nat.zero_le, Nat.succ_ne_self, one_ne0, zero_ne1, ne_eq]; omega
  have i3 : (2 + nI i).toNatClampNeg = 2 + i := by simp (disch := omega) only [lit_nI, nI_add, pk_mul, nI_clamp, vp_nI, nI_inj, nI_lt', nI_le', nI_neg1, nI_neg9, nI_neg3, neg1_nI, neg9_nI, neg_l0, neg_g0, ↓reduceIte, true_and, and_true, not_true_eq_false, not_false_eq_true, Nat.reduceEqDiff, Nat.reduceLeDiff, Nat.reduceAdd, Nat.reduceSub, Nat.reduceDiv, Nat.reduceMod, Nat.reducePow, Nat.reduceLT, Nat.reduceMul, Nat.not_lt_zero, Nat.zero_le, Nat.succ_ne_self, one_ne0, zero_ne1, ne_eq]
  have i4 : vp_in (2 + nI i) 5280 := by simp (disch := omega) only [lit_nI, nI_add, pk_mul, nI_clamp, vp_nI, nI_inj, nI_lt', nI_le', nI_neg1, nI_neg9, nI_neg3, neg1_nI, neg9_nI, neg_l0, neg_g0, ↓reduceIte, true_and, and_true, not_true_eq_false, not_false_eq_true, Nat.reduceEqDiff, Nat.reduceLeDiff, Nat.reduceAdd, Nat.reduceSub, Nat.reduceDiv, Nat.reduceMod, Nat.reducePow, Nat.reduceLT, Nat.reduceMul, Nat.not_lt_zero, Nat.zero_le, Nat.succ_ne_self, one_ne0, zero_ne1, ne_eq]; omega
  have ix : ∀ r a, r ≤ 12 → a ≤ 20 → vp_in (21 * nI r + nI a) 273 ∧ (21 * nI r + nI a).toNatClampNeg = 21 * r + a := by
    intro r a hr ha
    have j1 : (21 * nI r + nI a).toNatClampNeg = 21 * r + a := by simp (disch := omega) only [lit_nI, nI_add, pk_mul, nI_clamp, vp_nI, nI_inj, nI_lt', nI_le', nI_neg1, nI_neg9, nI_neg3, neg1_nI, neg9_nI, neg_l0, neg_g0, ↓reduceIte, true_and, and_true, not_true_eq_false, not_false_eq_true, Nat.reduceEqDiff, Nat.reduceLeDiff, Nat.reduceAdd, Nat.reduceSub, Nat.reduceDiv, Nat.reduceMod, Nat.reducePow, Nat.reduceLT, Nat.reduceMul, Nat.not_lt_zero, Nat.zero_le, Nat.succ_ne_self, one_ne0, zero_ne1, ne_eq]
    have j2 : vp_in (21 * nI r + nI a) 273 := by simp (disch := omega) only [lit_nI, nI_add, pk_mul, nI_clamp, vp_nI, nI_inj, nI_lt', nI_le', nI_neg1, nI_neg9, nI_neg3, neg1_nI, neg9_nI, neg_l0, neg_g0, ↓reduceIte, true_and, and_true, not_true_eq_false, not_false_eq_true, Nat.reduceEqDiff, Nat.reduceLeDiff, Nat.reduceAdd, Nat.reduceSub, Nat.reduceDiv, Nat.reduceMod, Nat.reducePow, Nat.reduceLT, Nat.reduceMul, Nat.not_lt_zero, Nat.zero_le, Nat.succ_ne_self, one_ne0, zero_ne1, ne_eq]; omega
    exact ⟨j2, j1⟩
  unfold L_X9_ways_35
  refine for2_1 (n + 1) (fun r τ => (∀ r' x, r' < r → x ≤ 20 → τ.2 14 (21 * r' + x) = T r' x) ∧ (∀ a b, a ≠ 14 → τ.2 a b = m.2 a b) ∧ τ.1 = m.1) ?_ ?_ 0 _ (Nat.zero_le _) ⟨fun r' x hr => by omega, fun _ _ _ => rfl, rfl⟩
  · rintro τ Φ ⟨t1, t2, t3⟩
    unfold B_X9_ways_35
    obtain ⟨y1, y2⟩ := ix n h (by omega) hh
    rw [i1, t3, hb2, y2, t1 n h (by omega) hh]
    exact ite_tt ⟨i2, y1, hK τ t3 t2⟩ (by rw [nI_lt' (by omega) (by omega)]; omega)
  · rintro r τ Φ hr ⟨t1, t2, t3⟩ hΦ
    unfold B_X9_ways_35 L_X9_ways_43
    refine ite_ff ?_ (by rw [nI_lt' (by omega) (by omega)]; omega)
    refine for2_1 21 (fun h τ => (∀ r' x, r' < r → x ≤ 20 → τ.2 14 (21 * r' + x) = T r' x) ∧ (∀ x, x < h → τ.2 14 (21 * r + x) = T r x) ∧ (∀ a b, a ≠ 14 → τ.2 a b = m.2 a b) ∧ τ.1 = m.1) ?_ ?_ 0 _ (Nat.zero_le _) ⟨t1, fun x hx => by omega, t2, t3⟩
    · rintro τ Φ' ⟨u1, u2, u3, u4⟩
      unfold B_X9_ways_43
      rw [show nI r + 1 = nI (r + 1) from nI_1 r]
      refine ite_tt (hΦ τ ⟨fun r' x hr' hx => ?_, u3, u4⟩) (by decide)
      by_cases e : r' = r
      · subst e; exact u2 x (by omega)
      · exact u1 r' x (by omega) hx
    · rintro h τ Φ' hh ⟨u1, u2, u3, u4⟩ hΦ'
      obtain ⟨x1, x2⟩ := ix r h (by omega) (by omega)
      have fin : ∀ v, v = T r h → J_X9_ways_134 (nI i) (nI n) (nI r) (nI h) v τ K Φ Φ' := by
        rintro _ rfl
        unfold J_X9_ways_134
        rw [x2, show nI h + 1 = nI (h + 1) from nI_1 h]
        refine ⟨x1, hΦ' _ ⟨fun r' x hr' hx => (uL_n (by omega)).trans (u1 r' x hr' hx), fun x hx => ?_, fun a b z => (uL_c z).trans (u3 a b z), u4⟩⟩
        by_cases e : x = h
        · subst e; exact uL_s _ _ _ _
        · exact (uL_n (by omega)).trans (u2 x (by omega))
      unfold B_X9_ways_43
      refine ite_ff ?_ (by rw [lit_nI, nI_lt' (by decide) (by omega)]; omega)
      cases r with
      | zero =>
        unfold J_X9_ways_65 J_X9_ways_66 L_X9_ways_71
        have go : ∀ v, v = T 0 h → wl2 (B_X9_ways_71 (nI i) (nI n) (nI 0) (nI h) τ K Φ Φ') v 0 := by
          intro v hv
          refine for2_2 7 (fun p x => p = 0 ∧ x = v) ?_ ?_ 0 _ (Nat.zero_le _) ⟨rfl, rfl⟩
          · rintro _ Ψ ⟨z, rfl⟩; omega
          · rintro p _ Ψ hp ⟨rfl, rfl⟩ hΨ
            unfold B_X9_ways_71
            exact ite_ff (ite_tt (fin _ hv) (by decide)) (by decide)
        refine ite_tt (ite_c (fun z => go 1 ?_) (fun z => go 0 ?_)) rfl
        · rw [lit_nI, nI_inj (by omega) (by decide)] at z
          rw [T0, if_pos z]
        · rw [lit_nI, nI_inj (by omega) (by decide)] at z
          rw [T0, if_neg z]
      | succ r =>
        have erp : nI (r + 1) - 1 = nI r := nI_pred r
        have npos : ¬ nI (r + 1) ≤ 0 := by rw [lit_nI, nI_le' (by omega) (by decide)]; omega
        have n0 : ¬ nI (r + 1) = 0 := nI_ne0 (by omega) (by omega)
        have ht := Ts r h
        unfold J_X9_ways_65 J_X9_ways_66 L_X9_ways_71
        refine ite_ff ?_ n0
        obtain ⟨A, A0, As, Ae⟩ : ∃ A : Nat → Int64, A 0 = 0 ∧ (∀ j, A (j + 1) = A j + gW k (T r) h j) ∧ sumL (gW k (T r) h) 7 = A 7 := ⟨sumL (gW k (T r) h), rfl, fun _ => rfl, rfl⟩
        rw [Ae] at ht
        refine for2_2 7 (fun p x => x = A p) ?_ ?_ 0 _ (Nat.zero_le _) A0.symm
        · rintro _ Ψ rfl
          unfold B_X9_ways_71
          exact ite_tt (fin _ ht.symm) (by decide)
        · rintro p _ Ψ hp rfl hΨ
          have hl := aN_le k h p
          have hs := As p
          unfold gW at hs
          unfold B_X9_ways_71 J_X9_ways_125
          rw [erp, i3, u4, hb, show nI p + 1 = nI (p + 1) from nI_1 p]
          refine ite_ff (ite_ff ⟨i4, afterM_s hk (by omega) (by omega) (ite_c (fun z => hΨ _ ?_) (fun z => ?_))⟩ npos) (nI_ge hp (by decide))
          · rw [eA_m1 hl] at z
            rw [hs, if_pos z]
          · rw [eA_m1 hl] at z
            rw [if_neg z] at hs
            obtain ⟨y1, y2⟩ := ix r (aN k h p) (by omega) (by omega)
            rw [eA_n z, y2, u1 r _ (by omega) (by omega)]
            exact ⟨y1, hΨ _ hs.symm⟩
theorem op_ways {c m : St} (h : Rel c m) (a b : Int32) : wp_X8_ways a b c (fun r c' => wp_X9_ways a b m (fun r' m' => r = r' ∧ Rel c' m')) := by
  obtain ⟨n, dm, d, N⟩ := h.now
  have hn := N.1.1
  unfold wp_X8_ways J_X8_ways_10
  have hbad : ¬ vp_in b 13 → wp_X9_ways a b m (fun r' m' => (-1 : Int32) = r' ∧ Rel c m') := by
    intro hb
    unfold wp_X9_ways J_X9_ways_20
    by_cases ha : vp_in a n
    · obtain ⟨i, hi, rfl⟩ := vp_in_of ha (by omega)
      refine isBell_y N hi (ite_ff ?_ (by decide))
      refine inM (x := b.toInt) (l := 0) (h := 12) (toInt_L b) (by decide) (by decide) (fun q1 q2 => absurd (vp_in_iff.mpr ⟨q1, by omega⟩) hb) (fun q => ite_tt ⟨rfl, h⟩ rfl)
    · exact isBell_n N ha (ite_tt ⟨rfl, h⟩ rfl)
  by_cases hb : vp_in b 13
  · obtain ⟨s, hs, rfl⟩ := vp_in_of hb (by decide)
    refine ite_ff (ite_tt ?_ (by rw [lit_nI, nI_le' (by omega) (by decide)]; omega)) (by rw [lit_nI, nI_lt' (by omega) (by decide)]; omega)
    have hin : ∀ {K : Int32 → Prop}, K 1 → wp_X9_in (nI s).toInt64 (0 : Int64) (12 : Int64) K := fun {K} hK => inM (x := s) (l := 0) (h := 12) (by rw [toInt_L, nI_toInt (by omega)]) (by decide) (by decide) (fun _ _ => hK) (fun q => by omega)
    by_cases ha : vp_in a n
    · obtain ⟨i, hi, rfl⟩ := vp_in_of ha (by omega)
      obtain ⟨⟨b1, b2, b3, b4, b5⟩, ⟨c1, c2, c3, c4⟩, d1, d2, d3, d4, d5⟩ := N.2.2.2 i hi
      refine refuse_s N hi (fun o => ite_ff ?_ (by decide)) (fun o => ite_tt ?_ rfl)
      · unfold wp_X9_ways
        exact isBell_y N hi (ite_ff (hin (ite_ff (isOver_s N hi (fun _ => ite_ff ⟨rfl, h⟩ (by decide)) (fun q => by omega)) (by decide))) (by decide))
      · refine ⟨vp_in_nI (by omega) (by decide), ?_⟩
        rw [nI_clamp (show i < 2 ^ 31 by omega), c3]
        refine flowBegin_s b3 (fun t0 h0 => waysC_s b1 b3 c1 (by omega) h0 (fun τ hτ => ?_))
        unfold wp_X9_ways
        refine isBell_y N hi (ite_ff (hin (ite_ff (isOver_s N hi (fun q => by omega) (fun _ => ite_tt ?_ rfl)) (by decide))) (by decide))
        refine waysM_s b1 b3 (by omega) d1 d3 (by omega) (fun m' e1 e2 => ⟨rfl, ?_⟩)
        rw [ways_eq b3]
        refine Rel.tellL ?_ _ _
        exact (hτ.keep h).keep (KeepC.rf _) ⟨⟨by rw [e1], by rw [e1], by rw [e1]⟩, fun _ _ => by rw [e1], fun _ _ _ => by rw [e1], e2 _ _ (by decide), e2 _ _ (by decide)⟩
    · refine refuse_bad N ha (ite_ff ?_ (by decide))
      unfold wp_X9_ways J_X9_ways_20
      exact isBell_n N ha (ite_tt ⟨rfl, h⟩ rfl)
  · rcases out_of (by decide) hb with q | q
    · exact ite_tt (hbad hb) q
    · refine ite_c (fun _ => hbad hb) (fun _ => ite_ff (hbad hb) (fun e => ?_))
      have e2 : (13 : Int32) ≤ 12 := Int32.le_trans q e
      exact absurd e2 (by decide)

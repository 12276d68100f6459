/-! even: the reference's search; the call -/
def admR (c : St) (n : Nat) (r : Nat → Nat) : Prop := ∀ j, j < n → r j < 7 ∧ (od c j = 1 → r j = 0)
def valR (c : St) (dm n : Nat) (r : Nat → Nat) : Prop := ∀ j, j < n → od c j = 0 → sN c dm j (r j) ≠ 0
theorem rowA_i {c : St} {n dm : Nat} {r : Nat → Nat} (h1 : admR c n r) (h2 : valR c dm n r) : rowA n (od c) (sN c dm) r := fun j hj => ⟨(h1 j hj).1, (h1 j hj).2, h2 j hj⟩
theorem rowA_a {c : St} {n dm : Nat} {r : Nat → Nat} (h : rowA n (od c) (sN c dm) r) : admR c n r := fun j hj => ⟨(h j hj).1, (h j hj).2.1⟩
theorem rowA_v {c : St} {n dm : Nat} {r : Nat → Nat} (h : rowA n (od c) (sN c dm) r) : valR c dm n r := fun j hj => (h j hj).2.2
theorem vN_lt {p : Nat → Nat} {n : Nat} (hp : ∀ j, j < n → p j < 7) : vN p n < 7 ^ n := by
  induction n with
  | zero => exact Nat.one_pos
  | succ n ih =>
    have h1 := ih (fun j hj => hp j (by omega))
    have h2 := hp n (by omega)
    simp only [vN]
    rw [Nat.pow_succ]; omega
theorem vN_zero (n : Nat) : vN (fun _ => 0) n = 0 := by
  induction n with
  | zero => rfl
  | succ n ih => simp only [vN]; rw [ih]
theorem heardN {c : St} {dm : Nat} {p : Nat → Nat} : ∀ k, (∀ i, i < k → od c i ≤ 1) → ovN c k ≤ k ∧ (hearF (rowF (od c) (sN c dm) p) k).1 ≤ k - ovN c k ∧ ((hearF (rowF (od c) (sN c dm) p) k).1 = k - ovN c k ↔ valR c dm k p) := by
  intro k
  induction k with
  | zero => intro _; exact ⟨Nat.le_refl _, Nat.le_refl _, fun _ j hj => by omega, fun _ => rfl⟩
  | succ k ih =>
    intro ho
    obtain ⟨h1, h2, h3⟩ := ih (fun i hi => ho i (by omega))
    have ok := ho k (by omega)
    have e1 : (hearF (rowF (od c) (sN c dm) p) (k + 1)).1 = (hearF (rowF (od c) (sN c dm) p) k).1 + (if rowF (od c) (sN c dm) p k = 0 then 0 else 1) := by
      simp only [hearF]
      split <;> rfl
    have e2 : ovN c (k + 1) = ovN c k + od c k := rfl
    rw [e1, e2]
    have hv : valR c dm (k + 1) p ↔ valR c dm k p ∧ (od c k = 0 → sN c dm k (p k) ≠ 0) := by
      constructor
      · intro h; exact ⟨fun j hj => h j (by omega), h k (by omega)⟩
      · rintro ⟨a, b⟩ j hj
        by_cases e : j = k
        · subst e; exact b
        · exact a j (by omega)
    rw [hv, show rowF (od c) (sN c dm) p k = if od c k = 1 then 0 else sN c dm k (p k) from rfl]
    generalize (hearF (rowF (od c) (sN c dm) p) k).1 = A at h2 h3
    rcases (show od c k = 0 ∨ od c k = 1 by omega) with o | o
    · rw [if_neg (show ¬ od c k = 1 by omega)]
      by_cases z : sN c dm k (p k) = 0
      · rw [if_pos z, o]
        refine ⟨by omega, by omega, fun q => ?_, fun q => absurd z (q.2 rfl)⟩
        omega
      · rw [if_neg z, o]
        refine ⟨by omega, by omega, fun q => ⟨h3.mp (by omega), fun _ => z⟩, fun q => ?_⟩
        have := h3.mpr q.1; omega
    · rw [if_pos o, if_pos rfl, o]
      refine ⟨by omega, by omega, fun q => ⟨h3.mp (by omega), fun z => by omega⟩, fun q => ?_⟩
      have := h3.mpr q.1; omega
theorem isAll_s {c m : St} {n dm d : Nat} (N : Now c m n dm d) {p : Nat → Nat} (hp : ∀ i, i < n → m.1 9 i = nI (p i) ∧ p i < 7) {K : Int32 → St → Prop} (hK : ∀ m', HM m' (hearF (rowF (od c) (sN c dm) p) n) → RingM m m' → (valR c dm n p → K 1 m') ∧ (¬ valR c dm n p → K 0 m')) : wp_X9_isAll m K := by
  have hn := N.1.1
  unfold wp_X9_isAll J_X9_isAll_26 J_X9_isAll_27
  obtain ⟨q1, q2, q3⟩ := heardN (c := c) (dm := dm) (p := p) n (fun i hi => (N.2.2.2 i hi).1.2.2.2.1)
  refine rings_s N (p := p) (fun i hi => ⟨(hp i hi).1, by have := (hp i hi).2; omega⟩) (fun m' y1 y2 y3 y4 => ?_)
  have y1' : HM m' (hearF (rowF (od c) (sN c dm) p) n) := y1
  obtain ⟨k1, k0⟩ := hK m' y1' y4
  have N' : Now c m' n dm d := N.mm (fun j hj => y4.1 1 j (by omega) (by omega) (by omega)) (y4.1 0 1 (by omega) (by omega) (by omega))
  rw [y2]
  cases e : anyB (fun i => bkB c i (p i)) n with
  | true =>
    obtain ⟨i, hi, hb⟩ := anyB_ex e
    have hb' := of_decide_eq_true hb
    refine ite_ff ⟨zok0, k0 (fun hv => hv i hi hb'.1 ?_)⟩ (by decide)
    unfold sN tN
    rw [hb'.2, if_pos (Or.inr rfl)]
  | false =>
    refine ite_tt (sounds_s N' ?_) rfl
    rw [y1'.1]
    refine ite_c (fun z => ⟨zok1, k1 (q3.mp ?_)⟩) (fun z => ⟨zok0, k0 (fun hv => z ?_)⟩)
    · rw [nI_inj (by omega) (by omega)] at z; exact z
    · rw [q3.mpr hv]
theorem begins_s {m : St} {K : St → Prop} (hK : ∀ m' : St, (∀ j, j < 6 → m'.1 9 j = nI 0) → (∀ a b, a ≠ 9 → m'.1 a b = m.1 a b) → m'.2 = m.2 → K m') : wp_X9_begins m K := by
  unfold wp_X9_begins L_X9_begins_2
  refine for2_1 6 (fun j τ => (∀ x, x < j → τ.1 9 x = nI 0) ∧ (∀ a b, a ≠ 9 → τ.1 a b = m.1 a b) ∧ τ.2 = m.2) ?_ ?_ 0 _ (Nat.zero_le _) ⟨fun x hx => by omega, fun _ _ _ => rfl, rfl⟩
  · rintro τ Φ ⟨t1, t2, t3⟩
    unfold B_X9_begins_2
    exact ite_tt (hK τ t1 t2 t3) (by decide)
  · rintro j τ Φ hj ⟨t1, t2, t3⟩ hΦ
    unfold B_X9_begins_2
    rw [nI_clamp (by omega), show nI j + 1 = nI (j + 1) from nI_1 j]
    refine ite_ff ⟨vp_in_nI hj (by decide), hΦ _ ⟨fun x hx => ?_, fun a b z => (uI_c z).trans (t2 a b z), t3⟩⟩ (nI_ge hj (by decide))
    by_cases e : x = j
    · subst e; rw [uI_s]; rfl
    · rw [uI_n e]; exact t1 x (by omega)
theorem keepsBest_s {m : St} {K : St → Prop} (hK : ∀ m' : St, (∀ j, j < 6 → m'.1 15 j = m.1 9 j) → (∀ a b, a ≠ 15 → m'.1 a b = m.1 a b) → m'.2 = m.2 → K m') : wp_X9_keepsBest m K := by
  unfold wp_X9_keepsBest L_X9_keepsBest_2
  refine for2_1 6 (fun j τ => (∀ x, x < j → τ.1 15 x = m.1 9 x) ∧ (∀ a b, a ≠ 15 → τ.1 a b = m.1 a b) ∧ τ.2 = m.2) ?_ ?_ 0 _ (Nat.zero_le _) ⟨fun x hx => by omega, fun _ _ _ => rfl, rfl⟩
  · rintro τ Φ ⟨t1, t2, t3⟩
    unfold B_X9_keepsBest_2
    exact ite_tt (hK τ t1 t2 t3) (by decide)
  · rintro j τ Φ hj ⟨t1, t2, t3⟩ hΦ
    unfold B_X9_keepsBest_2
    have hv := vp_in_nI (n := j) (N := 6) hj (by decide)
    rw [nI_clamp (by omega), show nI j + 1 = nI (j + 1) from nI_1 j]
    refine ite_ff ⟨hv, hv, hΦ _ ⟨fun x hx => ?_, fun a b z => (uI_c z).trans (t2 a b z), t3⟩⟩ (nI_ge hj (by decide))
    by_cases e : x = j
    · subst e; rw [uI_s]; exact t2 9 x (by decide)
    · rw [uI_n e]; exact t1 x (by omega)
theorem isNext_s {c m : St} {n dm d : Nat} (N : Now c m n dm d) {p : Nat → Nat} (hp : ∀ i, i < n → m.1 9 i = nI (p i)) (ha : admR c n p) {K : Int32 → St → Prop}
    (k1 : ∀ m' p', (∀ i, i < n → m'.1 9 i = nI (p' i)) → admR c n p' → vN p n < vN p' n → (∀ r, admR c n r → vN p n < vN r n → vN p' n ≤ vN r n) → (∀ a b, a ≠ 9 → m'.1 a b = m.1 a b) → m'.2 = m.2 → K 1 m')
    (k0 : (∀ r, admR c n r → vN r n ≤ vN p n) → ∀ m' : St, (∀ a b, a ≠ 9 → m'.1 a b = m.1 a b) → m'.2 = m.2 → K 0 m') : wp_X9_isNext m K := by
  have hn := N.1.1
  unfold wp_X9_isNext L_X9_isNext_9
  rw [show (0 : Int32).toNatClampNeg = 0 from rfl, N.2.2.1.1]
  refine ⟨in0, ?_⟩
  refine wl2_ind (fun v τ => ∃ q, q ≤ n ∧ v = nI q - 1 ∧ (∀ j, j < q → τ.1 9 j = nI (p j)) ∧ (∀ j, q ≤ j → j < n → τ.1 9 j = nI 0 ∧ (od c j = 1 ∨ p j = 6)) ∧ (∀ a b, a ≠ 9 → τ.1 a b = m.1 a b) ∧ τ.2 = m.2) (fun v _ => (v + 1).toNatClampNeg) ?_ _ _ ⟨n, Nat.le_refl _, rfl, hp, fun j h1 h2 => by omega, fun _ _ _ => rfl, rfl⟩
  rintro _ τ ⟨q, hq, rfl, t1, t2, t3, t4⟩ Φ hΦ
  have N' : Now c τ n dm d := N.mm (fun j hj => t3 1 j (by decide)) (t3 0 1 (by decide))
  unfold B_X9_isNext_9 J_X9_isNext_32 J_X9_isNext_45
  cases q with
  | zero =>
    refine ite_tt (ite_ff (k0 (fun r hr => next_none (fun j hj => ?_)) τ t3 t4) (by decide)) (by decide)
    have := hr j hj
    rcases (t2 j (by omega) hj).2 with e | e
    · rw [this.2 e]; omega
    · omega
  | succ q =>
    have eq1 : nI (q + 1) - 1 = nI q := nI_pred q
    have eq2 : nI q + (-1) = nI q - 1 := (Int32.sub_eq_add_neg _ _).symm
    have hv := vp_in_nI (n := q) (N := 6) (by omega) (by decide)
    obtain ⟨⟨b1, b2, b3, b4, b5⟩, -⟩ := N.2.2.2 q (by omega)
    rw [eq1, eq2, nI_clamp (show q < 2 ^ 31 by omega), t1 q (by omega)]
    have down : (od c q = 1 ∨ p q = 6) → Φ (nI q - 1) (uI τ 9 q 0) := by
      intro hm
      refine hΦ _ _ ⟨q, by omega, rfl, fun j hj => (uI_n (by omega)).trans (t1 j (by omega)), fun j j1 j2 => ?_, fun a b z => (uI_c z).trans (t3 a b z), t4⟩ ?_
      · by_cases e : j = q
        · subst e; exact ⟨uI_s _ _ _ _, hm⟩
        · rw [uI_n e]; exact t2 j (by omega) j2
      · rw [show nI q - 1 + 1 = nI q by rw [Int32.sub_eq_add_neg, Int32.add_assoc]; exact Int32.add_zero _, eq1, show nI q + 1 = nI (q + 1) from nI_1 q, nI_clamp (by omega), nI_clamp (by omega)]
        omega
    refine ite_ff (isOver_s N' (by omega) (fun o => ite_ff ⟨hv, down (Or.inl o)⟩ (by decide)) (fun o => ite_tt ⟨hv, ite_c (fun z => ⟨hv, down (Or.inr ?_)⟩) (fun z => ite_tt ⟨hv, hv, ?_⟩ (nI_pos' (by omega)))⟩ rfl)) (nI_pos (by omega))
    · rw [lit_nI, nI_inj (by have := (ha q (by omega)).1; omega) (by decide)] at z; exact z
    · have hpq := (ha q (by omega)).1
      rw [lit_nI, nI_inj (by omega) (by decide)] at z
      rw [show nI (p q) + 1 = nI (p q + 1) from nI_1 _]
      obtain ⟨p', e1, e2, e3⟩ : ∃ p' : Nat → Nat, (∀ j, j < q → p' j = p j) ∧ p' q = p q + 1 ∧ ∀ j, q < j → p' j = 0 := ⟨fun j => if j < q then p j else if j = q then p q + 1 else 0, fun j hj => if_pos hj, by dsimp only; rw [if_neg (by omega), if_pos rfl], fun j hj => by dsimp only; rw [if_neg (by omega), if_neg (by omega)]⟩
      have mx : ∀ r, admR c n r → ∀ j, q < j → j < n → r j ≤ p j := by
        intro r hr j j1 j2
        have := hr j j2
        rcases (t2 j (by omega) j2).2 with e | e
        · rw [this.2 e]; omega
        · omega
      refine k1 _ p' (fun j hj => ?_) (fun j hj => ?_) (next_gt (by omega) (fun j hj => (ha j hj).1) e1 e2) (fun r hr hlt => next_ok (by omega) (fun j hj => (ha j hj).1) hr (mx r hr) hlt e1 e2 (fun j j1 j2 => e3 j j1)) (fun a b z => (uI_c z).trans (t3 a b z)) t4
      · rcases Nat.lt_trichotomy j q with y | y | y
        · rw [uI_n (by omega), t1 j (by omega), e1 j y]
        · subst y; rw [uI_s, e2]
        · rw [uI_n (by omega), (t2 j (by omega) hj).1, e3 j y]
      · rcases Nat.lt_trichotomy j q with y | y | y
        · rw [e1 j y]; exact ha j hj
        · subst y; rw [e2]; exact ⟨by omega, fun z => by omega⟩
        · rw [e3 j y]; exact ⟨by omega, fun _ => rfl⟩
theorem layBest_s {c : St} {n ρ : Nat} {b : Nat → Nat} (hn : n ≤ 6) (hρ : ρ < 6) (hb : ∀ j, j < n → c.1 75 j = nI (b j)) {K : St → Prop} (hK : ∀ c' : St, c'.1 (5 + 2 * ρ) 1 = nI 1 → c'.1 (5 + 2 * ρ) 2 = nI n → (∀ j, j < n → c'.1 (5 + 2 * ρ + 1) j = nI (b j)) → (∀ a x, a ≠ 5 + 2 * ρ → a ≠ 5 + 2 * ρ + 1 → c'.1 a x = c.1 a x) → c'.2 = c.2 → K c') : wp_X1_layBest (nI n) (5 + 2 * ρ) 40 c K := by
  unfold wp_X1_layBest L_X1_layBest_8
  refine begin_s (by omega) (by decide) ?_
  refine for2_1 n (fun j τ => τ.1 (5 + 2 * ρ) 1 = nI 1 ∧ τ.1 (5 + 2 * ρ) 2 = nI n ∧ (∀ i, i < j → τ.1 (5 + 2 * ρ + 1) i = nI (b i)) ∧ (∀ a x, a ≠ 5 + 2 * ρ → a ≠ 5 + 2 * ρ + 1 → τ.1 a x = c.1 a x) ∧ τ.2 = c.2) ?_ ?_ 0 _ (Nat.zero_le _) ⟨begS_1, begS_2, fun i hi => by omega, fun a x h1 h2 => begS_o h1 h2, rfl⟩
  · rintro τ Φ ⟨t1, t2, t3, t4, t5⟩
    unfold B_X1_layBest_8 J_X1_layBest_36
    exact ite_tt (hK τ t1 t2 t3 t4 t5) (Int32.le_refl _)
  · rintro j τ Φ hj ⟨t1, t2, t3, t4, t5⟩ hΦ
    unfold B_X1_layBest_8
    rw [nI_clamp (by omega), t4 75 j (by omega) (by omega), hb j hj, show nI j + 1 = nI (j + 1) from nI_1 j]
    refine ite_ff (ite_ff ⟨vp_in_nI (by omega) (by decide), set_s (s := n) (by omega) (by decide) t2 hj (hΦ _ ⟨(uI_c (by omega)).trans t1, (uI_c (by omega)).trans t2, fun i hi => ?_, fun a x h1 h2 => (uI_c h2).trans (t4 a x h1 h2), t5⟩)⟩ (by rw [lit_nI, nI_le' (by decide) (by omega)]; omega)) (nI_ge hj (by omega))
    by_cases e : i = j
    · subst e; exact uI_s _ _ _ _
    · exact (uI_n e).trans (t3 i (by omega))
theorem tellsBest_s {m : St} {n ρ : Nat} {b : Nat → Nat} (hn : n ≤ 6) (hρ : ρ < 6) (h0 : m.1 1 0 = nI n) (hb : ∀ j, j < n → m.1 15 j = nI (b j)) {K : St → Prop} (hK : ∀ m' : St, m'.1 4 ρ = nI n → (∀ j, j < n → m'.1 3 (40 * ρ + j) = nI (b j)) → (∀ a x, a ≠ 3 → a ≠ 4 → m'.1 a x = m.1 a x) → (∀ j, j ≠ ρ → m'.1 4 j = m.1 4 j) → (∀ j, j < 40 * ρ ∨ 40 * ρ + 40 ≤ j → m'.1 3 j = m.1 3 j) → m'.2 = m.2 → K m') : wp_X9_tellsBest (nI ρ) m K := by
  unfold wp_X9_tellsBest L_X9_tellsBest_13
  rw [show (0 : Int32).toNatClampNeg = 0 from rfl, h0]
  refine ⟨in0, anewM_s hρ ?_⟩
  have a0 : ∀ a x, a ≠ 3 → a ≠ 4 → (anewM m ρ n).1 a x = m.1 a x := fun a x h1 h2 => by simp [anewM, h1, h2]
  refine for2_1 n (fun j τ => (∀ i, i < j → τ.1 3 (40 * ρ + i) = nI (b i)) ∧ (∀ a x, a ≠ 3 → τ.1 a x = (anewM m ρ n).1 a x) ∧ (∀ x, x < 40 * ρ ∨ 40 * ρ + 40 ≤ x → τ.1 3 x = (anewM m ρ n).1 3 x) ∧ τ.2 = m.2) ?_ ?_ 0 _ (Nat.zero_le _) ⟨fun i hi => by omega, fun _ _ _ => rfl, fun _ _ => rfl, rfl⟩
  · rintro τ Φ ⟨t1, t2, t3, t4⟩
    unfold B_X9_tellsBest_13
    rw [show (0 : Int32).toNatClampNeg = 0 from rfl, t2 1 0 (by decide), a0 1 0 (by decide) (by decide), h0]
    refine ⟨in0, ite_tt (hK τ ?_ t1 (fun a x h1 h2 => (t2 a x h1).trans (a0 a x h1 h2)) (fun j hj => ?_) (fun j hj => ?_) t4) (Int32.le_refl _)⟩
    · rw [t2 4 ρ (by decide)]; simp [anewM]
    · rw [t2 4 j (by decide)]; simp [anewM, hj]
    · rw [t3 j hj]
      show (if (3 = 3 ∧ 40 * ρ ≤ j ∧ j < 40 * ρ + 40) then nI 0 else if (3 = 4 ∧ j = ρ) then nI n else m.1 3 j) = m.1 3 j
      rw [if_neg (by omega), if_neg (by omega)]
  · rintro j τ Φ hj ⟨t1, t2, t3, t4⟩ hΦ
    unfold B_X9_tellsBest_13
    have i5 : (40 * nI ρ + nI j).toNatClampNeg = 40 * ρ + j := by simp (disch := omega) only [lit_nI, nI_add, pk_mul, nI_clamp, vp_nI, nI_inj, nI_lt', nI_le', nI_neg1, nI_neg9, nI_neg3, neg1_nI, neg9_nI, neg_l0, neg_g0, ↓reduceIte, true_and, and_true, not_true_eq_false, not_false_eq_true, Nat.reduceEqDiff, Nat.reduceLeDiff, Nat.reduceAdd, Nat.reduceSub, Nat.reduceDiv, Nat.reduceMod, Nat.reducePow, Nat.reduceLT, Nat.reduceMul, Nat.not_lt_zero, Nat.zero_le, Nat.succ_ne_self, one_ne0, zero_ne1, ne_eq]
    have i6 : vp_in (40 * nI ρ + nI j) 240 := by simp (disch := omega) only [lit_nI, nI_add, pk_mul, nI_clamp, vp_nI, nI_inj, nI_lt', nI_le', nI_neg1, nI_neg9, nI_neg3, neg1_nI, neg9_nI, neg_l0, neg_g0, ↓reduceIte, true_and, and_true, not_true_eq_false, not_false_eq_true, Nat.reduceEqDiff, Nat.reduceLeDiff, Nat.reduceAdd, Nat.reduceSub, Nat.reduceDiv, Nat.reduceMod, Nat.reducePow, Nat.reduceLT, Nat.reduceMul, Nat.not_lt_zero, Nat.zero_le, Nat.succ_ne_self, one_ne0, zero_ne1, ne_eq]; omega
    rw [show (0 : Int32).toNatClampNeg = 0 from rfl, t2 1 0 (by decide), a0 1 0 (by decide) (by decide), h0, nI_clamp (show j < 2 ^ 31 by omega), t2 15 j (by decide), a0 15 j (by decide) (by decide), hb j hj, i5, show nI j + 1 = nI (j + 1) from nI_1 j]
    refine ⟨in0, ite_ff ⟨vp_in_nI (by omega) (by decide), i6, hΦ _ ⟨fun i hi => ?_, fun a x h1 => (uI_c h1).trans (t2 a x h1), fun x hx => (uI_n (by omega)).trans (t3 x hx), t4⟩⟩ (nI_ge hj (by omega))⟩
    by_cases e : i = j
    · subst e; exact uI_s _ _ _ _
    · exact (uI_n (by omega)).trans (t1 i (by omega))
/-- what the reference's search leaves alone -/
def SrM (m m' : St) : Prop := (∀ a b, ¬ (a = 0 ∧ (b = 17 ∨ b = 18)) → a ≠ 9 → a ≠ 10 → a ≠ 11 → a ≠ 15 → a ≠ 16 → m'.1 a b = m.1 a b) ∧ m'.2 = m.2
theorem SrM.keep {c m m' : St} (h : SrM m m') (hR : Rel c m) : Rel c m' := hR.keep (KeepC.rf c) ⟨⟨h.1 _ _ (by omega) (by omega) (by omega) (by omega) (by omega) (by omega), h.1 _ _ (by omega) (by omega) (by omega) (by omega) (by omega) (by omega), h.1 _ _ (by omega) (by omega) (by omega) (by omega) (by omega) (by omega)⟩, fun j hj => h.1 _ _ (by omega) (by omega) (by omega) (by omega) (by omega) (by omega), fun k j hk => h.1 _ _ (by omega) (by omega) (by omega) (by omega) (by omega) (by omega), by rw [h.2], by rw [h.2]⟩
theorem SrM.now {c m m' : St} {n dm d : Nat} (h : SrM m m') (N : Now c m n dm d) : Now c m' n dm d := N.mm (fun j hj => h.1 _ _ (by omega) (by omega) (by omega) (by omega) (by omega) (by omega)) (h.1 _ _ (by omega) (by omega) (by omega) (by omega) (by omega) (by omega))
theorem Rel.rowPut {c m c' m' : St} {n ρ : Nat} {b : Nat → Nat} (h : Rel c m) (hρ : ρ < 6) (hn : n ≤ 40) (r1 : c'.1 (5 + 2 * ρ) 1 = nI 1) (r2 : c'.1 (5 + 2 * ρ) 2 = nI n) (r3 : ∀ j, j < n → c'.1 (5 + 2 * ρ + 1) j = nI (b j)) (r4 : ∀ a x, a ≠ 5 + 2 * ρ → a ≠ 5 + 2 * ρ + 1 → c'.1 a x = c.1 a x) (r5 : c'.2 = c.2) (e1 : m'.1 4 ρ = nI n) (e2 : ∀ j, j < n → m'.1 3 (40 * ρ + j) = nI (b j)) (e3 : ∀ a x, a ≠ 3 → a ≠ 4 → m'.1 a x = m.1 a x) (e4 : ∀ j, j ≠ ρ → m'.1 4 j = m.1 4 j) (e5 : ∀ j, j < 40 * ρ ∨ 40 * ρ + 40 ≤ j → m'.1 3 j = m.1 3 j) (e6 : m'.2 = m.2) : Rel c' m' :=
  h.row hρ (Or.inl ⟨n, hn, r1, r2, e1, fun j hj => by rw [e2 j hj, r3 j hj]⟩) r4 r5 (fun k j z1 z2 _ => e3 k j z1 z2) e4 e5 e6
theorem evenM_s {c m : St} {n dm d ρ : Nat} (N : Now c m n dm d) {K : Int32 → St → Prop} (hK : ∀ m' l b, SrM m m' → Bst n (od c) (sN c dm) 0 1 l b → (l < 1000000 → ∀ j, j < n → m'.1 15 j = nI (b j)) → (if nI l = 1000000 then K (-9) m' else wp_X9_tellsBest (nI ρ) m' (fun t77 => K (nI l) t77))) : wp_X9_begins m (fun t25 => L_X9_even_30 (nI ρ) K 1000000 1 t25) := by
  have hn := N.1.1
  refine begins_s (fun m0 z1 z2 z3 => ?_)
  unfold L_X9_even_30
  have S0 : SrM m m0 := ⟨fun a b _ h9 _ _ _ _ => z2 a b h9, z3⟩
  refine wl3_ind (fun v2 v3 τ => SrM m τ ∧ ((v3 = 1 ∧ ∃ p l b, v2 = nI l ∧ (∀ j, j < n → τ.1 9 j = nI (p j)) ∧ admR c n p ∧ Bst n (od c) (sN c dm) n (vN p n) l b ∧ (l < 1000000 → ∀ j, j < n → τ.1 15 j = nI (b j))) ∨ (v3 = 0 ∧ ∃ l b, v2 = nI l ∧ Bst n (od c) (sN c dm) 0 1 l b ∧ (l < 1000000 → ∀ j, j < n → τ.1 15 j = nI (b j))))) (fun _ v3 τ => if v3 = 0 then 0 else 7 ^ n + 1 - vN (fun j => (τ.1 9 j).toNatClampNeg) n) ?_ _ _ _ ⟨S0, Or.inl ⟨rfl, fun _ => 0, 1000000, fun _ => 0, rfl, fun j hj => z1 j (by omega), fun j hj => ⟨Nat.lt_of_lt_of_le Nat.one_pos (by decide), fun _ => rfl⟩, Or.inl ⟨rfl, fun r _ z => ?_⟩, fun z => by omega⟩⟩
  · rintro v2 v3 τ ⟨S, h⟩ Φ hΦ
    rcases h with ⟨rfl, p, l, b, rfl, h9, ha, B, hb⟩ | ⟨rfl, l, b, rfl, B, hb⟩
    · have N' := S.now N
      have hl := B.le
      have meas : ∀ q : Nat → Nat, (∀ j, j < n → (q j) < 7) → ∀ σ : St, (∀ j, j < n → σ.1 9 j = nI (q j)) → vN (fun j => (σ.1 9 j).toNatClampNeg) n = vN q n := fun q hq σ hσ => vN_congr (fun j hj => by rw [hσ j hj, nI_clamp (by have := hq j hj; omega)])
      -- behind a row: on to the next one
      have next : ∀ (τ' : St) (l' : Nat) (b' : Nat → Nat), SrM m τ' → (∀ j, j < n → τ'.1 9 j = nI (p j)) → Bst n (od c) (sN c dm) n (vN p n + 1) l' b' → (l' < 1000000 → ∀ j, j < n → τ'.1 15 j = nI (b' j)) → J_X9_even_58 (nI ρ) (nI l') τ' K Φ := by
        intro τ' l' b' S' h9' B' hb'
        unfold J_X9_even_58
        refine isNext_s (S'.now N) h9' ha (fun m2 p' g1 g2 g3 g4 g5 g6 => hΦ _ _ _ ⟨⟨fun a x y1 y2 y3 y4 y5 y6 => (g5 a x y2).trans (S'.1 a x y1 y2 y3 y4 y5 y6), g6.trans S'.2⟩, Or.inl ⟨rfl, p', l', b', rfl, g1, g2, ?_, fun y j hj => (g5 15 j (by decide)).trans (hb' y j hj)⟩⟩ ?_) (fun g1 m2 g5 g6 => hΦ _ _ _ ⟨⟨fun a x y1 y2 y3 y4 y5 y6 => (g5 a x y2).trans (S'.1 a x y1 y2 y3 y4 y5 y6), g6.trans S'.2⟩, Or.inr ⟨rfl, l', b', rfl, ?_, fun y j hj => (g5 15 j (by decide)).trans (hb' y j hj)⟩⟩ ?_)
        · refine B'.none (Nat.le_refl _) (by omega) (fun r hr y1 y2 => ?_)
          have := g4 r (rowA_a hr) (by omega)
          omega
        · have v1 := vN_lt (p := p') (n := n) (fun j hj => (g2 j hj).1)
          rw [if_neg (by decide), if_neg (by decide), meas p' (fun j hj => (g2 j hj).1) m2 g1, meas p (fun j hj => (ha j hj).1) τ h9]
          omega
        · exact B'.iff (fun r hr => ⟨fun _ => Nat.one_pos, fun _ => Nat.lt_succ_of_le (g1 r (rowA_a hr))⟩)
        · have v1 := vN_lt (p := p) (n := n) (fun j hj => (ha j hj).1)
          rw [if_pos rfl, if_neg (by decide), meas p (fun j hj => (ha j hj).1) τ h9]
          omega
      unfold B_X9_even_30
      refine ite_ff (isAll_s N' (fun i hi => ⟨h9 i hi, (ha i hi).1⟩) (fun m1 y1 y2 => ?_)) (by decide)
      have S1 : SrM m m1 := ⟨fun a x z1 z2 z3 z4 z5 z6 => (y2.1 a x z1 z3 z4).trans (S.1 a x z1 z2 z3 z4 z5 z6), y2.2.trans S.2⟩
      have h91 : ∀ j, j < n → m1.1 9 j = nI (p j) := fun j hj => (y2.1 9 j (by omega) (by omega) (by omega)).trans (h9 j hj)
      have hb1 : l < 1000000 → ∀ j, j < n → m1.1 15 j = nI (b j) := fun y j hj => (y2.1 15 j (by omega) (by omega) (by omega)).trans (hb y j hj)
      refine ⟨fun hv => ite_ff ?_ (by decide), fun hv => ite_tt (next m1 l b S1 h91 ?_ hb1) rfl⟩
      · have hA := rowA_i ha hv
        have hE := rowE_lt N p
        obtain ⟨b1, b2⟩ := B.take hA hE
        have ok : HOK (hearF (rowF (od c) (sN c dm) p) n) n := hearF_ok (fun j hj => rowF_le N p hj) hn
        refine errorNow_s y1 ok hn (hearF_srt _ _) (ite_c (fun z => next m1 l b S1 h91 (b2 ?_) hb1) (fun z => errorNow_s y1 ok hn (hearF_srt _ _) ?_))
        · have hE' : erH (hearF (rowF (od c) (sN c dm) p) n) < 1000000 := hE
          rw [nI_le' (by omega) (by omega)] at z
          show ¬ erH (hearF (rowF (od c) (sN c dm) p) n) < l
          omega
        · have hE' : erH (hearF (rowF (od c) (sN c dm) p) n) < 1000000 := hE
          rw [nI_le' (by omega) (by omega)] at z
          refine keepsBest_s (fun m2 g1 g2 g3 => next m2 _ p ⟨fun a x z1 z2 z3 z4 z5 z6 => (g2 a x z5).trans (S1.1 a x z1 z2 z3 z4 z5 z6), g3.trans S1.2⟩ (fun j hj => (g2 9 j (by decide)).trans (h91 j hj)) (b1 ?_) (fun _ j hj => (g1 j (by omega)).trans (h91 j hj)))
          show erH (hearF (rowF (od c) (sN c dm) p) n) < l
          omega
      · refine B.none (Nat.le_refl _) (by omega) (fun r hr z1 z2 => hv (fun j hj o => ?_))
        have e := vN_inj (fun j hj => (hr j hj).1) (fun j hj => (ha j hj).1) (show vN r n = vN p n by omega)
        rw [← e j hj]
        exact (hr j hj).2.2 o
    · unfold B_X9_even_30
      exact ite_tt (hK τ l b S B hb) rfl
  · rw [vN_zero] at z; exact Nat.not_lt_zero _ z
theorem op_even {c m : St} (h : Rel c m) (a : Int32) : wp_X8_even a c (fun r c' => wp_X9_even a m (fun r' m' => r = r' ∧ Rel c' m')) := by
  obtain ⟨n, dm, d, N⟩ := h.now
  have hn := N.1.1
  unfold wp_X8_even J_X8_even_84 wp_X1_begin wp_X3_clear wp_X1_seek
  by_cases ha : vp_in a 6
  · obtain ⟨ρ, hρ, rfl⟩ := vp_in_of ha (by decide)
    have pre : ∀ K : Int32 → St → Prop, (if nI n = 0 then K (-4) m else wp_X9_begins m (fun t25 => L_X9_even_30 (nI ρ) K 1000000 1 t25)) → wp_X9_even (nI ρ) m K := by
      intro K hK
      unfold wp_X9_even
      rw [show (0 : Int32).toNatClampNeg = 0 from rfl, N.2.2.1.1]
      exact isRowM_y hρ (ite_ff ⟨in0, hK⟩ (by decide))
    refine isRow_y hρ (ite_ff ?_ (by decide))
    rw [N.2.1.1]
    refine ite_c (fun z => pre _ (ite_tt ⟨rfl, h⟩ z)) (fun z => ?_)
    have S0 : SK c (uI (uI c 73 2 (-9)) 70 2 0) n dm 0 (fun _ => 0) 1000000 (fun _ => 0) := by
      refine ⟨fun a x y => ?_, rfl, ⟨by rw [uI_s]; rfl, fun j hj => absurd hj (Nat.not_lt_zero j)⟩, fun j hj => by omega, ?_, fun y => by omega⟩
      · rw [uI_c (by omega), uI_c (by omega)]
      · rw [uI_c (by decide), uI_s]; rfl
    refine seek_s N 8 0 (fun _ => 0) 1000000 (fun _ => 0) _ _ (by omega) (Nat.zero_le _) S0 (fun j hj => by omega) (Or.inl ⟨rfl, fun r _ y => Nat.not_lt_zero _ y⟩) (fun τ l b S B => ?_)
    obtain ⟨s1, s2, s3, s4, s5, s6⟩ := S
    have hR : Rel τ m := h.keep ⟨fun k j hk => s1 k j (by omega), fun j => by rw [s2]⟩ (KeepM.rf m)
    have hl := B.le
    have key : ∀ (c' : St) (r : Int32), (l = 1000000 → r = -9 ∧ c' = τ) → (l < 1000000 → r = nI l ∧ c'.1 (5 + 2 * ρ) 1 = nI 1 ∧ c'.1 (5 + 2 * ρ) 2 = nI n ∧ (∀ j, j < n → c'.1 (5 + 2 * ρ + 1) j = nI (b j)) ∧ (∀ a x, a ≠ 5 + 2 * ρ → a ≠ 5 + 2 * ρ + 1 → c'.1 a x = τ.1 a x) ∧ c'.2 = τ.2) → wp_X9_even (nI ρ) m (fun r' m' => r = r' ∧ Rel c' m') := by
      intro c' r k9 k1
      refine pre _ (ite_ff (evenM_s N (fun m1 l' b' S1 B1 hb1 => ?_)) z)
      obtain ⟨el, eb⟩ := B.uniq B1
      subst el
      have hR1 : Rel τ m1 := S1.keep hR
      by_cases e : l = 1000000
      · obtain ⟨r1, r2⟩ := k9 e
        subst r1; subst r2
        exact ite_tt ⟨rfl, hR1⟩ (by rw [e]; rfl)
      · obtain ⟨r1, r2, r3, r4, r5, r6⟩ := k1 (by omega)
        refine ite_ff ?_ (by rw [lit_nI, nI_inj (by omega) (by decide)]; exact e)
        have h0 : m1.1 1 0 = nI n := (S1.now N).2.2.1.1
        refine tellsBest_s hn hρ h0 (hb1 (by omega)) (fun m2 e1 e2 e3 e4 e5 e6 => ⟨r1, ?_⟩)
        exact hR1.rowPut (b := b) hρ (by omega) r2 r3 r4 r5 r6 e1 (fun j hj => by rw [e2 j hj, eb (by omega) j hj]) e3 e4 e5 e6
    rw [s5]
    unfold eE
    by_cases e : l = 1000000
    · rw [if_pos e]
      refine ite_tt ?_ rfl
      exact key τ (-9) (fun _ => ⟨rfl, rfl⟩) (fun y => by omega)
    · rw [if_neg e]
      refine ite_ff ⟨ha, ?_⟩ (fun y => (nI_neg9 (a := l) (by omega)).mp y)
      rw [nI_clamp (show ρ < 2 ^ 31 by omega), s1 25 2 (by omega), N.2.1.1]
      refine layBest_s hn hρ (s6 (by omega)) (fun c' r1 r2 r3 r4 r5 => ?_)
      have e73 : c'.1 73 2 = nI l := by rw [r4 73 2 (by omega) (by omega), s5]; unfold eE; rw [if_neg e]
      rw [e73]
      exact key c' (nI l) (fun y => absurd y e) (fun _ => ⟨rfl, r1, r2, r3, r4, r5⟩)
  · refine isRow_n ha (ite_tt ?_ rfl)
    unfold wp_X9_even
    exact isRowM_n ha (ite_tt ⟨rfl, h⟩ rfl)

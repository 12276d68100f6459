/-! the game -/
theorem anyB_t {P : Nat → Bool} {i n : Nat} (hi : i < n) (h : P i = true) : anyB P n = true := by
  induction n with
  | zero => omega
  | succ n ih =>
    simp only [anyB]
    by_cases e : i = n
    · subst e; rw [h]; exact Bool.or_true _
    · rw [ih (by omega)]; rfl
theorem fst_uniq {P : Nat → Bool} {p q : Nat} (hp : P p = true) (np : anyB P p = false) (hq : P q = true) (nq : anyB P q = false) : p = q := by
  rcases Nat.lt_trichotomy p q with h | h | h
  · rw [anyB_t h hp] at nq; exact absurd nq (by decide)
  · exact h
  · rw [anyB_t h hq] at np; exact absurd np (by decide)
def bI (b : Bool) : Int32 := if b then 1 else 0
theorem bI_0 (b : Bool) : (bI b = 0) = (b = false) := by cases b <;> decide
theorem nar_bI (b : Bool) : vp_nar .boolean (bI b) = bI b := by cases b <;> rfl
/-- with the turn at the treble's friend: he wins with p -/
def wpB (k h : Nat) (G : Nat → Bool) (p : Nat) : Bool := decide (aN k h p ≠ 21) && G (aN k h p)
def waB (k h : Nat) (G : Nat → Bool) (p : Nat) : Bool := decide (aN k h p = 21) || G (aN k h p)
theorem eA_cl {a : Nat} (ha : a ≤ 20) : eA a = nI a := eA_n (by omega)
theorem winP_s {c : St} {k h : Nat} {G : Nat → Bool} (hk : k < 6) (hh : h ≤ 20) (hG : ∀ x, x ≤ 20 → c.1 84 x = bI (G x)) {K : Int32 → Prop} (kp : ∀ p, p < 7 → wpB k h G p = true → anyB (wpB k h G) p = false → K (nI p)) (k9 : anyB (wpB k h G) 7 = false → K (-9)) : wp_X5_winningPull (nI k) (nI h) c K := by
  unfold wp_X5_winningPull L_X5_winningPull_2
  obtain ⟨A, A0, As, Ae⟩ : ∃ A : Nat → Bool, A 0 = false ∧ (∀ j, A (j + 1) = (A j || wpB k h G j)) ∧ ∀ p, anyB (wpB k h G) p = A p := ⟨anyB (wpB k h G), rfl, fun _ => rfl, fun _ => rfl⟩
  refine for1_1 7 (fun p => A p = false) ?_ ?_ 0 (Nat.zero_le _) A0
  · intro Φ ha
    unfold B_X5_winningPull_2
    exact ite_tt (k9 ((Ae 7).trans ha)) (by decide)
  · intro p Φ hp ha hΦ
    unfold B_X5_winningPull_2 J_X5_winningPull_34
    rw [show nI p + 1 = nI (p + 1) from nI_1 p]
    have hl := aN_le k h p
    refine ite_ff (after_s hk (by omega) (by omega) (ite_c (fun z => hΦ ?_) (fun z => ?_))) (nI_ge hp (by decide))
    · rw [eA_m1 hl] at z
      rw [As, ha]; unfold wpB; simp [z]
    · rw [eA_m1 hl] at z
      rw [eA_n z, nI_clamp (by omega), hG _ (by omega)]
      refine ⟨vp_in_nI (by omega) (by decide), ite_c (fun y => hΦ ?_) (fun y => kp p hp ?_ ((Ae p).trans ha))⟩
      · rw [bI_0] at y
        rw [As, ha]; unfold wpB; simp [y]
      · rw [bI_0] at y
        unfold wpB; simp [z]
        simpa using y
theorem winA_s {c : St} {k h : Nat} {G : Nat → Bool} (hk : k < 6) (hh : h ≤ 20) (hG : ∀ x, x ≤ 20 → c.1 83 x = bI (G x)) {K : Int32 → Prop} (kk : K (bI (allB (waB k h G) 4))) : wp_X5_winsAgainstAll (nI k) (nI h) c K := by
  unfold wp_X5_winsAgainstAll L_X5_winsAgainstAll_2
  obtain ⟨A, A0, As, Ae, An⟩ : ∃ A : Nat → Bool, A 0 = true ∧ (∀ j, A (j + 1) = (A j && waB k h G j)) ∧ allB (waB k h G) 4 = A 4 ∧ (∀ p, p < 4 → waB k h G p = false → A 4 = false) := by
    refine ⟨allB (waB k h G), rfl, fun _ => rfl, rfl, fun p hp hn => ?_⟩
    cases e : allB (waB k h G) 4 with
    | false => rfl
    | true => rw [allB_iff.mp e p hp] at hn; exact absurd hn (by decide)
  rw [Ae] at kk
  refine for1_1 4 (fun p => A p = true) ?_ ?_ 0 (Nat.zero_le _) A0
  · intro Φ ha
    unfold B_X5_winsAgainstAll_2
    rw [ha] at kk
    exact ite_tt kk (by decide)
  · intro p Φ hp ha hΦ
    unfold B_X5_winsAgainstAll_2 J_X5_winsAgainstAll_33
    rw [show nI p + 1 = nI (p + 1) from nI_1 p]
    have hl := aN_le k h p
    refine ite_ff (after_s hk (by omega) (by omega) (ite_c (fun z => hΦ ?_) (fun z => ?_))) (by rw [lit_nI, nI_le' (by decide) (by omega)]; omega)
    · rw [eA_m1 hl] at z
      rw [As, ha]; unfold waB; simp [z]
    · rw [eA_m1 hl] at z
      rw [eA_n z, nI_clamp (by omega), hG _ (by omega)]
      refine ⟨vp_in_nI (by omega) (by decide), ite_c (fun y => ?_) (fun y => hΦ ?_)⟩
      · rw [bI_0] at y
        rw [An p hp (by unfold waB; simp [y, z])] at kk
        exact kk
      · rw [bI_0] at y
        rw [As, ha]; unfold waB; simp only [Bool.true_and, Bool.or_eq_true]
        right; simpa using y
/-- who wins with r turns to come -/
def gmT (k : Nat) : Nat → Nat → Bool
  | 0, h => decide (h = 20)
  | r + 1, h => if r % 2 = 0 then allB (waB k h (gmT k r)) 4 else anyB (wpB k h (gmT k r)) 7
theorem reckon_s {c : St} {k v : Nat} (hk : k < 6) (hv : v ≤ 3) {K : St → Prop} (hK : ∀ c', (∀ x, x ≤ 20 → c'.1 83 x = bI (gmT k (2 * v) x)) → (0 < v → ∀ x, x ≤ 20 → c'.1 84 x = bI (gmT k (2 * v - 1) x)) → (∀ a b, a ≠ 83 → a ≠ 84 → c'.1 a b = c.1 a b) → c'.2 = c.2 → K c') : wp_X5_reckon (nI k) (nI v) c K := by
  obtain ⟨T, T0, To, Te, Tq⟩ : ∃ T : Nat → Nat → Bool, (∀ h, T 0 h = decide (h = 20)) ∧ (∀ r h, T (2 * r + 1) h = allB (waB k h (T (2 * r))) 4) ∧ (∀ r h, T (2 * r + 2) h = anyB (wpB k h (T (2 * r + 1))) 7) ∧ gmT k = T := by
    refine ⟨gmT k, fun _ => rfl, fun r h => ?_, fun r h => ?_, rfl⟩
    · show (if 2 * r % 2 = 0 then _ else _) = _
      rw [if_pos (by omega)]
    · show (if (2 * r + 1) % 2 = 0 then _ else _) = _
      rw [if_neg (by omega)]
  rw [Tq] at hK
  unfold wp_X5_reckon L_X5_reckon_2
  refine for2_1 21 (fun i τ => (∀ x, x < i → τ.1 83 x = bI (T 0 x)) ∧ (∀ a b, a ≠ 83 → a ≠ 84 → τ.1 a b = c.1 a b) ∧ τ.2 = c.2) ?_ ?_ 0 _ (Nat.zero_le _) ⟨fun j hj => by omega, fun _ _ _ _ => rfl, rfl⟩
  · rintro τ Φ ⟨t1, t2, t3⟩
    unfold B_X5_reckon_2 L_X5_reckon_33
    refine ite_tt ?_ (by decide)
    refine for2_1 v (fun r τ => (∀ x, x ≤ 20 → τ.1 83 x = bI (T (2 * r) x)) ∧ (0 < r → ∀ x, x ≤ 20 → τ.1 84 x = bI (T (2 * r - 1) x)) ∧ (∀ a b, a ≠ 83 → a ≠ 84 → τ.1 a b = c.1 a b) ∧ τ.2 = c.2) ?_ ?_ 0 _ (Nat.zero_le _) ⟨fun x hx => t1 x (by omega), fun z => by omega, t2, t3⟩
    · rintro τ Φ ⟨u1, u2, u3, u4⟩
      unfold B_X5_reckon_33
      exact ite_tt (hK τ u1 u2 u3 u4) (Int32.le_refl _)
    · rintro r τ Φ hr ⟨u1, u2, u3, u4⟩ hΦ
      unfold B_X5_reckon_33 L_X5_reckon_41
      refine ite_ff ?_ (nI_ge hr (by omega))
      refine for2_1 21 (fun i τ => (∀ x, x ≤ 20 → τ.1 83 x = bI (T (2 * r) x)) ∧ (∀ x, x < i → τ.1 84 x = bI (T (2 * r + 1) x)) ∧ (∀ a b, a ≠ 83 → a ≠ 84 → τ.1 a b = c.1 a b) ∧ τ.2 = c.2) ?_ ?_ 0 _ (Nat.zero_le _) ⟨u1, fun z => by omega, u3, u4⟩
      · rintro τ Φ' ⟨w1, w2, w3, w4⟩
        unfold B_X5_reckon_41 L_X5_reckon_71
        refine ite_tt ?_ (by decide)
        refine for2_1 21 (fun i τ => (∀ x, x ≤ 20 → τ.1 84 x = bI (T (2 * r + 1) x)) ∧ (∀ x, x < i → τ.1 83 x = bI (T (2 * r + 2) x)) ∧ (∀ a b, a ≠ 83 → a ≠ 84 → τ.1 a b = c.1 a b) ∧ τ.2 = c.2) ?_ ?_ 0 _ (Nat.zero_le _) ⟨fun x hx => w2 x (by omega), fun z => by omega, w3, w4⟩
        · rintro τ Φ' ⟨y1, y2, y3, y4⟩
          unfold B_X5_reckon_71
          rw [show nI r + 1 = nI (r + 1) from nI_1 r]
          exact ite_tt (hΦ τ ⟨fun x hx => y2 x (by omega), fun _ x hx => y1 x hx, y3, y4⟩) (by decide)
        · rintro i τ Φ' hi ⟨y1, y2, y3, y4⟩ hΦ'
          have fin : ∀ b, b = T (2 * r + 2) i → J_X5_reckon_101 (nI k) (nI v) (nI r) (nI i) 83 21 (nI i) (bI b) τ K Φ Φ' := by
            rintro _ rfl
            unfold J_X5_reckon_101
            rw [nI_clamp (by omega), nar_bI, show nI i + 1 = nI (i + 1) from nI_1 i]
            refine ⟨vp_in_nI hi (by decide), hΦ' _ ⟨fun x hx => (uI_c (by omega)).trans (y1 x hx), fun x hx => ?_, fun a b z1 z2 => (uI_c z1).trans (y3 a b z1 z2), y4⟩⟩
            by_cases e : x = i
            · subst e; exact uI_s _ _ _ _
            · exact (uI_n e).trans (y2 x (by omega))
          unfold B_X5_reckon_71
          refine ite_ff (winP_s hk (by omega) y1 (fun p hp z1 z2 => ite_ff (fin true ?_) ?_) (fun z => ite_tt (fin false ?_) rfl)) (by rw [lit_nI, nI_le' (by decide) (by omega)]; omega)
          · rw [Te, anyB_t hp z1]
          · exact fun e => (nI_neg9 (a := p) (by omega)).mp e
          · rw [Te, z]
      · rintro i τ Φ' hi ⟨w1, w2, w3, w4⟩ hΦ'
        unfold B_X5_reckon_41
        rw [nI_clamp (by omega), show nI i + 1 = nI (i + 1) from nI_1 i]
        refine ite_ff (winA_s hk (by omega) w1 ⟨vp_in_nI hi (by decide), ?_⟩) (by rw [lit_nI, nI_le' (by decide) (by omega)]; omega)
        rw [nar_bI, ← To]
        refine hΦ' _ ⟨fun x hx => (uI_c (by omega)).trans (w1 x hx), fun x hx => ?_, fun a b z1 z2 => (uI_c z2).trans (w3 a b z1 z2), w4⟩
        by_cases e : x = i
        · subst e; exact uI_s _ _ _ _
        · exact (uI_n e).trans (w2 x (by omega))
  · rintro i τ Φ hi ⟨t1, t2, t3⟩ hΦ
    have fin : ∀ b, b = T 0 i → J_X5_reckon_24 (nI k) (nI v) (nI i) 83 21 (nI i) (bI b) τ K Φ := by
      rintro _ rfl
      unfold J_X5_reckon_24
      rw [nI_clamp (by omega), nar_bI, show nI i + 1 = nI (i + 1) from nI_1 i]
      refine ⟨vp_in_nI hi (by decide), hΦ _ ⟨fun x hx => ?_, fun a b z1 z2 => (uI_c z1).trans (t2 a b z1 z2), t3⟩⟩
      by_cases e : x = i
      · subst e; exact uI_s _ _ _ _
      · exact (uI_n e).trans (t1 x (by omega))
    unfold B_X5_reckon_2
    refine ite_ff (ite_c (fun z => fin true ?_) (fun z => fin false ?_)) (by rw [lit_nI, nI_le' (by decide) (by omega)]; omega)
    · rw [lit_nI, nI_inj (by omega) (by decide)] at z
      rw [T0, z]; rfl
    · rw [lit_nI, nI_inj (by omega) (by decide)] at z
      rw [T0, decide_eq_false z]

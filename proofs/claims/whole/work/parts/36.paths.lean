/-! fewest strokes -/
/-- from h, in s strokes and not one fewer or more, to a height from g on -/
def exB (k g : Nat) : Nat → Nat → Bool
  | 0, h => decide (g ≤ h)
  | s + 1, h => anyB (wpB k h (exB k g s)) 7
/-- the fewest of at most s; 100: none -/
def dsN (k g : Nat) : Nat → Nat → Nat
  | 0, h => if g ≤ h then 0 else 100
  | s + 1, h => if dsN k g s h = 100 then (if exB k g (s + 1) h then s + 1 else 100) else dsN k g s h
def eD (x : Nat) : Int32 := if x = 100 then -9 else nI x
theorem eD_eq {x t : Nat} (hx : x ≤ 100) (ht : t ≤ 30) : (eD x = nI t) = (x = t) := by
  unfold eD
  by_cases e : x = 100
  · rw [if_pos e]
    exact propext ⟨fun z => ((nI_neg9 (a := t) (by omega)).mp z.symm).elim, fun z => by omega⟩
  · rw [if_neg e, nI_inj (by omega) (by omega)]
theorem eD_9 {x : Nat} (hx : x ≤ 100) : (eD x = -9) = (x = 100) := by
  unfold eD
  by_cases e : x = 100
  · rw [if_pos e]; exact propext ⟨fun _ => e, fun _ => rfl⟩
  · rw [if_neg e]; exact propext ⟨fun z => ((nI_neg9 (a := x) (by omega)).mp z).elim, fun z => absurd z e⟩
theorem anyB_ex {P : Nat → Bool} {n : Nat} (h : anyB P n = true) : ∃ i, i < n ∧ P i = true := by
  induction n with
  | zero => exact Bool.noConfusion h
  | succ n ih =>
    simp only [anyB, Bool.or_eq_true] at h
    rcases h with h | h
    · obtain ⟨i, hi, e⟩ := ih h
      exact ⟨i, by omega, e⟩
    · exact ⟨n, by omega, h⟩
theorem dsN_s (k g s h : Nat) : dsN k g s h = 100 ∨ (dsN k g s h ≤ s ∧ exB k g (dsN k g s h) h = true) := by
  induction s with
  | zero =>
    simp only [dsN]
    by_cases e : g ≤ h
    · rw [if_pos e]; exact Or.inr ⟨Nat.le_refl _, decide_eq_true e⟩
    · rw [if_neg e]; exact Or.inl rfl
  | succ s ih =>
    simp only [dsN]
    by_cases e : dsN k g s h = 100
    · rw [if_pos e]
      cases e2 : exB k g (s + 1) h with
      | true => exact Or.inr ⟨Nat.le_refl _, e2⟩
      | false => exact Or.inl rfl
    · rw [if_neg e]
      rcases ih with h1 | h1
      · exact absurd h1 e
      · exact Or.inr ⟨by omega, h1.2⟩
theorem dsN_le {k g s t h : Nat} (ht : t ≤ s) (hs : s ≤ 30) (he : exB k g t h = true) : dsN k g s h ≤ t := by
  induction s with
  | zero =>
    have : t = 0 := by omega
    subst this
    have e : g ≤ h := of_decide_eq_true he
    simp only [dsN]; rw [if_pos e]; exact Nat.le_refl _
  | succ s ih =>
    simp only [dsN]
    by_cases e : dsN k g s h = 100
    · rw [if_pos e]
      by_cases e2 : t = s + 1
      · subst e2; rw [he]; exact Nat.le_refl _
      · have := ih (by omega) (by omega); omega
    · rw [if_neg e]
      by_cases e2 : t = s + 1
      · subst e2
        rcases dsN_s k g s h with h1 | h1
        · exact absurd h1 e
        · omega
      · exact ih (by omega) (by omega)
/-- toward: what the class asks is what is meant -/
theorem dsN_step {k g s h : Nat} (hs : s < 30) (hd : dsN k g s h = 100) : anyB (wpB k h (fun x => decide (dsN k g s x = s))) 7 = exB k g (s + 1) h := by
  have e1 : exB k g (s + 1) h = anyB (wpB k h (exB k g s)) 7 := rfl
  cases e : exB k g (s + 1) h with
  | true =>
    rw [e1] at e
    obtain ⟨p, hp, hw⟩ := anyB_ex e
    refine anyB_t hp ?_
    unfold wpB at hw ⊢
    simp only [Bool.and_eq_true, decide_eq_true_eq] at hw ⊢
    refine ⟨hw.1, ?_⟩
    have h1 := dsN_le (Nat.le_refl s) (by omega) hw.2
    rcases dsN_s k g s (aN k h p) with h2 | h2
    · omega
    · by_cases h3 : dsN k g s (aN k h p) = s
      · exact h3
      · have h4 : exB k g (dsN k g s (aN k h p) + 1) h = true := by
          refine anyB_t hp ?_
          unfold wpB
          simp only [Bool.and_eq_true, decide_eq_true_eq]
          exact ⟨hw.1, h2.2⟩
        have h5 := dsN_le (s := s) (by omega) (by omega) h4
        omega
  | false =>
    cases e2 : anyB (wpB k h (fun x => decide (dsN k g s x = s))) 7 with
    | false => rfl
    | true =>
      obtain ⟨p, hp, hw⟩ := anyB_ex e2
      unfold wpB at hw
      simp only [Bool.and_eq_true, decide_eq_true_eq] at hw
      rcases dsN_s k g s (aN k h p) with h2 | h2
      · omega
      · rw [hw.2] at h2
        have : exB k g (s + 1) h = true := by
          rw [e1]
          refine anyB_t hp ?_
          unfold wpB
          simp only [Bool.and_eq_true, decide_eq_true_eq]
          exact ⟨hw.1, h2.2⟩
        rw [this] at e; exact absurd e (by decide)
theorem toward_s {c : St} {k h t : Nat} {D : Nat → Nat} (hk : k < 6) (hh : h ≤ 20) (ht : t ≤ 30) (hD : ∀ x, x ≤ 20 → c.1 77 x = eD (D x) ∧ D x ≤ 100) {K : Int32 → Prop} (kp : ∀ p, p < 7 → wpB k h (fun x => decide (D x = t)) p = true → anyB (wpB k h (fun x => decide (D x = t))) p = false → K (nI p)) (k9 : anyB (wpB k h (fun x => decide (D x = t))) 7 = false → K (-9)) : wp_X4_pullToward (nI k) (nI h) (nI t) c K := by
  unfold wp_X4_pullToward L_X4_pullToward_3
  obtain ⟨A, A0, As, Ae⟩ : ∃ A : Nat → Bool, A 0 = false ∧ (∀ j, A (j + 1) = (A j || wpB k h (fun x => decide (D x = t)) j)) ∧ ∀ p, anyB (wpB k h (fun x => decide (D x = t))) p = A p := ⟨anyB (wpB k h (fun x => decide (D x = t))), rfl, fun _ => rfl, fun _ => rfl⟩
  refine for1_1 7 (fun p => A p = false) ?_ ?_ 0 (Nat.zero_le _) A0
  · intro Φ ha
    unfold B_X4_pullToward_3
    exact ite_tt (k9 ((Ae 7).trans ha)) (by decide)
  · intro p Φ hp ha hΦ
    unfold B_X4_pullToward_3 J_X4_pullToward_38
    rw [show nI p + 1 = nI (p + 1) from nI_1 p]
    have hl := aN_le k h p
    refine ite_ff (after_s hk (by omega) (by omega) (ite_c (fun z => hΦ ?_) (fun z => ?_))) (nI_ge hp (by decide))
    · rw [eA_m1 hl] at z
      rw [As, ha]; unfold wpB; simp [z]
    · rw [eA_m1 hl] at z
      unfold wp_X4_strokesFrom J_X4_strokesFrom_21
      have hx := hD (aN k h p) (by omega)
      rw [eA_n z, nI_clamp (by omega), hx.1]
      refine ite_ff (ite_ff ⟨vp_in_nI (by omega) (by decide), ite_c (fun y => kp p hp ?_ ((Ae p).trans ha)) (fun y => hΦ ?_)⟩ (by rw [lit_nI, nI_le' (by decide) (by omega)]; omega)) (by rw [lit_nI, nI_lt' (by omega) (by decide)]; omega)
      · rw [eD_eq hx.2 ht] at y
        unfold wpB; simp [z, y]
      · rw [eD_eq hx.2 ht] at y
        rw [As, ha]; unfold wpB; simp [z, y]
theorem dsN_b (k g s h : Nat) (hs : s ≤ 30) : dsN k g s h ≤ 100 := by
  rcases dsN_s k g s h with e | e <;> omega
theorem measure_s {c : St} {k g : Nat} (hk : k < 6) (hg : g ≤ 20) {K : St → Prop} (hK : ∀ c', (∀ x, x ≤ 20 → c'.1 77 x = eD (dsN k g 30 x)) → (∀ a b, a ≠ 77 → c'.1 a b = c.1 a b) → c'.2 = c.2 → K c') : wp_X4_measure (nI k) (nI g) c K := by
  obtain ⟨T, T0, Ts, Tb, Tq⟩ : ∃ T : Nat → Nat → Nat, (∀ h, T 0 h = if g ≤ h then 0 else 100) ∧ (∀ s h, T (s + 1) h = if T s h = 100 then (if exB k g (s + 1) h then s + 1 else 100) else T s h) ∧ (∀ s h, s ≤ 30 → T s h ≤ 100) ∧ dsN k g = T := ⟨dsN k g, fun _ => rfl, fun _ _ => rfl, fun s h hs => dsN_b k g s h hs, rfl⟩
  have Tst : ∀ s h, s < 30 → T s h = 100 → anyB (wpB k h (fun x => decide (T s x = s))) 7 = exB k g (s + 1) h := by
    intro s h hs hd
    rw [← Tq] at hd ⊢
    exact dsN_step hs hd
  have Tle : ∀ s h, T s h = 100 ∨ T s h ≤ s := by
    intro s h
    rw [← Tq]
    rcases dsN_s k g s h with e | e
    · exact Or.inl e
    · exact Or.inr e.1
  rw [Tq] at hK
  unfold wp_X4_measure L_X4_measure_2
  refine for2_1 21 (fun i τ => (∀ x, x < i → τ.1 77 x = eD (T 0 x)) ∧ (∀ a b, a ≠ 77 → τ.1 a b = c.1 a b) ∧ τ.2 = c.2) ?_ ?_ 0 _ (Nat.zero_le _) ⟨fun j hj => by omega, fun _ _ _ => rfl, rfl⟩
  · rintro τ Φ ⟨t1, t2, t3⟩
    unfold B_X4_measure_2 L_X4_measure_33
    refine ite_tt ?_ (by decide)
    refine for2_1 31 (fun s τ => 1 ≤ s ∧ (∀ x, x ≤ 20 → τ.1 77 x = eD (T (s - 1) x)) ∧ (∀ a b, a ≠ 77 → τ.1 a b = c.1 a b) ∧ τ.2 = c.2) ?_ ?_ 1 _ (by omega) ⟨Nat.le_refl _, fun x hx => t1 x (by omega), t2, t3⟩
    · rintro τ Φ ⟨_, u1, u3, u4⟩
      unfold B_X4_measure_33
      exact ite_tt (hK τ u1 u3 u4) (by decide)
    · rintro s τ Φ hs ⟨hs1, u1, u3, u4⟩ hΦ
      obtain ⟨s, rfl⟩ : ∃ s', s = s' + 1 := ⟨s - 1, by omega⟩
      unfold B_X4_measure_33 L_X4_measure_42
      refine ite_ff ?_ (by rw [lit_nI, nI_lt' (by decide) (by omega)]; omega)
      refine for2_1 21 (fun i τ => (∀ x, x ≤ 20 → τ.1 77 x = eD (if x < i then T (s + 1) x else T s x)) ∧ (∀ a b, a ≠ 77 → τ.1 a b = c.1 a b) ∧ τ.2 = c.2) ?_ ?_ 0 _ (Nat.zero_le _) ⟨fun x hx => by rw [if_neg (by omega)]; exact u1 x hx, u3, u4⟩
      · rintro τ Φ' ⟨w1, w3, w4⟩
        unfold B_X4_measure_42
        rw [show nI (s + 1) + 1 = nI (s + 1 + 1) from nI_1 _]
        refine ite_tt (hΦ τ ⟨by omega, fun x hx => ?_, w3, w4⟩) (by decide)
        have := w1 x hx
        rw [if_pos (by omega)] at this
        exact this
      · rintro i τ Φ' hi ⟨w1, w3, w4⟩ hΦ'
        have hi20 : i ≤ 20 := by omega
        have wi := w1 i hi20
        rw [if_neg (by omega)] at wi
        have bi := Tb s i (by omega)
        have hv := vp_in_nI (n := i) (N := 21) (by omega) (by decide)
        have keep : T (s + 1) i = T s i → Φ' (nI (i + 1)) τ := by
          intro e
          refine hΦ' τ ⟨fun x hx => ?_, w3, w4⟩
          rw [w1 x hx]
          by_cases e2 : x = i
          · subst e2; rw [if_neg (by omega), if_pos (by omega), e]
          · by_cases e3 : x < i
            · rw [if_pos e3, if_pos (by omega)]
            · rw [if_neg e3, if_neg (by omega)]
        unfold B_X4_measure_42 J_X4_measure_84
        rw [nI_clamp (by omega), wi, show nI i + 1 = nI (i + 1) from nI_1 i, show nI (s + 1) - 1 = nI s from nI_pred s]
        refine ite_ff ⟨hv, ite_c (fun z => ?_) (fun z => keep ?_)⟩ (by rw [lit_nI, nI_le' (by decide) (by omega)]; omega)
        · rw [eD_9 bi] at z
          have st := Tst s i (by omega) z
          have ts := Ts s i
          rw [if_pos z] at ts
          have eqf : wpB k i (fun x => decide ((if x < i then T (s + 1) x else T s x) = s)) = wpB k i (fun x => decide (T s x = s)) := by
            have : (fun x => decide ((if x < i then T (s + 1) x else T s x) = s)) = (fun x => decide (T s x = s)) := by
              funext x
              by_cases e : x < i
              · rw [if_pos e, Ts]
                by_cases e2 : T s x = 100
                · rw [if_pos e2, e2]
                  have : ¬ (if exB k g (s + 1) x = true then s + 1 else 100) = s := by split <;> omega
                  rw [decide_eq_false this, decide_eq_false (by omega)]
                · rw [if_neg e2]
              · rw [if_neg e]
            rw [this]
          refine toward_s (D := fun x => if x < i then T (s + 1) x else T s x) hk hi20 (by omega) (fun x hx => ⟨w1 x hx, ?_⟩) (fun p hp y1 y2 => ite_ff ⟨hv, hΦ' _ ⟨fun x hx => ?_, fun a b ha => (uI_c ha).trans (w3 a b ha), w4⟩⟩ (fun e => (nI_neg9 (a := p) (by omega)).mp e)) (fun y => ite_tt (keep ?_) rfl)
          · show (if x < i then T (s + 1) x else T s x) ≤ 100
            have := Tb (s + 1) x (by omega)
            have := Tb s x (by omega)
            split <;> omega
          · rw [eqf] at y
            rw [← st, y] at ts
            rw [ts, z]; rfl
          · rw [eqf] at y1
            rw [← st, anyB_t hp y1, if_pos rfl] at ts
            by_cases e2 : x = i
            · subst e2
              rw [uI_s, if_pos (by omega), ts]
              unfold eD; rw [if_neg (by omega)]
            · rw [uI_n e2, w1 x hx]
              by_cases e3 : x < i
              · rw [if_pos e3, if_pos (by omega)]
              · rw [if_neg e3, if_neg (by omega)]
        · rw [eD_9 bi] at z
          rw [Ts, if_neg z]
  · rintro i τ Φ hi ⟨t1, t2, t3⟩ hΦ
    have fin : ∀ w, w = eD (T 0 i) → J_X4_measure_24 (nI k) (nI g) (nI i) 77 21 (nI i) w τ K Φ := by
      rintro _ rfl
      unfold J_X4_measure_24
      rw [nI_clamp (by omega), show nI i + 1 = nI (i + 1) from nI_1 i]
      refine ⟨vp_in_nI hi (by decide), hΦ _ ⟨fun x hx => ?_, fun a b z => (uI_c z).trans (t2 a b z), t3⟩⟩
      by_cases e : x = i
      · subst e; exact uI_s _ _ _ _
      · exact (uI_n e).trans (t1 x (by omega))
    unfold B_X4_measure_2
    refine ite_ff (ite_c (fun z => fin _ ?_) (fun z => fin _ ?_)) (by rw [lit_nI, nI_le' (by decide) (by omega)]; omega)
    · rw [nI_lt' (by omega) (by omega)] at z
      rw [T0, if_neg (by omega)]; rfl
    · rw [nI_lt' (by omega) (by omega)] at z
      rw [T0, if_pos (by omega)]; rfl

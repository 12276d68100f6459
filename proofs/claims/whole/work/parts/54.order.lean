/-! in which order bells are heard; the soonest round of an order -/
/-- what holds of those that are heard -/
def HP (f : Nat → Nat) (i : Nat) (X : HS) : Prop := (∀ j, j < X.1 → X.2.1 j < i ∧ f (X.2.1 j) ≠ 0 ∧ X.2.2 j = 2 * X.2.1 j + f (X.2.1 j)) ∧ (∀ j, j + 1 < X.1 → X.2.2 j * 6 + X.2.1 j < X.2.2 (j + 1) * 6 + X.2.1 (j + 1)) ∧ ∀ b, b < i → f b ≠ 0 → ∃ j, j < X.1 ∧ X.2.1 j = b
theorem HP_ent {f : Nat → Nat} {n s P : Nat} {u t : Nat → Nat} (hn : n < 6) (hP : P ≤ s) (h1 : ∀ j, j < s → u j < n ∧ f (u j) ≠ 0 ∧ t j = 2 * u j + f (u j)) (h2 : ∀ j, j + 1 < s → t j * 6 + u j < t (j + 1) * 6 + u (j + 1)) (h3 : ∀ b, b < n → f b ≠ 0 → ∃ j, j < s ∧ u j = b) (lo : 0 < P → t (P - 1) ≤ 2 * n + f n) (hi : ∀ j, P ≤ j → j < s → 2 * n + f n < t j) (z : f n ≠ 0) : HP f (n + 1) (s + 1, insF u P n, insF t P (2 * n + f n)) := by
  refine ⟨fun j hj => ?_, fun j hj => ?_, fun b hb hf => ?_⟩
  · have hj' : j < s + 1 := hj
    show insF u P n j < n + 1 ∧ f (insF u P n j) ≠ 0 ∧ insF t P (2 * n + f n) j = 2 * insF u P n j + f (insF u P n j)
    unfold insF
    by_cases c1 : j < P
    · rw [if_pos c1, if_pos c1]; have := h1 j (by omega); exact ⟨by omega, this.2⟩
    · rw [if_neg c1, if_neg c1]
      by_cases c2 : j = P
      · rw [if_pos c2, if_pos c2]; exact ⟨by omega, z, rfl⟩
      · rw [if_neg c2, if_neg c2]; have := h1 (j - 1) (by omega); exact ⟨by omega, this.2⟩
  · have hj' : j + 1 < s + 1 := hj
    show insF t P (2 * n + f n) j * 6 + insF u P n j < insF t P (2 * n + f n) (j + 1) * 6 + insF u P n (j + 1)
    unfold insF
    by_cases c1 : j + 1 < P
    · rw [if_pos (show j < P by omega), if_pos (show j < P by omega), if_pos c1, if_pos c1]; exact h2 j (by omega)
    · by_cases c2 : j + 1 = P
      · rw [if_pos (show j < P by omega), if_pos (show j < P by omega), if_neg c1, if_neg c1, if_pos c2, if_pos c2]
        have a1 := lo (by omega)
        rw [show P - 1 = j by omega] at a1
        have a2 := (h1 j (by omega)).1
        omega
      · rw [if_neg (show ¬ j < P by omega), if_neg (show ¬ j < P by omega), if_neg c1, if_neg c1, if_neg c2, if_neg c2]
        by_cases c3 : j = P
        · rw [if_pos c3, if_pos c3, show j + 1 - 1 = j by omega]
          have a1 := hi j (by omega) (by omega)
          omega
        · rw [if_neg c3, if_neg c3, show j + 1 - 1 = j by omega]
          have := h2 (j - 1) (by omega)
          rw [show j - 1 + 1 = j by omega] at this
          exact this
  · show ∃ j, j < s + 1 ∧ insF u P n j = b
    unfold insF
    by_cases e : b = n
    · subst e; exact ⟨P, by omega, by rw [if_neg (Nat.lt_irrefl _), if_pos rfl]⟩
    · obtain ⟨j, hj, ej⟩ := h3 b (by omega) hf
      by_cases c1 : j < P
      · exact ⟨j, by omega, by rw [if_pos c1]; exact ej⟩
      · exact ⟨j + 1, by omega, by rw [if_neg (by omega), if_neg (by omega), show j + 1 - 1 = j by omega]; exact ej⟩
theorem hearF_hp {f : Nat → Nat} {n : Nat} (hn : n ≤ 6) : HP f n (hearF f n) := by
  induction n with
  | zero => exact ⟨fun j hj => absurd hj (Nat.not_lt_zero j), fun j hj => absurd hj (Nat.not_lt_zero _), fun b hb => by omega⟩
  | succ n ih =>
    have h := ih (by omega)
    simp only [hearF]
    generalize hearF f n = X at h
    by_cases z : f n = 0
    · rw [if_pos z]
      refine ⟨fun j hj => ⟨by have := (h.1 j hj).1; omega, (h.1 j hj).2⟩, h.2.1, fun b hb hf => ?_⟩
      by_cases e : b = n
      · subst e; exact absurd z hf
      · exact h.2.2 b (by omega) hf
    · rw [if_neg z]
      exact HP_ent (by omega) (posH_le _ _ _) h.1 h.2.1 h.2.2 (fun y => posH_lo y) (fun j j1 j2 => posH_hi j1 j2) z
/-- rising maps of [0, s) into itself leave all as it is -/
theorem rise_id {s : Nat} {σ : Nat → Nat} (h1 : ∀ j, j < s → σ j < s) (h2 : ∀ j, j + 1 < s → σ j < σ (j + 1)) : ∀ j, j < s → σ j = j := by
  have lo : ∀ j, j < s → j ≤ σ j := by
    intro j
    induction j with
    | zero => intro _; exact Nat.zero_le _
    | succ j ih => intro hj; have := ih (by omega); have := h2 j hj; omega
  have hi : ∀ k j, j + k + 1 = s → σ j ≤ j := by
    intro k
    induction k with
    | zero => intro j hj; have := h1 j (by omega); omega
    | succ k ih => intro j hj; have := ih (j + 1) (by omega); have := h2 j (by omega); omega
  intro j hj
  have := lo j hj
  have := hi (s - 1 - j) j (by omega)
  omega
theorem rise_mono {α : Nat → Nat} {s : Nat} (h : ∀ j, j + 1 < s → α j < α (j + 1)) : ∀ k j, j + k < s → 0 < k → α j < α (j + k) := by
  intro k
  induction k with
  | zero => intro j _ h0; omega
  | succ k ih =>
    intro j hj _
    have h1 := h (j + k) (by omega)
    by_cases e : k = 0
    · subst e; exact h1
    · have := ih j (by omega) (by omega)
      have e2 : j + (k + 1) = j + k + 1 := by omega
      rw [e2]; omega
/-- two risings with the same bells are the same -/
theorem rise_eq {s : Nat} {R u w : Nat → Nat} (hu : ∀ j, j + 1 < s → R (u j) < R (u (j + 1))) (hw : ∀ j, j + 1 < s → R (w j) < R (w (j + 1))) (hin : ∀ j, j < s → ∃ i, i < s ∧ u i = w j) : ∀ j, j < s → u j = w j := by
  have hc : ∃ σ : Nat → Nat, ∀ j, j < s → σ j < s ∧ u (σ j) = w j := ⟨fun j => if h : j < s then Classical.choose (hin j h) else 0, fun j hj => by
    dsimp only
    rw [dif_pos hj]
    exact Classical.choose_spec (hin j hj)⟩
  obtain ⟨σ, hσ⟩ := hc
  have rise : ∀ j, j + 1 < s → σ j < σ (j + 1) := by
    intro j hj
    have a1 := hσ j (by omega)
    have a2 := hσ (j + 1) hj
    have a3 := hw j hj
    rw [← a1.2, ← a2.2] at a3
    rcases Nat.lt_trichotomy (σ j) (σ (j + 1)) with z | z | z
    · exact z
    · rw [z] at a3; omega
    · have := rise_mono (α := fun j => R (u j)) hu (σ j - σ (j + 1)) (σ (j + 1)) (by omega) (by omega)
      rw [show σ (j + 1) + (σ j - σ (j + 1)) = σ j by omega] at this
      omega
  have hid := rise_id (fun j hj => (hσ j hj).1) rise
  intro j hj
  rw [← (hσ j hj).2, hid j hj]
/-- ranks: 0 where it isn't heard -/
def rkN (t : Nat → Nat → Nat) (i p : Nat) : Nat := if t i p = 0 then 0 else (2 * i + t i p) * 6 + i + 1
/-- the soonest pulls of an order -/
def grB (R : Nat → Nat → Nat) (w : Nat → Nat) : Nat → Nat
  | 0 => 0
  | k + 1 => R (w k) (fstB (fun p => decide (grB R w k < R (w k) p)) 7)
def grP (R : Nat → Nat → Nat) (w : Nat → Nat) (k : Nat) : Nat := fstB (fun p => decide (grB R w k < R (w k) p)) 7
def grY (R : Nat → Nat → Nat) (w : Nat → Nat) (k : Nat) : Bool := anyB (fun p => decide (grB R w k < R (w k) p)) 7
theorem grY_t {R : Nat → Nat → Nat} {w : Nat → Nat} {k : Nat} (h : grY R w k = true) : grP R w k < 7 ∧ grB R w k < R (w k) (grP R w k) ∧ grB R w (k + 1) = R (w k) (grP R w k) ∧ ∀ q, q < grP R w k → ¬ grB R w k < R (w k) q := by
  obtain ⟨p, hp, h1, h2⟩ := anyB_fst h
  have e : grP R w k = p := fstB_eq hp h1 h2
  rw [e]
  have e2 : grB R w (k + 1) = R (w k) (grP R w k) := rfl
  rw [e] at e2
  exact ⟨hp, of_decide_eq_true h1, e2, fun q hq => of_decide_eq_false (anyB_n h2 hq)⟩
/-- no round of an order is sooner anywhere -/
theorem gr_dom {R : Nat → Nat → Nat} {w r : Nat → Nat} {s : Nat} (hmono : ∀ k, k < s → ∀ p p', p ≤ p' → p' < 7 → 0 < R (w k) p → 0 < R (w k) p' → R (w k) p ≤ R (w k) p') (hr : ∀ k, k < s → r (w k) < 7 ∧ 0 < R (w k) (r (w k))) (hinc : ∀ k, k + 1 < s → R (w k) (r (w k)) < R (w (k + 1)) (r (w (k + 1)))) : ∀ k, k < s → grY R w k = true ∧ grP R w k ≤ r (w k) ∧ grB R w (k + 1) ≤ R (w k) (r (w k)) := by
  intro k
  have step : ∀ k, k < s → grB R w k < R (w k) (r (w k)) → grY R w k = true ∧ grP R w k ≤ r (w k) ∧ grB R w (k + 1) ≤ R (w k) (r (w k)) := by
    intro k hk hlt
    have hy : grY R w k = true := anyB_t (hr k hk).1 (decide_eq_true hlt)
    obtain ⟨g1, g2, g3, g4⟩ := grY_t hy
    have hle : grP R w k ≤ r (w k) := by
      rcases Nat.lt_or_ge (r (w k)) (grP R w k) with z | z
      · exact absurd hlt (g4 _ z)
      · exact z
    refine ⟨hy, hle, ?_⟩
    rw [g3]
    exact hmono k hk _ _ hle (hr k hk).1 (by omega) (hr k hk).2
  induction k with
  | zero => intro hk; exact step 0 hk (by have := (hr 0 hk).2; exact this)
  | succ k ih =>
    intro hk
    have := ih (by omega)
    have h2 := hinc k hk
    exact step (k + 1) hk (by omega)
theorem gr_inc {R : Nat → Nat → Nat} {w : Nat → Nat} {s : Nat} (h : ∀ k, k < s → grY R w k = true) : ∀ k, k + 1 < s → R (w k) (grP R w k) < R (w (k + 1)) (grP R w (k + 1)) := by
  intro k hk
  have a1 := grY_t (h k (by omega))
  have a2 := grY_t (h (k + 1) hk)
  omega
/-- heights and times don't fall as pulls grow -/
theorem aN_mono {k h p p' : Nat} (hp : p ≤ p') : aN k h p ≤ aN k h p' := by
  unfold aN
  have e : (if k = 1 ∨ k = 4 then p / 2 else p) ≤ (if k = 1 ∨ k = 4 then p' / 2 else p') := by split <;> omega
  generalize (if k = 1 ∨ k = 4 then p / 2 else p) = a at e
  generalize (if k = 1 ∨ k = 4 then p' / 2 else p') = b at e
  generalize (if k = 2 ∨ k = 5 then 0 else 1) = x
  split <;> split <;> omega
theorem tN_mono {k w dm a b : Nat} (h : a ≤ b) (hb : b ≤ 21) (ha0 : tN k w dm a ≠ 0) (hb0 : tN k w dm b ≠ 0) : tN k w dm a ≤ tN k w dm b := by
  unfold tN at ha0 hb0 ⊢
  by_cases e1 : a < 5 ∨ a = 21
  · rw [if_pos e1] at ha0; exact absurd rfl ha0
  · by_cases e2 : b < 5 ∨ b = 21
    · rw [if_pos e2] at hb0; exact absurd rfl hb0
    · rw [if_neg e1, if_neg e2]
      omega
theorem rk_mono {c : St} {dm i p p' : Nat} (hp : p ≤ p') (h1 : 0 < rkN (sN c dm) i p) (h2 : 0 < rkN (sN c dm) i p') : rkN (sN c dm) i p ≤ rkN (sN c dm) i p' := by
  unfold rkN at h1 h2 ⊢
  by_cases e1 : sN c dm i p = 0
  · rw [if_pos e1] at h1; omega
  · by_cases e2 : sN c dm i p' = 0
    · rw [if_pos e2] at h2; omega
    · rw [if_neg e1, if_neg e2]
      have : sN c dm i p ≤ sN c dm i p' := by
        unfold sN at e1 e2 ⊢
        exact tN_mono (aN_mono hp) (aN_le _ _ _) e1 e2
      omega
/-- the soonest row -/
def gRow (R : Nat → Nat → Nat) (w : Nat → Nat) : Nat → Nat → Nat
  | 0, _ => 0
  | s + 1, i => if w s = i then grP R w s else gRow R w s i
theorem gRow_w {R : Nat → Nat → Nat} {w : Nat → Nat} {s : Nat} (hd : ∀ j k, j < k → k < s → w j ≠ w k) : ∀ k, k < s → gRow R w s (w k) = grP R w k := by
  induction s with
  | zero => intro k hk; omega
  | succ s ih =>
    intro k hk
    simp only [gRow]
    by_cases e : k = s
    · subst e; rw [if_pos rfl]
    · rw [if_neg (fun z => hd k s (by omega) (by omega) z.symm)]
      exact ih (fun j k h1 h2 => hd j k h1 (by omega)) k (by omega)
theorem gRow_o {R : Nat → Nat → Nat} {w : Nat → Nat} {s i : Nat} (h : ∀ k, k < s → w k ≠ i) : gRow R w s i = 0 := by
  induction s with
  | zero => rfl
  | succ s ih => simp only [gRow]; rw [if_neg (h s (by omega))]; exact ih (fun k hk => h k (by omega))
/-- an order: bells that are not over, each once, all of them -/
def isOrd (c : St) (n s : Nat) (w : Nat → Nat) : Prop := s = n - ovN c n ∧ (∀ k, k < s → w k < n ∧ od c (w k) = 0) ∧ ∀ j k, j < k → k < s → w j ≠ w k
theorem ord_all {c : St} {n s : Nat} {w : Nat → Nat} (ho : ∀ i, i < n → od c i ≤ 1) (h : isOrd c n s w) : ∀ b, b < n → od c b = 0 → ∃ k, k < s ∧ w k = b := by
  obtain ⟨hs, h1, h2⟩ := h
  -- count: the map of [0, s) into those that are not over is one to one, and they are s
  have key : ∀ (n s : Nat) (w : Nat → Nat), (∀ i, i < n → od c i ≤ 1) → (∀ k, k < s → w k < n ∧ od c (w k) = 0) → (∀ j k, j < k → k < s → w j ≠ w k) → s ≤ n - ovN c n ∧ (s = n - ovN c n → ∀ b, b < n → od c b = 0 → ∃ k, k < s ∧ w k = b) := by
    intro n
    induction n with
    | zero =>
      intro s w _ h1 _
      refine ⟨?_, fun _ b hb => by omega⟩
      rcases Nat.eq_zero_or_pos s with e | e
      · rw [e]; exact Nat.zero_le _
      · have := (h1 0 e).1; omega
    | succ n ih =>
      intro s w ho h1 h2
      have e2 : ovN c (n + 1) = ovN c n + od c n := rfl
      have hov := ovN_le (c := c) (n := n) (fun i hi => ho i (by omega))
      have hon := ho n (by omega)
      by_cases hx : ∃ k, k < s ∧ w k = n
      · obtain ⟨k, hk, ek⟩ := hx
        have on : od c n = 0 := by rw [← ek]; exact (h1 k hk).2
        -- take the k-th away
        obtain ⟨v, hv⟩ : ∃ v : Nat → Nat, ∀ j, v j = if j < k then w j else w (j + 1) := ⟨fun j => if j < k then w j else w (j + 1), fun _ => rfl⟩
        have v1 : ∀ j, j < s - 1 → v j < n ∧ od c (v j) = 0 := by
          intro j hj
          rw [hv]
          by_cases e : j < k
          · rw [if_pos e]
            have a := h1 j (by omega)
            have b := h2 j k e hk
            exact ⟨by omega, a.2⟩
          · rw [if_neg e]
            have a := h1 (j + 1) (by omega)
            have b := h2 k (j + 1) (by omega) (by omega)
            exact ⟨by omega, a.2⟩
        have v2 : ∀ i j, i < j → j < s - 1 → v i ≠ v j := by
          intro i j hij hj
          rw [hv, hv]
          by_cases e1 : i < k
          · by_cases e2 : j < k
            · rw [if_pos e1, if_pos e2]; exact h2 i j hij (by omega)
            · rw [if_pos e1, if_neg e2]; exact h2 i (j + 1) (by omega) (by omega)
          · rw [if_neg e1, if_neg (by omega)]; exact h2 (i + 1) (j + 1) (by omega) (by omega)
        obtain ⟨i1, i2⟩ := ih (s - 1) v (fun i hi => ho i (by omega)) v1 v2
        refine ⟨by omega, fun hs b hb hob => ?_⟩
        by_cases e : b = n
        · exact ⟨k, hk, by rw [ek, e]⟩
        · obtain ⟨j, hj, ej⟩ := i2 (by omega) b (by omega) hob
          rw [hv] at ej
          by_cases e1 : j < k
          · rw [if_pos e1] at ej; exact ⟨j, by omega, ej⟩
          · rw [if_neg e1] at ej; exact ⟨j + 1, by omega, ej⟩
      · have w1 : ∀ k, k < s → w k < n ∧ od c (w k) = 0 := fun k hk => ⟨by
          have a := (h1 k hk).1
          rcases Nat.lt_or_ge (w k) n with z | z
          · exact z
          · exact absurd ⟨k, hk, by omega⟩ hx, (h1 k hk).2⟩
        obtain ⟨i1, i2⟩ := ih s w (fun i hi => ho i (by omega)) w1 h2
        refine ⟨by omega, fun hs b hb hob => ?_⟩
        by_cases e : b = n
        · subst e; omega
        · exact i2 (by omega) b (by omega) hob
  exact (key n s w ho h1 h2).2 hs

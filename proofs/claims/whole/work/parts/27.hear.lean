/-! who is heard: how many, who, when -/
abbrev HS : Type := Nat × (Nat → Nat) × (Nat → Nat)
def posH (t : Nat → Nat) (x : Nat) : Nat → Nat
  | 0 => 0
  | s + 1 => if t s ≤ x then s + 1 else posH t x s
theorem posH_le (t : Nat → Nat) (x s : Nat) : posH t x s ≤ s := by
  induction s with
  | zero => exact Nat.le_refl _
  | succ s ih => simp only [posH]; split <;> omega
def insF (f : Nat → Nat) (k x : Nat) : Nat → Nat := fun j => if j < k then f j else if j = k then x else f (j - 1)
def entH (X : HS) (b x : Nat) : HS := (X.1 + 1, insF X.2.1 (posH X.2.2 x X.1) b, insF X.2.2 (posH X.2.2 x X.1) x)
/-- behind the first i bells, of which bell j would strike at f j (0: it is not heard) -/
def hearF (f : Nat → Nat) : Nat → HS
  | 0 => (0, fun _ => 0, fun _ => 0)
  | i + 1 => if f i = 0 then hearF f i else entH (hearF f i) i (2 * i + f i)
def HC (c : St) (X : HS) : Prop := c.1 70 2 = nI X.1 ∧ ∀ j, j < X.1 → c.1 71 j = nI (X.2.1 j) ∧ c.1 72 j = nI (X.2.2 j)
def HM (m : St) (X : HS) : Prop := m.1 0 18 = nI X.1 ∧ ∀ j, j < X.1 → m.1 11 j = nI (X.2.1 j) ∧ m.1 10 (X.2.1 j) = nI (X.2.2 j)
def HOK (X : HS) (i : Nat) : Prop := X.1 ≤ i ∧ ∀ j, j < X.1 → X.2.1 j < i ∧ X.2.2 j ≤ 50
theorem HOK.ent {X : HS} {i x : Nat} (h : HOK X i) (hx : x ≤ 50) : HOK (entH X i x) (i + 1) := by
  obtain ⟨h1, h2⟩ := h
  have hp := posH_le X.2.2 x X.1
  refine ⟨by show X.1 + 1 ≤ i + 1; omega, fun j hj => ?_⟩
  have hj' : j < X.1 + 1 := hj
  show insF X.2.1 _ i j < i + 1 ∧ insF X.2.2 _ x j ≤ 50
  unfold insF
  by_cases c1 : j < posH X.2.2 x X.1
  · rw [if_pos c1, if_pos c1]; have := h2 j (by omega); omega
  · rw [if_neg c1, if_neg c1]
    by_cases c2 : j = posH X.2.2 x X.1
    · rw [if_pos c2, if_pos c2]; omega
    · rw [if_neg c2, if_neg c2]; have := h2 (j - 1) (by omega); omega
theorem HOK.mono {X : HS} {i j : Nat} (h : HOK X i) (hij : i ≤ j) : HOK X j := ⟨by have := h.1; omega, fun k hk => ⟨by have := (h.2 k hk).1; omega, (h.2 k hk).2⟩⟩
theorem hearF_ok {f : Nat → Nat} {n : Nat} (hf : ∀ i, i < n → f i ≤ 30) (hn : n ≤ 6) : HOK (hearF f n) n := by
  induction n with
  | zero => exact ⟨Nat.le_refl _, fun j hj => absurd hj (Nat.not_lt_zero j)⟩
  | succ n ih =>
    have h1 := ih (fun i hi => hf i (by omega)) (by omega)
    have h2 := hf n (by omega)
    simp only [hearF]
    split
    · exact h1.mono (by omega)
    · exact h1.ent (by omega)
theorem isBehind_c {c : St} {X : HS} {p b x i : Nat} (hc : HC c X) (ok : HOK X i) (hi : i ≤ 6) (hb : b = i) (hx : x ≤ 50) (τ : St) (h71 : τ.1 71 p = c.1 71 p) (h72 : τ.1 72 p = c.1 72 p) (hp : p < X.1) {K : Int32 → Prop} (k1 : ¬ X.2.2 p ≤ x → K 1) (k0 : X.2.2 p ≤ x → K 0) : wp_X3_isBehind (nI p) (nI b) (nI x) τ K := by
  have h1 := ok.1
  obtain ⟨o1, o2⟩ := ok.2 p hp
  obtain ⟨e1, e2⟩ := hc.2 p hp
  have hv := vp_in_nI (n := p) (N := 6) (by omega) (by decide)
  unfold wp_X3_isBehind J_X3_isBehind_30 J_X3_isBehind_34 J_X3_isBehind_35
  rw [nI_clamp (by omega), h71, h72, e1, e2]
  refine ⟨hv, ite_c (fun z => ⟨zok1, k1 ?_⟩) (fun z => ⟨hv, ite_c (fun z2 => ⟨hv, ite_c (fun z3 => ⟨zok0, k0 ?_⟩) (fun z3 => ?_)⟩) (fun z2 => ⟨zok0, k0 ?_⟩)⟩)⟩
  · rw [nI_lt' (by omega) (by omega)] at z; omega
  · rw [nI_lt' (by omega) (by omega)] at z; omega
  · rw [nI_le' (by omega) (by omega)] at z3; omega
  · rw [nI_lt' (by omega) (by omega)] at z; omega
theorem posH_step {t : Nat → Nat} {x q s : Nat} (hq : q + 1 ≤ s) (h : posH t x s = posH t x (q + 1)) (hn : ¬ t q ≤ x) : posH t x s = posH t x q := by rw [h]; simp only [posH]; rw [if_neg hn]
theorem enter_s {c : St} {X : HS} {i x : Nat} (hc : HC c X) (ok : HOK X i) (hi : i < 6) (hx : x ≤ 50) {K : St → Prop} (hK : ∀ c', HC c' (entH X i x) → (∀ a b, a < 70 ∨ 72 < a → c'.1 a b = c.1 a b) → c'.2 = c.2 → K c') : wp_X3_enter (nI i) (nI x) c K := by
  obtain ⟨s, w, t⟩ := X
  have h1 : s ≤ i := ok.1
  have hs : c.1 70 2 = nI s := hc.1
  have hcc : ∀ j, j < s → c.1 71 j = nI (w j) ∧ c.1 72 j = nI (t j) := hc.2
  unfold wp_X3_enter L_X3_enter_15
  rw [hs]
  refine ite_tt ?_ (by rw [lit_nI, nI_lt' (by omega) (by decide)]; omega)
  refine wl2_ind (fun v τ => ∃ q, q ≤ s ∧ v = nI q ∧ posH t x s = posH t x q ∧ (∀ j, j < q → τ.1 71 j = c.1 71 j ∧ τ.1 72 j = c.1 72 j) ∧ (∀ j, q < j → j ≤ s → τ.1 71 j = c.1 71 (j - 1) ∧ τ.1 72 j = c.1 72 (j - 1)) ∧ τ.1 70 2 = nI s ∧ (∀ a b, a < 70 ∨ 72 < a → τ.1 a b = c.1 a b) ∧ τ.2 = c.2) (fun v _ => v.toNatClampNeg) ?_ _ _ ⟨s, Nat.le_refl _, rfl, rfl, fun _ _ => ⟨rfl, rfl⟩, fun j z1 z2 => by omega, hs, fun _ _ _ => rfl, rfl⟩
  rintro _ τ ⟨q, hq, rfl, hp, r1, r2, r3, r4, r5⟩ Φ hΦ
  have fin : posH t x s = q → J_X3_enter_65 (nI i) (nI x) (nI q) τ K := by
    intro hpq
    have hv := vp_in_nI (n := q) (N := 6) (by omega) (by decide)
    unfold J_X3_enter_65
    rw [nI_clamp (by omega)]
    refine ⟨hv, hv, hK _ ⟨?_, fun j hj => ?_⟩ (fun a b hab => ?_) r5⟩
    · rw [uI_s, uI_c (by omega), uI_c (by omega), r3]
      exact nI_1 s
    · have hj' : j < s + 1 := hj
      show _ = nI (insF w (posH t x s) i j) ∧ _ = nI (insF t (posH t x s) x j)
      rw [hpq]
      unfold insF
      rw [uI_c (show 71 ≠ 70 by omega), uI_c (show 72 ≠ 70 by omega), uI_c (show 71 ≠ 72 by omega)]
      by_cases c1 : j < q
      · rw [if_pos c1, if_pos c1, uI_n (by omega), uI_n (by omega), uI_c (by omega), (r1 j c1).1, (r1 j c1).2]
        exact hcc j (by omega)
      · rw [if_neg c1, if_neg c1]
        by_cases c2 : j = q
        · subst c2
          rw [if_pos rfl, if_pos rfl, uI_s, uI_s]
          exact ⟨rfl, rfl⟩
        · rw [if_neg c2, if_neg c2, uI_n (by omega), uI_n (by omega), uI_c (by omega), (r2 j (by omega) (by omega)).1, (r2 j (by omega) (by omega)).2]
          exact hcc (j - 1) (by omega)
    · rw [uI_c (by omega), uI_c (by omega), uI_c (by omega)]; exact r4 a b hab
  unfold B_X3_enter_15
  refine ite_c (fun z => fin ?_) (fun z => ?_)
  · rw [lit_nI, nI_le' (by omega) (by decide)] at z
    rw [hp, show q = 0 by omega]; rfl
  · rw [lit_nI, nI_le' (by omega) (by decide)] at z
    obtain ⟨q', rfl⟩ : ∃ q', q = q' + 1 := ⟨q - 1, by omega⟩
    rw [show nI (q' + 1) - 1 = nI q' from nI_pred q']
    refine isBehind_c hc ok (by omega) rfl hx τ (r1 q' (by omega)).1 (r1 q' (by omega)).2 (by show q' < s; omega) (fun y => ite_ff ?_ (by decide)) (fun y => ite_tt (fin ?_) rfl)
    · have y' : ¬ t q' ≤ x := y
      have hv := vp_in_nI (n := q' + 1) (N := 6) (by omega) (by decide)
      have hv' := vp_in_nI (n := q') (N := 6) (by omega) (by decide)
      rw [nI_clamp (n := q') (by omega), nI_clamp (n := q' + 1) (by omega), pk_m1, uI_c (show 72 ≠ 71 by omega)]
      refine ⟨hv', hv, hv', hv, hΦ _ _ ⟨q', by omega, rfl, posH_step (by omega) hp y', fun j hj => ?_, fun j z1 z2 => ?_, ?_, fun a b hab => ?_, r5⟩ ?_⟩
      · rw [uI_c (show 71 ≠ 72 by omega), uI_n (by omega), uI_n (by omega), uI_c (show 72 ≠ 71 by omega)]
        exact r1 j (by omega)
      · rw [uI_c (show 71 ≠ 72 by omega)]
        by_cases e : j = q' + 1
        · subst e
          rw [uI_s, uI_s, show q' + 1 - 1 = q' by omega]
          exact r1 q' (by omega)
        · rw [uI_n e, uI_n e, uI_c (show 72 ≠ 71 by omega)]
          exact r2 j (by omega) z2
      · rw [uI_c (by omega), uI_c (by omega)]; exact r3
      · rw [uI_c (by omega), uI_c (by omega)]; exact r4 a b hab
      · rw [nI_clamp (by omega), nI_clamp (by omega)]; omega
    · have y' : t q' ≤ x := y
      rw [hp]; simp only [posH]; rw [if_pos y']

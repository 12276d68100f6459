/-! rows of pulls, by number -/
def vN (p : Nat → Nat) : Nat → Nat
  | 0 => 0
  | i + 1 => vN p i * 7 + p i
theorem vN_congr {p r : Nat → Nat} {n : Nat} (h : ∀ j, j < n → p j = r j) : vN p n = vN r n := by
  induction n with
  | zero => rfl
  | succ n ih => simp only [vN]; rw [ih (fun j hj => h j (by omega)), h n (by omega)]
theorem vN_mono {p r : Nat → Nat} {i n : Nat} (hin : i ≤ n) (hp : ∀ j, j < n → p j < 7) (h : vN p i < vN r i) : vN p n < vN r n := by
  induction n with
  | zero => rw [show i = 0 by omega] at h; exact h
  | succ n ih =>
    by_cases e : i = n + 1
    · subst e; exact h
    · have h1 := ih (by omega) (fun j hj => hp j (by omega))
      have h2 := hp n (by omega)
      simp only [vN]
      omega
theorem vN_inj {p r : Nat → Nat} {n : Nat} (hp : ∀ j, j < n → p j < 7) (hr : ∀ j, j < n → r j < 7) (h : vN p n = vN r n) : ∀ j, j < n → p j = r j := by
  induction n with
  | zero => intro j hj; omega
  | succ n ih =>
    intro j hj
    simp only [vN] at h
    have h1 := hp n (by omega)
    have h2 := hr n (by omega)
    by_cases e : j = n
    · subst e; omega
    · exact ih (fun j hj => hp j (by omega)) (fun j hj => hr j (by omega)) (by omega) j (by omega)
theorem vN_0 {p r : Nat → Nat} {i n : Nat} (hin : i ≤ n) (h : vN p i ≤ vN r i) (hp : ∀ j, i ≤ j → j < n → p j = 0) : vN p n ≤ vN r n := by
  induction n with
  | zero => rw [show i = 0 by omega] at h; exact h
  | succ n ih =>
    by_cases e : i = n + 1
    · subst e; exact h
    · have h1 := ih (by omega) (fun j h1 hj => hp j h1 (by omega))
      have h2 := hp n (by omega) (by omega)
      simp only [vN]
      omega
theorem vN_6 {p r : Nat → Nat} {i n : Nat} (hin : i ≤ n) (h : vN r i ≤ vN p i) (hp : ∀ j, i ≤ j → j < n → r j ≤ p j) : vN r n ≤ vN p n := by
  induction n with
  | zero => rw [show i = 0 by omega] at h; exact h
  | succ n ih =>
    by_cases e : i = n + 1
    · subst e; exact h
    · have h1 := ih (by omega) (fun j h1 hj => hp j h1 (by omega))
      have h2 := hp n (by omega) (by omega)
      simp only [vN]
      omega
def setN (p : Nat → Nat) (i q : Nat) : Nat → Nat := fun j => if j = i then q else p j
theorem setN_s (p : Nat → Nat) (i q : Nat) : setN p i q i = q := if_pos rfl
theorem setN_n {p : Nat → Nat} {i q j : Nat} (h : j ≠ i) : setN p i q j = p j := if_neg h
theorem vN_set (p : Nat → Nat) (i q : Nat) : vN (setN p i q) (i + 1) = vN p i * 7 + q := by
  simp only [vN]
  rw [setN_s, vN_congr (r := p) (fun j hj => setN_n (by omega))]
/-- rows that ring all: by bells that are over (o), by times (t) -/
def rowA (n : Nat) (o : Nat → Nat) (t : Nat → Nat → Nat) (r : Nat → Nat) : Prop := ∀ j, j < n → r j < 7 ∧ (o j = 1 → r j = 0) ∧ (o j = 0 → t j (r j) ≠ 0)
def rowF (o : Nat → Nat) (t : Nat → Nat → Nat) (r : Nat → Nat) : Nat → Nat := fun j => if o j = 1 then 0 else t j (r j)
theorem hearF_congr {f g : Nat → Nat} {n : Nat} (h : ∀ j, j < n → f j = g j) : hearF f n = hearF g n := by
  induction n with
  | zero => rfl
  | succ n ih => simp only [hearF]; rw [ih (fun j hj => h j (by omega)), h n (by omega)]
def rowE (n : Nat) (o : Nat → Nat) (t : Nat → Nat → Nat) (r : Nat → Nat) : Nat := erH (hearF (rowF o t r) n)
theorem rowA_congr {n : Nat} {o : Nat → Nat} {t : Nat → Nat → Nat} {p r : Nat → Nat} (h : ∀ j, j < n → p j = r j) (hp : rowA n o t p) : rowA n o t r := fun j hj => by rw [← h j hj]; exact hp j hj
theorem rowE_congr {n : Nat} {o : Nat → Nat} {t : Nat → Nat → Nat} {p r : Nat → Nat} (h : ∀ j, j < n → rowF o t p j = rowF o t r j) : rowE n o t p = rowE n o t r := by
  unfold rowE; rw [hearF_congr h]
/-- the best of the rows whose number up to i is below β: error l (1000000: there is none), row b -/
def Bst (n : Nat) (o : Nat → Nat) (t : Nat → Nat → Nat) (i β l : Nat) (b : Nat → Nat) : Prop :=
  (l = 1000000 ∧ ∀ r, rowA n o t r → ¬ vN r i < β) ∨ (rowA n o t b ∧ vN b i < β ∧ rowE n o t b = l ∧ l < 1000000 ∧ ∀ r, rowA n o t r → vN r i < β → l ≤ rowE n o t r ∧ (rowE n o t r = l → vN b n ≤ vN r n))
section BST
variable {n : Nat} {o : Nat → Nat} {t : Nat → Nat → Nat} {i β l : Nat} {b : Nat → Nat}
theorem Bst.iff {i' β' : Nat} (h : Bst n o t i β l b) (hh : ∀ r, rowA n o t r → (vN r i < β ↔ vN r i' < β')) : Bst n o t i' β' l b := by
  rcases h with ⟨h1, h2⟩ | ⟨h1, h2, h3, h4, h5⟩
  · exact Or.inl ⟨h1, fun r hr z => h2 r hr ((hh r hr).mpr z)⟩
  · exact Or.inr ⟨h1, (hh b h1).mp h2, h3, h4, fun r hr z => h5 r hr ((hh r hr).mpr z)⟩
theorem Bst.down (h : Bst n o t i β l b) (hi : i < n) : Bst n o t (i + 1) (β * 7) l b := h.iff (fun r hr => by
  have := (hr i hi).1
  simp only [vN]; omega)
theorem Bst.up (h : Bst n o t (i + 1) (β * 7) l b) (hi : i < n) : Bst n o t i β l b := h.iff (fun r hr => by
  have := (hr i hi).1
  simp only [vN]; omega)
theorem Bst.skip {β' : Nat} (h : Bst n o t i β l b) (hi : i ≤ n) (hβ : β ≤ β') (hs : ∀ r, rowA n o t r → β ≤ vN r i → vN r i < β' → ∃ r', rowA n o t r' ∧ vN r' i < β ∧ rowE n o t r' = rowE n o t r) : Bst n o t i β' l b := by
  rcases h with ⟨h1, h2⟩ | ⟨h1, h2, h3, h4, h5⟩
  · refine Or.inl ⟨h1, fun r hr z => ?_⟩
    rcases Nat.lt_or_ge (vN r i) β with q | q
    · exact h2 r hr q
    · obtain ⟨r', a1, a2, a3⟩ := hs r hr q z
      exact h2 r' a1 a2
  · refine Or.inr ⟨h1, by omega, h3, h4, fun r hr z => ?_⟩
    rcases Nat.lt_or_ge (vN r i) β with q | q
    · exact h5 r hr q
    · obtain ⟨r', a1, a2, a3⟩ := hs r hr q z
      obtain ⟨e1, e2⟩ := h5 r' a1 a2
      refine ⟨by omega, fun e => ?_⟩
      have e3 := e2 (by omega)
      have e4 := vN_mono (p := r') (r := r) hi (fun j hj => (a1 j hj).1) (by omega)
      omega
theorem Bst.none {β' : Nat} (h : Bst n o t i β l b) (hi : i ≤ n) (hβ : β ≤ β') (hs : ∀ r, rowA n o t r → β ≤ vN r i → ¬ vN r i < β') : Bst n o t i β' l b := h.skip hi hβ (fun r hr z1 z2 => absurd z2 (hs r hr z1))
/-- a row is taken where it is better -/
theorem Bst.take {p : Nat → Nat} (h : Bst n o t n (vN p n) l b) (hp : rowA n o t p) (hE : rowE n o t p < 1000000) : (rowE n o t p < l → Bst n o t n (vN p n + 1) (rowE n o t p) p) ∧ (¬ rowE n o t p < l → Bst n o t n (vN p n + 1) l b) := by
  have same : ∀ r, rowA n o t r → vN r n = vN p n → rowE n o t r = rowE n o t p := fun r hr e => by
    have h1 := vN_inj (fun j hj => (hr j hj).1) (fun j hj => (hp j hj).1) e
    exact rowE_congr (fun j hj => by unfold rowF; rw [h1 j hj])
  constructor
  · intro hl
    refine Or.inr ⟨hp, by omega, rfl, hE, fun r hr z => ?_⟩
    rcases Nat.lt_or_ge (vN r n) (vN p n) with q | q
    · rcases h with ⟨h1, h2⟩ | ⟨h1, h2, h3, h4, h5⟩
      · exact absurd q (h2 r hr)
      · have := (h5 r hr q).1
        exact ⟨by omega, fun e => by omega⟩
    · have e := same r hr (by omega)
      exact ⟨by omega, fun _ => q⟩
  · intro hl
    rcases h with ⟨h1, h2⟩ | ⟨h1, h2, h3, h4, h5⟩
    · omega
    · refine Or.inr ⟨h1, by omega, h3, h4, fun r hr z => ?_⟩
      rcases Nat.lt_or_ge (vN r n) (vN p n) with q | q
      · exact h5 r hr q
      · have e := same r hr (by omega)
        exact ⟨by omega, fun _ => by omega⟩
theorem Bst.uniq {l' : Nat} {b' : Nat → Nat} (h : Bst n o t i β l b) (g : Bst n o t i β l' b') : l = l' ∧ (l < 1000000 → ∀ j, j < n → b j = b' j) := by
  rcases h with ⟨h1, h2⟩ | ⟨h1, h2, h3, h4, h5⟩
  · rcases g with ⟨g1, g2⟩ | ⟨g1, g2, g3, g4, g5⟩
    · exact ⟨by omega, fun z => by omega⟩
    · exact absurd g2 (h2 b' g1)
  · rcases g with ⟨g1, g2⟩ | ⟨g1, g2, g3, g4, g5⟩
    · exact absurd h2 (g2 b h1)
    · have a1 := h5 b' g1 g2
      have a2 := g5 b h1 h2
      have e : l = l' := by omega
      refine ⟨e, fun _ => vN_inj (fun j hj => (h1 j hj).1) (fun j hj => (g1 j hj).1) ?_⟩
      have := a1.2 (by omega)
      have := a2.2 (by omega)
      omega
end BST
/-- the next row: none lies between -/
theorem next_ok {n : Nat} {o : Nat → Nat} {p r : Nat → Nat} {q : Nat} (hq : q < n) (hp : ∀ j, j < n → p j < 7) (hr : ∀ j, j < n → r j < 7 ∧ (o j = 1 → r j = 0)) (hmax : ∀ j, q < j → j < n → r j ≤ p j) (h : vN p n < vN r n) {p' : Nat → Nat} (e1 : ∀ j, j < q → p' j = p j) (e2 : p' q = p q + 1) (e3 : ∀ j, q < j → j < n → p' j = 0) : vN p' n ≤ vN r n := by
  have c1 : vN p' q = vN p q := vN_congr e1
  refine vN_0 (i := q + 1) (by omega) ?_ (fun j h1 h2 => e3 j (by omega) h2)
  simp only [vN]
  rw [c1, e2]
  have a1 : ¬ vN r (q + 1) ≤ vN p (q + 1) := fun z => by
    have := vN_6 (i := q + 1) (n := n) (p := p) (r := r) (by omega) z (fun j h1 h2 => hmax j (by omega) h2)
    omega
  simp only [vN] at a1
  omega
theorem next_none {n : Nat} {p r : Nat → Nat} (hmax : ∀ j, j < n → r j ≤ p j) : vN r n ≤ vN p n := vN_6 (i := 0) (Nat.zero_le _) (Nat.le_refl _) (fun j _ h => hmax j h)
theorem next_gt {n : Nat} {p p' : Nat → Nat} {q : Nat} (hq : q < n) (hp : ∀ j, j < n → p j < 7) (e1 : ∀ j, j < q → p' j = p j) (e2 : p' q = p q + 1) : vN p n < vN p' n := by
  refine vN_mono (i := q + 1) (by omega) hp ?_
  simp only [vN]
  rw [vN_congr (p := p') (r := p) e1, e2]; omega

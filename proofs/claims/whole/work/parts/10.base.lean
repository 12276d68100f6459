/-! Numbers: every int that is not negative as nI n; loops with a counter. -/
theorem lit_nI (n : Nat) : (OfNat.ofNat n : Int32) = nI (OfNat.ofNat n) := rfl
theorem nI_inj {a b : Nat} (ha : a < 2 ^ 31) (hb : b < 2 ^ 31) : (nI a = nI b) = (a = b) := propext (nI_eq ha hb)
theorem nI_lt' {a b : Nat} (ha : a < 2 ^ 31) (hb : b < 2 ^ 31) : (nI a < nI b) = (a < b) := propext (nI_ltI ha hb)
theorem nI_le' {a b : Nat} (ha : a < 2 ^ 31) (hb : b < 2 ^ 31) : (nI a ≤ nI b) = (a ≤ b) := propext (nI_leI ha hb)
theorem vp_nI {n N : Nat} (hn : n < 2 ^ 31) : vp_in (nI n) N = (n < N) := by
  apply propext
  unfold vp_in
  rw [nI_clamp hn]
  have := nI_pos hn
  constructor
  · intro h; exact Nat.not_le.mp fun q => h (Or.inr q)
  · rintro h (q | q)
    · exact this q
    · omega
theorem m1_toInt : (-1 : Int32).toInt = -1 := by decide
theorem nI_nm {a : Nat} (ha : a < 2 ^ 31) {v : Int32} (hv : v.toInt < 0) : ¬ nI a = v := by
  intro h
  have := congrArg Int32.toInt h
  rw [nI_toInt ha] at this
  omega
theorem nI_em1 {a : Nat} (ha : a < 2 ^ 31) : (nI a = -1) = False := eq_false (nI_nm ha (by decide))
theorem nI_em9 {a : Nat} (ha : a < 2 ^ 31) : (nI a = -9) = False := eq_false (nI_nm ha (by decide))
theorem nI_l0 {a : Nat} (ha : a < 2 ^ 31) : (nI a < 0) = False := eq_false (nI_pos ha)
theorem nI_g0 {a : Nat} (ha : a < 2 ^ 31) : (0 ≤ nI a) = True := eq_true (nI_pos' ha)
theorem m1_l0 : ((-1 : Int32) < 0) = True := by decide
theorem m1_g0 : ((0 : Int32) ≤ -1) = False := by decide
theorem i1e0 : ((1 : Int32) = 0) = False := by decide
theorem i0e0 : ((0 : Int32) = 0) = True := by decide
theorem out_of {i : Int32} {n : Nat} (hn : n < 2 ^ 31) (h : ¬ vp_in i n) : i < 0 ∨ nI n ≤ i := by
  rcases pk_ix i hn with q | q | ⟨j, hj, rfl⟩
  · exact Or.inl q
  · exact Or.inr q
  · exact absurd (vp_in_nI hj hn) h
theorem nI_toL {a : Nat} (ha : a < 2 ^ 31) : (nI a).toInt64 = lN a := nI_l ha
theorem ite_tt {A B : Prop} (h : A) {c : Prop} [Decidable c] (hc : c) : if c then A else B := by rw [if_pos hc]; exact h
theorem ite_ff {A B : Prop} (h : B) {c : Prop} [Decidable c] (hc : ¬ c) : if c then A else B := by rw [if_neg hc]; exact h
theorem ite_c {A B : Prop} {c : Prop} [Decidable c] (ht : c → A) (hf : ¬ c → B) : if c then A else B := by
  by_cases h : c
  · rw [if_pos h]; exact ht h
  · rw [if_neg h]; exact hf h
/-- reads behind writes -/
theorem uI_1 (σ : St) (k j : Nat) (v : Int32) (a b : Nat) : (uI σ k j v).1 a b = if a = k ∧ b = j then v else σ.1 a b := rfl
theorem uI_2 (σ : St) (k j : Nat) (v : Int32) : (uI σ k j v).2 = σ.2 := rfl
theorem uL_1 (σ : St) (k j : Nat) (v : Int64) : (uL σ k j v).1 = σ.1 := rfl
theorem uL_2 (σ : St) (k j : Nat) (v : Int64) (a b : Nat) : (uL σ k j v).2 a b = if a = k ∧ b = j then v else σ.2 a b := rfl
theorem uI_s (σ : St) (k j : Nat) (v : Int32) : (uI σ k j v).1 k j = v := by simp [uI]
theorem uI_c {σ : St} {k j : Nat} {v : Int32} {a b : Nat} (h : a ≠ k) : (uI σ k j v).1 a b = σ.1 a b := by simp [uI, h]
theorem uI_n {σ : St} {k j : Nat} {v : Int32} {a b : Nat} (h : b ≠ j) : (uI σ k j v).1 a b = σ.1 a b := by simp [uI, h]
theorem uL_s (σ : St) (k j : Nat) (v : Int64) : (uL σ k j v).2 k j = v := by simp [uL]
theorem uL_c {σ : St} {k j : Nat} {v : Int64} {a b : Nat} (h : a ≠ k) : (uL σ k j v).2 a b = σ.2 a b := by simp [uL, h]
theorem uL_n {σ : St} {k j : Nat} {v : Int64} {a b : Nat} (h : b ≠ j) : (uL σ k j v).2 a b = σ.2 a b := by simp [uL, h]
theorem for1_1 {B : (Int32 → Prop) → Int32 → Prop} (n : Nat) (I : Nat → Prop) (hx : ∀ (Φ : Int32 → Prop), I n  → B Φ (nI n)) (hs : ∀ (k : Nat) (Φ : Int32 → Prop), k < n → I k  → ( I (k + 1)  → Φ (nI (k + 1))) → B Φ (nI k)) (k : Nat)  (hk : k ≤ n) (h : I k ) : wl1 B (nI k) := by
  have key : ∀ (f k : Nat), k ≤ n → n < k + f → I k  → it1 B f (nI k) := by
    intro f
    induction f with
    | zero => intro k  h1 h2; omega
    | succ f ih =>
      intro k  h1 h2 h3
      rcases Nat.lt_or_ge k n with q | q
      · exact hs k  _ q h3 (fun hb => ih (k + 1)  (by omega) (by omega) hb)
      · have e : k = n := by omega
        subst e
        exact hx  _ h3
  exact ⟨n - k + 1, key _ k  hk (by omega) h⟩
theorem for2_1 {A2 : Type} {B : (Int32 → A2 → Prop) → Int32 → A2 → Prop} (n : Nat) (I : Nat → A2 → Prop) (hx : ∀ (a2 : A2) (Φ : Int32 → A2 → Prop), I n a2 → B Φ (nI n) a2) (hs : ∀ (k : Nat) (a2 : A2) (Φ : Int32 → A2 → Prop), k < n → I k a2 → (∀ (b2 : A2), I (k + 1) b2 → Φ (nI (k + 1)) b2) → B Φ (nI k) a2) (k : Nat) (a2 : A2) (hk : k ≤ n) (h : I k a2) : wl2 B (nI k) a2 := by
  have key : ∀ (f k : Nat) (a2 : A2), k ≤ n → n < k + f → I k a2 → it2 B f (nI k) a2 := by
    intro f
    induction f with
    | zero => intro k a2 h1 h2; omega
    | succ f ih =>
      intro k a2 h1 h2 h3
      rcases Nat.lt_or_ge k n with q | q
      · exact hs k a2 _ q h3 (fun b2 hb => ih (k + 1) b2 (by omega) (by omega) hb)
      · have e : k = n := by omega
        subst e
        exact hx a2 _ h3
  exact ⟨n - k + 1, key _ k a2 hk (by omega) h⟩
theorem for2_2 {A1 : Type} {B : (A1 → Int32 → Prop) → A1 → Int32 → Prop} (n : Nat) (I : Nat → A1 → Prop) (hx : ∀ (a1 : A1) (Φ : A1 → Int32 → Prop), I n a1 → B Φ a1 (nI n)) (hs : ∀ (k : Nat) (a1 : A1) (Φ : A1 → Int32 → Prop), k < n → I k a1 → (∀ (b1 : A1), I (k + 1) b1 → Φ b1 (nI (k + 1))) → B Φ a1 (nI k)) (k : Nat) (a1 : A1) (hk : k ≤ n) (h : I k a1) : wl2 B a1 (nI k) := by
  have key : ∀ (f k : Nat) (a1 : A1), k ≤ n → n < k + f → I k a1 → it2 B f a1 (nI k) := by
    intro f
    induction f with
    | zero => intro k a1 h1 h2; omega
    | succ f ih =>
      intro k a1 h1 h2 h3
      rcases Nat.lt_or_ge k n with q | q
      · exact hs k a1 _ q h3 (fun b1 hb => ih (k + 1) b1 (by omega) (by omega) hb)
      · have e : k = n := by omega
        subst e
        exact hx a1 _ h3
  exact ⟨n - k + 1, key _ k a1 hk (by omega) h⟩
theorem for3_1 {A2 A3 : Type} {B : (Int32 → A2 → A3 → Prop) → Int32 → A2 → A3 → Prop} (n : Nat) (I : Nat → A2 → A3 → Prop) (hx : ∀ (a2 : A2) (a3 : A3) (Φ : Int32 → A2 → A3 → Prop), I n a2 a3 → B Φ (nI n) a2 a3) (hs : ∀ (k : Nat) (a2 : A2) (a3 : A3) (Φ : Int32 → A2 → A3 → Prop), k < n → I k a2 a3 → (∀ (b2 : A2) (b3 : A3), I (k + 1) b2 b3 → Φ (nI (k + 1)) b2 b3) → B Φ (nI k) a2 a3) (k : Nat) (a2 : A2) (a3 : A3) (hk : k ≤ n) (h : I k a2 a3) : wl3 B (nI k) a2 a3 := by
  have key : ∀ (f k : Nat) (a2 : A2) (a3 : A3), k ≤ n → n < k + f → I k a2 a3 → it3 B f (nI k) a2 a3 := by
    intro f
    induction f with
    | zero => intro k a2 a3 h1 h2; omega
    | succ f ih =>
      intro k a2 a3 h1 h2 h3
      rcases Nat.lt_or_ge k n with q | q
      · exact hs k a2 a3 _ q h3 (fun b2 b3 hb => ih (k + 1) b2 b3 (by omega) (by omega) hb)
      · have e : k = n := by omega
        subst e
        exact hx a2 a3 _ h3
  exact ⟨n - k + 1, key _ k a2 a3 hk (by omega) h⟩
theorem for3_2 {A1 A3 : Type} {B : (A1 → Int32 → A3 → Prop) → A1 → Int32 → A3 → Prop} (n : Nat) (I : Nat → A1 → A3 → Prop) (hx : ∀ (a1 : A1) (a3 : A3) (Φ : A1 → Int32 → A3 → Prop), I n a1 a3 → B Φ a1 (nI n) a3) (hs : ∀ (k : Nat) (a1 : A1) (a3 : A3) (Φ : A1 → Int32 → A3 → Prop), k < n → I k a1 a3 → (∀ (b1 : A1) (b3 : A3), I (k + 1) b1 b3 → Φ b1 (nI (k + 1)) b3) → B Φ a1 (nI k) a3) (k : Nat) (a1 : A1) (a3 : A3) (hk : k ≤ n) (h : I k a1 a3) : wl3 B a1 (nI k) a3 := by
  have key : ∀ (f k : Nat) (a1 : A1) (a3 : A3), k ≤ n → n < k + f → I k a1 a3 → it3 B f a1 (nI k) a3 := by
    intro f
    induction f with
    | zero => intro k a1 a3 h1 h2; omega
    | succ f ih =>
      intro k a1 a3 h1 h2 h3
      rcases Nat.lt_or_ge k n with q | q
      · exact hs k a1 a3 _ q h3 (fun b1 b3 hb => ih (k + 1) b1 b3 (by omega) (by omega) hb)
      · have e : k = n := by omega
        subst e
        exact hx a1 a3 _ h3
  exact ⟨n - k + 1, key _ k a1 a3 hk (by omega) h⟩
theorem for3_3 {A1 A2 : Type} {B : (A1 → A2 → Int32 → Prop) → A1 → A2 → Int32 → Prop} (n : Nat) (I : Nat → A1 → A2 → Prop) (hx : ∀ (a1 : A1) (a2 : A2) (Φ : A1 → A2 → Int32 → Prop), I n a1 a2 → B Φ a1 a2 (nI n)) (hs : ∀ (k : Nat) (a1 : A1) (a2 : A2) (Φ : A1 → A2 → Int32 → Prop), k < n → I k a1 a2 → (∀ (b1 : A1) (b2 : A2), I (k + 1) b1 b2 → Φ b1 b2 (nI (k + 1))) → B Φ a1 a2 (nI k)) (k : Nat) (a1 : A1) (a2 : A2) (hk : k ≤ n) (h : I k a1 a2) : wl3 B a1 a2 (nI k) := by
  have key : ∀ (f k : Nat) (a1 : A1) (a2 : A2), k ≤ n → n < k + f → I k a1 a2 → it3 B f a1 a2 (nI k) := by
    intro f
    induction f with
    | zero => intro k a1 a2 h1 h2; omega
    | succ f ih =>
      intro k a1 a2 h1 h2 h3
      rcases Nat.lt_or_ge k n with q | q
      · exact hs k a1 a2 _ q h3 (fun b1 b2 hb => ih (k + 1) b1 b2 (by omega) (by omega) hb)
      · have e : k = n := by omega
        subst e
        exact hx a1 a2 _ h3
  exact ⟨n - k + 1, key _ k a1 a2 hk (by omega) h⟩
theorem for4_1 {A2 A3 A4 : Type} {B : (Int32 → A2 → A3 → A4 → Prop) → Int32 → A2 → A3 → A4 → Prop} (n : Nat) (I : Nat → A2 → A3 → A4 → Prop) (hx : ∀ (a2 : A2) (a3 : A3) (a4 : A4) (Φ : Int32 → A2 → A3 → A4 → Prop), I n a2 a3 a4 → B Φ (nI n) a2 a3 a4) (hs : ∀ (k : Nat) (a2 : A2) (a3 : A3) (a4 : A4) (Φ : Int32 → A2 → A3 → A4 → Prop), k < n → I k a2 a3 a4 → (∀ (b2 : A2) (b3 : A3) (b4 : A4), I (k + 1) b2 b3 b4 → Φ (nI (k + 1)) b2 b3 b4) → B Φ (nI k) a2 a3 a4) (k : Nat) (a2 : A2) (a3 : A3) (a4 : A4) (hk : k ≤ n) (h : I k a2 a3 a4) : wl4 B (nI k) a2 a3 a4 := by
  have key : ∀ (f k : Nat) (a2 : A2) (a3 : A3) (a4 : A4), k ≤ n → n < k + f → I k a2 a3 a4 → it4 B f (nI k) a2 a3 a4 := by
    intro f
    induction f with
    | zero => intro k a2 a3 a4 h1 h2; omega
    | succ f ih =>
      intro k a2 a3 a4 h1 h2 h3
      rcases Nat.lt_or_ge k n with q | q
      · exact hs k a2 a3 a4 _ q h3 (fun b2 b3 b4 hb => ih (k + 1) b2 b3 b4 (by omega) (by omega) hb)
      · have e : k = n := by omega
        subst e
        exact hx a2 a3 a4 _ h3
  exact ⟨n - k + 1, key _ k a2 a3 a4 hk (by omega) h⟩
theorem for4_2 {A1 A3 A4 : Type} {B : (A1 → Int32 → A3 → A4 → Prop) → A1 → Int32 → A3 → A4 → Prop} (n : Nat) (I : Nat → A1 → A3 → A4 → Prop) (hx : ∀ (a1 : A1) (a3 : A3) (a4 : A4) (Φ : A1 → Int32 → A3 → A4 → Prop), I n a1 a3 a4 → B Φ a1 (nI n) a3 a4) (hs : ∀ (k : Nat) (a1 : A1) (a3 : A3) (a4 : A4) (Φ : A1 → Int32 → A3 → A4 → Prop), k < n → I k a1 a3 a4 → (∀ (b1 : A1) (b3 : A3) (b4 : A4), I (k + 1) b1 b3 b4 → Φ b1 (nI (k + 1)) b3 b4) → B Φ a1 (nI k) a3 a4) (k : Nat) (a1 : A1) (a3 : A3) (a4 : A4) (hk : k ≤ n) (h : I k a1 a3 a4) : wl4 B a1 (nI k) a3 a4 := by
  have key : ∀ (f k : Nat) (a1 : A1) (a3 : A3) (a4 : A4), k ≤ n → n < k + f → I k a1 a3 a4 → it4 B f a1 (nI k) a3 a4 := by
    intro f
    induction f with
    | zero => intro k a1 a3 a4 h1 h2; omega
    | succ f ih =>
      intro k a1 a3 a4 h1 h2 h3
      rcases Nat.lt_or_ge k n with q | q
      · exact hs k a1 a3 a4 _ q h3 (fun b1 b3 b4 hb => ih (k + 1) b1 b3 b4 (by omega) (by omega) hb)
      · have e : k = n := by omega
        subst e
        exact hx a1 a3 a4 _ h3
  exact ⟨n - k + 1, key _ k a1 a3 a4 hk (by omega) h⟩
theorem for4_3 {A1 A2 A4 : Type} {B : (A1 → A2 → Int32 → A4 → Prop) → A1 → A2 → Int32 → A4 → Prop} (n : Nat) (I : Nat → A1 → A2 → A4 → Prop) (hx : ∀ (a1 : A1) (a2 : A2) (a4 : A4) (Φ : A1 → A2 → Int32 → A4 → Prop), I n a1 a2 a4 → B Φ a1 a2 (nI n) a4) (hs : ∀ (k : Nat) (a1 : A1) (a2 : A2) (a4 : A4) (Φ : A1 → A2 → Int32 → A4 → Prop), k < n → I k a1 a2 a4 → (∀ (b1 : A1) (b2 : A2) (b4 : A4), I (k + 1) b1 b2 b4 → Φ b1 b2 (nI (k + 1)) b4) → B Φ a1 a2 (nI k) a4) (k : Nat) (a1 : A1) (a2 : A2) (a4 : A4) (hk : k ≤ n) (h : I k a1 a2 a4) : wl4 B a1 a2 (nI k) a4 := by
  have key : ∀ (f k : Nat) (a1 : A1) (a2 : A2) (a4 : A4), k ≤ n → n < k + f → I k a1 a2 a4 → it4 B f a1 a2 (nI k) a4 := by
    intro f
    induction f with
    | zero => intro k a1 a2 a4 h1 h2; omega
    | succ f ih =>
      intro k a1 a2 a4 h1 h2 h3
      rcases Nat.lt_or_ge k n with q | q
      · exact hs k a1 a2 a4 _ q h3 (fun b1 b2 b4 hb => ih (k + 1) b1 b2 b4 (by omega) (by omega) hb)
      · have e : k = n := by omega
        subst e
        exact hx a1 a2 a4 _ h3
  exact ⟨n - k + 1, key _ k a1 a2 a4 hk (by omega) h⟩
theorem for4_4 {A1 A2 A3 : Type} {B : (A1 → A2 → A3 → Int32 → Prop) → A1 → A2 → A3 → Int32 → Prop} (n : Nat) (I : Nat → A1 → A2 → A3 → Prop) (hx : ∀ (a1 : A1) (a2 : A2) (a3 : A3) (Φ : A1 → A2 → A3 → Int32 → Prop), I n a1 a2 a3 → B Φ a1 a2 a3 (nI n)) (hs : ∀ (k : Nat) (a1 : A1) (a2 : A2) (a3 : A3) (Φ : A1 → A2 → A3 → Int32 → Prop), k < n → I k a1 a2 a3 → (∀ (b1 : A1) (b2 : A2) (b3 : A3), I (k + 1) b1 b2 b3 → Φ b1 b2 b3 (nI (k + 1))) → B Φ a1 a2 a3 (nI k)) (k : Nat) (a1 : A1) (a2 : A2) (a3 : A3) (hk : k ≤ n) (h : I k a1 a2 a3) : wl4 B a1 a2 a3 (nI k) := by
  have key : ∀ (f k : Nat) (a1 : A1) (a2 : A2) (a3 : A3), k ≤ n → n < k + f → I k a1 a2 a3 → it4 B f a1 a2 a3 (nI k) := by
    intro f
    induction f with
    | zero => intro k a1 a2 a3 h1 h2; omega
    | succ f ih =>
      intro k a1 a2 a3 h1 h2 h3
      rcases Nat.lt_or_ge k n with q | q
      · exact hs k a1 a2 a3 _ q h3 (fun b1 b2 b3 hb => ih (k + 1) b1 b2 b3 (by omega) (by omega) hb)
      · have e : k = n := by omega
        subst e
        exact hx a1 a2 a3 _ h3
  exact ⟨n - k + 1, key _ k a1 a2 a3 hk (by omega) h⟩
theorem for5_1 {A2 A3 A4 A5 : Type} {B : (Int32 → A2 → A3 → A4 → A5 → Prop) → Int32 → A2 → A3 → A4 → A5 → Prop} (n : Nat) (I : Nat → A2 → A3 → A4 → A5 → Prop) (hx : ∀ (a2 : A2) (a3 : A3) (a4 : A4) (a5 : A5) (Φ : Int32 → A2 → A3 → A4 → A5 → Prop), I n a2 a3 a4 a5 → B Φ (nI n) a2 a3 a4 a5) (hs : ∀ (k : Nat) (a2 : A2) (a3 : A3) (a4 : A4) (a5 : A5) (Φ : Int32 → A2 → A3 → A4 → A5 → Prop), k < n → I k a2 a3 a4 a5 → (∀ (b2 : A2) (b3 : A3) (b4 : A4) (b5 : A5), I (k + 1) b2 b3 b4 b5 → Φ (nI (k + 1)) b2 b3 b4 b5) → B Φ (nI k) a2 a3 a4 a5) (k : Nat) (a2 : A2) (a3 : A3) (a4 : A4) (a5 : A5) (hk : k ≤ n) (h : I k a2 a3 a4 a5) : wl5 B (nI k) a2 a3 a4 a5 := by
  have key : ∀ (f k : Nat) (a2 : A2) (a3 : A3) (a4 : A4) (a5 : A5), k ≤ n → n < k + f → I k a2 a3 a4 a5 → it5 B f (nI k) a2 a3 a4 a5 := by
    intro f
    induction f with
    | zero => intro k a2 a3 a4 a5 h1 h2; omega
    | succ f ih =>
      intro k a2 a3 a4 a5 h1 h2 h3
      rcases Nat.lt_or_ge k n with q | q
      · exact hs k a2 a3 a4 a5 _ q h3 (fun b2 b3 b4 b5 hb => ih (k + 1) b2 b3 b4 b5 (by omega) (by omega) hb)
      · have e : k = n := by omega
        subst e
        exact hx a2 a3 a4 a5 _ h3
  exact ⟨n - k + 1, key _ k a2 a3 a4 a5 hk (by omega) h⟩
theorem for5_2 {A1 A3 A4 A5 : Type} {B : (A1 → Int32 → A3 → A4 → A5 → Prop) → A1 → Int32 → A3 → A4 → A5 → Prop} (n : Nat) (I : Nat → A1 → A3 → A4 → A5 → Prop) (hx : ∀ (a1 : A1) (a3 : A3) (a4 : A4) (a5 : A5) (Φ : A1 → Int32 → A3 → A4 → A5 → Prop), I n a1 a3 a4 a5 → B Φ a1 (nI n) a3 a4 a5) (hs : ∀ (k : Nat) (a1 : A1) (a3 : A3) (a4 : A4) (a5 : A5) (Φ : A1 → Int32 → A3 → A4 → A5 → Prop), k < n → I k a1 a3 a4 a5 → (∀ (b1 : A1) (b3 : A3) (b4 : A4) (b5 : A5), I (k + 1) b1 b3 b4 b5 → Φ b1 (nI (k + 1)) b3 b4 b5) → B Φ a1 (nI k) a3 a4 a5) (k : Nat) (a1 : A1) (a3 : A3) (a4 : A4) (a5 : A5) (hk : k ≤ n) (h : I k a1 a3 a4 a5) : wl5 B a1 (nI k) a3 a4 a5 := by
  have key : ∀ (f k : Nat) (a1 : A1) (a3 : A3) (a4 : A4) (a5 : A5), k ≤ n → n < k + f → I k a1 a3 a4 a5 → it5 B f a1 (nI k) a3 a4 a5 := by
    intro f
    induction f with
    | zero => intro k a1 a3 a4 a5 h1 h2; omega
    | succ f ih =>
      intro k a1 a3 a4 a5 h1 h2 h3
      rcases Nat.lt_or_ge k n with q | q
      · exact hs k a1 a3 a4 a5 _ q h3 (fun b1 b3 b4 b5 hb => ih (k + 1) b1 b3 b4 b5 (by omega) (by omega) hb)
      · have e : k = n := by omega
        subst e
        exact hx a1 a3 a4 a5 _ h3
  exact ⟨n - k + 1, key _ k a1 a3 a4 a5 hk (by omega) h⟩
theorem for5_3 {A1 A2 A4 A5 : Type} {B : (A1 → A2 → Int32 → A4 → A5 → Prop) → A1 → A2 → Int32 → A4 → A5 → Prop} (n : Nat) (I : Nat → A1 → A2 → A4 → A5 → Prop) (hx : ∀ (a1 : A1) (a2 : A2) (a4 : A4) (a5 : A5) (Φ : A1 → A2 → Int32 → A4 → A5 → Prop), I n a1 a2 a4 a5 → B Φ a1 a2 (nI n) a4 a5) (hs : ∀ (k : Nat) (a1 : A1) (a2 : A2) (a4 : A4) (a5 : A5) (Φ : A1 → A2 → Int32 → A4 → A5 → Prop), k < n → I k a1 a2 a4 a5 → (∀ (b1 : A1) (b2 : A2) (b4 : A4) (b5 : A5), I (k + 1) b1 b2 b4 b5 → Φ b1 b2 (nI (k + 1)) b4 b5) → B Φ a1 a2 (nI k) a4 a5) (k : Nat) (a1 : A1) (a2 : A2) (a4 : A4) (a5 : A5) (hk : k ≤ n) (h : I k a1 a2 a4 a5) : wl5 B a1 a2 (nI k) a4 a5 := by
  have key : ∀ (f k : Nat) (a1 : A1) (a2 : A2) (a4 : A4) (a5 : A5), k ≤ n → n < k + f → I k a1 a2 a4 a5 → it5 B f a1 a2 (nI k) a4 a5 := by
    intro f
    induction f with
    | zero => intro k a1 a2 a4 a5 h1 h2; omega
    | succ f ih =>
      intro k a1 a2 a4 a5 h1 h2 h3
      rcases Nat.lt_or_ge k n with q | q
      · exact hs k a1 a2 a4 a5 _ q h3 (fun b1 b2 b4 b5 hb => ih (k + 1) b1 b2 b4 b5 (by omega) (by omega) hb)
      · have e : k = n := by omega
        subst e
        exact hx a1 a2 a4 a5 _ h3
  exact ⟨n - k + 1, key _ k a1 a2 a4 a5 hk (by omega) h⟩
theorem for5_4 {A1 A2 A3 A5 : Type} {B : (A1 → A2 → A3 → Int32 → A5 → Prop) → A1 → A2 → A3 → Int32 → A5 → Prop} (n : Nat) (I : Nat → A1 → A2 → A3 → A5 → Prop) (hx : ∀ (a1 : A1) (a2 : A2) (a3 : A3) (a5 : A5) (Φ : A1 → A2 → A3 → Int32 → A5 → Prop), I n a1 a2 a3 a5 → B Φ a1 a2 a3 (nI n) a5) (hs : ∀ (k : Nat) (a1 : A1) (a2 : A2) (a3 : A3) (a5 : A5) (Φ : A1 → A2 → A3 → Int32 → A5 → Prop), k < n → I k a1 a2 a3 a5 → (∀ (b1 : A1) (b2 : A2) (b3 : A3) (b5 : A5), I (k + 1) b1 b2 b3 b5 → Φ b1 b2 b3 (nI (k + 1)) b5) → B Φ a1 a2 a3 (nI k) a5) (k : Nat) (a1 : A1) (a2 : A2) (a3 : A3) (a5 : A5) (hk : k ≤ n) (h : I k a1 a2 a3 a5) : wl5 B a1 a2 a3 (nI k) a5 := by
  have key : ∀ (f k : Nat) (a1 : A1) (a2 : A2) (a3 : A3) (a5 : A5), k ≤ n → n < k + f → I k a1 a2 a3 a5 → it5 B f a1 a2 a3 (nI k) a5 := by
    intro f
    induction f with
    | zero => intro k a1 a2 a3 a5 h1 h2; omega
    | succ f ih =>
      intro k a1 a2 a3 a5 h1 h2 h3
      rcases Nat.lt_or_ge k n with q | q
      · exact hs k a1 a2 a3 a5 _ q h3 (fun b1 b2 b3 b5 hb => ih (k + 1) b1 b2 b3 b5 (by omega) (by omega) hb)
      · have e : k = n := by omega
        subst e
        exact hx a1 a2 a3 a5 _ h3
  exact ⟨n - k + 1, key _ k a1 a2 a3 a5 hk (by omega) h⟩
theorem for5_5 {A1 A2 A3 A4 : Type} {B : (A1 → A2 → A3 → A4 → Int32 → Prop) → A1 → A2 → A3 → A4 → Int32 → Prop} (n : Nat) (I : Nat → A1 → A2 → A3 → A4 → Prop) (hx : ∀ (a1 : A1) (a2 : A2) (a3 : A3) (a4 : A4) (Φ : A1 → A2 → A3 → A4 → Int32 → Prop), I n a1 a2 a3 a4 → B Φ a1 a2 a3 a4 (nI n)) (hs : ∀ (k : Nat) (a1 : A1) (a2 : A2) (a3 : A3) (a4 : A4) (Φ : A1 → A2 → A3 → A4 → Int32 → Prop), k < n → I k a1 a2 a3 a4 → (∀ (b1 : A1) (b2 : A2) (b3 : A3) (b4 : A4), I (k + 1) b1 b2 b3 b4 → Φ b1 b2 b3 b4 (nI (k + 1))) → B Φ a1 a2 a3 a4 (nI k)) (k : Nat) (a1 : A1) (a2 : A2) (a3 : A3) (a4 : A4) (hk : k ≤ n) (h : I k a1 a2 a3 a4) : wl5 B a1 a2 a3 a4 (nI k) := by
  have key : ∀ (f k : Nat) (a1 : A1) (a2 : A2) (a3 : A3) (a4 : A4), k ≤ n → n < k + f → I k a1 a2 a3 a4 → it5 B f a1 a2 a3 a4 (nI k) := by
    intro f
    induction f with
    | zero => intro k a1 a2 a3 a4 h1 h2; omega
    | succ f ih =>
      intro k a1 a2 a3 a4 h1 h2 h3
      rcases Nat.lt_or_ge k n with q | q
      · exact hs k a1 a2 a3 a4 _ q h3 (fun b1 b2 b3 b4 hb => ih (k + 1) b1 b2 b3 b4 (by omega) (by omega) hb)
      · have e : k = n := by omega
        subst e
        exact hx a1 a2 a3 a4 _ h3
  exact ⟨n - k + 1, key _ k a1 a2 a3 a4 hk (by omega) h⟩
theorem for6_1 {A2 A3 A4 A5 A6 : Type} {B : (Int32 → A2 → A3 → A4 → A5 → A6 → Prop) → Int32 → A2 → A3 → A4 → A5 → A6 → Prop} (n : Nat) (I : Nat → A2 → A3 → A4 → A5 → A6 → Prop) (hx : ∀ (a2 : A2) (a3 : A3) (a4 : A4) (a5 : A5) (a6 : A6) (Φ : Int32 → A2 → A3 → A4 → A5 → A6 → Prop), I n a2 a3 a4 a5 a6 → B Φ (nI n) a2 a3 a4 a5 a6) (hs : ∀ (k : Nat) (a2 : A2) (a3 : A3) (a4 : A4) (a5 : A5) (a6 : A6) (Φ : Int32 → A2 → A3 → A4 → A5 → A6 → Prop), k < n → I k a2 a3 a4 a5 a6 → (∀ (b2 : A2) (b3 : A3) (b4 : A4) (b5 : A5) (b6 : A6), I (k + 1) b2 b3 b4 b5 b6 → Φ (nI (k + 1)) b2 b3 b4 b5 b6) → B Φ (nI k) a2 a3 a4 a5 a6) (k : Nat) (a2 : A2) (a3 : A3) (a4 : A4) (a5 : A5) (a6 : A6) (hk : k ≤ n) (h : I k a2 a3 a4 a5 a6) : wl6 B (nI k) a2 a3 a4 a5 a6 := by
  have key : ∀ (f k : Nat) (a2 : A2) (a3 : A3) (a4 : A4) (a5 : A5) (a6 : A6), k ≤ n → n < k + f → I k a2 a3 a4 a5 a6 → it6 B f (nI k) a2 a3 a4 a5 a6 := by
    intro f
    induction f with
    | zero => intro k a2 a3 a4 a5 a6 h1 h2; omega
    | succ f ih =>
      intro k a2 a3 a4 a5 a6 h1 h2 h3
      rcases Nat.lt_or_ge k n with q | q
      · exact hs k a2 a3 a4 a5 a6 _ q h3 (fun b2 b3 b4 b5 b6 hb => ih (k + 1) b2 b3 b4 b5 b6 (by omega) (by omega) hb)
      · have e : k = n := by omega
        subst e
        exact hx a2 a3 a4 a5 a6 _ h3
  exact ⟨n - k + 1, key _ k a2 a3 a4 a5 a6 hk (by omega) h⟩
theorem for6_2 {A1 A3 A4 A5 A6 : Type} {B : (A1 → Int32 → A3 → A4 → A5 → A6 → Prop) → A1 → Int32 → A3 → A4 → A5 → A6 → Prop} (n : Nat) (I : Nat → A1 → A3 → A4 → A5 → A6 → Prop) (hx : ∀ (a1 : A1) (a3 : A3) (a4 : A4) (a5 : A5) (a6 : A6) (Φ : A1 → Int32 → A3 → A4 → A5 → A6 → Prop), I n a1 a3 a4 a5 a6 → B Φ a1 (nI n) a3 a4 a5 a6) (hs : ∀ (k : Nat) (a1 : A1) (a3 : A3) (a4 : A4) (a5 : A5) (a6 : A6) (Φ : A1 → Int32 → A3 → A4 → A5 → A6 → Prop), k < n → I k a1 a3 a4 a5 a6 → (∀ (b1 : A1) (b3 : A3) (b4 : A4) (b5 : A5) (b6 : A6), I (k + 1) b1 b3 b4 b5 b6 → Φ b1 (nI (k + 1)) b3 b4 b5 b6) → B Φ a1 (nI k) a3 a4 a5 a6) (k : Nat) (a1 : A1) (a3 : A3) (a4 : A4) (a5 : A5) (a6 : A6) (hk : k ≤ n) (h : I k a1 a3 a4 a5 a6) : wl6 B a1 (nI k) a3 a4 a5 a6 := by
  have key : ∀ (f k : Nat) (a1 : A1) (a3 : A3) (a4 : A4) (a5 : A5) (a6 : A6), k ≤ n → n < k + f → I k a1 a3 a4 a5 a6 → it6 B f a1 (nI k) a3 a4 a5 a6 := by
    intro f
    induction f with
    | zero => intro k a1 a3 a4 a5 a6 h1 h2; omega
    | succ f ih =>
      intro k a1 a3 a4 a5 a6 h1 h2 h3
      rcases Nat.lt_or_ge k n with q | q
      · exact hs k a1 a3 a4 a5 a6 _ q h3 (fun b1 b3 b4 b5 b6 hb => ih (k + 1) b1 b3 b4 b5 b6 (by omega) (by omega) hb)
      · have e : k = n := by omega
        subst e
        exact hx a1 a3 a4 a5 a6 _ h3
  exact ⟨n - k + 1, key _ k a1 a3 a4 a5 a6 hk (by omega) h⟩
theorem for6_3 {A1 A2 A4 A5 A6 : Type} {B : (A1 → A2 → Int32 → A4 → A5 → A6 → Prop) → A1 → A2 → Int32 → A4 → A5 → A6 → Prop} (n : Nat) (I : Nat → A1 → A2 → A4 → A5 → A6 → Prop) (hx : ∀ (a1 : A1) (a2 : A2) (a4 : A4) (a5 : A5) (a6 : A6) (Φ : A1 → A2 → Int32 → A4 → A5 → A6 → Prop), I n a1 a2 a4 a5 a6 → B Φ a1 a2 (nI n) a4 a5 a6) (hs : ∀ (k : Nat) (a1 : A1) (a2 : A2) (a4 : A4) (a5 : A5) (a6 : A6) (Φ : A1 → A2 → Int32 → A4 → A5 → A6 → Prop), k < n → I k a1 a2 a4 a5 a6 → (∀ (b1 : A1) (b2 : A2) (b4 : A4) (b5 : A5) (b6 : A6), I (k + 1) b1 b2 b4 b5 b6 → Φ b1 b2 (nI (k + 1)) b4 b5 b6) → B Φ a1 a2 (nI k) a4 a5 a6) (k : Nat) (a1 : A1) (a2 : A2) (a4 : A4) (a5 : A5) (a6 : A6) (hk : k ≤ n) (h : I k a1 a2 a4 a5 a6) : wl6 B a1 a2 (nI k) a4 a5 a6 := by
  have key : ∀ (f k : Nat) (a1 : A1) (a2 : A2) (a4 : A4) (a5 : A5) (a6 : A6), k ≤ n → n < k + f → I k a1 a2 a4 a5 a6 → it6 B f a1 a2 (nI k) a4 a5 a6 := by
    intro f
    induction f with
    | zero => intro k a1 a2 a4 a5 a6 h1 h2; omega
    | succ f ih =>
      intro k a1 a2 a4 a5 a6 h1 h2 h3
      rcases Nat.lt_or_ge k n with q | q
      · exact hs k a1 a2 a4 a5 a6 _ q h3 (fun b1 b2 b4 b5 b6 hb => ih (k + 1) b1 b2 b4 b5 b6 (by omega) (by omega) hb)
      · have e : k = n := by omega
        subst e
        exact hx a1 a2 a4 a5 a6 _ h3
  exact ⟨n - k + 1, key _ k a1 a2 a4 a5 a6 hk (by omega) h⟩
theorem for6_4 {A1 A2 A3 A5 A6 : Type} {B : (A1 → A2 → A3 → Int32 → A5 → A6 → Prop) → A1 → A2 → A3 → Int32 → A5 → A6 → Prop} (n : Nat) (I : Nat → A1 → A2 → A3 → A5 → A6 → Prop) (hx : ∀ (a1 : A1) (a2 : A2) (a3 : A3) (a5 : A5) (a6 : A6) (Φ : A1 → A2 → A3 → Int32 → A5 → A6 → Prop), I n a1 a2 a3 a5 a6 → B Φ a1 a2 a3 (nI n) a5 a6) (hs : ∀ (k : Nat) (a1 : A1) (a2 : A2) (a3 : A3) (a5 : A5) (a6 : A6) (Φ : A1 → A2 → A3 → Int32 → A5 → A6 → Prop), k < n → I k a1 a2 a3 a5 a6 → (∀ (b1 : A1) (b2 : A2) (b3 : A3) (b5 : A5) (b6 : A6), I (k + 1) b1 b2 b3 b5 b6 → Φ b1 b2 b3 (nI (k + 1)) b5 b6) → B Φ a1 a2 a3 (nI k) a5 a6) (k : Nat) (a1 : A1) (a2 : A2) (a3 : A3) (a5 : A5) (a6 : A6) (hk : k ≤ n) (h : I k a1 a2 a3 a5 a6) : wl6 B a1 a2 a3 (nI k) a5 a6 := by
  have key : ∀ (f k : Nat) (a1 : A1) (a2 : A2) (a3 : A3) (a5 : A5) (a6 : A6), k ≤ n → n < k + f → I k a1 a2 a3 a5 a6 → it6 B f a1 a2 a3 (nI k) a5 a6 := by
    intro f
    induction f with
    | zero => intro k a1 a2 a3 a5 a6 h1 h2; omega
    | succ f ih =>
      intro k a1 a2 a3 a5 a6 h1 h2 h3
      rcases Nat.lt_or_ge k n with q | q
      · exact hs k a1 a2 a3 a5 a6 _ q h3 (fun b1 b2 b3 b5 b6 hb => ih (k + 1) b1 b2 b3 b5 b6 (by omega) (by omega) hb)
      · have e : k = n := by omega
        subst e
        exact hx a1 a2 a3 a5 a6 _ h3
  exact ⟨n - k + 1, key _ k a1 a2 a3 a5 a6 hk (by omega) h⟩
theorem for6_5 {A1 A2 A3 A4 A6 : Type} {B : (A1 → A2 → A3 → A4 → Int32 → A6 → Prop) → A1 → A2 → A3 → A4 → Int32 → A6 → Prop} (n : Nat) (I : Nat → A1 → A2 → A3 → A4 → A6 → Prop) (hx : ∀ (a1 : A1) (a2 : A2) (a3 : A3) (a4 : A4) (a6 : A6) (Φ : A1 → A2 → A3 → A4 → Int32 → A6 → Prop), I n a1 a2 a3 a4 a6 → B Φ a1 a2 a3 a4 (nI n) a6) (hs : ∀ (k : Nat) (a1 : A1) (a2 : A2) (a3 : A3) (a4 : A4) (a6 : A6) (Φ : A1 → A2 → A3 → A4 → Int32 → A6 → Prop), k < n → I k a1 a2 a3 a4 a6 → (∀ (b1 : A1) (b2 : A2) (b3 : A3) (b4 : A4) (b6 : A6), I (k + 1) b1 b2 b3 b4 b6 → Φ b1 b2 b3 b4 (nI (k + 1)) b6) → B Φ a1 a2 a3 a4 (nI k) a6) (k : Nat) (a1 : A1) (a2 : A2) (a3 : A3) (a4 : A4) (a6 : A6) (hk : k ≤ n) (h : I k a1 a2 a3 a4 a6) : wl6 B a1 a2 a3 a4 (nI k) a6 := by
  have key : ∀ (f k : Nat) (a1 : A1) (a2 : A2) (a3 : A3) (a4 : A4) (a6 : A6), k ≤ n → n < k + f → I k a1 a2 a3 a4 a6 → it6 B f a1 a2 a3 a4 (nI k) a6 := by
    intro f
    induction f with
    | zero => intro k a1 a2 a3 a4 a6 h1 h2; omega
    | succ f ih =>
      intro k a1 a2 a3 a4 a6 h1 h2 h3
      rcases Nat.lt_or_ge k n with q | q
      · exact hs k a1 a2 a3 a4 a6 _ q h3 (fun b1 b2 b3 b4 b6 hb => ih (k + 1) b1 b2 b3 b4 b6 (by omega) (by omega) hb)
      · have e : k = n := by omega
        subst e
        exact hx a1 a2 a3 a4 a6 _ h3
  exact ⟨n - k + 1, key _ k a1 a2 a3 a4 a6 hk (by omega) h⟩
theorem for6_6 {A1 A2 A3 A4 A5 : Type} {B : (A1 → A2 → A3 → A4 → A5 → Int32 → Prop) → A1 → A2 → A3 → A4 → A5 → Int32 → Prop} (n : Nat) (I : Nat → A1 → A2 → A3 → A4 → A5 → Prop) (hx : ∀ (a1 : A1) (a2 : A2) (a3 : A3) (a4 : A4) (a5 : A5) (Φ : A1 → A2 → A3 → A4 → A5 → Int32 → Prop), I n a1 a2 a3 a4 a5 → B Φ a1 a2 a3 a4 a5 (nI n)) (hs : ∀ (k : Nat) (a1 : A1) (a2 : A2) (a3 : A3) (a4 : A4) (a5 : A5) (Φ : A1 → A2 → A3 → A4 → A5 → Int32 → Prop), k < n → I k a1 a2 a3 a4 a5 → (∀ (b1 : A1) (b2 : A2) (b3 : A3) (b4 : A4) (b5 : A5), I (k + 1) b1 b2 b3 b4 b5 → Φ b1 b2 b3 b4 b5 (nI (k + 1))) → B Φ a1 a2 a3 a4 a5 (nI k)) (k : Nat) (a1 : A1) (a2 : A2) (a3 : A3) (a4 : A4) (a5 : A5) (hk : k ≤ n) (h : I k a1 a2 a3 a4 a5) : wl6 B a1 a2 a3 a4 a5 (nI k) := by
  have key : ∀ (f k : Nat) (a1 : A1) (a2 : A2) (a3 : A3) (a4 : A4) (a5 : A5), k ≤ n → n < k + f → I k a1 a2 a3 a4 a5 → it6 B f a1 a2 a3 a4 a5 (nI k) := by
    intro f
    induction f with
    | zero => intro k a1 a2 a3 a4 a5 h1 h2; omega
    | succ f ih =>
      intro k a1 a2 a3 a4 a5 h1 h2 h3
      rcases Nat.lt_or_ge k n with q | q
      · exact hs k a1 a2 a3 a4 a5 _ q h3 (fun b1 b2 b3 b4 b5 hb => ih (k + 1) b1 b2 b3 b4 b5 (by omega) (by omega) hb)
      · have e : k = n := by omega
        subst e
        exact hx a1 a2 a3 a4 a5 _ h3
  exact ⟨n - k + 1, key _ k a1 a2 a3 a4 a5 hk (by omega) h⟩
theorem for7_1 {A2 A3 A4 A5 A6 A7 : Type} {B : (Int32 → A2 → A3 → A4 → A5 → A6 → A7 → Prop) → Int32 → A2 → A3 → A4 → A5 → A6 → A7 → Prop} (n : Nat) (I : Nat → A2 → A3 → A4 → A5 → A6 → A7 → Prop) (hx : ∀ (a2 : A2) (a3 : A3) (a4 : A4) (a5 : A5) (a6 : A6) (a7 : A7) (Φ : Int32 → A2 → A3 → A4 → A5 → A6 → A7 → Prop), I n a2 a3 a4 a5 a6 a7 → B Φ (nI n) a2 a3 a4 a5 a6 a7) (hs : ∀ (k : Nat) (a2 : A2) (a3 : A3) (a4 : A4) (a5 : A5) (a6 : A6) (a7 : A7) (Φ : Int32 → A2 → A3 → A4 → A5 → A6 → A7 → Prop), k < n → I k a2 a3 a4 a5 a6 a7 → (∀ (b2 : A2) (b3 : A3) (b4 : A4) (b5 : A5) (b6 : A6) (b7 : A7), I (k + 1) b2 b3 b4 b5 b6 b7 → Φ (nI (k + 1)) b2 b3 b4 b5 b6 b7) → B Φ (nI k) a2 a3 a4 a5 a6 a7) (k : Nat) (a2 : A2) (a3 : A3) (a4 : A4) (a5 : A5) (a6 : A6) (a7 : A7) (hk : k ≤ n) (h : I k a2 a3 a4 a5 a6 a7) : wl7 B (nI k) a2 a3 a4 a5 a6 a7 := by
  have key : ∀ (f k : Nat) (a2 : A2) (a3 : A3) (a4 : A4) (a5 : A5) (a6 : A6) (a7 : A7), k ≤ n → n < k + f → I k a2 a3 a4 a5 a6 a7 → it7 B f (nI k) a2 a3 a4 a5 a6 a7 := by
    intro f
    induction f with
    | zero => intro k a2 a3 a4 a5 a6 a7 h1 h2; omega
    | succ f ih =>
      intro k a2 a3 a4 a5 a6 a7 h1 h2 h3
      rcases Nat.lt_or_ge k n with q | q
      · exact hs k a2 a3 a4 a5 a6 a7 _ q h3 (fun b2 b3 b4 b5 b6 b7 hb => ih (k + 1) b2 b3 b4 b5 b6 b7 (by omega) (by omega) hb)
      · have e : k = n := by omega
        subst e
        exact hx a2 a3 a4 a5 a6 a7 _ h3
  exact ⟨n - k + 1, key _ k a2 a3 a4 a5 a6 a7 hk (by omega) h⟩
theorem for7_2 {A1 A3 A4 A5 A6 A7 : Type} {B : (A1 → Int32 → A3 → A4 → A5 → A6 → A7 → Prop) → A1 → Int32 → A3 → A4 → A5 → A6 → A7 → Prop} (n : Nat) (I : Nat → A1 → A3 → A4 → A5 → A6 → A7 → Prop) (hx : ∀ (a1 : A1) (a3 : A3) (a4 : A4) (a5 : A5) (a6 : A6) (a7 : A7) (Φ : A1 → Int32 → A3 → A4 → A5 → A6 → A7 → Prop), I n a1 a3 a4 a5 a6 a7 → B Φ a1 (nI n) a3 a4 a5 a6 a7) (hs : ∀ (k : Nat) (a1 : A1) (a3 : A3) (a4 : A4) (a5 : A5) (a6 : A6) (a7 : A7) (Φ : A1 → Int32 → A3 → A4 → A5 → A6 → A7 → Prop), k < n → I k a1 a3 a4 a5 a6 a7 → (∀ (b1 : A1) (b3 : A3) (b4 : A4) (b5 : A5) (b6 : A6) (b7 : A7), I (k + 1) b1 b3 b4 b5 b6 b7 → Φ b1 (nI (k + 1)) b3 b4 b5 b6 b7) → B Φ a1 (nI k) a3 a4 a5 a6 a7) (k : Nat) (a1 : A1) (a3 : A3) (a4 : A4) (a5 : A5) (a6 : A6) (a7 : A7) (hk : k ≤ n) (h : I k a1 a3 a4 a5 a6 a7) : wl7 B a1 (nI k) a3 a4 a5 a6 a7 := by
  have key : ∀ (f k : Nat) (a1 : A1) (a3 : A3) (a4 : A4) (a5 : A5) (a6 : A6) (a7 : A7), k ≤ n → n < k + f → I k a1 a3 a4 a5 a6 a7 → it7 B f a1 (nI k) a3 a4 a5 a6 a7 := by
    intro f
    induction f with
    | zero => intro k a1 a3 a4 a5 a6 a7 h1 h2; omega
    | succ f ih =>
      intro k a1 a3 a4 a5 a6 a7 h1 h2 h3
      rcases Nat.lt_or_ge k n with q | q
      · exact hs k a1 a3 a4 a5 a6 a7 _ q h3 (fun b1 b3 b4 b5 b6 b7 hb => ih (k + 1) b1 b3 b4 b5 b6 b7 (by omega) (by omega) hb)
      · have e : k = n := by omega
        subst e
        exact hx a1 a3 a4 a5 a6 a7 _ h3
  exact ⟨n - k + 1, key _ k a1 a3 a4 a5 a6 a7 hk (by omega) h⟩
theorem for7_3 {A1 A2 A4 A5 A6 A7 : Type} {B : (A1 → A2 → Int32 → A4 → A5 → A6 → A7 → Prop) → A1 → A2 → Int32 → A4 → A5 → A6 → A7 → Prop} (n : Nat) (I : Nat → A1 → A2 → A4 → A5 → A6 → A7 → Prop) (hx : ∀ (a1 : A1) (a2 : A2) (a4 : A4) (a5 : A5) (a6 : A6) (a7 : A7) (Φ : A1 → A2 → Int32 → A4 → A5 → A6 → A7 → Prop), I n a1 a2 a4 a5 a6 a7 → B Φ a1 a2 (nI n) a4 a5 a6 a7) (hs : ∀ (k : Nat) (a1 : A1) (a2 : A2) (a4 : A4) (a5 : A5) (a6 : A6) (a7 : A7) (Φ : A1 → A2 → Int32 → A4 → A5 → A6 → A7 → Prop), k < n → I k a1 a2 a4 a5 a6 a7 → (∀ (b1 : A1) (b2 : A2) (b4 : A4) (b5 : A5) (b6 : A6) (b7 : A7), I (k + 1) b1 b2 b4 b5 b6 b7 → Φ b1 b2 (nI (k + 1)) b4 b5 b6 b7) → B Φ a1 a2 (nI k) a4 a5 a6 a7) (k : Nat) (a1 : A1) (a2 : A2) (a4 : A4) (a5 : A5) (a6 : A6) (a7 : A7) (hk : k ≤ n) (h : I k a1 a2 a4 a5 a6 a7) : wl7 B a1 a2 (nI k) a4 a5 a6 a7 := by
  have key : ∀ (f k : Nat) (a1 : A1) (a2 : A2) (a4 : A4) (a5 : A5) (a6 : A6) (a7 : A7), k ≤ n → n < k + f → I k a1 a2 a4 a5 a6 a7 → it7 B f a1 a2 (nI k) a4 a5 a6 a7 := by
    intro f
    induction f with
    | zero => intro k a1 a2 a4 a5 a6 a7 h1 h2; omega
    | succ f ih =>
      intro k a1 a2 a4 a5 a6 a7 h1 h2 h3
      rcases Nat.lt_or_ge k n with q | q
      · exact hs k a1 a2 a4 a5 a6 a7 _ q h3 (fun b1 b2 b4 b5 b6 b7 hb => ih (k + 1) b1 b2 b4 b5 b6 b7 (by omega) (by omega) hb)
      · have e : k = n := by omega
        subst e
        exact hx a1 a2 a4 a5 a6 a7 _ h3
  exact ⟨n - k + 1, key _ k a1 a2 a4 a5 a6 a7 hk (by omega) h⟩
theorem for7_4 {A1 A2 A3 A5 A6 A7 : Type} {B : (A1 → A2 → A3 → Int32 → A5 → A6 → A7 → Prop) → A1 → A2 → A3 → Int32 → A5 → A6 → A7 → Prop} (n : Nat) (I : Nat → A1 → A2 → A3 → A5 → A6 → A7 → Prop) (hx : ∀ (a1 : A1) (a2 : A2) (a3 : A3) (a5 : A5) (a6 : A6) (a7 : A7) (Φ : A1 → A2 → A3 → Int32 → A5 → A6 → A7 → Prop), I n a1 a2 a3 a5 a6 a7 → B Φ a1 a2 a3 (nI n) a5 a6 a7) (hs : ∀ (k : Nat) (a1 : A1) (a2 : A2) (a3 : A3) (a5 : A5) (a6 : A6) (a7 : A7) (Φ : A1 → A2 → A3 → Int32 → A5 → A6 → A7 → Prop), k < n → I k a1 a2 a3 a5 a6 a7 → (∀ (b1 : A1) (b2 : A2) (b3 : A3) (b5 : A5) (b6 : A6) (b7 : A7), I (k + 1) b1 b2 b3 b5 b6 b7 → Φ b1 b2 b3 (nI (k + 1)) b5 b6 b7) → B Φ a1 a2 a3 (nI k) a5 a6 a7) (k : Nat) (a1 : A1) (a2 : A2) (a3 : A3) (a5 : A5) (a6 : A6) (a7 : A7) (hk : k ≤ n) (h : I k a1 a2 a3 a5 a6 a7) : wl7 B a1 a2 a3 (nI k) a5 a6 a7 := by
  have key : ∀ (f k : Nat) (a1 : A1) (a2 : A2) (a3 : A3) (a5 : A5) (a6 : A6) (a7 : A7), k ≤ n → n < k + f → I k a1 a2 a3 a5 a6 a7 → it7 B f a1 a2 a3 (nI k) a5 a6 a7 := by
    intro f
    induction f with
    | zero => intro k a1 a2 a3 a5 a6 a7 h1 h2; omega
    | succ f ih =>
      intro k a1 a2 a3 a5 a6 a7 h1 h2 h3
      rcases Nat.lt_or_ge k n with q | q
      · exact hs k a1 a2 a3 a5 a6 a7 _ q h3 (fun b1 b2 b3 b5 b6 b7 hb => ih (k + 1) b1 b2 b3 b5 b6 b7 (by omega) (by omega) hb)
      · have e : k = n := by omega
        subst e
        exact hx a1 a2 a3 a5 a6 a7 _ h3
  exact ⟨n - k + 1, key _ k a1 a2 a3 a5 a6 a7 hk (by omega) h⟩
theorem for7_5 {A1 A2 A3 A4 A6 A7 : Type} {B : (A1 → A2 → A3 → A4 → Int32 → A6 → A7 → Prop) → A1 → A2 → A3 → A4 → Int32 → A6 → A7 → Prop} (n : Nat) (I : Nat → A1 → A2 → A3 → A4 → A6 → A7 → Prop) (hx : ∀ (a1 : A1) (a2 : A2) (a3 : A3) (a4 : A4) (a6 : A6) (a7 : A7) (Φ : A1 → A2 → A3 → A4 → Int32 → A6 → A7 → Prop), I n a1 a2 a3 a4 a6 a7 → B Φ a1 a2 a3 a4 (nI n) a6 a7) (hs : ∀ (k : Nat) (a1 : A1) (a2 : A2) (a3 : A3) (a4 : A4) (a6 : A6) (a7 : A7) (Φ : A1 → A2 → A3 → A4 → Int32 → A6 → A7 → Prop), k < n → I k a1 a2 a3 a4 a6 a7 → (∀ (b1 : A1) (b2 : A2) (b3 : A3) (b4 : A4) (b6 : A6) (b7 : A7), I (k + 1) b1 b2 b3 b4 b6 b7 → Φ b1 b2 b3 b4 (nI (k + 1)) b6 b7) → B Φ a1 a2 a3 a4 (nI k) a6 a7) (k : Nat) (a1 : A1) (a2 : A2) (a3 : A3) (a4 : A4) (a6 : A6) (a7 : A7) (hk : k ≤ n) (h : I k a1 a2 a3 a4 a6 a7) : wl7 B a1 a2 a3 a4 (nI k) a6 a7 := by
  have key : ∀ (f k : Nat) (a1 : A1) (a2 : A2) (a3 : A3) (a4 : A4) (a6 : A6) (a7 : A7), k ≤ n → n < k + f → I k a1 a2 a3 a4 a6 a7 → it7 B f a1 a2 a3 a4 (nI k) a6 a7 := by
    intro f
    induction f with
    | zero => intro k a1 a2 a3 a4 a6 a7 h1 h2; omega
    | succ f ih =>
      intro k a1 a2 a3 a4 a6 a7 h1 h2 h3
      rcases Nat.lt_or_ge k n with q | q
      · exact hs k a1 a2 a3 a4 a6 a7 _ q h3 (fun b1 b2 b3 b4 b6 b7 hb => ih (k + 1) b1 b2 b3 b4 b6 b7 (by omega) (by omega) hb)
      · have e : k = n := by omega
        subst e
        exact hx a1 a2 a3 a4 a6 a7 _ h3
  exact ⟨n - k + 1, key _ k a1 a2 a3 a4 a6 a7 hk (by omega) h⟩
theorem for7_6 {A1 A2 A3 A4 A5 A7 : Type} {B : (A1 → A2 → A3 → A4 → A5 → Int32 → A7 → Prop) → A1 → A2 → A3 → A4 → A5 → Int32 → A7 → Prop} (n : Nat) (I : Nat → A1 → A2 → A3 → A4 → A5 → A7 → Prop) (hx : ∀ (a1 : A1) (a2 : A2) (a3 : A3) (a4 : A4) (a5 : A5) (a7 : A7) (Φ : A1 → A2 → A3 → A4 → A5 → Int32 → A7 → Prop), I n a1 a2 a3 a4 a5 a7 → B Φ a1 a2 a3 a4 a5 (nI n) a7) (hs : ∀ (k : Nat) (a1 : A1) (a2 : A2) (a3 : A3) (a4 : A4) (a5 : A5) (a7 : A7) (Φ : A1 → A2 → A3 → A4 → A5 → Int32 → A7 → Prop), k < n → I k a1 a2 a3 a4 a5 a7 → (∀ (b1 : A1) (b2 : A2) (b3 : A3) (b4 : A4) (b5 : A5) (b7 : A7), I (k + 1) b1 b2 b3 b4 b5 b7 → Φ b1 b2 b3 b4 b5 (nI (k + 1)) b7) → B Φ a1 a2 a3 a4 a5 (nI k) a7) (k : Nat) (a1 : A1) (a2 : A2) (a3 : A3) (a4 : A4) (a5 : A5) (a7 : A7) (hk : k ≤ n) (h : I k a1 a2 a3 a4 a5 a7) : wl7 B a1 a2 a3 a4 a5 (nI k) a7 := by
  have key : ∀ (f k : Nat) (a1 : A1) (a2 : A2) (a3 : A3) (a4 : A4) (a5 : A5) (a7 : A7), k ≤ n → n < k + f → I k a1 a2 a3 a4 a5 a7 → it7 B f a1 a2 a3 a4 a5 (nI k) a7 := by
    intro f
    induction f with
    | zero => intro k a1 a2 a3 a4 a5 a7 h1 h2; omega
    | succ f ih =>
      intro k a1 a2 a3 a4 a5 a7 h1 h2 h3
      rcases Nat.lt_or_ge k n with q | q
      · exact hs k a1 a2 a3 a4 a5 a7 _ q h3 (fun b1 b2 b3 b4 b5 b7 hb => ih (k + 1) b1 b2 b3 b4 b5 b7 (by omega) (by omega) hb)
      · have e : k = n := by omega
        subst e
        exact hx a1 a2 a3 a4 a5 a7 _ h3
  exact ⟨n - k + 1, key _ k a1 a2 a3 a4 a5 a7 hk (by omega) h⟩
theorem for7_7 {A1 A2 A3 A4 A5 A6 : Type} {B : (A1 → A2 → A3 → A4 → A5 → A6 → Int32 → Prop) → A1 → A2 → A3 → A4 → A5 → A6 → Int32 → Prop} (n : Nat) (I : Nat → A1 → A2 → A3 → A4 → A5 → A6 → Prop) (hx : ∀ (a1 : A1) (a2 : A2) (a3 : A3) (a4 : A4) (a5 : A5) (a6 : A6) (Φ : A1 → A2 → A3 → A4 → A5 → A6 → Int32 → Prop), I n a1 a2 a3 a4 a5 a6 → B Φ a1 a2 a3 a4 a5 a6 (nI n)) (hs : ∀ (k : Nat) (a1 : A1) (a2 : A2) (a3 : A3) (a4 : A4) (a5 : A5) (a6 : A6) (Φ : A1 → A2 → A3 → A4 → A5 → A6 → Int32 → Prop), k < n → I k a1 a2 a3 a4 a5 a6 → (∀ (b1 : A1) (b2 : A2) (b3 : A3) (b4 : A4) (b5 : A5) (b6 : A6), I (k + 1) b1 b2 b3 b4 b5 b6 → Φ b1 b2 b3 b4 b5 b6 (nI (k + 1))) → B Φ a1 a2 a3 a4 a5 a6 (nI k)) (k : Nat) (a1 : A1) (a2 : A2) (a3 : A3) (a4 : A4) (a5 : A5) (a6 : A6) (hk : k ≤ n) (h : I k a1 a2 a3 a4 a5 a6) : wl7 B a1 a2 a3 a4 a5 a6 (nI k) := by
  have key : ∀ (f k : Nat) (a1 : A1) (a2 : A2) (a3 : A3) (a4 : A4) (a5 : A5) (a6 : A6), k ≤ n → n < k + f → I k a1 a2 a3 a4 a5 a6 → it7 B f a1 a2 a3 a4 a5 a6 (nI k) := by
    intro f
    induction f with
    | zero => intro k a1 a2 a3 a4 a5 a6 h1 h2; omega
    | succ f ih =>
      intro k a1 a2 a3 a4 a5 a6 h1 h2 h3
      rcases Nat.lt_or_ge k n with q | q
      · exact hs k a1 a2 a3 a4 a5 a6 _ q h3 (fun b1 b2 b3 b4 b5 b6 hb => ih (k + 1) b1 b2 b3 b4 b5 b6 (by omega) (by omega) hb)
      · have e : k = n := by omega
        subst e
        exact hx a1 a2 a3 a4 a5 a6 _ h3
  exact ⟨n - k + 1, key _ k a1 a2 a3 a4 a5 a6 hk (by omega) h⟩

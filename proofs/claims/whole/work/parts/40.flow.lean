/-! sums of longs; the class's flow -/
def sumL (f : Nat → Int64) : Nat → Int64
  | 0 => 0
  | n + 1 => sumL f n + f n
theorem sumL_congr {f g : Nat → Int64} {n : Nat} (h : ∀ y, y < n → f y = g y) : sumL f n = sumL g n := by
  induction n with
  | zero => rfl
  | succ n ih => simp only [sumL]; rw [ih (fun y hy => h y (by omega)), h n (by omega)]
theorem sumL_zero {f : Nat → Int64} {n : Nat} (h : ∀ y, y < n → f y = 0) : sumL f n = 0 := by
  induction n with
  | zero => rfl
  | succ n ih => simp only [sumL]; rw [ih (fun y hy => h y (by omega)), h n (by omega)]; rfl
theorem sumL_add (f g : Nat → Int64) (n : Nat) : sumL f n + sumL g n = sumL (fun y => f y + g y) n := by
  induction n with
  | zero => rfl
  | succ n ih =>
    simp only [sumL]
    rw [← ih]
    rw [Int64.add_assoc, Int64.add_assoc]
    congr 1
    rw [← Int64.add_assoc, Int64.add_comm (f n), Int64.add_assoc]
theorem sumL_upd (f : Nat → Int64) (a : Nat) (d : Int64) (n : Nat) : sumL (fun y => if a = y then f y + d else f y) n = if a < n then sumL f n + d else sumL f n := by
  induction n with
  | zero => rfl
  | succ n ih =>
    simp only [sumL]
    rw [ih]
    by_cases e : a = n
    · subst e
      rw [if_neg (by omega), if_pos rfl, if_pos (by omega), Int64.add_assoc]
    · rw [if_neg e]
      by_cases e2 : a < n
      · rw [if_pos e2, if_pos (by omega), Int64.add_assoc, Int64.add_comm d, Int64.add_assoc]
      · rw [if_neg e2, if_neg (by omega)]
/-- what comes to y by pull p from the heights below n -/
def cntL (k p : Nat) (t : Int64) (F : Nat → Int64) : Nat → Nat → Int64
  | 0, _ => 0
  | n + 1, y => if aN k n p = y then cntL k p t F n y + F n * t else cntL k p t F n y
theorem cntL_congr {k p : Nat} {t : Int64} {F G : Nat → Int64} {n y : Nat} (h : ∀ x, x < n → F x = G x) : cntL k p t F n y = cntL k p t G n y := by
  induction n with
  | zero => rfl
  | succ n ih => simp only [cntL]; rw [ih (fun x hx => h x (by omega)), h n (by omega)]
theorem dot_cnt (k p : Nat) (t : Int64) (F T W : Nat → Int64) (n : Nat) : sumL (fun y => (T y + cntL k p t F n y) * W y) 21 = sumL (fun y => T y * W y) 21 + sumL (fun x => if aN k x p = 21 then 0 else F x * t * W (aN k x p)) n := by
  induction n with
  | zero =>
    show _ = _ + (0 : Int64)
    rw [Int64.add_zero]
    exact sumL_congr (fun y _ => by show (T y + 0) * W y = _; rw [Int64.add_zero])
  | succ n ih =>
    have hl := aN_le k n p
    rw [show sumL (fun x => if aN k x p = 21 then 0 else F x * t * W (aN k x p)) (n + 1) = sumL (fun x => if aN k x p = 21 then 0 else F x * t * W (aN k x p)) n + (if aN k n p = 21 then 0 else F n * t * W (aN k n p)) from rfl, ← Int64.add_assoc, ← ih]
    by_cases e : aN k n p = 21
    · rw [if_pos e, Int64.add_zero]
      refine sumL_congr (fun y hy => ?_)
      simp only [cntL]
      rw [if_neg (by omega)]
    · rw [if_neg e]
      have h := sumL_upd (fun y => (T y + cntL k p t F n y) * W y) (aN k n p) (F n * t * W (aN k n p)) 21
      rw [if_pos (by omega)] at h
      rw [← h]
      refine sumL_congr (fun y hy => ?_)
      simp only [cntL]
      by_cases e2 : aN k n p = y
      · rw [if_pos e2, if_pos e2, e2, ← Int64.add_assoc, Int64.add_mul]
      · rw [if_neg e2, if_neg e2]
/-- the class's flow: F here, T there -/
def FL (c c' : St) (F T : Nat → Int64) : Prop := c'.1 = c.1 ∧ (∀ x, x < 21 → c'.2 80 x = F x) ∧ (∀ x, x < 21 → c'.2 81 x = T x) ∧ ∀ a b, a ≠ 80 → a ≠ 81 → c'.2 a b = c.2 a b
theorem fillL_s {c : St} {k : Nat} {v : Int64} {K : St → Prop} (hK : ∀ τ : St, τ.1 = c.1 → (∀ x, x < 21 → τ.2 k x = v) → (∀ a b, a ≠ k → τ.2 a b = c.2 a b) → K τ) : wp_J7_fill_d0a16 k 21 v c K := by
  unfold wp_J7_fill_d0a16 L_J7_fill_d0a16_6
  refine for2_1 21 (fun j τ => τ.1 = c.1 ∧ (∀ x, x < j → τ.2 k x = v) ∧ ∀ a b, a ≠ k → τ.2 a b = c.2 a b) ?_ ?_ 0 c (Nat.zero_le _) ⟨rfl, fun x hx => by omega, fun _ _ _ => rfl⟩
  · rintro τ Φ ⟨t1, t2, t3⟩
    unfold B_J7_fill_d0a16_6
    exact ite_tt (hK τ t1 t2 t3) (Int32.le_refl _)
  · rintro j τ Φ hj ⟨t1, t2, t3⟩ hΦ
    unfold B_J7_fill_d0a16_6
    rw [nI_clamp (by omega), show nI j + 1 = nI (j + 1) from nI_1 j]
    refine ite_ff ⟨vp_in_nI hj (by decide), hΦ _ ⟨t1, fun x hx => ?_, fun a b ha => (uL_c ha).trans (t3 a b ha)⟩⟩ (nI_ge hj (by decide))
    by_cases e : x = j
    · subst e; exact uL_s _ _ _ _
    · exact (uL_n e).trans (t2 x (by omega))
theorem flowBegin_s {c : St} {h : Nat} (hh : h ≤ 20) {K : St → Prop} (hK : ∀ τ, FL c τ (fun x => if x = h then 1 else 0) (fun _ => 0) → K τ) : wp_X2_begin (nI h) c K := by
  unfold wp_X2_begin J_X2_begin_33
  refine fillL_s (fun t1 a1 a2 a3 => fillL_s (fun t2 b1 b2 b3 => ?_))
  refine ite_ff (ite_ff ⟨vp_in_nI (by omega) (by decide), hK _ ⟨b1.trans a1, fun x hx => ?_, fun x hx => ?_, fun a b h1 h2 => ?_⟩⟩ (by rw [lit_nI, nI_le' (by decide) (by omega)]; omega)) (by rw [lit_nI, nI_lt' (by omega) (by decide)]; omega)
  · rw [nI_clamp (by omega)]
    by_cases e : x = h
    · subst e; rw [uL_s]; exact (if_pos rfl).symm
    · rw [uL_n e, b3 _ _ (by decide), a2 x hx]; exact (if_neg e).symm
  · rw [uL_c (by decide), b2 x hx]
  · rw [uL_c h1, b3 _ _ h2, a3 _ _ h1]
theorem spread_s {c τ : St} {k p : Nat} {t : Int64} {F T : Nat → Int64} (hk : k < 6) (hp : p < 8) (h : FL c τ F T) {K : St → Prop} (hK : ∀ τ', FL c τ' F (fun y => T y + cntL k p t F 21 y) → K τ') : wp_X2_spread (nI k) (nI p) t τ K := by
  obtain ⟨h1, h2, h3, h4⟩ := h
  obtain ⟨C, C0, Cs, Ce⟩ : ∃ C : Nat → Nat → Int64, (∀ y, C 0 y = 0) ∧ (∀ n y, C (n + 1) y = if aN k n p = y then C n y + F n * t else C n y) ∧ cntL k p t F = C := ⟨cntL k p t F, fun _ => rfl, fun _ _ => rfl, rfl⟩
  rw [Ce] at hK
  unfold wp_X2_spread L_X2_spread_3
  refine for2_1 21 (fun j τ => τ.1 = c.1 ∧ (∀ x, x < 21 → τ.2 80 x = F x) ∧ (∀ x, x < 21 → τ.2 81 x = T x + C j x) ∧ ∀ a b, a ≠ 80 → a ≠ 81 → τ.2 a b = c.2 a b) ?_ ?_ 0 _ (Nat.zero_le _) ⟨h1, h2, fun x hx => by rw [C0, Int64.add_zero]; exact h3 x hx, h4⟩
  · rintro τ Φ ⟨t1, t2, t3, t4⟩
    unfold B_X2_spread_3
    exact ite_tt (hK τ ⟨t1, t2, t3, t4⟩) (by decide)
  · rintro j τ Φ hj ⟨t1, t2, t3, t4⟩ hΦ
    unfold B_X2_spread_3 J_X2_spread_44
    rw [show nI j + 1 = nI (j + 1) from nI_1 j]
    have hl := aN_le k j p
    refine ite_ff (after_s hk (by omega) (by omega) (ite_c (fun z => hΦ _ ⟨t1, t2, fun x hx => ?_, t4⟩) (fun z => ?_))) (nI_ge hj (by decide))
    · rw [eA_m1 hl] at z
      rw [t3 x hx, Cs, if_neg (by omega)]
    · rw [eA_m1 hl] at z
      rw [eA_n z, nI_clamp (by omega), nI_clamp (show j < 2 ^ 31 by omega), t2 j hj, t3 _ (show aN k j p < 21 by omega)]
      have hv := vp_in_nI (n := aN k j p) (N := 21) (by omega) (by decide)
      refine ⟨hv, vp_in_nI hj (by decide), hv, hΦ _ ⟨t1, fun x hx => (uL_c (by decide)).trans (t2 x hx), fun x hx => ?_, fun a b ha hb => (uL_c hb).trans (t4 a b ha hb)⟩⟩
      rw [Cs]
      by_cases e : aN k j p = x
      · rw [if_pos e, e, uL_s, Int64.add_assoc]
      · rw [if_neg e, uL_n (fun q => e q.symm), t3 x hx]
theorem turn_s {c τ : St} {F T : Nat → Int64} (h : FL c τ F T) {K : St → Prop} (hK : ∀ τ', FL c τ' T (fun _ => 0) → K τ') : wp_X2_turn τ K := by
  obtain ⟨h1, h2, h3, h4⟩ := h
  unfold wp_X2_turn
  refine ⟨by decide, by decide, by decide, by decide, by decide, fillL_s (fun τ' a1 a2 a3 => hK _ ⟨a1.trans h1, fun x hx => ?_, a2, fun a b ha hb => ?_⟩)⟩
  · rw [a3 _ _ (by decide)]
    show (if (80 : Nat) = 80 then va_cpy (τ.2 81) (τ.2 80) (0 : Int32).toNatClampNeg (0 : Int32).toNatClampNeg (21 : Int32).toNatClampNeg x else τ.2 80 x) = T x
    rw [if_pos rfl, show (0 : Int32).toNatClampNeg = 0 from rfl, show (21 : Int32).toNatClampNeg = 21 from rfl]
    unfold va_cpy
    rw [if_pos (by omega), show 0 + (x - 0) = x by omega]
    exact h3 x hx
  · rw [a3 _ _ hb]
    show (if a = 80 then _ else τ.2 a b) = c.2 a b
    rw [if_neg ha]
    exact h4 a b ha hb
theorem Rel.tellL {c m : St} (h : Rel c m) (x y : Int64) : Rel (uL (uL c 0 13 x) 0 14 y) (uL (uL m 0 11 x) 0 12 y) := by
  obtain ⟨t1, t2, t3, t4, t5⟩ := h.1
  refine h.mk1 ⟨t1, t2, t3, ?_, ?_⟩ h.2.1 h.2.2.1 ⟨fun _ _ _ => rfl, rfl, fun _ _ => rfl, fun _ => rfl⟩
  · rw [uL_n (by decide), uL_s, uL_n (by decide), uL_s]
  · rw [uL_s, uL_s]
theorem FL.keep {c τ m : St} {F T : Nat → Int64} (h : FL c τ F T) (hR : Rel c m) : Rel τ m := hR.keep ⟨fun k j _ => by rw [h.1], fun j => h.2.2.2 _ _ (by decide) (by decide)⟩ (KeepM.rf m)

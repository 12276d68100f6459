/-! at the start the two are alike -/
theorem sgC {k j : Nat} (h : k ≠ 73) : sigC0.1 k j = nI 0 := by
  show (if k = 73 ∧ j = 2 then (-9 : Int32) else 0) = nI 0
  rw [if_neg (fun q => h q.1)]; rfl
theorem sgM {k j : Nat} (h : ¬ (k = 4 ∨ k = 6 ∨ k = 2)) : sigM0.1 k j = nI 0 := by
  show (if k = 4 ∨ k = 6 ∨ k = 2 then (-1 : Int32) else 0) = nI 0
  rw [if_neg h]; rfl
theorem sgN {k j : Nat} (h : k = 4 ∨ k = 6 ∨ k = 2) : sigM0.1 k j = -nI 1 := by
  show (if k = 4 ∨ k = 6 ∨ k = 2 then (-1 : Int32) else 0) = -nI 1
  rw [if_pos h]; rfl
theorem rel0 : Rel sigC0 sigM0 := by
  refine ⟨⟨fun f _ => ?_, rfl, rfl, rfl, rfl⟩, fun ρ hr => Or.inr ⟨sgC (by omega), sgC (by omega), sgN (by omega)⟩, fun ρ hr => Or.inr ⟨sgC (by omega), sgC (by omega), sgN (by omega)⟩, ⟨0, 0, 0, ⟨by omega, by omega, by omega, sgC (by omega), sgC (by omega), sgC (by omega), fun i hi => absurd hi (Nat.not_lt_zero _), fun j hj => absurd hj (Nat.not_lt_zero _)⟩, ⟨sgM (by omega), sgM (by omega), fun i hi => absurd hi (Nat.not_lt_zero _), fun j hj => absurd hj (Nat.not_lt_zero _)⟩, sgM (by omega)⟩, fun k hk => Or.inl ⟨sgC (by omega), sgN (by omega)⟩⟩
  rw [sgC (by omega), sgM (by omega)]

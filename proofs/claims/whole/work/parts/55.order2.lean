/-! rows and their orders -/
section ORD
variable {c m : St} {n dm d : Nat}
theorem rk_pos {t : Nat → Nat → Nat} {i p : Nat} (h : t i p ≠ 0) : rkN t i p = (2 * i + t i p) * 6 + i + 1 := by unfold rkN; rw [if_neg h]
theorem rk_0 {t : Nat → Nat → Nat} {i p : Nat} (h : 0 < rkN t i p) : t i p ≠ 0 := by
  intro e; unfold rkN at h; rw [if_pos e] at h; omega
theorem row_order (N : Now c m n dm d) {r : Nat → Nat} (hA : rowA n (od c) (sN c dm) r) : (hearF (rowF (od c) (sN c dm) r) n).1 = n - ovN c n ∧ isOrd c n (n - ovN c n) (hearF (rowF (od c) (sN c dm) r) n).2.1 ∧ (∀ k, k < n - ovN c n → (hearF (rowF (od c) (sN c dm) r) n).2.2 k = 2 * (hearF (rowF (od c) (sN c dm) r) n).2.1 k + sN c dm ((hearF (rowF (od c) (sN c dm) r) n).2.1 k) (r ((hearF (rowF (od c) (sN c dm) r) n).2.1 k)) ∧ 0 < rkN (sN c dm) ((hearF (rowF (od c) (sN c dm) r) n).2.1 k) (r ((hearF (rowF (od c) (sN c dm) r) n).2.1 k))) ∧ ∀ k, k + 1 < n - ovN c n → rkN (sN c dm) ((hearF (rowF (od c) (sN c dm) r) n).2.1 k) (r ((hearF (rowF (od c) (sN c dm) r) n).2.1 k)) < rkN (sN c dm) ((hearF (rowF (od c) (sN c dm) r) n).2.1 (k + 1)) (r ((hearF (rowF (od c) (sN c dm) r) n).2.1 (k + 1))) := by
  have hn := N.1.1
  have h0 := (heardN (c := c) (dm := dm) (p := r) n N.od1).2.2.mpr (rowA_v hA)
  obtain ⟨h1, h2, h3⟩ := hearF_hp (f := rowF (od c) (sN c dm) r) (n := n) hn
  generalize hearF (rowF (od c) (sN c dm) r) n = X at h0 h1 h2 h3
  obtain ⟨x, u, t⟩ := X
  have h0 : x = n - ovN c n := h0
  have h1 : ∀ j, j < x → u j < n ∧ rowF (od c) (sN c dm) r (u j) ≠ 0 ∧ t j = 2 * u j + rowF (od c) (sN c dm) r (u j) := h1
  have h2 : ∀ j, j + 1 < x → t j * 6 + u j < t (j + 1) * 6 + u (j + 1) := h2
  rw [← h0]
  have o0 : ∀ j, j < x → od c (u j) = 0 ∧ rowF (od c) (sN c dm) r (u j) = sN c dm (u j) (r (u j)) := by
    intro j hj
    have a := h1 j hj
    have b := N.od1 (u j) a.1
    have e : od c (u j) = 0 := by
      rcases (show od c (u j) = 0 ∨ od c (u j) = 1 by omega) with e | e
      · exact e
      · have : rowF (od c) (sN c dm) r (u j) = 0 := by unfold rowF; rw [if_pos e]
        exact absurd this a.2.1
    refine ⟨e, ?_⟩
    unfold rowF; rw [if_neg (by omega)]
  have rk : ∀ j, j < x → rkN (sN c dm) (u j) (r (u j)) = t j * 6 + u j + 1 := by
    intro j hj
    have a := h1 j hj
    have b := o0 j hj
    rw [b.2] at a
    rw [rk_pos a.2.1, a.2.2]
  have inc : ∀ k, k + 1 < x → rkN (sN c dm) (u k) (r (u k)) < rkN (sN c dm) (u (k + 1)) (r (u (k + 1))) := by
    intro k hk
    rw [rk k (by omega), rk (k + 1) hk]
    have := h2 k hk
    omega
  refine ⟨rfl, ⟨h0, fun k hk => ⟨(h1 k hk).1, (o0 k hk).1⟩, fun j k hjk hk e => ?_⟩, fun k hk => ⟨?_, ?_⟩, inc⟩
  · have e' : u j = u k := e
    have := rise_mono (α := fun j => rkN (sN c dm) (u j) (r (u j))) inc (k - j) j (by omega) (by omega)
    rw [show j + (k - j) = k by omega] at this
    have this : rkN (sN c dm) (u j) (r (u j)) < rkN (sN c dm) (u k) (r (u k)) := this
    rw [e'] at this
    omega
  · rw [← (o0 k hk).2]; exact (h1 k hk).2.2
  · show 0 < rkN (sN c dm) (u k) (r (u k))
    rw [rk k hk]; omega
theorem row_is (N : Now c m n dm d) {r w : Nat → Nat} {s : Nat} (hA : rowA n (od c) (sN c dm) r) (hw : isOrd c n s w) (hinc : ∀ k, k + 1 < s → rkN (sN c dm) (w k) (r (w k)) < rkN (sN c dm) (w (k + 1)) (r (w (k + 1)))) : (hearF (rowF (od c) (sN c dm) r) n).1 = s ∧ ∀ j, j < s → (hearF (rowF (od c) (sN c dm) r) n).2.1 j = w j ∧ (hearF (rowF (od c) (sN c dm) r) n).2.2 j = 2 * w j + sN c dm (w j) (r (w j)) := by
  obtain ⟨a1, a2, a3, a4⟩ := row_order N hA
  have hs := hw.1
  rw [← hs] at a1 a2 a3 a4
  have he := rise_eq (s := s) (R := fun b => rkN (sN c dm) b (r b)) (u := (hearF (rowF (od c) (sN c dm) r) n).2.1) (w := w) a4 hinc (fun j hj => ord_all N.od1 a2 (w j) (hw.2.1 j hj).1 (hw.2.1 j hj).2)
  refine ⟨a1, fun j hj => ⟨he j hj, ?_⟩⟩
  rw [(a3 j hj).1, he j hj]
/-- the soonest row of an order rings it, and comes first -/
theorem gr_row (N : Now c m n dm d) {w : Nat → Nat} {s : Nat} (hw : isOrd c n s w) (hf : ∀ k, k < s → grY (rkN (sN c dm)) w k = true) : rowA n (od c) (sN c dm) (gRow (rkN (sN c dm)) w s) ∧ ∀ k, k + 1 < s → rkN (sN c dm) (w k) (gRow (rkN (sN c dm)) w s (w k)) < rkN (sN c dm) (w (k + 1)) (gRow (rkN (sN c dm)) w s (w (k + 1))) := by
  have hg := gRow_w (R := rkN (sN c dm)) hw.2.2
  refine ⟨fun j hj => ?_, fun k hk => ?_⟩
  · rcases (show od c j = 0 ∨ od c j = 1 by have := N.od1 j hj; omega) with o | o
    · obtain ⟨k, hk, ek⟩ := ord_all N.od1 hw j hj o
      have g := grY_t (hf k hk)
      have e := hg k hk
      rw [ek] at e g
      rw [e]
      refine ⟨g.1, fun z => by omega, fun _ => rk_0 (by omega)⟩
    · have e : gRow (rkN (sN c dm)) w s j = 0 := gRow_o (fun k hk z => by have := (hw.2.1 k hk).2; rw [z] at this; omega)
      rw [e]
      exact ⟨by omega, fun _ => rfl, fun z => by omega⟩
  · rw [hg k (by omega), hg (k + 1) hk]
    exact gr_inc hf k hk
theorem gr_first (N : Now c m n dm d) {r w : Nat → Nat} {s : Nat} (hA : rowA n (od c) (sN c dm) r) (hw : isOrd c n s w) (hinc : ∀ k, k + 1 < s → rkN (sN c dm) (w k) (r (w k)) < rkN (sN c dm) (w (k + 1)) (r (w (k + 1)))) : (∀ k, k < s → grY (rkN (sN c dm)) w k = true) ∧ ∀ j, j < n → gRow (rkN (sN c dm)) w s j ≤ r j := by
  have hd := gr_dom (R := rkN (sN c dm)) (w := w) (r := r) (s := s) (fun k hk p p' h1 h2 h3 h4 => rk_mono h1 h3 h4) (fun k hk => ⟨(hA (w k) (hw.2.1 k hk).1).1, by rw [rk_pos ((hA (w k) (hw.2.1 k hk).1).2.2 (hw.2.1 k hk).2)]; omega⟩) hinc
  refine ⟨fun k hk => (hd k hk).1, fun j hj => ?_⟩
  rcases (show od c j = 0 ∨ od c j = 1 by have := N.od1 j hj; omega) with o | o
  · obtain ⟨k, hk, ek⟩ := ord_all N.od1 hw j hj o
    have e := gRow_w (R := rkN (sN c dm)) hw.2.2 k hk
    have := (hd k hk).2.1
    rw [ek] at e this
    omega
  · rw [gRow_o (fun k hk z => by have := (hw.2.1 k hk).2; rw [z] at this; omega)]
    omega
end ORD
/-! the class: ranks and the soonest pull -/
def eR (x : Nat) : Int32 := if x = 0 then -9 else nI (x - 1)
theorem eR_le {x y : Nat} (hx : x < 2 ^ 20) (hy : y < 2 ^ 20) : (eR x ≤ eR y) = (x ≤ y) := by
  have n9 : (-9 : Int32).toInt = -9 := by decide
  unfold eR
  apply propext
  by_cases e1 : x = 0
  · rw [if_pos e1]
    refine ⟨fun _ => by omega, fun _ => ?_⟩
    by_cases e2 : y = 0
    · rw [if_pos e2]; exact Int32.le_refl _
    · rw [if_neg e2, Int32.le_iff_toInt_le, n9, nI_toInt (by omega)]; omega
  · rw [if_neg e1]
    by_cases e2 : y = 0
    · rw [if_pos e2, Int32.le_iff_toInt_le, n9, nI_toInt (by omega)]; omega
    · rw [if_neg e2, nI_le' (by omega) (by omega)]; omega
section SOON
variable {c m : St} {n dm d : Nat}
theorem rk_lt (N : Now c m n dm d) {i : Nat} (hi : i < n) (p : Nat) : rkN (sN c dm) i p < 2 ^ 10 := by
  have hn := N.1.1
  have := sN_le N hi p
  unfold rkN; split <;> omega
theorem rankBy_s (N : Now c m n dm d) {i p : Nat} (hi : i < n) (hp : p < 7) {K : Int32 → Prop} (hK : K (eR (rkN (sN c dm) i p))) : wp_X7_rankBy 25 (nI i) (nI p) c K := by
  have hn := N.1.1
  have h30 := sN_le N hi p
  unfold wp_X7_rankBy J_X7_rankBy_28
  refine tenthsBy_s N hi (by omega) ?_
  by_cases z : sN c dm i p = 0
  · have e : rkN (sN c dm) i p = 0 := by unfold rkN; rw [if_pos z]
    rw [e] at hK
    rw [z]
    exact ite_tt hK rfl
  · rw [rk_pos z] at hK
    rw [eT_n z]
    refine ite_ff ?_ (fun e => (nI_neg9 (a := sN c dm i p) (by omega)).mp e)
    have e : (((2 : Int32) * nI i + nI (sN c dm i p)) * 6 + nI i) = nI ((2 * i + sN c dm i p) * 6 + i) := by simp (disch := omega) only [lit_nI, nI_add, pk_mul, nI_clamp, vp_nI, nI_inj, nI_lt', nI_le', nI_neg1, nI_neg9, nI_neg3, neg1_nI, neg9_nI, neg_l0, neg_g0, ↓reduceIte, true_and, and_true, not_true_eq_false, not_false_eq_true, Nat.reduceEqDiff, Nat.reduceLeDiff, Nat.reduceAdd, Nat.reduceSub, Nat.reduceDiv, Nat.reduceMod, Nat.reducePow, Nat.reduceLT, Nat.reduceMul, Nat.not_lt_zero, Nat.zero_le, Nat.succ_ne_self, one_ne0, zero_ne1, ne_eq]
    rw [e]
    unfold eR at hK
    rw [if_neg (by omega)] at hK
    exact hK
theorem soonest_s (N : Now c m n dm d) {i β : Nat} (hi : i < n) (hβ : β < 2 ^ 20) {K : Int32 → Prop} (k1 : ∀ p, p < 7 → β < rkN (sN c dm) i p → anyB (fun p => decide (β < rkN (sN c dm) i p)) p = false → K (nI p)) (k9 : anyB (fun p => decide (β < rkN (sN c dm) i p)) 7 = false → K (-9)) : wp_X7_soonestPull 25 (nI i) (eR β) c K := by
  unfold wp_X7_soonestPull L_X7_soonestPull_2
  obtain ⟨A, A0, As, Ae⟩ : ∃ A : Nat → Bool, A 0 = false ∧ (∀ j, A (j + 1) = (A j || decide (β < rkN (sN c dm) i j))) ∧ ∀ p, anyB (fun p => decide (β < rkN (sN c dm) i p)) p = A p := ⟨anyB (fun p => decide (β < rkN (sN c dm) i p)), rfl, fun _ => rfl, fun _ => rfl⟩
  refine for1_1 7 (fun p => A p = false) ?_ ?_ 0 (Nat.zero_le _) A0
  · intro Φ ha
    unfold B_X7_soonestPull_2
    exact ite_tt (k9 ((Ae 7).trans ha)) (by decide)
  · intro p Φ hp ha hΦ
    unfold B_X7_soonestPull_2
    have hr := rk_lt N hi p
    rw [show nI p + 1 = nI (p + 1) from nI_1 p]
    refine ite_ff (rankBy_s N hi hp (ite_c (fun z => hΦ ?_) (fun z => k1 p hp ?_ ((Ae p).trans ha)))) (nI_ge hp (by decide))
    · rw [eR_le (by omega) hβ] at z
      rw [As, ha, decide_eq_false (by omega)]; rfl
    · rw [eR_le (by omega) hβ] at z; omega
end SOON

/-! the class's scan -/
/-- where bell i begins, the first at p0 -/
def psN (T : Nat → Int32) (s p0 : Nat) : Nat → Nat
  | 0 => p0
  | i + 1 => pb T s (psN T s p0 i + 4)
def goodTo (T : Nat → Int32) (s p0 i : Nat) : Prop := ∀ j, j < i → gdN T s (psN T s p0 j) = 4 ∧ (0 < j → psN T s p0 j < s)
theorem ps_le {T : Nat → Int32} {s p0 i : Nat} (h0 : p0 ≤ s) (hg : goodTo T s p0 i) : psN T s p0 i ≤ s := by
  cases i with
  | zero => exact h0
  | succ i =>
    have := gd_4 (hg i (by omega)).1
    exact pb_le _ _ rfl (by omega)
/-- the draft: n bells read from p0 on, damp dm -/
def DraftC (c c' : St) (T : Nat → Int32) (s p0 dm i : Nat) : Prop := c'.1 34 2 = nI i ∧ c'.1 34 3 = nI dm ∧ c'.1 34 4 = nI 0 ∧ (∀ j, j < i → c'.1 (37 + j) 0 = nI (kdN T s (psN T s p0 j)) ∧ c'.1 (37 + j) 1 = nI (fgN T s (psN T s p0 j + 1)) ∧ c'.1 (37 + j) 2 = nI (10 * fgN T s (psN T s p0 j + 2) + fgN T s (psN T s p0 j + 3)) ∧ c'.1 (37 + j) 3 = c'.1 (37 + j) 2 ∧ c'.1 (37 + j) 4 = 0 ∧ c'.1 (37 + j) 5 = 0) ∧ (∀ a b, a < 34 ∨ 43 ≤ a → c'.1 a b = c.1 a b) ∧ c'.2 = c.2
theorem TxC.keep {c c' : St} {k s : Nat} {T : Nat → Int32} (h : TxC c k T s) (hk : k < 33) (hc : ∀ a b, a < 34 ∨ 43 ≤ a → c'.1 a b = c.1 a b) : TxC c' k T s := ⟨h.1, by rw [hc _ _ (by omega)]; exact h.2.1, fun i hi => by rw [hc _ _ (by omega)]; exact h.2.2 i hi⟩
theorem addBell_s {c : St} {i k w h : Nat} (hi : i < 6) (h2 : c.1 34 2 = nI i) {K : St → Prop} (hK : ∀ c' : St, c'.1 34 2 = nI (i + 1) → c'.1 34 3 = c.1 34 3 → c'.1 34 4 = c.1 34 4 → (c'.1 (37 + i) 0 = nI k ∧ c'.1 (37 + i) 1 = nI w ∧ c'.1 (37 + i) 2 = nI h ∧ c'.1 (37 + i) 3 = c'.1 (37 + i) 2 ∧ c'.1 (37 + i) 4 = 0 ∧ c'.1 (37 + i) 5 = 0) → (∀ a b, a ≠ 34 → a ≠ 37 + i → c'.1 a b = c.1 a b) → c'.2 = c.2 → K c') : wp_X7_addBell 34 (nI k) (nI w) (nI h) c K := by
  unfold wp_X7_addBell wp_X0_begin wp_X0_rewind J_X7_addBell_34
  rw [h2, nI_clamp (by omega), show 34 + 3 + i = 37 + i by omega]
  refine ite_ff ⟨vp_in_nI hi (by decide), hK _ ?_ ?_ ?_ ⟨?_, ?_, ?_, ?_, ?_, ?_⟩ (fun a b h1 h3 => ?_) rfl⟩ (nI_ge hi (by decide))
  · rw [uI_s]
    simp only [uI_1]
    simp only [show (34 : Nat) ≠ 37 + i by omega, false_and, if_false]
    rw [h2]; exact nI_1 i
  · simp only [uI_1]
    simp only [show (34 : Nat) ≠ 37 + i by omega, false_and, if_false, true_and]
    rfl
  · simp only [uI_1]
    simp only [show (34 : Nat) ≠ 37 + i by omega, false_and, if_false, true_and]
    rfl
  · simp only [uI_1, show 37 + i ≠ 34 by omega, false_and, if_false, true_and]; simp
  · simp only [uI_1, show 37 + i ≠ 34 by omega, false_and, if_false, true_and]; simp
  · simp only [uI_1, show 37 + i ≠ 34 by omega, false_and, if_false, true_and]; simp
  · simp only [uI_1, show 37 + i ≠ 34 by omega, false_and, if_false, true_and]; simp
  · simp only [uI_1, show 37 + i ≠ 34 by omega, false_and, if_false, true_and]; simp
  · simp only [uI_1, show 37 + i ≠ 34 by omega, false_and, if_false, true_and]; simp
  · simp only [uI_1, h1, h3, false_and, if_false]
theorem scan_s {c : St} {k s : Nat} {T : Nat → Int32} (h : TxC c k T s) (hk : k < 33) {K : Int32 → St → Prop}
    (kA : ¬ (pb T s 0 < s ∧ T (pb T s 0) = 100) → ∀ c' : St, (∀ a b, a < 34 ∨ 43 ≤ a → c'.1 a b = c.1 a b) → c'.2 = c.2 → K (nI (pb T s 0)) c')
    (kB : pb T s 0 < s → T (pb T s 0) = 100 → ¬ fgN T s (pb T s 0 + 1) ≤ 3 → ∀ c' : St, (∀ a b, a < 34 ∨ 43 ≤ a → c'.1 a b = c.1 a b) → c'.2 = c.2 → K (nI (pb T s 0 + 1)) c')
    (kC : pb T s 0 < s → T (pb T s 0) = 100 → fgN T s (pb T s 0 + 1) ≤ 3 → ∀ i c', i ≤ 6 → goodTo T s (pb T s (pb T s 0 + 2)) i → DraftC c c' T s (pb T s (pb T s 0 + 2)) (fgN T s (pb T s 0 + 1)) i → (0 < i → s ≤ psN T s (pb T s (pb T s 0 + 2)) i → K (-9) c') ∧ ((0 < i → psN T s (pb T s (pb T s 0 + 2)) i < s) → (i = 6 ∨ gdN T s (psN T s (pb T s (pb T s 0 + 2)) i) < 4) → K (nI (psN T s (pb T s (pb T s 0 + 2)) i + (if i = 6 then 0 else gdN T s (psN T s (pb T s (pb T s 0 + 2)) i)))) c')) : wp_X8_scan k 60 c K := by
  have hs := h.1
  unfold wp_X8_scan wp_X7_clear
  obtain ⟨c1, e1⟩ := ex_eq (uI (uI (uI c 34 2 0) 34 3 0) 34 4 0)
  have k1 : ∀ a b, a ≠ 34 → c1.1 a b = c.1 a b := fun a b z => by rw [← e1, uI_c z, uI_c z, uI_c z]
  have k2 : c1.2 = c.2 := by rw [← e1]; rfl
  have z2 : c1.1 34 2 = nI 0 := by rw [← e1, uI_n (by decide), uI_n (by decide), uI_s]; rfl
  have z4 : c1.1 34 4 = nI 0 := by rw [← e1, uI_s]; rfl
  rw [e1]
  have h1 : TxC c1 k T s := h.keep hk (fun a b z => k1 a b (by omega))
  have hq0 : pb T s 0 ≤ s := pb_le _ _ rfl (Nat.zero_le _)
  refine blanksC_s (p := 0) h1 (Nat.zero_le _) ?_
  obtain ⟨q, eq⟩ := ex_eq (pb T s 0)
  rw [eq] at kA kB kC hq0 ⊢
  refine signC_s h1 (by omega) (fun y => ?_) (fun y => ite_ff (kA (by omega) c1 (fun a b z => k1 a b (by omega)) k2) (by decide))
  refine ite_c (fun w => ?_) (fun w => kA (fun z => w z.2) c1 (fun a b z => k1 a b (by omega)) k2)
  rw [show nI q + 1 = nI (q + 1) from nI_1 q, show nI q + 2 = nI (q + 2) from nI_add q 2]
  refine isFigC_s (lo := 0) (hi := 3) h1 (by omega) (by decide) (by decide) (fun _ f3 => ite_ff (figC_s h1 (by omega) (by omega) ?_) (by decide)) (fun f3 => ite_tt (kB y w (by omega) c1 (fun a b z => k1 a b (by omega)) k2) rfl)
  have kC := kC y w f3
  have hf1 := (fg_lt (T := T) (s := s) (p := q + 1) (by omega)).1
  obtain ⟨dm, edm⟩ := ex_eq (fgN T s (q + 1))
  rw [edm] at kC f3 ⊢
  obtain ⟨c2, e2⟩ := ex_eq (uI c1 34 3 (nI dm))
  rw [e2]
  have m1 : ∀ a b, a ≠ 34 → c2.1 a b = c.1 a b := fun a b z => by rw [← e2, uI_c z]; exact k1 a b z
  have h2 : TxC c2 k T s := h.keep hk (fun a b z => m1 a b (by omega))
  refine blanksC_s h2 (by omega) ?_
  have hp0 : pb T s (q + 2) ≤ s := pb_le _ _ rfl (by omega)
  obtain ⟨p0, ep⟩ := ex_eq (pb T s (q + 2))
  rw [ep] at kC hp0 ⊢
  unfold L_X8_scan_65
  have D0 : DraftC c c2 T s p0 dm 0 := by
    refine ⟨?_, ?_, ?_, fun j hj => by omega, fun a b z => m1 a b (by omega), ?_⟩
    · rw [← e2, uI_n (by decide)]; exact z2
    · rw [← e2, uI_s]
    · rw [← e2, uI_n (by decide)]; exact z4
    · rw [← e2]; exact k2
  refine for3_2 7 (fun i x τ => i ≤ 6 ∧ x = nI (psN T s p0 i) ∧ goodTo T s p0 i ∧ DraftC c τ T s p0 dm i) ?_ ?_ 0 _ _ (Nat.zero_le _) ⟨by omega, rfl, fun j hj => by omega, D0⟩
  · rintro _ τ Φ ⟨z, -⟩; omega
  · rintro i _ τ Φ hi ⟨hi6, rfl, hg, D⟩ hΦ
    have hps := ps_le hp0 hg
    have KC := kC i τ hi6 hg D
    have ht : TxC τ k T s := h.keep hk D.2.2.2.2.1
    have epn : psN T s p0 (i + 1) = pb T s (psN T s p0 i + 4) := rfl
    have stp : (0 < i → psN T s p0 i < s) → J_X8_scan_86 k 60 (nI (psN T s p0 i)) (nI i) τ K Φ := by
      intro hlt
      have KC2 := KC.2 hlt
      unfold J_X8_scan_86
      refine ite_c (fun z => ?_) (fun z => ?_)
      · rw [lit_nI, nI_le' (by decide) (by omega)] at z
        have e6 : i = 6 := by omega
        unfold J_X8_scan_101
        rw [if_pos e6] at KC2
        refine ite_ff ?_ (by decide)
        rw [lit_nI, nI_add]
        exact KC2 (Or.inl e6)
      · rw [lit_nI, nI_le' (by decide) (by omega)] at z
        rw [if_neg (by omega)] at KC2
        refine itemC_s ht hps ?_
        unfold J_X8_scan_101
        by_cases g4 : gdN T s (psN T s p0 i) = 4
        · have gg := gd_4 g4
          rw [g4]
          obtain ⟨p, epp⟩ := ex_eq (psN T s p0 i)
          rw [epp] at gg hps epn ⊢
          obtain ⟨q1, q2, q3, q4, q5, q6, q7⟩ := gg
          rw [show nI p + 1 = nI (p + 1) from nI_1 p, show nI p + 2 = nI (p + 2) from nI_add p 2, show nI p + 3 = nI (p + 3) from nI_add p 3, show nI p + 4 = nI (p + 4) from nI_add p 4, show nI i + 1 = nI (i + 1) from nI_1 i]
          have hl : limN (fgN T s (p + 2)) ≤ 9 := by unfold limN; split <;> omega
          refine ite_tt (figC_s ht (by omega) (by omega) (figC_s ht (by omega) (by omega) (signC_s ht (by omega) (fun y1 => kindC_s ?_) (fun y1 => by omega)))) (by decide)
          have ekd : kN (T p) = kdN T s p := by unfold kdN; rw [if_pos y1]
          have ek : eK (kN (T p)) = nI (kdN T s p) := by rw [ekd]; unfold eK; rw [if_neg (by omega)]
          rw [ek]
          refine figC_s ht (by omega) (by omega) ?_
          rw [lit_nI, pk_mul, nI_add]
          obtain ⟨D1, D2, D3, D4, D5, D6⟩ := D
          refine addBell_s (by omega) D1 (fun c' a1 a2 a3 a4 a5 a6 => ?_)
          have D5' : ∀ a b, a < 34 ∨ 43 ≤ a → c'.1 a b = c.1 a b := fun a b z => (a5 a b (by omega) (by omega)).trans (D5 a b z)
          have ht' : TxC c' k T s := h.keep hk D5'
          refine blanksC_s ht' (by omega) ?_
          rw [← epn]
          refine hΦ _ _ ⟨by omega, rfl, fun j hj => ?_, a1, a2.trans D2, a3.trans D3, fun j hj => ?_, D5', a6.trans D6⟩
          · by_cases e : j = i
            · subst e; exact ⟨g4, hlt⟩
            · exact hg j (by omega)
          · by_cases e : j = i
            · subst e; rw [epp]; exact a4
            · rw [a5 _ _ (by omega) (by omega), a5 _ _ (by omega) (by omega), a5 _ _ (by omega) (by omega), a5 _ _ (by omega) (by omega), a5 _ _ (by omega) (by omega), a5 _ _ (by omega) (by omega)]
              exact D4 j (by omega)
        · have gb : gdN T s (psN T s p0 i) < 4 := by
            have : gdN T s (psN T s p0 i) ≤ 4 := by unfold gdN; (repeat' split) <;> omega
            omega
          refine ite_ff ?_ (by rw [lit_nI, nI_le' (by decide) (by omega)]; omega)
          rw [nI_add]
          exact KC2 (Or.inr gb)
    unfold B_X8_scan_65
    rw [ht.2.1]
    refine ite_ff (ite_c (fun z => stp (fun z2 => ?_)) (fun z => ite_c (fun y => stp (fun _ => ?_)) (fun y => KC.1 ?_ ?_))) (by rw [lit_nI, nI_lt' (by decide) (by omega)]; omega)
    · rw [lit_nI, nI_le' (by omega) (by decide)] at z; omega
    · rw [nI_lt' (by omega) (by omega)] at y; exact y
    · rw [lit_nI, nI_le' (by omega) (by decide)] at z; omega
    · rw [nI_lt' (by omega) (by omega)] at y; omega

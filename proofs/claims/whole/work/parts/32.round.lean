/-! a round rung -/
/-- the code of a row of n pulls, the last j of them -/
def rvN (p : Nat → Nat) (n : Nat) : Nat → Nat
  | 0 => 0
  | j + 1 => rvN p n j * 7 + p (n - 1 - j)
theorem rvN_lt {p : Nat → Nat} {n : Nat} (hp : ∀ i, i < n → p i < 7) : ∀ j, j ≤ n → rvN p n j < 7 ^ j := by
  intro j
  induction j with
  | zero => intro _; exact Nat.one_pos
  | succ j ih =>
    intro hj
    have h1 := ih (by omega)
    have h2 := hp (n - 1 - j) (by omega)
    simp only [rvN]
    rw [Nat.pow_succ]; omega
theorem rvN_dig {p : Nat → Nat} {n : Nat} (hp : ∀ i, i < n → p i < 7) : ∀ j, j ≤ n → ∀ a, a < j → rvN p n j / 7 ^ a % 7 = p (n - j + a) := by
  intro j
  induction j with
  | zero => intro _ a ha; omega
  | succ j ih =>
    intro hj a ha
    have h2 := hp (n - 1 - j) (by omega)
    simp only [rvN]
    cases a with
    | zero =>
      rw [Nat.pow_zero, Nat.div_one, show n - (j + 1) + 0 = n - 1 - j by omega]; omega
    | succ a =>
      rw [show 7 ^ (a + 1) = 7 * 7 ^ a by rw [Nat.pow_succ, Nat.mul_comm], ← Nat.div_div_eq_div_mul, show (rvN p n j * 7 + p (n - 1 - j)) / 7 = rvN p n j by omega, ih (by omega) a (by omega), show n - (j + 1) + (a + 1) = n - j + a by omega]
theorem roundDeed_s {c : St} {k n1 n : Nat} {p : Nat → Nat} (h2 : c.1 k 2 = nI n) (hn : n ≤ 6) (hn1 : n ≤ n1) (hn2 : n1 < 2 ^ 20) (hp : ∀ i, i < n → c.1 (k + 1) i = nI (p i) ∧ p i < 7) {K : Int32 → Prop} (hK : K (nI (48 + rvN p n n))) : wp_X7_roundDeed k n1 c K := by
  have hlt := rvN_lt (p := p) (n := n) (fun i hi => (hp i hi).2)
  obtain ⟨V, V0, Vs, Ve⟩ : ∃ V : Nat → Nat, V 0 = 0 ∧ (∀ j, V (j + 1) = V j * 7 + p (n - 1 - j)) ∧ rvN p n n = V n := ⟨rvN p n, rfl, fun _ => rfl, rfl⟩
  rw [Ve] at hK
  unfold wp_X7_roundDeed L_X7_roundDeed_9
  rw [h2]
  refine wl2_ind (fun x y => ∃ j, j ≤ n ∧ x = nI (V j) ∧ y = nI (n - j) - 1) (fun _ y => (y + 1).toNatClampNeg) ?_ _ _ ⟨0, Nat.zero_le _, by rw [V0]; rfl, rfl⟩
  rintro _ _ ⟨j, hj, rfl, rfl⟩ Φ hΦ
  unfold B_X7_roundDeed_9
  by_cases e : j = n
  · subst e
    refine ite_tt ?_ (by rw [Nat.sub_self]; decide)
    rw [lit_nI, nI_add]; exact hK
  · obtain ⟨q, hq⟩ : ∃ q, n - j = q + 1 := ⟨n - j - 1, by omega⟩
    have eq : nI (n - j) - 1 = nI q := by rw [hq]; exact nI_pred q
    have eq2 : nI q + (-1) = nI (n - (j + 1)) - 1 := by rw [show n - (j + 1) = q by omega]; exact (Int32.sub_eq_add_neg _ _).symm
    rw [eq, nI_clamp (by omega), (hp q (by omega)).1, eq2]
    have eV : nI (V j) * 7 + nI (p q) = nI (V (j + 1)) := by rw [Vs, lit_nI, pk_mul, nI_add, show n - 1 - j = q by omega]
    rw [eV]
    refine ite_ff ⟨vp_in_nI (by omega) (by omega), hΦ _ _ ⟨j + 1, by omega, rfl, rfl⟩ ?_⟩ (by rw [lit_nI, nI_lt' (by omega) (by decide)]; omega)
    rw [← eq2, show nI q + (-1) + 1 = nI q by rw [Int32.add_assoc]; exact Int32.add_zero _, eq, show nI q + 1 = nI (q + 1) from nI_1 q, nI_clamp (by omega), nI_clamp (by omega)]
    omega
theorem isOver_r {m : St} {i o : Nat} (hi : i < 6) (ho : o ≤ 1) (h : m.1 1 (20 + i) = nI o) {K : Int32 → Prop} (h1 : o = 1 → K 1) (h0 : o = 0 → K 0) : wp_X9_isOver (nI i) m K := by
  unfold wp_X9_isOver J_X9_isOver_18
  simp (disch := omega) only [lit_nI, nI_add, pk_mul, nI_clamp, vp_nI, nI_inj, nI_lt', nI_le', nI_neg1, nI_neg9, nI_neg3, neg1_nI, neg9_nI, neg_l0, neg_g0, ↓reduceIte, true_and, and_true, not_true_eq_false, not_false_eq_true, Nat.reduceEqDiff, Nat.reduceLeDiff, Nat.reduceAdd, Nat.reduceSub, Nat.reduceDiv, Nat.reduceMod, Nat.reducePow, Nat.reduceLT, Nat.reduceMul, Nat.not_lt_zero, Nat.zero_le, Nat.succ_ne_self, one_ne0, zero_ne1, ne_eq, h]
  refine ⟨by omega, ite_c (fun q => ⟨zok1, h1 q⟩) (fun q => ⟨zok0, h0 (by omega)⟩)⟩
theorem op_round {c m : St} (h : Rel c m) (a : Int32) : wp_X8_round a c (fun r c' => wp_X9_round a m (fun r' m' => r = r' ∧ Rel c' m')) := by
  obtain ⟨n, dm, d, N⟩ := h.now
  have hn := N.1.1
  have hd40 := N.1.2.2
  unfold wp_X8_round wp_X7_roomLeft
  refine rnd_c h N a (fun r c' r0 r1 hM => ite_ff ?_ r0) (fun ρ p hρ n0 ea hsz hp hpm hM => ite_tt ?_ rfl)
  · unfold wp_X9_round
    exact hM _ (fun m' hR => ite_ff ⟨rfl, hR⟩ r1)
  · subst ea
    have ok : HOK (hearF (fun i => hN c dm i (p i)) n) n := hearF_ok (fun i hi => hN_le N hi _) hn
    rw [N.2.1.2.2]
    by_cases e40 : d = 40
    · refine ite_ff ?_ (by rw [e40]; decide)
      unfold wp_X9_round
      exact hM _ (ite_tt (ite_tt ⟨rfl, h⟩ (by rw [N.2.2.1.2.2, e40]; rfl)) (by decide))
    · have er : (40 - nI d : Int32) = nI (40 - d) := pk_sub (a := 40) (by omega)
      have hv := vp_in_nI (n := ρ) (N := 6) hρ (by decide)
      refine ite_tt ⟨hv, ?_⟩ (by rw [er, lit_nI, nI_le' (by decide) (by omega)]; omega)
      rw [nI_clamp (by omega)]
      refine listen_s N (by omega) hsz (by omega) (by decide) (fun i hi => ⟨(hp i hi).1, by have := (hp i hi).2; omega⟩) (fun c' g1 g2 g3 => ⟨hv, ?_⟩)
      refine roundDeed_s (p := p) ((g2 _ 2 (by omega)).trans hsz) hn (by omega) (by decide) (fun i hi => ⟨(g2 _ i (by omega)).trans (hp i hi).1, (hp i hi).2⟩) ?_
      have hV := rvN_lt (p := p) (n := n) (fun i hi => (hp i hi).2) n (Nat.le_refl _)
      have hV6 : rvN p n n < 117649 := Nat.lt_of_lt_of_le hV (Nat.pow_le_pow_right (by decide) hn : 7 ^ n ≤ 7 ^ 6)
      have hdig : ∀ i, i < n → rvN p n n / 7 ^ i % 7 = p i := fun i hi => by
        rw [rvN_dig (fun i hi => (hp i hi).2) n (Nat.le_refl _) i hi, Nat.sub_self, Nat.zero_add]
      generalize rvN p n n = V at hV hV6 hdig
      have N1 : Now c' m n dm d := N.cc (fun a b z1 z2 => g2 a b (by omega))
      refine act_s hn N1.2.1.1 N1.2.1.2.2 (by omega) (by omega) N1.ok (fun c2 hc => bits_s (g1.cc (fun a b z1 z2 => hc.2.2.2.1 a b (by omega) (by omega) (by omega))) ok hn ?_)
      unfold wp_X9_round
      refine hM _ (ite_tt (ite_ff ?_ ?_) (by decide))
      · refine laysPulls_s N hρ (fun i hi => ⟨hpm i hi, by have := (hp i hi).2; omega⟩) (fun m' y1 y2 y3 y9 y4 y5 => ?_)
        have h' : Rel c' m' := h.keep (keepC_h g2 g3) (keepM_h y4 y5)
        have N2 : Now c' m' n dm d := N1.mm (fun j hj => y4 1 j (by omega) (by omega) (by omega) (by omega)) (y4 0 1 (by omega) (by omega) (by omega) (by omega))
        refine minds_s (d := d) (by omega) N2.2.2.1.2.2 (fun m1 hm1 => ?_)
        obtain ⟨v1, v2, v3, v4⟩ := hm1
        have da : ∀ j, j < n → dAct (48 + V) j (c'.1 (28 + j) 0) (bl c' (28 + j)) = bSw (c'.1 (28 + j) 0) (nI (p j)) (bl c' (28 + j)) := by
          intro j hj
          simp only [dAct]
          rw [if_pos (by omega), show 48 + V - 48 = V by omega, hdig j hj]
        unfold L_X9_round_35
        refine for2_1 n (fun i τ => (∀ j, j < i → (τ.1 1 (14 + j), τ.1 1 (26 + j), τ.1 1 (20 + j)) = dAct (48 + V) j (c'.1 (28 + j) 0) (bl c' (28 + j))) ∧ (∀ a b, ¬ (a = 1 ∧ ((14 ≤ b ∧ b < 14 + i) ∨ (20 ≤ b ∧ b < 20 + i) ∨ (26 ≤ b ∧ b < 26 + i))) → τ.1 a b = m1.1 a b) ∧ τ.2 = m1.2) ?_ ?_ 0 _ (Nat.zero_le _) ⟨fun j hj => by omega, fun _ _ _ => rfl, rfl⟩
        · rintro τ Φ ⟨t1, t2, t3⟩
          unfold B_X9_round_35
          rw [show (0 : Int32).toNatClampNeg = 0 from rfl, t2 1 0 (by omega), v3 1 0 (by omega) (by omega), N2.2.2.1.1]
          have hx : HM τ (hearF (fun i => hN c dm i (p i)) n) := ⟨by rw [t2 0 18 (by omega), v3 0 18 (by omega) (by omega)]; exact y1.1, fun j hj => by rw [t2 11 j (by omega), t2 10 _ (by omega), v3 11 j (by omega) (by omega), v3 10 _ (by omega) (by omega)]; exact y1.2 j hj⟩
          refine ⟨in0, ite_tt (heardSet_s hx ok hn ⟨rfl, h'.deed N2 (by omega) (by omega) hc ⟨t1, fun j hj => ?_, ?_, fun a b q1 q2 q3 => ?_, t3.trans v4⟩⟩) (Int32.le_refl _)⟩
          · rw [t2 _ _ (by omega)]; exact v1 j hj
          · rw [t2 _ _ (by omega)]; exact v2
          · rw [t2 a b (by omega)]; exact v3 a b q1 q2
        · rintro i τ Φ hi ⟨t1, t2, t3⟩ hΦ
          obtain ⟨⟨b1, b2, b3, b4, b5⟩, ⟨c1, c2, c3, c4⟩, d1, d2, d3, d4, d5⟩ := N2.2.2.2 i hi
          have tm : ∀ b, ¬ ((14 ≤ b ∧ b < 14 + i) ∨ (20 ≤ b ∧ b < 20 + i) ∨ (26 ≤ b ∧ b < 26 + i)) → b < 32 → τ.1 1 b = m'.1 1 b := fun b z1 z2 => (t2 1 b (by omega)).trans (v3 1 b (by omega) (by omega))
          have s2 : τ.1 1 (2 + i) = nI (kd c' i) := (tm _ (by omega) (by omega)).trans d1
          have s14 : τ.1 1 (14 + i) = nI (hdN c' i) := (tm _ (by omega) (by omega)).trans d3
          have s20 : τ.1 1 (20 + i) = nI (od c' i) := (tm _ (by omega) (by omega)).trans d4
          have s26 : τ.1 1 (26 + i) = c'.1 (28 + i) 4 := (tm _ (by omega) (by omega)).trans d5
          have ebl : bl c' (28 + i) = (nI (hdN c' i), c'.1 (28 + i) 4, nI (od c' i)) := by unfold bl; rw [c3, c4]
          unfold B_X9_round_35 J_X9_round_64
          rw [show (0 : Int32).toNatClampNeg = 0 from rfl, t2 1 0 (by omega), v3 1 0 (by omega) (by omega), N2.2.2.1.1, nI_clamp (by omega), t2 9 i (by omega), v3 9 i (by omega) (by omega), y9 i hi, show nI i + 1 = nI (i + 1) from nI_1 i]
          refine ⟨in0, ite_ff (isOver_r (by omega) b4 s20 (fun o => ite_ff (hΦ _ ⟨fun j hj => ?_, fun a b z => t2 a b (by omega), t3⟩) (by decide)) (fun o => ite_tt ⟨vp_in_nI (by omega) (by decide), strokesM_s (by omega) b1 b3 (by have := (hp i hi).2; omega) s2 s14 (fun m2 w1 w2 w3 => hΦ _ ⟨fun j hj => ?_, fun a b z => (w2 a b (by omega)).trans (t2 a b (by omega)), w3.trans t3⟩)⟩ rfl)) (nI_ge hi (by omega))⟩
          · by_cases e : j = i
            · subst e
              rw [da j hi, ebl, s14, s20, s26, o]
              simp only [bSw]
              rw [if_neg (by decide)]
            · exact t1 j (by omega)
          · by_cases e : j = i
            · subst e
              rw [da j hi, ebl, o, c1, w1, s26]; rfl
            · rw [w2 1 (14 + j) (by omega), w2 1 (26 + j) (by omega), w2 1 (20 + j) (by omega)]
              exact t1 j (by omega)
      · rw [N.2.2.1.2.2]
        intro e
        rw [lit_nI, nI_inj (by omega) (by decide)] at e
        exact e40 e

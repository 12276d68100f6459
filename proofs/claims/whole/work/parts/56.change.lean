/-! change: is it an order; the class's round -/
def bP (b : Bool) (i : Nat) : Nat := if b then 2 ^ i else 0
def msk (S : Nat → Bool) : Nat → Nat
  | 0 => 0
  | i + 1 => msk S i + bP (S i) i
theorem msk_lt (S : Nat → Bool) (m : Nat) : msk S m < 2 ^ m := by
  induction m with
  | zero => exact Nat.one_pos
  | succ m ih => simp only [msk]; rw [Nat.pow_succ]; unfold bP; split <;> omega
theorem bit_hi : ∀ m, m < 6 → ∀ x, x < 64 → x < 2 ^ m → (x + 2 ^ m) / 2 ^ m % 2 = 1 ∧ x / 2 ^ m % 2 = 0 := by decide +kernel
theorem bit_lo : ∀ m, m < 6 → ∀ i, i < 6 → i < m → ∀ x, x < 64 → x < 2 ^ m → (x + 2 ^ m) / 2 ^ i % 2 = x / 2 ^ i % 2 := by decide +kernel
theorem msk_bit (S : Nat → Bool) {m : Nat} (hm : m ≤ 6) : ∀ i, i < m → msk S m / 2 ^ i % 2 = (S i).toNat := by
  induction m with
  | zero => intro i hi; omega
  | succ m ih =>
    intro i hi
    have h1 := msk_lt S m
    have h2 := p26 (i := m) (by omega)
    simp only [msk]
    by_cases e : i = m
    · subst e
      have hb := bit_hi i (by omega) (msk S i) (by omega) h1
      cases hS : S i with
      | true => exact hb.1
      | false => exact hb.2
    · have h3 := ih (by omega) i (by omega)
      rw [← h3]
      cases hS : S m with
      | true => exact bit_lo m (by omega) i (by omega) (by omega) _ (by omega) h1
      | false => rfl
theorem msk_congr {S S' : Nat → Bool} {m : Nat} (h : ∀ i, i < m → S i = S' i) : msk S m = msk S' m := by
  induction m with
  | zero => rfl
  | succ m ih => simp only [msk]; rw [ih (fun i hi => h i (by omega)), h m (by omega)]
theorem msk_add {S : Nat → Bool} {b : Nat} (hS : S b = false) (m : Nat) : msk (fun i => S i || decide (b = i)) m = msk S m + (if b < m then 2 ^ b else 0) := by
  induction m with
  | zero => rfl
  | succ m ih =>
    have e0 : msk (fun i => S i || decide (b = i)) (m + 1) = msk (fun i => S i || decide (b = i)) m + bP (S m || decide (b = m)) m := rfl
    have e1 : msk S (m + 1) = msk S m + bP (S m) m := rfl
    rw [e0, e1, ih]
    by_cases e : b = m
    · subst e
      rw [hS, if_neg (Nat.lt_irrefl _), if_pos (by omega), decide_eq_true rfl]
      rfl
    · rw [decide_eq_false e, Bool.or_false]
      by_cases e2 : b < m
      · rw [if_pos e2, if_pos (by omega)]; omega
      · rw [if_neg e2, if_neg (by omega)]; omega
theorem shr_bit : ∀ i, i < 6 → ∀ x, x < 64 → (shr (nI x) (nI i) &&& 1) = nI (x / 2 ^ i % 2) := by decide +kernel
theorem or_bit2 : ∀ i, i < 6 → ∀ x, x < 64 → x / 2 ^ i % 2 = 0 → nI x ||| shl 1 (nI i) = nI (x + 2 ^ i) := by decide +kernel
theorem ob_msk {c : St} {n : Nat} (h : ∀ i, i < n → od c i ≤ 1) (hn : n ≤ 6) : obN c n = msk (fun i => decide (i < n ∧ od c i = 1)) 6 := by
  have key : ∀ k, k ≤ n → obN c k = msk (fun i => decide (i < n ∧ od c i = 1)) k := by
    intro k
    induction k with
    | zero => intro _; rfl
    | succ k ih =>
      intro hk
      simp only [obN, msk]
      rw [ih (by omega)]
      have := h k (by omega)
      rcases (show od c k = 0 ∨ od c k = 1 by omega) with e | e
      · have hd : decide (k < n ∧ od c k = 1) = false := decide_eq_false (by omega)
        rw [hd, e, Nat.zero_mul]; rfl
      · have hd : decide (k < n ∧ od c k = 1) = true := decide_eq_true ⟨by omega, e⟩
        rw [hd, e, Nat.one_mul]; rfl
  have key2 : ∀ j, n + j ≤ 6 → msk (fun i => decide (i < n ∧ od c i = 1)) (n + j) = msk (fun i => decide (i < n ∧ od c i = 1)) n := by
    intro j
    induction j with
    | zero => intro _; rfl
    | succ j ih =>
      intro hj
      have e0 : msk (fun i => decide (i < n ∧ od c i = 1)) (n + (j + 1)) = msk (fun i => decide (i < n ∧ od c i = 1)) (n + j) + bP (decide (n + j < n ∧ od c (n + j) = 1)) (n + j) := rfl
      rw [e0, ih (by omega), decide_eq_false (by omega)]; rfl
  rw [key n (Nat.le_refl _), ← key2 (6 - n) (by omega), show n + (6 - n) = 6 by omega]
/-- the first k of a row are bells that may stand in an order -/
def okP (c : St) (n : Nat) (v : Nat → Int32) (k : Nat) : Prop := ∀ j, j < k → vp_in (v j) n ∧ od c (v j).toNatClampNeg = 0 ∧ ∀ i, i < j → (v i).toNatClampNeg ≠ (v j).toNatClampNeg
theorem okP_w {c : St} {n k : Nat} {v : Nat → Int32} (hn : n ≤ 6) (h : okP c n v k) : ∀ j, j < k → v j = nI (v j).toNatClampNeg ∧ (v j).toNatClampNeg < n := by
  intro j hj
  obtain ⟨i, hi, e⟩ := vp_in_of (h j hj).1 (by omega)
  rw [e, nI_clamp (by omega)]; exact ⟨rfl, hi⟩
theorem okP_ord {c : St} {n s : Nat} {v : Nat → Int32} (hn : n ≤ 6) (hs : s = n - ovN c n) (h : okP c n v s) : isOrd c n s (fun j => (v j).toNatClampNeg) := ⟨hs, fun k hk => ⟨(okP_w hn h k hk).2, (h k hk).2.1⟩, fun j k hjk hk => (h k hk).2.2 j hjk⟩
theorem anyB_f {P : Nat → Bool} {n : Nat} (h : ∀ i, i < n → P i = false) : anyB P n = false := by
  induction n with
  | zero => rfl
  | succ n ih => simp only [anyB]; rw [ih (fun i hi => h i (by omega)), h n (by omega)]; rfl
theorem isOrder_s {c m : St} {n dm d : Nat} (N : Now c m n dm d) {k1 s : Nat} (hs : s ≤ 6) (h2 : c.1 k1 2 = nI s) {K : Int32 → Prop} (hy : okP c n (c.1 (k1 + 1)) s → K 1) (hno : ¬ okP c n (c.1 (k1 + 1)) s → K 0) : wp_X7_isOrder 25 k1 40 c K := by
  have hn := N.1.1
  unfold wp_X7_isOrder L_X7_isOrder_7
  refine overBits_s N ?_
  rw [ob_msk N.od1 hn]
  refine for2_2 s (fun k x => okP c n (c.1 (k1 + 1)) k ∧ x = nI (msk (fun i => decide (i < n ∧ od c i = 1) || anyB (fun j => decide ((c.1 (k1 + 1) j).toNatClampNeg = i)) k) 6)) ?_ ?_ 0 _ (Nat.zero_le _) ⟨fun j hj => by omega, by congr 1; exact msk_congr (fun i _ => by simp [anyB])⟩
  · rintro _ Φ ⟨ok, rfl⟩
    unfold B_X7_isOrder_7
    rw [h2]
    exact ite_tt (hy ok) (Int32.le_refl _)
  · rintro k _ Φ hk ⟨ok, rfl⟩ hΦ
    unfold B_X7_isOrder_7 J_X7_isOrder_41
    rw [h2, nI_clamp (show k < 2 ^ 31 by omega), show nI k + 1 = nI (k + 1) from nI_1 k]
    refine ite_ff ⟨vp_in_nI (by omega) (by decide), hasT_c hn N.2.1.1 (fun i hi e => ite_ff ?_ (by decide)) (fun hv => ite_tt (hno (fun h => hv (h k hk).1)) rfl)⟩ (nI_ge hk (by omega))
    have ew : (c.1 (k1 + 1) k).toNatClampNeg = i := by rw [e, nI_clamp (by omega)]
    rw [e]
    have hlt := msk_lt (fun i => decide (i < n ∧ od c i = 1) || anyB (fun j => decide ((c.1 (k1 + 1) j).toNatClampNeg = i)) k) 6
    have hbit := msk_bit (fun i => decide (i < n ∧ od c i = 1) || anyB (fun j => decide ((c.1 (k1 + 1) j).toNatClampNeg = i)) k) (Nat.le_refl 6) i (by omega)
    obtain ⟨M, eM⟩ := ex_eq (msk (fun i => decide (i < n ∧ od c i = 1) || anyB (fun j => decide ((c.1 (k1 + 1) j).toNatClampNeg = i)) k) 6)
    rw [eM] at hlt hbit ⊢
    have hlt : M < 64 := hlt
    rw [shr_bit i (by omega) M hlt, hbit]
    cases hS : (decide (i < n ∧ od c i = 1) || anyB (fun j => decide ((c.1 (k1 + 1) j).toNatClampNeg = i)) k) with
    | true =>
      refine ite_ff (hno (fun h => ?_)) (by decide)
      rw [Bool.or_eq_true] at hS
      rcases hS with q | q
      · have := of_decide_eq_true q
        have h0 := (h k hk).2.1
        rw [ew] at h0; omega
      · obtain ⟨j, hj, ej⟩ := anyB_ex q
        have := (h k hk).2.2 j hj
        rw [ew] at this
        exact this (of_decide_eq_true ej)
    | false =>
      have hS' := hS
      rw [Bool.or_eq_false_iff] at hS
      have b0 : M / 2 ^ i % 2 = 0 := by rw [hbit, hS']; rfl
      have ho := N.od1 i hi
      have o0 : od c i = 0 := by
        have := of_decide_eq_false hS.1
        omega
      refine ite_tt (hΦ _ ⟨fun j hj => ?_, ?_⟩) rfl
      · by_cases ej : j = k
        · subst ej
          rw [ew]
          exact ⟨by rw [e]; exact vp_in_nI hi (by omega), o0, fun a ha => of_decide_eq_false (anyB_n hS.2 ha)⟩
        · exact ok j (by omega)
      · rw [or_bit2 i (by omega) M hlt b0]
        congr 1
        have ha := msk_add (S := fun i => decide (i < n ∧ od c i = 1) || anyB (fun j => decide ((c.1 (k1 + 1) j).toNatClampNeg = i)) k) hS' 6
        rw [if_pos (by omega), eM] at ha
        rw [← ha]
        refine msk_congr (fun a _ => ?_)
        simp only [anyB]
        rw [ew, Bool.or_assoc]
/-- a bell that comes last is entered last -/
theorem enterEnd_s {c : St} {k : Nat} {w T : Nat → Nat} (hc : HC c (k, w, T)) (hk : k < 6) (hw : ∀ j, j ≤ k → w j < 6 ∧ T j ≤ 50) (hlast : ∀ q, k = q + 1 → T q < T k ∨ (T q = T k ∧ w q < w k)) {K : St → Prop} (hK : ∀ c', HC c' (k + 1, w, T) → (∀ a b, a < 70 ∨ 72 < a → c'.1 a b = c.1 a b) → c'.2 = c.2 → K c') : wp_X3_enter (nI (w k)) (nI (T k)) c K := by
  have hs : c.1 70 2 = nI k := hc.1
  have hcc : ∀ j, j < k → c.1 71 j = nI (w j) ∧ c.1 72 j = nI (T j) := hc.2
  have hwk := hw k (Nat.le_refl _)
  have hv := vp_in_nI (n := k) (N := 6) hk (by decide)
  have fin : J_X3_enter_65 (nI (w k)) (nI (T k)) (nI k) c K := by
    unfold J_X3_enter_65
    rw [nI_clamp (by omega)]
    refine ⟨hv, hv, hK _ ⟨?_, fun j hj => ?_⟩ (fun a b z => ?_) rfl⟩
    · rw [uI_s, uI_c (by decide), uI_c (by decide), hs]; exact nI_1 k
    · have hj' : j < k + 1 := hj
      rw [uI_c (show (71 : Nat) ≠ 70 by decide), uI_c (show (72 : Nat) ≠ 70 by decide), uI_c (show (71 : Nat) ≠ 72 by decide)]
      by_cases e : j = k
      · subst e; exact ⟨uI_s _ _ _ _, uI_s _ _ _ _⟩
      · rw [uI_n e, uI_n e, uI_c (by decide)]; exact hcc j (by omega)
    · rw [uI_c (by omega), uI_c (by omega), uI_c (by omega)]
  unfold wp_X3_enter L_X3_enter_15
  rw [hs]
  refine ite_tt ⟨1, ?_⟩ (by rw [lit_nI, nI_lt' (by omega) (by decide)]; exact hk)
  show B_X3_enter_15 (nI (w k)) (nI (T k)) K (it2 (B_X3_enter_15 (nI (w k)) (nI (T k)) K) 0) (nI k) c
  generalize it2 (B_X3_enter_15 (nI (w k)) (nI (T k)) K) 0 = Ψ
  unfold B_X3_enter_15
  refine ite_c (fun _ => fin) (fun z => ?_)
  rw [lit_nI, nI_le' (by omega) (by decide)] at z
  obtain ⟨q, eq⟩ : ∃ q, k = q + 1 := ⟨k - 1, by omega⟩
  have hl := hlast q eq
  have hq := hw q (by omega)
  obtain ⟨e1, e2⟩ := hcc q (by omega)
  have hvq := vp_in_nI (n := q) (N := 6) (by omega) (by decide)
  have ek : nI k - 1 = nI q := by rw [eq]; exact nI_pred q
  rw [ek]
  unfold wp_X3_isBehind J_X3_isBehind_30 J_X3_isBehind_34 J_X3_isBehind_35
  rw [nI_clamp (show q < 2 ^ 31 by omega), e1, e2]
  exact ⟨hvq, ite_ff ⟨hvq, ite_c (fun zzy => ⟨hvq, ite_tt ⟨zok0, ite_tt fin rfl⟩ (by
    rw [nI_inj (by omega) (by omega)] at zzy
    rw [nI_le' (by omega) (by omega)]; omega)⟩) (fun _ => ⟨zok0, ite_tt fin rfl⟩)⟩ (by rw [nI_lt' (by omega) (by omega)]; omega)⟩
theorem setBest_s {c : St} {i : Nat} (hi : i < 6) {v : Int32} {K : St → Prop} (hK : K (uI c 75 i v)) : wp_X1_setBest (nI i) v c K := by
  unfold wp_X1_setBest J_X1_setBest_17
  rw [nI_clamp (by omega)]
  exact ite_ff (ite_ff ⟨vp_in_nI hi (by decide), hK⟩ (by rw [lit_nI, nI_le' (by decide) (by omega)]; omega)) (by rw [lit_nI, nI_lt' (by omega) (by decide)]; omega)
def gTm (c : St) (dm : Nat) (w : Nat → Nat) : Nat → Nat := fun k => 2 * w k + sN c dm (w k) (grP (rkN (sN c dm)) w k)
theorem grB_lt {c m : St} {n dm d : Nat} (N : Now c m n dm d) {w : Nat → Nat} {s : Nat} (hw : ∀ k, k < s → w k < n) : ∀ k, k ≤ s → grB (rkN (sN c dm)) w k < 2 ^ 10 := by
  intro k hk
  cases k with
  | zero => exact Nat.lt_of_lt_of_le Nat.one_pos (by decide)
  | succ k => exact rk_lt N (hw k (by omega)) _
theorem ringOrder_s {c m : St} {n dm d : Nat} (N : Now c m n dm d) {ρ ρ' s : Nat} (hρ : ρ < 6) (hρ' : ρ' < 6) (h2 : c.1 (5 + 2 * ρ) 2 = nI s) {w : Nat → Nat} (hv : ∀ j, j < s → c.1 (5 + 2 * ρ + 1) j = nI (w j)) (hw : isOrd c n s w) {K : Int32 → St → Prop}
    (k9 : ¬ (∀ k, k < s → grY (rkN (sN c dm)) w k = true) → ∀ c' : St, (∀ a x, a < 70 ∨ 75 < a → c'.1 a x = c.1 a x) → c'.2 = c.2 → K (-9) c')
    (k1 : (∀ k, k < s → grY (rkN (sN c dm)) w k = true) → ∀ c' : St, c'.1 (5 + 2 * ρ') 1 = nI 1 → c'.1 (5 + 2 * ρ') 2 = nI n → (∀ j, j < n → c'.1 (5 + 2 * ρ' + 1) j = nI (gRow (rkN (sN c dm)) w s j)) → (∀ a x, a < 70 ∨ 75 < a → a ≠ 5 + 2 * ρ' → a ≠ 5 + 2 * ρ' + 1 → c'.1 a x = c.1 a x) → c'.2 = c.2 → K (nI (erN (gTm c dm w) (s - 1))) c') : wp_X8_ringOrder (5 + 2 * ρ) 40 (5 + 2 * ρ') 40 c K := by
  have hn := N.1.1
  have hov := ovN_le (c := c) N.od1
  have hs6 : s ≤ 6 := by have := hw.1; omega
  have hwn : ∀ k, k < s → w k < n := fun k hk => (hw.2.1 k hk).1
  have hB := grB_lt N hwn
  have hY : ∀ k, k < s → grY (rkN (sN c dm)) w k = true → grP (rkN (sN c dm)) w k < 7 ∧ grB (rkN (sN c dm)) w k < rkN (sN c dm) (w k) (grP (rkN (sN c dm)) w k) ∧ grB (rkN (sN c dm)) w (k + 1) = rkN (sN c dm) (w k) (grP (rkN (sN c dm)) w k) := fun k _ h => ⟨(grY_t h).1, (grY_t h).2.1, (grY_t h).2.2.1⟩
  have hF : ∀ k p, k < s → p < 7 → grB (rkN (sN c dm)) w k < rkN (sN c dm) (w k) p → anyB (fun p => decide (grB (rkN (sN c dm)) w k < rkN (sN c dm) (w k) p)) p = false → grP (rkN (sN c dm)) w k = p ∧ grY (rkN (sN c dm)) w k = true := fun k p _ hp h1 h2 => ⟨fstB_eq hp (decide_eq_true h1) h2, anyB_t hp (decide_eq_true h1)⟩
  have hN : ∀ k, anyB (fun p => decide (grB (rkN (sN c dm)) w k < rkN (sN c dm) (w k) p)) 7 = false → grY (rkN (sN c dm)) w k = false := fun k h => h
  have hgw := gRow_w (R := rkN (sN c dm)) hw.2.2
  have hgo : ∀ i, (∀ k, k < s → w k ≠ i) → gRow (rkN (sN c dm)) w s i = 0 := fun i h => gRow_o h
  obtain ⟨R, eRk⟩ := ex_eq (rkN (sN c dm))
  obtain ⟨T, eTm⟩ := ex_eq (gTm c dm w)
  have hT : ∀ k, T k = 2 * w k + sN c dm (w k) (grP R w k) := fun k => by rw [← eTm, ← eRk]; rfl
  have hR : ∀ i p, sN c dm i p ≠ 0 → R i p = (2 * i + sN c dm i p) * 6 + i + 1 := fun i p h => by rw [← eRk]; exact rk_pos h
  have hR0 : ∀ i p, 0 < R i p → sN c dm i p ≠ 0 := fun i p h => by rw [← eRk] at h; exact rk_0 h
  have hsoon := fun (τ : St) (N' : Now τ m n dm d) i β hi hβ K => @soonest_s τ m n dm d N' i β hi hβ K
  rw [eRk] at hB hY hF hN hgw hgo k9 k1
  rw [eTm] at k1
  have hT50 : ∀ k, k < s → T k ≤ 50 := fun k hk => by rw [hT]; have := sN_le N (hwn k hk) (grP R w k); have := hwn k hk; omega
  unfold wp_X8_ringOrder wp_X3_clear L_X8_ringOrder_13
  refine for3_2 s (fun k x τ => (∀ j, j < k → grY R w j = true) ∧ x = eR (grB R w k) ∧ HC τ (k, w, T) ∧ (∀ j, j < k → τ.1 75 (w j) = nI (grP R w j)) ∧ (∀ a x, a < 70 ∨ 75 < a → τ.1 a x = c.1 a x) ∧ τ.2 = c.2) ?_ ?_ 0 _ _ (Nat.zero_le _) ⟨fun j hj => by omega, rfl, ⟨by rw [uI_s]; rfl, fun j hj => absurd hj (Nat.not_lt_zero j)⟩, fun j hj => by omega, fun a x z => uI_c (by omega), rfl⟩
  · rintro _ τ Φ ⟨t1, rfl, t3, t4, t5, t6⟩
    unfold B_X8_ringOrder_13 L_X8_ringOrder_110
    rw [t5 (5 + 2 * ρ) 2 (by omega), h2]
    refine ite_tt ?_ (Int32.le_refl _)
    refine for2_1 n (fun i σ => HC σ (s, w, T) ∧ (∀ j, j < s → σ.1 75 (w j) = nI (grP R w j)) ∧ (∀ j, j < i → od c j = 1 → σ.1 75 j = nI 0) ∧ (∀ a x, a < 70 ∨ 75 < a → σ.1 a x = c.1 a x) ∧ σ.2 = c.2) ?_ ?_ 0 _ (Nat.zero_le _) ⟨t3, t4, fun j hj => by omega, t5, t6⟩
    · rintro σ Ψ ⟨u1, u2, u3, u4, u5⟩
      unfold B_X8_ringOrder_110
      rw [u4 25 2 (by omega), N.2.1.1]
      have hb : ∀ j, j < n → σ.1 75 j = nI (gRow R w s j) := by
        intro j hj
        rcases (show od c j = 0 ∨ od c j = 1 by have := N.od1 j hj; omega) with o | o
        · obtain ⟨k, hk, ek⟩ := ord_all N.od1 hw j hj o
          have := u2 k hk
          rw [ek] at this
          rw [this, ← hgw k hk, ek]
        · rw [u3 j hj o, hgo j (fun k hk z => by have := (hw.2.1 k hk).2; rw [z] at this; omega)]
      refine ite_tt (layBest_s hn hρ' hb (fun c' r1 r2 r3 r4 r5 => ?_)) (Int32.le_refl _)
      have hc' : HC c' (s, w, T) := u1.cc (fun a x y1 y2 => r4 a x (by omega) (by omega))
      have srt : srtH T s := by
        intro j hj
        have a1 := hY j (by omega) (t1 j (by omega))
        have a2 := hY (j + 1) hj (t1 (j + 1) hj)
        have b1 := hR (w j) (grP R w j) (hR0 _ _ (by omega))
        have b2 := hR (w (j + 1)) (grP R w (j + 1)) (hR0 _ _ (by omega))
        have c1 := hwn j (by omega)
        have c2 := hwn (j + 1) hj
        rw [hT, hT]
        omega
      refine unev_s hc' ⟨by show s ≤ n; have := hw.1; omega, fun j hj => ⟨hwn j hj, hT50 j hj⟩⟩ hn srt ?_
      exact k1 t1 c' r1 r2 r3 (fun a x z y1 y2 => (r4 a x y1 y2).trans (u4 a x z)) (r5.trans u5)
    · rintro i σ Ψ hi ⟨u1, u2, u3, u4, u5⟩ hΨ
      have c4 := (N.2.2.2 i hi).2.1.2.2.2
      have ho := N.od1 i hi
      unfold B_X8_ringOrder_110 J_X8_ringOrder_148
      rw [u4 25 2 (by omega), N.2.1.1, nI_clamp (show i < 2 ^ 31 by omega), u4 (28 + i) 5 (by omega), c4, show nI i + 1 = nI (i + 1) from nI_1 i]
      refine ite_ff ⟨vp_in_nI (by omega) (by decide), ite_c (fun z => hΨ _ ⟨u1, u2, fun j hj o => ?_, u4, u5⟩) (fun z => setBest_s (by omega) (hΨ _ ⟨u1.cc (fun a x y1 y2 => uI_c (by omega)), fun j hj => ?_, fun j hj o => ?_, fun a x y => (uI_c (by omega)).trans (u4 a x y), u5⟩))⟩ (nI_ge hi (by omega))
      · rw [lit_nI, nI_inj (by omega) (by decide)] at z
        by_cases e : j = i
        · subst e; omega
        · exact u3 j (by omega) o
      · rw [lit_nI, nI_inj (by omega) (by decide)] at z
        rw [uI_n (fun e => by have := (hw.2.1 j hj).2; rw [e] at this; omega)]
        exact u2 j hj
      · by_cases e : j = i
        · subst e; rw [uI_s]; rfl
        · rw [uI_n e]; exact u3 j (by omega) o
  · rintro k _ τ Φ hk ⟨t1, rfl, t3, t4, t5, t6⟩ hΦ
    have N' : Now τ m n dm d := N.cc (fun a x y1 y2 => t5 a x (by omega))
    have scc : ∀ i p, i < 6 → sN τ dm i p = sN c dm i p := fun i p hi => sN_cc (fun a x y1 y2 => t5 a x (by omega)) hi dm p
    have hwk := hwn k hk
    have rcc : ∀ p, rkN (sN τ dm) (w k) p = R (w k) p := fun p => by rw [← eRk]; unfold rkN; rw [scc _ _ (by omega)]
    unfold B_X8_ringOrder_13
    rw [t5 (5 + 2 * ρ) 2 (by omega), h2, nI_clamp (show k < 2 ^ 31 by omega), t5 (5 + 2 * ρ + 1) k (by omega), hv k hk, show nI k + 1 = nI (k + 1) from nI_1 k]
    have hbk := hB k (by omega)
    refine ite_ff ⟨vp_in_nI (by omega) (by decide), hsoon τ N' (w k) (grB R w k) hwk (by omega) _ (fun p hp y1 y2 => ?_) (fun y => ite_tt (k9 (fun h => ?_) τ t5 t6) rfl)⟩ (nI_ge hk (by omega))
    · simp only [rcc] at y1 y2
      obtain ⟨g1, g2⟩ := hF k p hk hp y1 y2
      obtain ⟨g3, g4, g5⟩ := hY k hk g2
      subst g1
      have s0 := hR0 _ _ (show 0 < R (w k) (grP R w k) by omega)
      have s30 := sN_le N hwk (grP R w k)
      refine ite_ff (rankBy_s N' hwk hp (tenthsBy_s N' hwk (by omega) ?_)) (fun e => (nI_neg9 (a := grP R w k) (by omega)).mp e)
      rw [rcc, scc _ _ (by omega), eT_n s0, two_nI, ← hT, ← g5]
      refine enterEnd_s t3 (by omega) (fun j hj => ⟨by have := hwn j (by omega); omega, hT50 j (by omega)⟩) (fun q eq => ?_) (fun c' a1 a2 a3 => setBest_s (by omega) (hΦ _ _ ⟨fun j hj => ?_, rfl, a1.cc (fun a x y1 y2 => uI_c (by omega)), fun j hj => ?_, fun a x y => (uI_c (by omega)).trans ((a2 a x (by omega)).trans (t5 a x y)), a3.trans t6⟩))
      · have a1 := hY q (by omega) (t1 q (by omega))
        have b1 := hR (w q) (grP R w q) (hR0 _ _ (by omega))
        have b2 := hR (w k) (grP R w k) s0
        have c1 := hwn q (by omega)
        have a2 := a1.2.2
        rw [show q + 1 = k by omega] at a2
        rw [hT, hT]
        omega
      · by_cases e : j = k
        · subst e; exact g2
        · exact t1 j (by omega)
      · by_cases e : j = k
        · subst e; rw [uI_s]
        · rw [uI_n (hw.2.2 j k (by omega) hk), a2 75 _ (by omega)]; exact t4 j (by omega)
    · simp only [rcc] at y
      have := hN k y
      rw [h k hk] at this
      exact absurd this (by decide)

/-! arms: the least sum of so many pulls -/
def fA (k : Nat) (W : Nat → Nat) (h p : Nat) : Nat := if aN k h p = 21 then 1000000 else p + W (aN k h p)
def mnN (f : Nat → Nat) : Nat → Nat
  | 0 => 1000000
  | p + 1 => if f p < mnN f p then f p else mnN f p
def amN (f : Nat → Nat) : Nat → Nat
  | 0 => 0
  | p + 1 => if f p < mnN f p then p else amN f p
theorem mnN_le (f : Nat → Nat) (n : Nat) : mnN f n ≤ 1000000 := by
  induction n with
  | zero => exact Nat.le_refl _
  | succ n ih => simp only [mnN]; split <;> omega
theorem mnN_lb {f : Nat → Nat} {n q : Nat} (h : q < n) : mnN f n ≤ f q := by
  induction n with
  | zero => omega
  | succ n ih =>
    simp only [mnN]
    by_cases e : q = n
    · subst e; split <;> omega
    · have := ih (by omega)
      split <;> omega
theorem mnN_s {f : Nat → Nat} {n : Nat} (h : mnN f n < 1000000) : amN f n < n ∧ f (amN f n) = mnN f n ∧ ∀ q, q < amN f n → mnN f n < f q := by
  induction n with
  | zero => exact absurd h (Nat.lt_irrefl _)
  | succ n ih =>
    simp only [mnN, amN] at h ⊢
    by_cases e : f n < mnN f n
    · rw [if_pos e, if_pos e]
      refine ⟨by omega, rfl, fun q hq => ?_⟩
      have := mnN_lb (f := f) hq
      omega
    · rw [if_neg e] at h
      rw [if_neg e, if_neg e]
      obtain ⟨h1, h2, h3⟩ := ih h
      exact ⟨by omega, h2, h3⟩
def arN (k g : Nat) : Nat → Nat → Nat
  | 0, h => if h = g then 0 else 1000000
  | r + 1, h => mnN (fA k (arN k g r) h) 7
theorem arN_b (k g r h : Nat) : arN k g r h = 1000000 ∨ arN k g r h ≤ 6 * r := by
  induction r generalizing h with
  | zero => simp only [arN]; split <;> omega
  | succ r ih =>
    have h1 := mnN_le (fA k (arN k g r) h) 7
    show mnN (fA k (arN k g r) h) 7 = 1000000 ∨ mnN (fA k (arN k g r) h) 7 ≤ 6 * (r + 1)
    by_cases e : mnN (fA k (arN k g r) h) 7 < 1000000
    · obtain ⟨a1, a2, a3⟩ := mnN_s e
      right
      rw [← a2] at e ⊢
      unfold fA at e ⊢
      by_cases e2 : aN k h (amN (fun p => if aN k h p = 21 then 1000000 else p + arN k g r (aN k h p)) 7) = 21
      · rw [if_pos e2] at e; omega
      · rw [if_neg e2] at e ⊢
        have := ih (aN k h (amN (fun p => if aN k h p = 21 then 1000000 else p + arN k g r (aN k h p)) 7))
        have a1' : amN (fun p => if aN k h p = 21 then 1000000 else p + arN k g r (aN k h p)) 7 < 7 := a1
        omega
    · left; omega
/-- what holds of a row of the table -/
def okW (W : Nat → Nat) : Prop := ∀ x, W x = 1000000 ∨ W x ≤ 72
theorem arN_ok {k g r : Nat} (hr : r ≤ 12) : okW (arN k g r) := fun x => by
  have := arN_b k g r x
  omega
theorem fA_b {k : Nat} {W : Nat → Nat} (hW : okW W) (h : Nat) {p : Nat} (hp : p < 7) : fA k W h p ≤ 78 ∨ (1000000 ≤ fA k W h p ∧ fA k W h p ≤ 1000006) := by
  unfold fA
  by_cases e : aN k h p = 21
  · rw [if_pos e]; omega
  · rw [if_neg e]
    have := hW (aN k h p)
    omega
theorem fA_lt {k : Nat} {W : Nat → Nat} {h p : Nat} (e : fA k W h p < 1000000) : aN k h p ≠ 21 ∧ W (aN k h p) < 1000000 ∧ fA k W h p = p + W (aN k h p) := by
  unfold fA at e ⊢
  by_cases e2 : aN k h p = 21
  · rw [if_pos e2] at e; omega
  · rw [if_neg e2] at e ⊢
    exact ⟨e2, by omega, rfl⟩
theorem mnN_78 {k : Nat} {W : Nat → Nat} (hW : okW W) (h : Nat) {n : Nat} (hn : n ≤ 7) : mnN (fA k W h) n = 1000000 ∨ mnN (fA k W h) n ≤ 78 := by
  by_cases e : mnN (fA k W h) n < 1000000
  · obtain ⟨a1, a2, a3⟩ := mnN_s e
    have := fA_b (k := k) hW h (p := amN (fA k W h) n) (by omega)
    omega
  · have := mnN_le (fA k W h) n
    omega
def eS (x : Nat) : Int32 := if 1000000 ≤ x then -9 else nI x
theorem eS_9 {x : Nat} (hx : x < 2 ^ 31) : (eS x = -9) = (1000000 ≤ x) := by
  unfold eS
  by_cases e : 1000000 ≤ x
  · rw [if_pos e]; exact propext ⟨fun _ => e, fun _ => rfl⟩
  · rw [if_neg e]; exact propext ⟨fun z => ((nI_neg9 (a := x) hx).mp z).elim, fun z => absurd z e⟩
theorem eS_n {x : Nat} (h : x < 1000000) : eS x = nI x := by unfold eS; rw [if_neg (by omega)]
theorem eS_M {x : Nat} (h : 1000000 ≤ x) : eS x = -9 := by unfold eS; rw [if_pos h]
theorem armsFrom_s {c : St} {r h : Nat} {v : Int32} (hr : r ≤ 12) (hh : h ≤ 20) (hv : c.1 78 (21 * r + h) = v) {K : Int32 → Prop} (hK : K v) : wp_X4_armsFrom (nI r) (nI h) c K := by
  unfold wp_X4_armsFrom
  have i1 : (nI r * 21 + nI h).toNatClampNeg = 21 * r + h := by
    have : (nI r * 21 + nI h).toNatClampNeg = r * 21 + h := by simp (disch := omega) only [lit_nI, nI_add, pk_mul, nI_clamp, vp_nI, nI_inj, nI_lt', nI_le', nI_neg1, nI_neg9, nI_neg3, neg1_nI, neg9_nI, neg_l0, neg_g0, ↓reduceIte, true_and, and_true, not_true_eq_false, not_false_eq_true, Nat.reduceEqDiff, Nat.reduceLeDiff, Nat.reduceAdd, Nat.reduceSub, Nat.reduceDiv, Nat.reduceMod, Nat.reducePow, Nat.reduceLT, Nat.reduceMul, Nat.not_lt_zero, Nat.zero_le, Nat.succ_ne_self, one_ne0, zero_ne1, ne_eq]
    omega
  have i2 : vp_in (nI r * 21 + nI h) 273 := by simp (disch := omega) only [lit_nI, nI_add, pk_mul, nI_clamp, vp_nI, nI_inj, nI_lt', nI_le', nI_neg1, nI_neg9, nI_neg3, neg1_nI, neg9_nI, neg_l0, neg_g0, ↓reduceIte, true_and, and_true, not_true_eq_false, not_false_eq_true, Nat.reduceEqDiff, Nat.reduceLeDiff, Nat.reduceAdd, Nat.reduceSub, Nat.reduceDiv, Nat.reduceMod, Nat.reducePow, Nat.reduceLT, Nat.reduceMul, Nat.not_lt_zero, Nat.zero_le, Nat.succ_ne_self, one_ne0, zero_ne1, ne_eq]; omega
  rw [i1, hv]
  exact ite_ff (ite_ff (ite_ff (ite_tt ⟨i2, hK⟩ (by rw [lit_nI, nI_lt' (by omega) (by decide)]; omega)) (by rw [lit_nI, nI_lt' (by omega) (by decide)]; omega)) (by rw [lit_nI, nI_lt' (by decide) (by omega)]; omega)) (by rw [lit_nI, nI_lt' (by omega) (by decide)]; omega)
theorem sumBy_s {c : St} {k r h p : Nat} {W : Nat → Nat} (hk : k < 6) (hr : r ≤ 11) (hh : h ≤ 20) (hp : p < 7) (hW : okW W) (hc : ∀ x, x ≤ 20 → c.1 78 (21 * r + x) = eS (W x)) {K : Int32 → Prop} (hK : K (eS (fA k W h p))) : wp_X4_sumBy (nI k) (nI (r + 1)) (nI h) (nI p) c K := by
  unfold wp_X4_sumBy J_X4_sumBy_29 J_X4_sumBy_48
  have hl := aN_le k h p
  rw [show nI (r + 1) - 1 = nI r from nI_pred r]
  refine after_s hk (by omega) (by omega) (ite_c (fun z => ite_tt ?_ rfl) (fun z => ?_))
  · rw [eA_m1 hl] at z
    unfold fA at hK
    rw [if_pos z] at hK
    exact hK
  · rw [eA_m1 hl] at z
    unfold fA at hK
    rw [if_neg z] at hK
    rw [eA_n z]
    refine armsFrom_s (by omega) (by omega) (hc _ (by omega)) ?_
    rcases hW (aN k h p) with e | e
    · rw [eS_M (by omega)] at hK
      exact ite_tt hK (eS_M (by omega))
    · rw [eS_n (by omega)] at hK
      refine ite_ff ?_ (by rw [eS_9 (by omega)]; omega)
      rw [eS_n (by omega), nI_add]
      exact hK
theorem lightest_s {c : St} {k r h : Nat} {W : Nat → Nat} (hk : k < 6) (hr : r ≤ 11) (hh : h ≤ 20) (hW : okW W) (hc : ∀ x, x ≤ 20 → c.1 78 (21 * r + x) = eS (W x)) {K : Int32 → Prop} (kq : ∀ p, p < 7 → amN (fA k W h) 7 = p → fA k W h p = mnN (fA k W h) 7 → mnN (fA k W h) 7 < 1000000 → K (nI p)) (k9 : mnN (fA k W h) 7 = 1000000 → K (-9)) : wp_X4_lightestPull (nI k) (nI (r + 1)) (nI h) c K := by
  have k1 : mnN (fA k W h) 7 < 1000000 → K (nI (amN (fA k W h) 7)) := fun z => kq _ (mnN_s z).1 rfl (mnN_s z).2.1 z
  obtain ⟨f, hf⟩ : ∃ f, fA k W h = f := ⟨_, rfl⟩
  have hb : ∀ p, p < 7 → f p ≤ 78 ∨ (1000000 ≤ f p ∧ f p ≤ 1000006) := fun p hp => by rw [← hf]; exact fA_b hW h hp
  have hS : ∀ p, p < 7 → ∀ K : Int32 → Prop, K (eS (f p)) → wp_X4_sumBy (nI k) (nI (r + 1)) (nI h) (nI p) c K := fun p hp K hK => sumBy_s hk hr hh hp hW hc (by rw [hf]; exact hK)
  rw [hf] at k1 k9
  obtain ⟨M, A, M0, Ms, As, M78, Me, Ae⟩ : ∃ M A : Nat → Nat, M 0 = 1000000 ∧ (∀ p, M (p + 1) = if f p < M p then f p else M p) ∧ (∀ p, A (p + 1) = if f p < M p then p else A p) ∧ (∀ p, p ≤ 7 → M p = 1000000 ∨ M p ≤ 78) ∧ mnN f 7 = M 7 ∧ amN f 7 = A 7 := by
    refine ⟨mnN f, amN f, rfl, fun _ => rfl, fun _ => rfl, fun p hp => ?_, rfl, rfl⟩
    rw [← hf]; exact mnN_78 hW h hp
  rw [Me] at k1 k9
  rw [Ae] at k1
  unfold wp_X4_lightestPull L_X4_lightestPull_12
  refine for3_3 7 (fun p x y => (M p = 1000000 ∧ x = -9 ∧ y = nI 1000) ∨ (M p < 1000000 ∧ x = nI (A p) ∧ y = nI (M p))) ?_ ?_ 0 _ _ (Nat.zero_le _) (Or.inl ⟨M0, rfl, rfl⟩)
  · rintro x y Φ (⟨e, rfl, rfl⟩ | ⟨e, rfl, rfl⟩)
    · unfold B_X4_lightestPull_12; exact ite_tt (k9 e) (by decide)
    · unfold B_X4_lightestPull_12; exact ite_tt (k1 e) (by decide)
  · intro p x y Φ hp hI hΦ
    have h78 := M78 p (by omega)
    have hfp := hb p hp
    have ms := Ms p
    have as := As p
    unfold B_X4_lightestPull_12 J_X4_lightestPull_52
    rw [show nI p + 1 = nI (p + 1) from nI_1 p]
    refine ite_ff (hS p hp _ (ite_c (fun z => hΦ _ _ ?_) (fun z => ?_))) (nI_ge hp (by decide))
    · rw [eS_9 (by omega)] at z
      rw [if_neg (by omega)] at ms as
      rw [ms, as]; exact hI
    · rw [eS_9 (by omega)] at z
      rw [eS_n (by omega)]
      rcases hI with ⟨e, rfl, rfl⟩ | ⟨e, rfl, rfl⟩
      · rw [if_pos (by omega)] at ms as
        refine ite_ff (hΦ _ _ (Or.inr ⟨by omega, by rw [as], by rw [ms]⟩)) (by rw [nI_le' (by decide) (by omega)]; omega)
      · by_cases e2 : f p < M p
        · rw [if_pos e2] at ms as
          refine ite_ff (hΦ _ _ (Or.inr ⟨by omega, by rw [as], by rw [ms]⟩)) (by rw [nI_le' (by omega) (by omega)]; omega)
        · rw [if_neg e2] at ms as
          refine ite_tt (hΦ _ _ (Or.inr ⟨by omega, by rw [as], by rw [ms]⟩)) (by rw [nI_le' (by omega) (by omega)]; omega)
theorem weigh_s {c : St} {k n g : Nat} (hk : k < 6) (hn : n ≤ 12) (hg : g ≤ 20) {K : St → Prop} (hK : ∀ c' : St, (∀ r x, r ≤ n → x ≤ 20 → c'.1 78 (21 * r + x) = eS (arN k g r x)) → (∀ a b, a ≠ 78 → c'.1 a b = c.1 a b) → c'.2 = c.2 → K c') : wp_X4_weigh (nI k) (nI n) (nI g) c K := by
  obtain ⟨T, T0, Ts, Tk, Te⟩ : ∃ T : Nat → Nat → Nat, (∀ h, T 0 h = if h = g then 0 else 1000000) ∧ (∀ r h, T (r + 1) h = mnN (fA k (T r) h) 7) ∧ (∀ r, r ≤ 12 → okW (T r)) ∧ arN k g = T := ⟨arN k g, fun _ => rfl, fun _ _ => rfl, fun r hr => arN_ok hr, rfl⟩
  rw [Te] at hK
  unfold wp_X4_weigh L_X4_weigh_3
  refine for2_1 21 (fun i τ => (∀ x, x < i → τ.1 78 x = eS (T 0 x)) ∧ (∀ a b, a ≠ 78 → τ.1 a b = c.1 a b) ∧ τ.2 = c.2) ?_ ?_ 0 _ (Nat.zero_le _) ⟨fun x hx => by omega, fun _ _ _ => rfl, rfl⟩
  · rintro τ Φ ⟨t1, t2, t3⟩
    unfold B_X4_weigh_3 L_X4_weigh_38
    refine ite_tt ?_ (by decide)
    refine for2_1 (n + 1) (fun s τ => 1 ≤ s ∧ (∀ r x, r < s → x ≤ 20 → τ.1 78 (21 * r + x) = eS (T r x)) ∧ (∀ a b, a ≠ 78 → τ.1 a b = c.1 a b) ∧ τ.2 = c.2) ?_ ?_ 1 _ (by omega) ⟨Nat.le_refl _, fun r x hr hx => by rw [show r = 0 by omega, Nat.mul_zero, Nat.zero_add]; exact t1 x (by omega), t2, t3⟩
    · rintro τ Φ ⟨_, u1, u2, u3⟩
      unfold B_X4_weigh_38 J_X4_weigh_120
      exact ite_tt (hK τ (fun r x hr hx => u1 r x (by omega) hx) u2 u3) (by rw [nI_lt' (by omega) (by omega)]; omega)
    · rintro s τ Φ hs ⟨hs1, u1, u2, u3⟩ hΦ
      obtain ⟨s, rfl⟩ : ∃ s', s = s' + 1 := ⟨s - 1, by omega⟩
      unfold B_X4_weigh_38 L_X4_weigh_54
      refine ite_ff (ite_ff ?_ (by rw [lit_nI, nI_lt' (by decide) (by omega)]; omega)) (by rw [nI_lt' (by omega) (by omega)]; omega)
      refine for2_1 21 (fun i τ => (∀ r x, r < s + 1 → x ≤ 20 → τ.1 78 (21 * r + x) = eS (T r x)) ∧ (∀ x, x < i → τ.1 78 (21 * (s + 1) + x) = eS (T (s + 1) x)) ∧ (∀ a b, a ≠ 78 → τ.1 a b = c.1 a b) ∧ τ.2 = c.2) ?_ ?_ 0 _ (Nat.zero_le _) ⟨u1, fun x hx => by omega, u2, u3⟩
      · rintro τ Φ' ⟨w1, w2, w3, w4⟩
        unfold B_X4_weigh_54
        rw [show nI (s + 1) + 1 = nI (s + 1 + 1) from nI_1 _]
        refine ite_tt (hΦ τ ⟨by omega, fun r x hr hx => ?_, w3, w4⟩) (by decide)
        by_cases e : r = s + 1
        · subst e; exact w2 x (by omega)
        · exact w1 r x (by omega) hx
      · rintro i τ Φ' hi ⟨w1, w2, w3, w4⟩ hΦ'
        have j1 : (nI (s + 1) * 21 + nI i).toNatClampNeg = 21 * (s + 1) + i := by
          have : (nI (s + 1) * 21 + nI i).toNatClampNeg = (s + 1) * 21 + i := by simp (disch := omega) only [lit_nI, nI_add, pk_mul, nI_clamp, vp_nI, nI_inj, nI_lt', nI_le', nI_neg1, nI_neg9, nI_neg3, neg1_nI, neg9_nI, neg_l0, neg_g0, ↓reduceIte, true_and, and_true, not_true_eq_false, not_false_eq_true, Nat.reduceEqDiff, Nat.reduceLeDiff, Nat.reduceAdd, Nat.reduceSub, Nat.reduceDiv, Nat.reduceMod, Nat.reducePow, Nat.reduceLT, Nat.reduceMul, Nat.not_lt_zero, Nat.zero_le, Nat.succ_ne_self, one_ne0, zero_ne1, ne_eq]
          omega
        have j2 : vp_in (nI (s + 1) * 21 + nI i) 273 := by simp (disch := omega) only [lit_nI, nI_add, pk_mul, nI_clamp, vp_nI, nI_inj, nI_lt', nI_le', nI_neg1, nI_neg9, nI_neg3, neg1_nI, neg9_nI, neg_l0, neg_g0, ↓reduceIte, true_and, and_true, not_true_eq_false, not_false_eq_true, Nat.reduceEqDiff, Nat.reduceLeDiff, Nat.reduceAdd, Nat.reduceSub, Nat.reduceDiv, Nat.reduceMod, Nat.reducePow, Nat.reduceLT, Nat.reduceMul, Nat.not_lt_zero, Nat.zero_le, Nat.succ_ne_self, one_ne0, zero_ne1, ne_eq]; omega
        have ts := Ts s i
        have fin : ∀ v, v = eS (T (s + 1) i) → J_X4_weigh_107 (nI k) (nI n) (nI (s + 1)) (nI i) 78 273 (nI (s + 1) * 21 + nI i) v τ K Φ Φ' := by
          rintro _ rfl
          unfold J_X4_weigh_107
          rw [j1, show nI i + 1 = nI (i + 1) from nI_1 i]
          refine ⟨j2, hΦ' _ ⟨fun r x hr hx => (uI_n (by omega)).trans (w1 r x hr hx), fun x hx => ?_, fun a b z => (uI_c z).trans (w3 a b z), w4⟩⟩
          by_cases e : x = i
          · subst e; exact uI_s _ _ _ _
          · exact (uI_n (by omega)).trans (w2 x (by omega))
        unfold B_X4_weigh_54
        have hc : ∀ x, x ≤ 20 → τ.1 78 (21 * s + x) = eS (T s x) := fun x hx => w1 s x (by omega) hx
        have hok := Tk s (by omega)
        refine ite_ff (lightest_s hk (by omega) (by omega) hok hc (fun p a1 _ a2 z => ?_) (fun z => ite_tt (fin _ ?_) rfl)) (nI_ge hi (by decide))
        · refine ite_ff (sumBy_s hk (by omega) (by omega) a1 hok hc (fin _ ?_)) (fun e => (nI_neg9 (a := p) (by omega)).mp e)
          rw [a2, ts]
        · rw [ts, z]; rfl
  · rintro i τ Φ hi ⟨t1, t2, t3⟩ hΦ
    have fin : ∀ w, w = eS (T 0 i) → J_X4_weigh_28 (nI k) (nI n) (nI g) (nI i) 78 273 (nI i) w τ K Φ := by
      rintro _ rfl
      unfold J_X4_weigh_28
      rw [nI_clamp (by omega), show nI i + 1 = nI (i + 1) from nI_1 i]
      refine ⟨vp_in_nI (by omega) (by decide), hΦ _ ⟨fun x hx => ?_, fun a b z => (uI_c z).trans (t2 a b z), t3⟩⟩
      by_cases e : x = i
      · subst e; exact uI_s _ _ _ _
      · exact (uI_n e).trans (t1 x (by omega))
    unfold B_X4_weigh_3
    refine ite_ff (ite_c (fun z => fin _ ?_) (fun z => fin _ ?_)) (nI_ge hi (by decide))
    · rw [nI_inj (by omega) (by omega)] at z
      rw [T0, if_pos z]; rfl
    · rw [nI_inj (by omega) (by omega)] at z
      rw [T0, if_neg z]; rfl
/-- the way by least arms -/
def aH (k g n h : Nat) : Nat → Nat
  | 0 => h
  | j + 1 => aN k (aH k g n h j) (amN (fA k (arN k g (n - 1 - j)) (aH k g n h j)) 7)
def aP (k g n h j : Nat) : Nat := amN (fA k (arN k g (n - 1 - j)) (aH k g n h j)) 7
theorem aH_ok {k g n h : Nat} (hh : h ≤ 20) (ha : arN k g n h < 1000000) : ∀ j, j ≤ n → aH k g n h j ≤ 20 ∧ arN k g (n - j) (aH k g n h j) < 1000000 := by
  intro j
  induction j with
  | zero => intro _; exact ⟨hh, ha⟩
  | succ j ih =>
    intro hj
    obtain ⟨h1, h2⟩ := ih (by omega)
    rw [show n - j = (n - 1 - j) + 1 by omega] at h2
    have h2' : mnN (fA k (arN k g (n - 1 - j)) (aH k g n h j)) 7 < 1000000 := h2
    obtain ⟨a1, a2, a3⟩ := mnN_s h2'
    rw [← a2] at h2'
    obtain ⟨f1, f2, f3⟩ := fA_lt h2'
    rw [show n - (j + 1) = n - 1 - j by omega]
    exact ⟨aN_20 f1, f2⟩
theorem aP_st {k g n h j : Nat} (hh : h ≤ 20) (ha : arN k g n h < 1000000) (hj : j < n) : mnN (fA k (arN k g (n - 1 - j)) (aH k g n h j)) 7 < 1000000 ∧ aP k g n h j < 7 ∧ aN k (aH k g n h j) (aP k g n h j) = aH k g n h (j + 1) ∧ arN k g (n - j) (aH k g n h j) = aP k g n h j + arN k g (n - 1 - j) (aH k g n h (j + 1)) ∧ ∀ q, q < aP k g n h j → aN k (aH k g n h j) q ≠ 21 → arN k g (n - j) (aH k g n h j) ≠ q + arN k g (n - 1 - j) (aN k (aH k g n h j) q) := by
  obtain ⟨h1, h2⟩ := aH_ok hh ha j (by omega)
  rw [show n - j = (n - 1 - j) + 1 by omega] at h2 ⊢
  have h2' : mnN (fA k (arN k g (n - 1 - j)) (aH k g n h j)) 7 < 1000000 := h2
  obtain ⟨a1, a2, a3⟩ := mnN_s h2'
  have h3 := h2'
  rw [← a2] at h3
  obtain ⟨f1, f2, f3⟩ := fA_lt h3
  refine ⟨h2', a1, rfl, ?_, fun q hq h21 => ?_⟩
  · show mnN (fA k (arN k g (n - 1 - j)) (aH k g n h j)) 7 = _
    rw [← a2, f3]; rfl
  · have := a3 q hq
    show mnN (fA k (arN k g (n - 1 - j)) (aH k g n h j)) 7 ≠ _
    have e : fA k (arN k g (n - 1 - j)) (aH k g n h j) q = q + arN k g (n - 1 - j) (aN k (aH k g n h j) q) := if_neg h21
    omega
theorem layLight_s {c : St} {k n g h ρ b : Nat} (hk : k < 6) (hn : n ≤ 12) (hh : h ≤ 20) (hρ : ρ < 6) (hb : 28 ≤ b ∧ b < 34) (hk0 : c.1 b 0 = nI k) (hk3 : c.1 b 3 = nI h) (hc : ∀ r x, r ≤ n → x ≤ 20 → c.1 78 (21 * r + x) = eS (arN k g r x)) (ha : arN k g n h < 1000000) {K : St → Prop} (hK : ∀ c' : St, c'.1 (5 + 2 * ρ) 1 = nI 1 → c'.1 (5 + 2 * ρ) 2 = nI n → (∀ j, j < n → c'.1 (5 + 2 * ρ + 1) j = nI (aP k g n h j)) → (∀ a x, a ≠ 5 + 2 * ρ → a ≠ 5 + 2 * ρ + 1 → c'.1 a x = c.1 a x) → c'.2 = c.2 → K c') : wp_X4_layLightest b (nI n) (5 + 2 * ρ) 40 c K := by
  unfold wp_X4_layLightest L_X4_layLightest_15
  refine begin_s (by omega) (by decide) ?_
  rw [begS_o (by omega) (by omega), hk3]
  obtain ⟨HT, PL, H0, Hle, Hst⟩ : ∃ HT PL : Nat → Nat, HT 0 = h ∧ (∀ j, j ≤ n → HT j ≤ 20) ∧ ∀ j, j < n → PL j = aP k g n h j ∧ PL j < 7 ∧ aN k (HT j) (PL j) = HT (j + 1) ∧ mnN (fA k (arN k g (n - 1 - j)) (HT j)) 7 < 1000000 ∧ amN (fA k (arN k g (n - 1 - j)) (HT j)) 7 = PL j := by
    refine ⟨aH k g n h, aP k g n h, rfl, fun j hj => (aH_ok hh ha j hj).1, fun j hj => ?_⟩
    obtain ⟨e1, e2, e3, e4, e5⟩ := aP_st hh ha hj
    exact ⟨rfl, e2, e3, e1, rfl⟩
  rw [← H0]
  refine for3_2 n (fun j x τ => x = nI (HT j) ∧ τ.1 (5 + 2 * ρ) 1 = nI 1 ∧ τ.1 (5 + 2 * ρ) 2 = nI n ∧ (∀ i, i < j → τ.1 (5 + 2 * ρ + 1) i = nI (PL i)) ∧ (∀ a x, a ≠ 5 + 2 * ρ → a ≠ 5 + 2 * ρ + 1 → τ.1 a x = c.1 a x) ∧ τ.2 = c.2) ?_ ?_ 0 _ _ (Nat.zero_le _) ⟨rfl, begS_1, begS_2, fun i hi => by omega, fun a x h1 h2 => begS_o h1 h2, rfl⟩
  · rintro _ τ Φ ⟨rfl, t1, t2, t3, t4, t5⟩
    unfold B_X4_layLightest_15
    refine ite_tt (hK τ t1 t2 (fun j hj => ?_) t4 t5) (Int32.le_refl _)
    rw [t3 j hj, (Hst j hj).1]
  · rintro j _ τ Φ hj ⟨rfl, t1, t2, t3, t4, t5⟩ hΦ
    unfold B_X4_layLightest_15
    obtain ⟨s1, s2, s3, s4, s5⟩ := Hst j hj
    have hle := Hle j (by omega)
    have hle1 := Hle (j + 1) (by omega)
    rw [t4 b 0 (by omega) (by omega), hk0, pk_sub (show j ≤ n by omega), show n - j = (n - 1 - j) + 1 by omega, show nI j + 1 = nI (j + 1) from nI_1 j]
    refine ite_ff ?_ (nI_ge hj (by omega))
    refine lightest_s hk (by omega) hle (arN_ok (k := k) (g := g) (r := n - 1 - j) (by omega)) (fun x hx => by rw [t4 78 _ (by omega) (by omega)]; exact hc _ x (by omega) hx) (fun p a1 a2 _ z => ?_) (fun z => by omega)
    have ep : p = PL j := a2.symm.trans s5
    rw [ep]
    refine set_s (s := n) (by omega) (by decide) t2 hj ?_
    rw [uI_c (by omega), t4 b 0 (by omega) (by omega), hk0]
    refine after_s hk (by omega) (by omega) (hΦ _ _ ⟨by rw [s3, eA_n (by omega)], (uI_c (by omega)).trans t1, (uI_c (by omega)).trans t2, fun i hi => ?_, fun a x h1 h2 => (uI_c h2).trans (t4 a x h1 h2), t5⟩)
    by_cases e : i = j
    · subst e; exact uI_s _ _ _ _
    · exact (uI_n e).trans (t3 i (by omega))

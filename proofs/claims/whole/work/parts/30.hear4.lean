theorem posH_lo {t : Nat → Nat} {x s : Nat} (h : 0 < posH t x s) : t (posH t x s - 1) ≤ x := by
  induction s with
  | zero => exact absurd h (Nat.lt_irrefl 0)
  | succ s ih =>
    simp only [posH] at h ⊢
    by_cases z : t s ≤ x
    · rw [if_pos z]; exact z
    · rw [if_neg z] at h ⊢; exact ih h
theorem posH_hi {t : Nat → Nat} {x s j : Nat} (h : posH t x s ≤ j) (hj : j < s) : x < t j := by
  induction s with
  | zero => omega
  | succ s ih =>
    simp only [posH] at h
    by_cases z : t s ≤ x
    · rw [if_pos z] at h; omega
    · rw [if_neg z] at h
      by_cases e : j = s
      · subst e; omega
      · exact ih h (by omega)
def srtH (t : Nat → Nat) (s : Nat) : Prop := ∀ j, j + 1 < s → t j ≤ t (j + 1)
theorem srtH_ins {t : Nat → Nat} {x s : Nat} (h : srtH t s) : srtH (insF t (posH t x s) x) (s + 1) := by
  have hk := posH_le t x s
  have lo := posH_lo (t := t) (x := x) (s := s)
  have hi := fun j => posH_hi (t := t) (x := x) (s := s) (j := j)
  generalize posH t x s = k at hk lo hi
  intro j hj
  unfold insF
  by_cases c1 : j + 1 < k
  · rw [if_pos c1, if_pos (by omega)]; exact h j (by omega)
  · by_cases c2 : j + 1 = k
    · rw [if_pos (by omega), if_neg c1, if_pos c2]
      have := lo (by omega)
      rw [show k - 1 = j by omega] at this
      exact this
    · rw [if_neg (by omega), if_neg c1, if_neg c2]
      by_cases c3 : j = k
      · rw [if_pos c3]
        have := hi j (by omega) (by omega)
        rw [show j + 1 - 1 = j by omega]; omega
      · rw [if_neg c3, show j + 1 - 1 = j by omega]
        have := h (j - 1) (by omega)
        rw [show j - 1 + 1 = j by omega] at this
        exact this
theorem hearF_srt (f : Nat → Nat) (n : Nat) : srtH (hearF f n).2.2 (hearF f n).1 := by
  induction n with
  | zero => intro j hj; exact absurd hj (Nat.not_lt_zero _)
  | succ n ih =>
    simp only [hearF]
    split
    · exact ih
    · exact srtH_ins ih
def orH (w : Nat → Nat) : Nat → Int32
  | 0 => 0
  | k + 1 => orH w k ||| shl 1 (nI (w k))
theorem bits_s {c : St} {X : HS} {n : Nat} (hc : HC c X) (ok : HOK X n) (hn : n ≤ 6) {K : Int32 → Prop} (hK : K (orH X.2.1 X.1)) : wp_X3_bits c K := by
  have h1 := ok.1
  obtain ⟨o, o0, os, oe⟩ : ∃ o : Nat → Int32, o 0 = 0 ∧ (∀ k, o (k + 1) = o k ||| shl 1 (nI (X.2.1 k))) ∧ orH X.2.1 X.1 = o X.1 := ⟨orH X.2.1, rfl, fun _ => rfl, rfl⟩
  rw [oe] at hK
  unfold wp_X3_bits L_X3_bits_4
  refine for2_2 X.1 (fun k x => x = o k) ?_ ?_ 0 _ (Nat.zero_le _) o0.symm
  · rintro _ Φ rfl
    unfold B_X3_bits_4
    rw [hc.1]
    exact ite_tt hK (Int32.le_refl _)
  · rintro k _ Φ hk rfl hΦ
    unfold B_X3_bits_4
    rw [hc.1, nI_clamp (by omega), (hc.2 k hk).1, ← os, show nI k + 1 = nI (k + 1) from nI_1 k]
    exact ite_ff ⟨vp_in_nI (by omega) (by decide), hΦ _ rfl⟩ (nI_ge hk (by omega))
theorem heardSet_s {m : St} {X : HS} {n : Nat} (hc : HM m X) (ok : HOK X n) (hn : n ≤ 6) {K : Int32 → Prop} (hK : K (orH X.2.1 X.1)) : wp_X9_heardSet m K := by
  have h1 := ok.1
  obtain ⟨o, o0, os, oe⟩ : ∃ o : Nat → Int32, o 0 = 0 ∧ (∀ k, o (k + 1) = o k ||| shl 1 (nI (X.2.1 k))) ∧ orH X.2.1 X.1 = o X.1 := ⟨orH X.2.1, rfl, fun _ => rfl, rfl⟩
  rw [oe] at hK
  unfold wp_X9_heardSet L_X9_heardSet_4
  refine for2_2 X.1 (fun k x => x = o k) ?_ ?_ 0 _ (Nat.zero_le _) o0.symm
  · rintro _ Φ rfl
    unfold B_X9_heardSet_4
    rw [hc.1]
    exact ite_tt hK (Int32.le_refl _)
  · rintro k _ Φ hk rfl hΦ
    unfold B_X9_heardSet_4
    rw [hc.1, nI_clamp (by omega), (hc.2 k hk).1, ← os, show nI k + 1 = nI (k + 1) from nI_1 k]
    exact ite_ff ⟨vp_in_nI (by omega) (by decide), hΦ _ rfl⟩ (nI_ge hk (by omega))
def gpN (g : Nat) : Nat := if g ≤ 2 then 2 - g else g - 2
theorem gp_abs : ∀ g, g < 51 → iabs (nI g - 2) = nI (gpN g) ∧ (nI g ≤ 2 → 2 - nI g = nI (gpN g)) ∧ (¬ nI g ≤ 2 → nI g - 2 = nI (gpN g)) := by decide
/-- the gaps' errors up to the k-th -/
def erN (t : Nat → Nat) : Nat → Nat
  | 0 => 0
  | k + 1 => erN t k + gpN (t (k + 1) - t k)
def erH (X : HS) : Nat := erN X.2.2 (X.1 - 1)
theorem erN_le {t : Nat → Nat} {s : Nat} (h : ∀ j, j < s → t j ≤ 50) : ∀ k, k < s → erN t k ≤ 50 * k := by
  intro k
  induction k with
  | zero => intro _; exact Nat.le_refl _
  | succ k ih =>
    intro hk
    have h1 := ih (by omega)
    have h2 := h (k + 1) hk
    simp only [erN]
    unfold gpN
    split <;> omega
theorem unev_s {c : St} {X : HS} {n : Nat} (hc : HC c X) (ok : HOK X n) (hn : n ≤ 6) (hs : srtH X.2.2 X.1) {K : Int32 → Prop} (hK : K (nI (erH X))) : wp_X3_unevenness c K := by
  have h1 := ok.1
  have ht : ∀ j, j < X.1 → X.2.2 j ≤ 50 := fun j hj => (ok.2 j hj).2
  obtain ⟨o, o0, os, oe⟩ : ∃ o : Nat → Nat, o 0 = 0 ∧ (∀ k, o (k + 1) = o k + gpN (X.2.2 (k + 1) - X.2.2 k)) ∧ erH X = o (X.1 - 1) := ⟨erN X.2.2, rfl, fun _ => rfl, rfl⟩
  rw [oe] at hK
  unfold wp_X3_unevenness L_X3_unevenness_4
  refine for2_2 (max X.1 1) (fun k x => 1 ≤ k ∧ x = nI (o (k - 1))) ?_ ?_ 1 _ (by omega) ⟨Nat.le_refl _, by rw [show 1 - 1 = 0 from rfl, o0]; rfl⟩
  · rintro _ Φ ⟨_, rfl⟩
    unfold B_X3_unevenness_4
    rw [hc.1, show max X.1 1 - 1 = X.1 - 1 by omega]
    exact ite_tt hK (by rw [nI_le' (by omega) (by omega)]; omega)
  · rintro k _ Φ hk ⟨hk1, rfl⟩ hΦ
    obtain ⟨k, rfl⟩ : ∃ k', k = k' + 1 := ⟨k - 1, by omega⟩
    have g1 := ht (k + 1) (by omega)
    have g2 := hs k (by omega)
    unfold B_X3_unevenness_4
    rw [hc.1, show nI (k + 1) - 1 = nI k from nI_pred k, nI_clamp (by omega), nI_clamp (by omega), (hc.2 (k + 1) (by omega)).2, (hc.2 k (by omega)).2, pk_sub (by omega), (gp_abs _ (by omega)).1, nI_add, show k + 1 - 1 = k from rfl, ← os, show nI (k + 1) + 1 = nI (k + 1 + 1) from nI_1 _]
    exact ite_ff ⟨vp_in_nI (by omega) (by decide), vp_in_nI (by omega) (by decide), hΦ _ ⟨by omega, rfl⟩⟩ (nI_ge (by omega) (by omega))
theorem errorNow_s {m : St} {X : HS} {n : Nat} (hc : HM m X) (ok : HOK X n) (hn : n ≤ 6) (hs : srtH X.2.2 X.1) {K : Int32 → Prop} (hK : K (nI (erH X))) : wp_X9_errorNow m K := by
  have h1 := ok.1
  have ht : ∀ j, j < X.1 → X.2.2 j ≤ 50 := fun j hj => (ok.2 j hj).2
  obtain ⟨o, o0, os, oe⟩ : ∃ o : Nat → Nat, o 0 = 0 ∧ (∀ k, o (k + 1) = o k + gpN (X.2.2 (k + 1) - X.2.2 k)) ∧ erH X = o (X.1 - 1) := ⟨erN X.2.2, rfl, fun _ => rfl, rfl⟩
  rw [oe] at hK
  unfold wp_X9_errorNow L_X9_errorNow_4
  refine for2_2 (max X.1 1) (fun k x => 1 ≤ k ∧ x = nI (o (k - 1))) ?_ ?_ 1 _ (by omega) ⟨Nat.le_refl _, by rw [show 1 - 1 = 0 from rfl, o0]; rfl⟩
  · rintro _ Φ ⟨_, rfl⟩
    unfold B_X9_errorNow_4
    rw [hc.1, show max X.1 1 - 1 = X.1 - 1 by omega]
    exact ite_tt hK (by rw [nI_le' (by omega) (by omega)]; omega)
  · rintro k _ Φ hk ⟨hk1, rfl⟩ hΦ
    obtain ⟨k, rfl⟩ : ∃ k', k = k' + 1 := ⟨k - 1, by omega⟩
    have g1 := ht (k + 1) (by omega)
    have g2 := hs k (by omega)
    have w1 := (ok.2 (k + 1) (by omega)).1
    have w2 := (ok.2 k (by omega)).1
    have e1 := vp_in_nI (n := k + 1) (N := 6) (by omega) (by decide)
    have e2 := vp_in_nI (n := k) (N := 6) (by omega) (by decide)
    have e3 := vp_in_nI (n := X.2.1 (k + 1)) (N := 6) (by omega) (by decide)
    have e4 := vp_in_nI (n := X.2.1 k) (N := 6) (by omega) (by decide)
    have gap : ∀ {K : Int32 → Prop}, K (nI (X.2.2 (k + 1) - X.2.2 k)) → wp_X9_gap (nI (k + 1)) m K := by
      intro K hK
      unfold wp_X9_gap
      rw [show nI (k + 1) - 1 = nI k from nI_pred k, nI_clamp (n := k + 1) (by omega), nI_clamp (n := k) (by omega), (hc.2 (k + 1) (by omega)).1, (hc.2 k (by omega)).1, nI_clamp (n := X.2.1 (k + 1)) (by omega), nI_clamp (n := X.2.1 k) (by omega), (hc.2 (k + 1) (by omega)).2, (hc.2 k (by omega)).2, pk_sub (by omega)]
      exact ⟨e1, e3, e2, e4, hK⟩
    have gp := gp_abs (X.2.2 (k + 1) - X.2.2 k) (by omega)
    unfold B_X9_errorNow_4 J_X9_errorNow_39
    rw [hc.1, show nI (k + 1) + 1 = nI (k + 1 + 1) from nI_1 _, show k + 1 - 1 = k from rfl]
    have nx : Φ (nI (o k) + nI (gpN (X.2.2 (k + 1) - X.2.2 k))) (nI (k + 1 + 1)) := by
      rw [nI_add, ← os]
      exact hΦ _ ⟨by omega, rfl⟩
    refine ite_ff (gap (ite_c (fun z => gap ?_) (fun z => gap ?_))) (nI_ge (by omega) (by omega))
    · rw [gp.2.1 z]; exact nx
    · rw [gp.2.2 z]; exact nx
theorem HC.cc {c c' : St} {X : HS} (h : HC c X) (hk : ∀ a b, 70 ≤ a → a ≤ 72 → c'.1 a b = c.1 a b) : HC c' X := ⟨(hk 70 2 (by omega) (by omega)).trans h.1, fun j hj => ⟨(hk 71 j (by omega) (by omega)).trans (h.2 j hj).1, (hk 72 j (by omega) (by omega)).trans (h.2 j hj).2⟩⟩
theorem keepC_h {c c' : St} (h : ∀ a b, a < 70 ∨ 72 < a → c'.1 a b = c.1 a b) (h2 : c'.2 = c.2) : KeepC c c' := ⟨fun a b hab => h a b (by omega), fun j => by rw [h2]⟩
theorem keepM_h {m m' : St} (h : ∀ a b, ¬ (a = 0 ∧ (b = 17 ∨ b = 18)) → a ≠ 9 → a ≠ 10 → a ≠ 11 → m'.1 a b = m.1 a b) (h2 : m'.2 = m.2) : KeepM m m' := ⟨⟨h 0 1 (by omega) (by omega) (by omega) (by omega), h 0 8 (by omega) (by omega) (by omega) (by omega), h 0 10 (by omega) (by omega) (by omega) (by omega)⟩, fun j _ => h 1 j (by omega) (by omega) (by omega) (by omega), fun k j hk => h k j (by omega) (by omega) (by omega) (by omega), by rw [h2], by rw [h2]⟩
theorem op_error {c m : St} (h : Rel c m) (a : Int32) : wp_X8_error a c (fun r c' => wp_X9_error a m (fun r' m' => r = r' ∧ Rel c' m')) := by
  obtain ⟨n, dm, d, N⟩ := h.now
  have hn := N.1.1
  unfold wp_X8_error
  refine rnd_c h N a (fun r c' r0 r1 hM => ite_ff ?_ r0) (fun ρ p hρ n0 ea hsz hp hpm hM => ite_tt ?_ rfl)
  · unfold wp_X9_error
    exact hM _ (fun m' hR => ite_ff ⟨rfl, hR⟩ r1)
  · subst ea
    have ok : HOK (hearF (fun i => hN c dm i (p i)) n) n := hearF_ok (fun i hi => hN_le N hi _) hn
    have sr := hearF_srt (fun i => hN c dm i (p i)) n
    refine ⟨vp_in_nI hρ (by decide), ?_⟩
    rw [nI_clamp (by omega)]
    refine listen_s N (by omega) hsz (by omega) (by decide) (fun i hi => ⟨(hp i hi).1, by have := (hp i hi).2; omega⟩) (fun c' g1 g2 g3 => bits_s g1 ok hn (unev_s (g1.cc (fun a b z1 z2 => uI_c (by omega))) ok hn sr ?_))
    unfold wp_X9_error wp_X9_tells
    refine hM _ (ite_tt (laysPulls_s N hρ (fun i hi => ⟨hpm i hi, by have := (hp i hi).2; omega⟩) (fun m' y1 y2 y3 _ y4 y5 => heardSet_s y1 ok hn (errorNow_s y1 ok hn sr ⟨rfl, ?_⟩))) (by decide))
    exact (h.keep (keepC_h g2 g3) (keepM_h y4 y5)).tell _

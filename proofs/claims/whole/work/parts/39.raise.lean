/-! raise -/
theorem anyB_congr {P Q : Nat → Bool} {n : Nat} (h : ∀ q, q < n → P q = Q q) : anyB P n = anyB Q n := by
  induction n with
  | zero => rfl
  | succ n ih => simp only [anyB]; rw [ih (fun q hq => h q (by omega)), h n (by omega)]
theorem anyB_fst {P : Nat → Bool} {n : Nat} (h : anyB P n = true) : ∃ p, p < n ∧ P p = true ∧ anyB P p = false := by
  induction n with
  | zero => exact Bool.noConfusion h
  | succ n ih =>
    cases e : anyB P n with
    | true => obtain ⟨p, hp, h1, h2⟩ := ih e; exact ⟨p, by omega, h1, h2⟩
    | false =>
      simp only [anyB, e, Bool.false_or] at h
      exact ⟨n, by omega, h, e⟩
theorem anyB_n {P : Nat → Bool} {n q : Nat} (h : anyB P n = false) (hq : q < n) : P q = false := by
  cases e : P q with
  | false => rfl
  | true => rw [anyB_t hq e] at h; exact absurd h (by decide)
/-- the first place below n; n - 1 where there is none -/
def fstB (P : Nat → Bool) : Nat → Nat
  | 0 => 0
  | n + 1 => if anyB P n then fstB P n else n
theorem fstB_eq {P : Nat → Bool} {n p : Nat} (hp : p < n) (h1 : P p = true) (h2 : anyB P p = false) : fstB P n = p := by
  induction n with
  | zero => omega
  | succ n ih =>
    simp only [fstB]
    by_cases e : p = n
    · subst e; rw [h2]; rfl
    · rw [anyB_t (show p < n by omega) h1, if_pos rfl]
      exact ih (by omega)
theorem ex_eq {α : Type} (x : α) : ∃ f, x = f := ⟨x, rfl⟩
theorem set_s {c : St} {k n s i : Nat} {v : Int32} (hs : s ≤ n) (hn : n < 2 ^ 30) (h2 : c.1 k 2 = nI s) (hi : i < s) {K : St → Prop} (hK : K (uI c (k + 1) i v)) : wp_X6_set k n (nI i) v c K := by
  unfold wp_X6_set J_X6_set_15
  refine has_c (by omega) h2 (fun j hj e => ite_ff ⟨vp_in_nI (by omega) (by omega), ?_⟩ (by decide)) (fun q => absurd (vp_in_nI hi (by omega)) q)
  rw [nI_clamp (by omega)]
  exact hK
theorem ds_step {k g x t : Nat} (ht : t + 1 ≤ 30) (hd : dsN k g 30 x = t + 1) : (∀ q, q < 7 → wpB k x (exB k g t) q = wpB k x (fun y => decide (dsN k g 30 y = t)) q) ∧ ∃ p, p < 7 ∧ wpB k x (exB k g t) p = true ∧ anyB (wpB k x (exB k g t)) p = false ∧ aN k x p ≤ 20 ∧ dsN k g 30 (aN k x p) = t := by
  have key : ∀ q, q < 7 → wpB k x (exB k g t) q = wpB k x (fun y => decide (dsN k g 30 y = t)) q := by
    intro q hq
    unfold wpB
    by_cases h21 : aN k x q = 21
    · simp [h21]
    · simp only [ne_eq, h21, not_false_eq_true, decide_true, Bool.true_and]
      cases e : exB k g t (aN k x q) with
      | true =>
        symm
        apply decide_eq_true
        have h1 := dsN_le (s := 30) (by omega) (Nat.le_refl _) e
        rcases dsN_s k g 30 (aN k x q) with h2 | h2
        · omega
        · have h4 : exB k g (dsN k g 30 (aN k x q) + 1) x = true := by
            refine anyB_t hq ?_
            unfold wpB
            simp only [Bool.and_eq_true, decide_eq_true_eq]
            exact ⟨h21, h2.2⟩
          have h5 := dsN_le (s := 30) (by omega) (Nat.le_refl _) h4
          omega
      | false =>
        symm
        apply decide_eq_false
        intro z
        rcases dsN_s k g 30 (aN k x q) with h2 | h2
        · omega
        · rw [z] at h2; rw [h2.2] at e; exact absurd e (by decide)
  refine ⟨key, ?_⟩
  have e1 : exB k g (t + 1) x = true := by
    rcases dsN_s k g 30 x with h2 | h2
    · omega
    · rw [hd] at h2; exact h2.2
  obtain ⟨p, hp, h1, h2⟩ := anyB_fst (show anyB (wpB k x (exB k g t)) 7 = true from e1)
  have h3 := h1
  rw [key p hp] at h3
  unfold wpB at h3
  simp only [Bool.and_eq_true, decide_eq_true_eq] at h3
  exact ⟨p, hp, h1, h2, aN_20 h3.1, h3.2⟩
/-- the way up: heights, pulls -/
def pthH (k f h : Nat) : Nat → Nat
  | 0 => h
  | j + 1 => aN k (pthH k f h j) (fstB (wpB k (pthH k f h j) (exB k 20 (f - 1 - j))) 7)
def pthP (k f h j : Nat) : Nat := fstB (wpB k (pthH k f h j) (exB k 20 (f - 1 - j))) 7
theorem pth_ok {k f h : Nat} (hf : f ≤ 30) (hh : h ≤ 20) (hd : dsN k 20 30 h = f) : ∀ j, j ≤ f → pthH k f h j ≤ 20 ∧ dsN k 20 30 (pthH k f h j) = f - j := by
  intro j
  induction j with
  | zero => intro _; exact ⟨hh, hd⟩
  | succ j ih =>
    intro hj
    obtain ⟨h1, h2⟩ := ih (by omega)
    obtain ⟨_, p, hp, e1, e2, e3, e4⟩ := ds_step (k := k) (g := 20) (x := pthH k f h j) (t := f - 1 - j) (by omega) (by omega)
    have e : pthH k f h (j + 1) = aN k (pthH k f h j) p := by
      show aN k (pthH k f h j) (fstB (wpB k (pthH k f h j) (exB k 20 (f - 1 - j))) 7) = _
      rw [fstB_eq hp e1 e2]
    rw [e]
    exact ⟨e3, by omega⟩
theorem pth_st {k f h j : Nat} (hf : f ≤ 30) (hh : h ≤ 20) (hd : dsN k 20 30 h = f) (hj : j < f) : (∀ q, q < 7 → wpB k (pthH k f h j) (exB k 20 (f - 1 - j)) q = wpB k (pthH k f h j) (fun y => decide (dsN k 20 30 y = f - 1 - j)) q) ∧ pthP k f h j < 7 ∧ wpB k (pthH k f h j) (exB k 20 (f - 1 - j)) (pthP k f h j) = true ∧ anyB (wpB k (pthH k f h j) (exB k 20 (f - 1 - j))) (pthP k f h j) = false ∧ aN k (pthH k f h j) (pthP k f h j) = pthH k f h (j + 1) ∧ pthH k f h (j + 1) ≤ 20 := by
  obtain ⟨h1, h2⟩ := pth_ok hf hh hd j (by omega)
  obtain ⟨e0, p, hp, e1, e2, e3, e4⟩ := ds_step (k := k) (g := 20) (x := pthH k f h j) (t := f - 1 - j) (by omega) (by omega)
  have e : pthP k f h j = p := fstB_eq hp e1 e2
  refine ⟨e0, by omega, by rw [e]; exact e1, by rw [e]; exact e2, rfl, (pth_ok hf hh hd (j + 1) (by omega)).1⟩
theorem nI_fj {f j : Nat} (hj : j < f) : (nI f - 1) - nI j = nI (f - 1 - j) := by
  rw [show (1 : Int32) = nI 1 from rfl, pk_sub (by omega), pk_sub (by omega)]
theorem nI_fj' {f j : Nat} (hj : j < f) : (nI f - nI j) - 1 = nI (f - 1 - j) := by
  rw [show (1 : Int32) = nI 1 from rfl, pk_sub (by omega), pk_sub (by omega)]
  congr 1; omega
theorem layFew_s {c : St} {k f h ρ b : Nat} (hk : k < 6) (hh : h ≤ 20) (hρ : ρ < 6) (hb : 28 ≤ b ∧ b < 34) (hk0 : c.1 b 0 = nI k) (hk3 : c.1 b 3 = nI h) (hD : ∀ x, x ≤ 20 → c.1 77 x = eD (dsN k 20 30 x)) (hf : f ≤ 30) (hd : dsN k 20 30 h = f) {K : St → Prop} (hK : ∀ c', c'.1 (5 + 2 * ρ) 1 = nI 1 → c'.1 (5 + 2 * ρ) 2 = nI f → (∀ j, j < f → c'.1 (5 + 2 * ρ + 1) j = nI (pthP k f h j)) → (∀ a x, a ≠ 5 + 2 * ρ → a ≠ 5 + 2 * ρ + 1 → c'.1 a x = c.1 a x) → c'.2 = c.2 → K c') : wp_X4_layFewest b (nI f) (5 + 2 * ρ) 40 c K := by
  unfold wp_X4_layFewest L_X4_layFewest_15
  refine begin_s (by omega) (by decide) ?_
  rw [begS_o (by omega) (by omega), hk3]
  obtain ⟨HT, PL, H0, Hle, Hst⟩ : ∃ HT PL : Nat → Nat, HT 0 = h ∧ (∀ j, j ≤ f → HT j ≤ 20) ∧ ∀ j, j < f → PL j = pthP k f h j ∧ PL j < 7 ∧ aN k (HT j) (PL j) = HT (j + 1) ∧ wpB k (HT j) (fun y => decide (dsN k 20 30 y = f - 1 - j)) (PL j) = true ∧ anyB (wpB k (HT j) (fun y => decide (dsN k 20 30 y = f - 1 - j))) (PL j) = false := by
    refine ⟨pthH k f h, pthP k f h, rfl, fun j hj => (pth_ok hf hh hd j hj).1, fun j hj => ?_⟩
    obtain ⟨e0, e1, e2, e3, e4, e5⟩ := pth_st hf hh hd hj
    refine ⟨rfl, e1, e4, by rw [← e0 _ e1]; exact e2, ?_⟩
    rw [← anyB_congr (fun q hq => e0 q (by omega))]; exact e3
  rw [← H0]
  refine for3_2 f (fun j x τ => x = nI (HT j) ∧ τ.1 (5 + 2 * ρ) 1 = nI 1 ∧ τ.1 (5 + 2 * ρ) 2 = nI f ∧ (∀ i, i < j → τ.1 (5 + 2 * ρ + 1) i = nI (PL i)) ∧ (∀ a x, a ≠ 5 + 2 * ρ → a ≠ 5 + 2 * ρ + 1 → τ.1 a x = c.1 a x) ∧ τ.2 = c.2) ?_ ?_ 0 _ _ (Nat.zero_le _) ⟨rfl, begS_1, begS_2, fun i hi => by omega, fun a x h1 h2 => begS_o h1 h2, rfl⟩
  · rintro _ τ Φ ⟨rfl, t1, t2, t3, t4, t5⟩
    unfold B_X4_layFewest_15
    refine ite_tt (hK τ t1 t2 (fun j hj => ?_) t4 t5) (Int32.le_refl _)
    rw [t3 j hj, (Hst j hj).1]
  · rintro j _ τ Φ hj ⟨rfl, t1, t2, t3, t4, t5⟩ hΦ
    unfold B_X4_layFewest_15
    obtain ⟨s1, s2, s3, s4, s5⟩ := Hst j hj
    have hle := Hle j (by omega)
    have hle1 := Hle (j + 1) (by omega)
    rw [t4 b 0 (by omega) (by omega), hk0, nI_fj hj, show nI j + 1 = nI (j + 1) from nI_1 j]
    refine ite_ff ?_ (nI_ge hj (by omega))
    refine toward_s hk hle (by omega) (D := dsN k 20 30) (fun x hx => ⟨by rw [t4 77 x (by omega) (by omega)]; exact hD x hx, dsN_b k 20 30 x (Nat.le_refl _)⟩) (fun p hp z1 z2 => ?_) (fun z => ?_)
    · have e := fst_uniq z1 z2 s4 s5
      subst e
      refine set_s (s := f) (by omega) (by decide) t2 hj ?_
      rw [uI_c (by omega), t4 b 0 (by omega) (by omega), hk0]
      refine after_s hk (by omega) (by omega) (hΦ _ _ ⟨by rw [s3, eA_n (by omega)], (uI_c (by omega)).trans t1, (uI_c (by omega)).trans t2, fun i hi => ?_, fun a x h1 h2 => (uI_c h2).trans (t4 a x h1 h2), t5⟩)
      by_cases e : i = j
      · subst e; exact uI_s _ _ _ _
      · exact (uI_n e).trans (t3 i (by omega))
    · rw [anyB_t s2 s4] at z; exact absurd z (by decide)
theorem op_raise {c m : St} (h : Rel c m) (a b : Int32) : wp_X8_raise a b c (fun r c' => wp_X9_raise a b m (fun r' m' => r = r' ∧ Rel c' m')) := by
  obtain ⟨n, dm, d, N⟩ := h.now
  have hn := N.1.1
  unfold wp_X8_raise J_X8_raise_16 J_X8_raise_86
  by_cases hb : vp_in b 6
  · obtain ⟨ρ, hρ, rfl⟩ := vp_in_of hb (by decide)
    refine isRow_y hρ (ite_ff ?_ (by decide))
    by_cases ha : vp_in a n
    · obtain ⟨i, hi, rfl⟩ := vp_in_of ha (by omega)
      obtain ⟨⟨b1, b2, b3, b4, b5⟩, ⟨c1, c2, c3, c4⟩, d1, d2, d3, d4, d5⟩ := N.2.2.2 i hi
      refine refuse_s N hi (fun o => ite_ff ?_ (by decide)) (fun o => ite_tt ?_ rfl)
      · unfold wp_X9_raise
        exact isBell_y N hi (ite_ff (isRowM_y hρ (ite_ff (isOver_s N hi (fun _ => ite_ff ⟨rfl, h⟩ (by decide)) (fun q => by omega)) (by decide))) (by decide))
      · have hv6 := vp_in_nI (n := i) (N := 6) (by omega) (by decide)
        refine ⟨hv6, ?_⟩
        have i1 : (14 + nI i).toNatClampNeg = 14 + i := by simp (disch := omega) only [lit_nI, nI_add, pk_mul, nI_clamp, vp_nI, nI_inj, nI_lt', nI_le', nI_neg1, nI_neg9, nI_neg3, neg1_nI, neg9_nI, neg_l0, neg_g0, ↓reduceIte, true_and, and_true, not_true_eq_false, not_false_eq_true, Nat.reduceEqDiff, Nat.reduceLeDiff, Nat.reduceAdd, Nat.reduceSub, Nat.reduceDiv, Nat.reduceMod, Nat.reducePow, Nat.reduceLT, Nat.reduceMul, Nat.not_lt_zero, Nat.zero_le, Nat.succ_ne_self, one_ne0, zero_ne1, ne_eq]
        have i2 : vp_in (14 + nI i) 5280 := by simp (disch := omega) only [lit_nI, nI_add, pk_mul, nI_clamp, vp_nI, nI_inj, nI_lt', nI_le', nI_neg1, nI_neg9, nI_neg3, neg1_nI, neg9_nI, neg_l0, neg_g0, ↓reduceIte, true_and, and_true, not_true_eq_false, not_false_eq_true, Nat.reduceEqDiff, Nat.reduceLeDiff, Nat.reduceAdd, Nat.reduceSub, Nat.reduceDiv, Nat.reduceMod, Nat.reducePow, Nat.reduceLT, Nat.reduceMul, Nat.not_lt_zero, Nat.zero_le, Nat.succ_ne_self, one_ne0, zero_ne1, ne_eq]; omega
        have i3 : (2 + nI i).toNatClampNeg = 2 + i := by simp (disch := omega) only [lit_nI, nI_add, pk_mul, nI_clamp, vp_nI, nI_inj, nI_lt', nI_le', nI_neg1, nI_neg9, nI_neg3, neg1_nI, neg9_nI, neg_l0, neg_g0, ↓reduceIte, true_and, and_true, not_true_eq_false, not_false_eq_true, Nat.reduceEqDiff, Nat.reduceLeDiff, Nat.reduceAdd, Nat.reduceSub, Nat.reduceDiv, Nat.reduceMod, Nat.reducePow, Nat.reduceLT, Nat.reduceMul, Nat.not_lt_zero, Nat.zero_le, Nat.succ_ne_self, one_ne0, zero_ne1, ne_eq]
        have i4 : vp_in (2 + nI i) 5280 := by simp (disch := omega) only [lit_nI, nI_add, pk_mul, nI_clamp, vp_nI, nI_inj, nI_lt', nI_le', nI_neg1, nI_neg9, nI_neg3, neg1_nI, neg9_nI, neg_l0, neg_g0, ↓reduceIte, true_and, and_true, not_true_eq_false, not_false_eq_true, Nat.reduceEqDiff, Nat.reduceLeDiff, Nat.reduceAdd, Nat.reduceSub, Nat.reduceDiv, Nat.reduceMod, Nat.reducePow, Nat.reduceLT, Nat.reduceMul, Nat.not_lt_zero, Nat.zero_le, Nat.succ_ne_self, one_ne0, zero_ne1, ne_eq]; omega
        rw [nI_clamp (show i < 2 ^ 31 by omega), nI_clamp (show ρ < 2 ^ 31 by omega), c1]
        refine measure_s (g := 20) b1 (by decide) (fun c' g1 g2 g3 => ?_)
        obtain ⟨f, hf⟩ := ex_eq (dsN (kd c i) 20 30 (hdN c i))
        have g77 : c'.1 77 (hdN c i) = eD f := by rw [g1 _ b3, hf]
        have hR : Rel c' m := h.keep ⟨fun k j hk => g2 k j (by omega), fun j => by rw [g3]⟩ (KeepM.rf m)
        rw [g2 (28 + i) 3 (by omega), c3]
        unfold wp_X4_strokesFrom J_X4_strokesFrom_21
        rw [nI_clamp (show hdN c i < 2 ^ 31 by omega), g77]
        refine ite_ff (ite_ff ⟨vp_in_nI (by omega) (by decide), ?_⟩ (by rw [lit_nI, nI_le' (by decide) (by omega)]; omega)) (by rw [lit_nI, nI_lt' (by omega) (by decide)]; omega)
        have hds : f = 100 ∨ (f ≤ 30 ∧ exB (kd c i) 20 f (hdN c i) = true) := by rw [← hf]; exact dsN_s _ _ _ _
        have hle : ∀ t, t ≤ 30 → exB (kd c i) 20 t (hdN c i) = true → f ≤ t := fun t ht he => by rw [← hf]; exact dsN_le ht (Nat.le_refl _) he
        have hpth := fun j => pth_st (k := kd c i) (f := f) (h := hdN c i) (j := j)
        have hpok := pth_ok (k := kd c i) (f := f) (h := hdN c i)
        have cellI : ∀ (m' : St), (∀ r x, r ≤ 30 → x ≤ 20 → m'.1 12 (21 * r + x) = bI (exB (kd c i) 20 r x)) → ∀ r x, r ≤ 30 → x ≤ 20 → vp_in (21 * nI r + nI x) 651 ∧ m'.1 12 (21 * nI r + nI x).toNatClampNeg = bI (exB (kd c i) 20 r x) := by
          intro m' hm r x hr hx
          have j1 : (21 * nI r + nI x).toNatClampNeg = 21 * r + x := by simp (disch := omega) only [lit_nI, nI_add, pk_mul, nI_clamp, vp_nI, nI_inj, nI_lt', nI_le', nI_neg1, nI_neg9, nI_neg3, neg1_nI, neg9_nI, neg_l0, neg_g0, ↓reduceIte, true_and, and_true, not_true_eq_false, not_false_eq_true, Nat.reduceEqDiff, Nat.reduceLeDiff, Nat.reduceAdd, Nat.reduceSub, Nat.reduceDiv, Nat.reduceMod, Nat.reducePow, Nat.reduceLT, Nat.reduceMul, Nat.not_lt_zero, Nat.zero_le, Nat.succ_ne_self, one_ne0, zero_ne1, ne_eq]
          have j2 : vp_in (21 * nI r + nI x) 651 := by simp (disch := omega) only [lit_nI, nI_add, pk_mul, nI_clamp, vp_nI, nI_inj, nI_lt', nI_le', nI_neg1, nI_neg9, nI_neg3, neg1_nI, neg9_nI, neg_l0, neg_g0, ↓reduceIte, true_and, and_true, not_true_eq_false, not_false_eq_true, Nat.reduceEqDiff, Nat.reduceLeDiff, Nat.reduceAdd, Nat.reduceSub, Nat.reduceDiv, Nat.reduceMod, Nat.reducePow, Nat.reduceLT, Nat.reduceMul, Nat.not_lt_zero, Nat.zero_le, Nat.succ_ne_self, one_ne0, zero_ne1, ne_eq]; omega
          exact ⟨j2, by rw [j1]; exact hm r x hr hx⟩
        by_cases hf1 : f = 100
        · subst hf1
          refine ite_tt ?_ rfl
          unfold wp_X9_raise
          refine isBell_y N hi (ite_ff (isRowM_y hρ (ite_ff (isOver_s N hi (fun q => by omega) (fun _ => ite_tt ⟨i4, ?_⟩ rfl)) (by decide))) (by decide))
          rw [i3, d1]
          refine layStands_s b1 (fun m' k1 k2 k3 => ⟨i2, ?_⟩)
          have hM : Rel c' m' := hR.keep (KeepC.rf c') ⟨⟨k2 _ _ (by decide), k2 _ _ (by decide), k2 _ _ (by decide)⟩, fun j _ => k2 _ _ (by decide), fun k j hk => k2 _ _ (by omega), by rw [k3], by rw [k3]⟩
          rw [i1, k2 1 _ (by decide), d3]
          unfold L_X9_raise_56
          refine for1_1 31 (fun _ => True) ?_ ?_ 0 (Nat.zero_le _) trivial
          · intro Φ _
            unfold B_X9_raise_56 J_X9_raise_85
            exact ite_tt (ite_ff ⟨rfl, hM⟩ (by decide)) (by decide)
          · intro t Φ ht _ hΦ
            unfold B_X9_raise_56
            obtain ⟨y1, y2⟩ := cellI m' k1 t (hdN c i) (by omega) b3
            rw [y2, show nI t + 1 = nI (t + 1) from nI_1 t]
            refine ite_ff ⟨y1, ite_tt (hΦ trivial) ?_⟩ (by rw [lit_nI, nI_lt' (by decide) (by omega)]; omega)
            rw [bI_0]
            cases e : exB (kd c i) 20 t (hdN c i) with
            | false => rfl
            | true => have := hle t (by omega) e; omega
        · have hf30 : f ≤ 30 := by omega
          have eD1 : eD f = nI f := by unfold eD; rw [if_neg hf1]
          rw [eD1]
          refine ite_ff ⟨hb, ?_⟩ (fun e => (nI_neg9 (a := f) (by omega)).mp e)
          refine layFew_s (h := hdN c i) b1 b3 hρ (by omega) (by rw [g2 _ _ (by omega)]; exact c1) (by rw [g2 _ _ (by omega)]; exact c3) g1 hf30 hf (fun c'' r1 r2 r3 r4 r5 => ?_)
          unfold wp_X9_raise
          refine isBell_y N hi (ite_ff (isRowM_y hρ (ite_ff (isOver_s N hi (fun q => by omega) (fun _ => ite_tt ⟨i4, ?_⟩ rfl)) (by decide))) (by decide))
          rw [i3, d1]
          refine layStands_s b1 (fun m' k1 k2 k3 => ⟨i2, ?_⟩)
          have hM : Rel c' m' := hR.keep (KeepC.rf c') ⟨⟨k2 _ _ (by decide), k2 _ _ (by decide), k2 _ _ (by decide)⟩, fun j _ => k2 _ _ (by decide), fun k j hk => k2 _ _ (by omega), by rw [k3], by rw [k3]⟩
          rw [i1, k2 1 _ (by decide), d3]
          unfold L_X9_raise_56
          refine for1_1 f (fun _ => True) ?_ ?_ 0 (Nat.zero_le _) trivial
          · intro Φ _
            unfold B_X9_raise_56 J_X9_raise_85
            obtain ⟨y1, y2⟩ := cellI m' k1 f (hdN c i) (by omega) b3
            have hex : exB (kd c i) 20 f (hdN c i) = true := hds.elim (fun z => absurd z hf1) (fun z => z.2)
            rw [y2, hex]
            refine ite_ff ⟨y1, ite_ff (ite_tt (anewM_s hρ ?_) (by rw [lit_nI, nI_le' (by omega) (by decide)]; omega)) (by decide)⟩ (by rw [lit_nI, nI_lt' (by decide) (by omega)]; omega)
            unfold L_X9_raise_105
            obtain ⟨HT, PL, H0, Hle, Hst⟩ : ∃ HT PL : Nat → Nat, HT 0 = hdN c i ∧ (∀ j, j ≤ f → HT j ≤ 20) ∧ ∀ j, j < f → PL j = pthP (kd c i) f (hdN c i) j ∧ PL j < 7 ∧ aN (kd c i) (HT j) (PL j) = HT (j + 1) ∧ wpB (kd c i) (HT j) (exB (kd c i) 20 (f - 1 - j)) (PL j) = true ∧ anyB (wpB (kd c i) (HT j) (exB (kd c i) 20 (f - 1 - j))) (PL j) = false := by
              refine ⟨pthH (kd c i) f (hdN c i), pthP (kd c i) f (hdN c i), rfl, fun j hj => (hpok hf30 b3 hf j hj).1, fun j hj => ?_⟩
              obtain ⟨e0, e1, e2, e3, e4, e5⟩ := hpth j hf30 b3 hf hj
              exact ⟨rfl, e1, e4, e2, e3⟩
            rw [← H0]
            have w12 : ∀ r x, r ≤ 30 → x ≤ 20 → (anewM m' ρ f).1 12 (21 * r + x) = bI (exB (kd c i) 20 r x) := fun r x hr hx => by rw [← k1 r x hr hx]; simp [anewM]
            refine for3_2 f (fun j x τ => x = nI (HT j) ∧ (∀ i, i < j → τ.1 3 (40 * ρ + i) = nI (PL i)) ∧ (∀ a x, a ≠ 3 → τ.1 a x = (anewM m' ρ f).1 a x) ∧ (∀ x, x < 40 * ρ ∨ 40 * ρ + 40 ≤ x → τ.1 3 x = (anewM m' ρ f).1 3 x) ∧ τ.2 = m'.2) ?_ ?_ 0 _ _ (Nat.zero_le _) ⟨rfl, fun i hi => by omega, fun _ _ _ => rfl, fun _ _ => rfl, rfl⟩
            · rintro _ τ Ψ ⟨rfl, t1, t2, t3, t4⟩
              unfold B_X9_raise_105
              refine ite_tt ⟨rfl, ?_⟩ (Int32.le_refl _)
              refine hM.row hρ (Or.inl ⟨f, by omega, r1, r2, ?_, fun j hj => ?_⟩) r4 r5 (fun k j z1 z2 _ => ?_) (fun j hj => ?_) (fun j hj => ?_) t4
              · rw [t2 4 ρ (by decide)]; simp [anewM]
              · rw [t1 j hj, r3 j hj, (Hst j hj).1]
              · rw [t2 k j z1]; simp [anewM, z1, z2]
              · rw [t2 4 j (by decide)]; simp [anewM, hj]
              · rw [t3 j hj]
                show (if (3 = 3 ∧ 40 * ρ ≤ j ∧ j < 40 * ρ + 40) then nI 0 else if (3 = 4 ∧ j = ρ) then nI f else m'.1 3 j) = m'.1 3 j
                rw [if_neg (by omega), if_neg (by omega)]
            · rintro j _ τ Ψ hj ⟨rfl, t1, t2, t3, t4⟩ hΨ
              unfold B_X9_raise_105 L_X9_raise_124
              obtain ⟨s1, s2, s3, s4, s5⟩ := Hst j hj
              have hle := Hle j (by omega)
              have hle1 := Hle (j + 1) (by omega)
              refine ite_ff (afterM_s (p := 0) b1 (by omega) (by decide) ?_) (nI_ge hj (by omega))
              refine for2_1 (PL j) (fun p x => x = eA (aN (kd c i) (HT j) p)) ?_ ?_ 0 _ (Nat.zero_le _) rfl
              · rintro _ Ψ' rfl
                unfold B_X9_raise_124
                rw [s3, eA_n (by omega), nI_fj' hj, show nI j + 1 = nI (j + 1) from nI_1 j]
                obtain ⟨y1, y2⟩ := cellI τ (fun r x hr hx => by rw [t2 12 _ (by decide)]; exact w12 r x hr hx) (f - 1 - j) (HT (j + 1)) (by omega) hle1
                have i5 : (40 * nI ρ + nI j).toNatClampNeg = 40 * ρ + j := by simp (disch := omega) only [lit_nI, nI_add, pk_mul, nI_clamp, vp_nI, nI_inj, nI_lt', nI_le', nI_neg1, nI_neg9, nI_neg3, neg1_nI, neg9_nI, neg_l0, neg_g0, ↓reduceIte, true_and, and_true, not_true_eq_false, not_false_eq_true, Nat.reduceEqDiff, Nat.reduceLeDiff, Nat.reduceAdd, Nat.reduceSub, Nat.reduceDiv, Nat.reduceMod, Nat.reducePow, Nat.reduceLT, Nat.reduceMul, Nat.not_lt_zero, Nat.zero_le, Nat.succ_ne_self, one_ne0, zero_ne1, ne_eq]
                have i6 : vp_in (40 * nI ρ + nI j) 240 := by simp (disch := omega) only [lit_nI, nI_add, pk_mul, nI_clamp, vp_nI, nI_inj, nI_lt', nI_le', nI_neg1, nI_neg9, nI_neg3, neg1_nI, neg9_nI, neg_l0, neg_g0, ↓reduceIte, true_and, and_true, not_true_eq_false, not_false_eq_true, Nat.reduceEqDiff, Nat.reduceLeDiff, Nat.reduceAdd, Nat.reduceSub, Nat.reduceDiv, Nat.reduceMod, Nat.reducePow, Nat.reduceLT, Nat.reduceMul, Nat.not_lt_zero, Nat.zero_le, Nat.succ_ne_self, one_ne0, zero_ne1, ne_eq]; omega
                unfold wpB at s4
                simp only [Bool.and_eq_true, decide_eq_true_eq] at s4
                rw [s3] at s4
                rw [y2, s4.2, i5]
                refine ite_ff ⟨y1, ite_ff ⟨i6, hΨ _ _ ⟨rfl, fun i' hi' => ?_, fun a x z => (uI_c z).trans (t2 a x z), fun x hx => (uI_n (by omega)).trans (t3 x hx), t4⟩⟩ (by decide)⟩ (fun e => (nI_neg1 (a := HT (j + 1)) (by omega)).mp e)
                by_cases e : i' = j
                · subst e; exact uI_s _ _ _ _
                · exact (uI_n (by omega)).trans (t1 i' (by omega))
              · rintro p _ Ψ' hp rfl hΨ'
                unfold B_X9_raise_124 J_X9_raise_151
                rw [nI_fj' hj, show nI p + 1 = nI (p + 1) from nI_1 p]
                have hl := aN_le (kd c i) (HT j) p
                have hno := anyB_n s5 hp
                refine ite_c (fun z => afterM_s (p := p + 1) b1 (by omega) (by omega) (hΨ' _ rfl)) (fun z => ?_)
                rw [eA_m1 hl] at z
                obtain ⟨y1, y2⟩ := cellI τ (fun r x hr hx => by rw [t2 12 _ (by decide)]; exact w12 r x hr hx) (f - 1 - j) (aN (kd c i) (HT j) p) (by omega) (by omega)
                rw [eA_n z, y2]
                refine ⟨y1, ite_tt (afterM_s (p := p + 1) b1 (by omega) (by omega) (hΨ' _ rfl)) ?_⟩
                rw [bI_0]
                unfold wpB at hno
                simpa [z] using hno
          · intro t Φ ht _ hΦ
            unfold B_X9_raise_56
            obtain ⟨y1, y2⟩ := cellI m' k1 t (hdN c i) (by omega) b3
            rw [y2, show nI t + 1 = nI (t + 1) from nI_1 t]
            refine ite_ff ⟨y1, ite_tt (hΦ trivial) ?_⟩ (by rw [lit_nI, nI_lt' (by decide) (by omega)]; omega)
            rw [bI_0]
            cases e : exB (kd c i) 20 t (hdN c i) with
            | false => rfl
            | true => have := hle t (by omega) e; omega
    · refine refuse_bad N ha (ite_ff ?_ (by decide))
      unfold wp_X9_raise J_X9_raise_15
      exact isBell_n N ha (ite_tt ⟨rfl, h⟩ rfl)
  · refine isRow_n hb (ite_tt (ite_ff ?_ (by decide)) rfl)
    unfold wp_X9_raise J_X9_raise_15
    by_cases ha : vp_in a n
    · obtain ⟨i, hi, rfl⟩ := vp_in_of ha (by omega)
      exact isBell_y N hi (ite_ff (isRowM_n hb (ite_tt ⟨rfl, h⟩ rfl)) (by decide))
    · exact isBell_n N ha (ite_tt ⟨rfl, h⟩ rfl)

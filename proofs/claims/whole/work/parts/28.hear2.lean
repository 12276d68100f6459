/-! listening, by the class and by the reference -/
theorem Now.cc {c c' m : St} {n dm d : Nat} (N : Now c m n dm d) (hk : ∀ a b, 25 ≤ a → a < 34 → c'.1 a b = c.1 a b) : Now c' m n dm d := by
  have hn := N.1.1
  refine ⟨N.1, ⟨(hk 25 2 (by omega) (by omega)).trans N.2.1.1, (hk 25 3 (by omega) (by omega)).trans N.2.1.2.1, (hk 25 4 (by omega) (by omega)).trans N.2.1.2.2⟩, N.2.2.1, fun i hi => ?_⟩
  have h := N.2.2.2 i hi
  unfold BV kd wd hdN od at h ⊢
  rw [hk (28 + i) 0 (by omega) (by omega), hk (28 + i) 1 (by omega) (by omega), hk (28 + i) 3 (by omega) (by omega), hk (28 + i) 4 (by omega) (by omega), hk (28 + i) 5 (by omega) (by omega)]
  exact h
theorem sN_cc {c c' : St} (hk : ∀ a b, 25 ≤ a → a < 34 → c'.1 a b = c.1 a b) {i : Nat} (hi : i < 6) (dm p : Nat) : sN c' dm i p = sN c dm i p := by
  unfold sN kd wd hdN
  rw [hk (28 + i) 0 (by omega) (by omega), hk (28 + i) 1 (by omega) (by omega), hk (28 + i) 3 (by omega) (by omega)]
theorem Now.mm {c m m' : St} {n dm d : Nat} (N : Now c m n dm d) (h1 : ∀ j, j < 32 → m'.1 1 j = m.1 1 j) (h0 : m'.1 0 1 = m.1 0 1) : Now c m' n dm d := by
  have hn := N.1.1
  refine ⟨N.1, N.2.1, ⟨(h1 0 (by omega)).trans N.2.2.1.1, (h1 1 (by omega)).trans N.2.2.1.2.1, h0.trans N.2.2.1.2.2⟩, fun i hi => ?_⟩
  obtain ⟨a, b, e1, e2, e3, e4, e5⟩ := N.2.2.2 i hi
  exact ⟨a, b, (h1 (2 + i) (by omega)).trans e1, (h1 (8 + i) (by omega)).trans e2, (h1 (14 + i) (by omega)).trans e3, (h1 (20 + i) (by omega)).trans e4, (h1 (26 + i) (by omega)).trans e5⟩
/-- what is heard of bell i by pull p -/
def hN (c : St) (dm i p : Nat) : Nat := if od c i = 1 then 0 else sN c dm i p
theorem hN_le {c m : St} {n dm d : Nat} (N : Now c m n dm d) {i : Nat} (hi : i < n) (p : Nat) : hN c dm i p ≤ 30 := by
  unfold hN; split
  · omega
  · exact sN_le N hi p
theorem two_nI (i t : Nat) : (2 : Int32) * nI i + nI t = nI (2 * i + t) := by simp (disch := omega) only [lit_nI, nI_add, pk_mul, nI_clamp, vp_nI, nI_inj, nI_lt', nI_le', nI_neg1, nI_neg9, nI_neg3, neg1_nI, neg9_nI, neg_l0, neg_g0, ↓reduceIte, true_and, and_true, not_true_eq_false, not_false_eq_true, Nat.reduceEqDiff, Nat.reduceLeDiff, Nat.reduceAdd, Nat.reduceSub, Nat.reduceDiv, Nat.reduceMod, Nat.reducePow, Nat.reduceLT, Nat.reduceMul, Nat.not_lt_zero, Nat.zero_le, Nat.succ_ne_self, one_ne0, zero_ne1, ne_eq]
theorem listen_s {c m : St} {n dm d : Nat} (N : Now c m n dm d) {k1 n1 : Nat} (hk1 : k1 + 1 < 70) (hsz : c.1 k1 2 = nI n) (hn1 : n ≤ n1) (hn2 : n1 < 2 ^ 20) {p : Nat → Nat} (hp : ∀ i, i < n → c.1 (k1 + 1) i = nI (p i) ∧ p i < 2 ^ 18) {K : St → Prop} (hK : ∀ c', HC c' (hearF (fun i => hN c dm i (p i)) n) → (∀ a b, a < 70 ∨ 72 < a → c'.1 a b = c.1 a b) → c'.2 = c.2 → K c') : wp_X8_listen k1 n1 c K := by
  have hn := N.1.1
  obtain ⟨F, F0, Fs, Fo, Fe⟩ : ∃ F : Nat → HS, F 0 = (0, fun _ => 0, fun _ => 0) ∧ (∀ i, F (i + 1) = if hN c dm i (p i) = 0 then F i else entH (F i) i (2 * i + hN c dm i (p i))) ∧ (∀ i, i ≤ n → HOK (F i) i) ∧ hearF (fun i => hN c dm i (p i)) n = F n := ⟨hearF (fun i => hN c dm i (p i)), rfl, fun _ => rfl, fun i hi => hearF_ok (fun j hj => hN_le N (by omega) _) (by omega), rfl⟩
  rw [Fe] at hK
  unfold wp_X8_listen wp_X3_clear L_X8_listen_9
  refine for2_1 n (fun i τ => HC τ (F i) ∧ (∀ a b, a < 70 ∨ 72 < a → τ.1 a b = c.1 a b) ∧ τ.2 = c.2) ?_ ?_ 0 _ (Nat.zero_le _) ⟨⟨by rw [F0, uI_s]; rfl, fun j hj => by rw [F0] at hj; exact absurd hj (Nat.not_lt_zero j)⟩, fun a b hab => uI_c (by omega), rfl⟩
  · rintro τ Φ ⟨h1, h2, h3⟩
    unfold B_X8_listen_9 J_X8_listen_88
    rw [h2 25 2 (by omega), N.2.1.1]
    exact ite_tt (hK τ h1 h2 h3) (Int32.le_refl _)
  · rintro i τ Φ hi ⟨h1, h2, h3⟩ hΦ
    have hkc : ∀ a b, 25 ≤ a → a < 34 → τ.1 a b = c.1 a b := fun a b g1 g2 => h2 a b (by omega)
    have N' := N.cc hkc
    have hl := sN_le N hi (p i)
    obtain ⟨⟨b1, b2, b3, b4, b5⟩, ⟨c1, c2, c3, c4⟩, d1⟩ := N.2.2.2 i hi
    unfold B_X8_listen_9 J_X8_listen_88
    rw [h2 25 2 (by omega), N.2.1.1, h2 k1 2 (by omega), hsz, nI_clamp (by omega), h2 (28 + i) 5 (by omega), c4, h2 (k1 + 1) i (by omega), (hp i hi).1]
    have nx : (hN c dm i (p i) = 0 → J_X8_listen_62 k1 n1 (nI i) (-9) τ K Φ) ∧ (hN c dm i (p i) ≠ 0 → J_X8_listen_62 k1 n1 (nI i) (nI (hN c dm i (p i))) τ K Φ) := by
      unfold J_X8_listen_62 J_X8_listen_82
      rw [show nI i + 1 = nI (i + 1) from nI_1 i]
      refine ⟨fun z => ite_tt (hΦ τ ⟨?_, h2, h3⟩) rfl, fun z => ite_ff ?_ ?_⟩
      · rw [Fs, if_pos z]; exact h1
      · have hh := hN_le N hi (p i)
        rw [two_nI]
        refine enter_s h1 (Fo i (by omega)) (by omega) (by omega) (fun c' g1 g2 g3 => hΦ c' ⟨?_, fun a b hab => (g2 a b hab).trans (h2 a b hab), g3.trans h3⟩)
        rw [Fs, if_neg z]; exact g1
      · have hh := hN_le N hi (p i)
        have := nI_neg9 (a := hN c dm i (p i)) (by omega)
        intro e; exact this.mp e
    refine ite_ff (ite_ff ⟨vp_in_nI (by omega) (by decide), ite_c (fun z => ⟨vp_in_nI (by omega) (by omega), tenthsBy_s N' hi (hp i hi).2 ?_⟩) (fun z => nx.1 ?_)⟩ (nI_ge hi (by omega))) (nI_ge hi (by omega))
    · have ho : od c i ≠ 1 := by
        intro e; rw [e] at z; exact absurd z (by decide)
      have hh : hN c dm i (p i) = sN c dm i (p i) := by unfold hN; rw [if_neg ho]
      rw [sN_cc hkc (by omega), ← hh]
      by_cases z0 : hN c dm i (p i) = 0
      · rw [z0]; exact nx.1 z0
      · rw [eT_n z0]; exact nx.2 z0
    · have : od c i = 1 := by
        rcases (by omega : od c i = 0 ∨ od c i = 1) with e | e
        · rw [e] at z; exact absurd rfl z
        · exact e
      unfold hN; rw [if_pos this]
theorem entM_s {m : St} {X : HS} {i x : Nat} (hc : HM m X) (ok : HOK X i) (hi : i < 6) (hx : x ≤ 50) (h10 : m.1 10 i = nI x) {K : St → Prop} {Φ12 : Int32 → St → Prop} (hK : ∀ m', HM m' (entH X i x) → (∀ a b, ¬ (a = 0 ∧ b = 18) → a ≠ 11 → m'.1 a b = m.1 a b) → m'.2 = m.2 → Φ12 (nI (i + 1)) m') : L_X9_rings_157 (nI i) K Φ12 (nI X.1) m := by
  obtain ⟨s, w, t⟩ := X
  have h1 : s ≤ i := ok.1
  have hok : ∀ j, j < s → w j < i ∧ t j ≤ 50 := ok.2
  have hs : m.1 0 18 = nI s := hc.1
  have hcc : ∀ j, j < s → m.1 11 j = nI (w j) ∧ m.1 10 (w j) = nI (t j) := hc.2
  unfold L_X9_rings_157
  refine wl2_ind (fun v τ => ∃ q, q ≤ s ∧ v = nI q ∧ posH t x s = posH t x q ∧ (∀ j, j < q → τ.1 11 j = m.1 11 j) ∧ (∀ j, q < j → j ≤ s → τ.1 11 j = m.1 11 (j - 1)) ∧ (∀ a b, a ≠ 11 → τ.1 a b = m.1 a b) ∧ τ.2 = m.2) (fun v _ => v.toNatClampNeg) ?_ _ _ ⟨s, Nat.le_refl _, rfl, rfl, fun _ _ => rfl, fun j z1 z2 => by omega, fun _ _ _ => rfl, rfl⟩
  rintro _ τ ⟨q, hq, rfl, hp, r1, r2, r4, r5⟩ Φ hΦ
  have fin : posH t x s = q → J_X9_rings_207 (nI i) (nI q) τ K Φ12 := by
    intro hpq
    have hv := vp_in_nI (n := q) (N := 6) (by omega) (by decide)
    unfold J_X9_rings_207 J_X9_rings_225
    rw [nI_clamp (by omega), uI_c (show 0 ≠ 11 by omega), r4 0 18 (by omega), hs, show nI s + 1 = nI (s + 1) from nI_1 s, show nI i + 1 = nI (i + 1) from nI_1 i]
    refine ⟨hv, hK _ ⟨?_, fun j hj => ?_⟩ (fun a b hab ha => ?_) r5⟩
    · rw [uI_s]; rfl
    · have hj' : j < s + 1 := hj
      show _ = nI (insF w (posH t x s) i j) ∧ (uI _ 0 18 _).1 10 (insF w (posH t x s) i j) = nI (insF t (posH t x s) x j)
      rw [hpq, uI_c (show 11 ≠ 0 by omega), uI_c (show 10 ≠ 0 by omega), uI_c (show 10 ≠ 11 by omega), r4 10 _ (by omega)]
      unfold insF
      by_cases c1 : j < q
      · rw [if_pos c1, if_pos c1, uI_n (by omega), r1 j c1]
        exact hcc j (by omega)
      · rw [if_neg c1, if_neg c1]
        by_cases c2 : j = q
        · subst c2
          rw [if_pos rfl, if_pos rfl, uI_s]
          exact ⟨rfl, h10⟩
        · rw [if_neg c2, if_neg c2, uI_n (by omega), r2 j (by omega) (by omega)]
          exact hcc (j - 1) (by omega)
    · by_cases e : a = 0
      · subst e
        rw [uI_n (by intro e; exact hab ⟨rfl, e⟩), uI_c (by omega)]; exact r4 0 b (by omega)
      · rw [uI_c e, uI_c ha]; exact r4 a b ha
  unfold B_X9_rings_157
  refine ite_c (fun z => fin ?_) (fun z => ?_)
  · rw [lit_nI, nI_le' (by omega) (by decide)] at z
    rw [hp, show q = 0 by omega]; rfl
  · rw [lit_nI, nI_le' (by omega) (by decide)] at z
    obtain ⟨q', rfl⟩ : ∃ q', q = q' + 1 := ⟨q - 1, by omega⟩
    have hv := vp_in_nI (n := q' + 1) (N := 6) (by omega) (by decide)
    have hv' := vp_in_nI (n := q') (N := 6) (by omega) (by decide)
    obtain ⟨e1, e2⟩ := hcc q' (by omega)
    obtain ⟨o1, o2⟩ := hok q' (by omega)
    rw [show nI (q' + 1) - 1 = nI q' from nI_pred q', nI_clamp (n := q') (by omega), nI_clamp (n := q' + 1) (by omega), nI_clamp (n := i) (by omega), r1 q' (by omega), e1, nI_clamp (n := w q') (by omega), r4 10 (w q') (by omega), e2, r4 10 i (by omega), h10, pk_m1]
    refine ⟨hv', vp_in_nI (by omega) (by decide), vp_in_nI (by omega) (by decide), ite_c (fun y => fin ?_) (fun y => ⟨hv', hv, hΦ _ _ ⟨q', by omega, rfl, ?_, fun j hj => ?_, fun j z1 z2 => ?_, fun a b ha => ?_, r5⟩ ?_⟩)⟩
    · rw [nI_le' (by omega) (by omega)] at y
      rw [hp]; simp only [posH]; rw [if_pos y]
    · rw [nI_le' (by omega) (by omega)] at y
      exact posH_step (by omega) hp y
    · rw [uI_n (by omega)]; exact r1 j (by omega)
    · by_cases e : j = q' + 1
      · subst e
        rw [uI_s, show q' + 1 - 1 = q' by omega, e1]
      · rw [uI_n e]; exact r2 j (by omega) z2
    · rw [uI_c ha]; exact r4 a b ha
    · rw [nI_clamp (by omega), nI_clamp (by omega)]; omega

/-- one of several -/
def anyB (P : Nat → Bool) : Nat → Bool
  | 0 => false
  | n + 1 => anyB P n || P n
/-- bell i, pulled by p, breaks its stay -/
def bkB (c : St) (i p : Nat) : Bool := decide (od c i = 0 ∧ aN (kd c i) (hdN c i) p = 21)
def eH (f i : Nat) : Int32 := if f = 0 then -9 else nI (2 * i + f)
/-- what rings leaves alone -/
def RingM (m m' : St) : Prop := (∀ a b, ¬ (a = 0 ∧ (b = 17 ∨ b = 18)) → a ≠ 10 → a ≠ 11 → m'.1 a b = m.1 a b) ∧ m'.2 = m.2
theorem rings_s {c m : St} {n dm d : Nat} (N : Now c m n dm d) {p : Nat → Nat} (hp : ∀ i, i < n → m.1 9 i = nI (p i) ∧ p i < 2 ^ 18) {K : St → Prop} (hK : ∀ m', HM m' (hearF (fun i => hN c dm i (p i)) n) → m'.1 0 17 = (if anyB (fun i => bkB c i (p i)) n then 1 else 0) → (∀ i, i < n → m'.1 10 i = eH (hN c dm i (p i)) i) → RingM m m' → K m') : wp_X9_rings m K := by
  have hn := N.1.1
  obtain ⟨F, F0, Fs, Fo, Fe⟩ : ∃ F : Nat → HS, F 0 = (0, fun _ => 0, fun _ => 0) ∧ (∀ i, F (i + 1) = if hN c dm i (p i) = 0 then F i else entH (F i) i (2 * i + hN c dm i (p i))) ∧ (∀ i, i ≤ n → HOK (F i) i) ∧ hearF (fun i => hN c dm i (p i)) n = F n := ⟨hearF (fun i => hN c dm i (p i)), rfl, fun _ => rfl, fun i hi => hearF_ok (fun j hj => hN_le N (by omega) _) (by omega), rfl⟩
  obtain ⟨B, B0, Bs, Be⟩ : ∃ B : Nat → Bool, B 0 = false ∧ (∀ i, B (i + 1) = (B i || bkB c i (p i))) ∧ anyB (fun i => bkB c i (p i)) n = B n := ⟨anyB (fun i => bkB c i (p i)), rfl, fun _ => rfl, rfl⟩
  rw [Fe, Be] at hK
  unfold wp_X9_rings L_X9_rings_12
  refine for2_1 n (fun i τ => HM τ (F i) ∧ τ.1 0 17 = (if B i then 1 else 0) ∧ (∀ j, j < i → τ.1 10 j = eH (hN c dm j (p j)) j) ∧ RingM m τ) ?_ ?_ 0 _ (Nat.zero_le _) ⟨⟨by rw [F0, uI_s]; rfl, fun j hj => by rw [F0] at hj; exact absurd hj (Nat.not_lt_zero j)⟩, by rw [B0, uI_n (by omega), uI_s]; rfl, fun j hj => by omega, fun a b hab h10 h11 => ?_, rfl⟩
  · rintro τ Φ ⟨h1, h2, h3, h4⟩
    unfold B_X9_rings_12
    rw [show (0 : Int32).toNatClampNeg = 0 from rfl, h4.1 1 0 (by omega) (by omega) (by omega), N.2.2.1.1]
    exact ⟨in0, ite_tt (hK τ h1 h2 h3 h4) (Int32.le_refl _)⟩
  · rintro i τ Φ hi ⟨h1, h2, h3, h4⟩ hΦ
    have N' : Now c τ n dm d := N.mm (fun j hj => h4.1 1 j (by omega) (by omega) (by omega)) (h4.1 0 1 (by omega) (by omega) (by omega))
    have hl := hN_le N hi (p i)
    obtain ⟨⟨b1, b2, b3, b4, b5⟩, ⟨c1, c2, c3, c4⟩, d1, d2, d3, d4, d5⟩ := N'.2.2.2 i hi
    have i1 : (8 + nI i).toNatClampNeg = 8 + i := by simp (disch := omega) only [lit_nI, nI_add, pk_mul, nI_clamp, vp_nI, nI_inj, nI_lt', nI_le', nI_neg1, nI_neg9, nI_neg3, neg1_nI, neg9_nI, neg_l0, neg_g0, ↓reduceIte, true_and, and_true, not_true_eq_false, not_false_eq_true, Nat.reduceEqDiff, Nat.reduceLeDiff, Nat.reduceAdd, Nat.reduceSub, Nat.reduceDiv, Nat.reduceMod, Nat.reducePow, Nat.reduceLT, Nat.reduceMul, Nat.not_lt_zero, Nat.zero_le, Nat.succ_ne_self, one_ne0, zero_ne1, ne_eq]
    have i2 : vp_in (8 + nI i) 5280 := by simp (disch := omega) only [lit_nI, nI_add, pk_mul, nI_clamp, vp_nI, nI_inj, nI_lt', nI_le', nI_neg1, nI_neg9, nI_neg3, neg1_nI, neg9_nI, neg_l0, neg_g0, ↓reduceIte, true_and, and_true, not_true_eq_false, not_false_eq_true, Nat.reduceEqDiff, Nat.reduceLeDiff, Nat.reduceAdd, Nat.reduceSub, Nat.reduceDiv, Nat.reduceMod, Nat.reducePow, Nat.reduceLT, Nat.reduceMul, Nat.not_lt_zero, Nat.zero_le, Nat.succ_ne_self, one_ne0, zero_ne1, ne_eq]; omega
    have i3 : (14 + nI i).toNatClampNeg = 14 + i := by simp (disch := omega) only [lit_nI, nI_add, pk_mul, nI_clamp, vp_nI, nI_inj, nI_lt', nI_le', nI_neg1, nI_neg9, nI_neg3, neg1_nI, neg9_nI, neg_l0, neg_g0, ↓reduceIte, true_and, and_true, not_true_eq_false, not_false_eq_true, Nat.reduceEqDiff, Nat.reduceLeDiff, Nat.reduceAdd, Nat.reduceSub, Nat.reduceDiv, Nat.reduceMod, Nat.reducePow, Nat.reduceLT, Nat.reduceMul, Nat.not_lt_zero, Nat.zero_le, Nat.succ_ne_self, one_ne0, zero_ne1, ne_eq]
    have i4 : vp_in (14 + nI i) 5280 := by simp (disch := omega) only [lit_nI, nI_add, pk_mul, nI_clamp, vp_nI, nI_inj, nI_lt', nI_le', nI_neg1, nI_neg9, nI_neg3, neg1_nI, neg9_nI, neg_l0, neg_g0, ↓reduceIte, true_and, and_true, not_true_eq_false, not_false_eq_true, Nat.reduceEqDiff, Nat.reduceLeDiff, Nat.reduceAdd, Nat.reduceSub, Nat.reduceDiv, Nat.reduceMod, Nat.reducePow, Nat.reduceLT, Nat.reduceMul, Nat.not_lt_zero, Nat.zero_le, Nat.succ_ne_self, one_ne0, zero_ne1, ne_eq]; omega
    have i5 : (2 + nI i).toNatClampNeg = 2 + i := by simp (disch := omega) only [lit_nI, nI_add, pk_mul, nI_clamp, vp_nI, nI_inj, nI_lt', nI_le', nI_neg1, nI_neg9, nI_neg3, neg1_nI, neg9_nI, neg_l0, neg_g0, ↓reduceIte, true_and, and_true, not_true_eq_false, not_false_eq_true, Nat.reduceEqDiff, Nat.reduceLeDiff, Nat.reduceAdd, Nat.reduceSub, Nat.reduceDiv, Nat.reduceMod, Nat.reducePow, Nat.reduceLT, Nat.reduceMul, Nat.not_lt_zero, Nat.zero_le, Nat.succ_ne_self, one_ne0, zero_ne1, ne_eq]
    have i6 : vp_in (2 + nI i) 5280 := by simp (disch := omega) only [lit_nI, nI_add, pk_mul, nI_clamp, vp_nI, nI_inj, nI_lt', nI_le', nI_neg1, nI_neg9, nI_neg3, neg1_nI, neg9_nI, neg_l0, neg_g0, ↓reduceIte, true_and, and_true, not_true_eq_false, not_false_eq_true, Nat.reduceEqDiff, Nat.reduceLeDiff, Nat.reduceAdd, Nat.reduceSub, Nat.reduceDiv, Nat.reduceMod, Nat.reducePow, Nat.reduceLT, Nat.reduceMul, Nat.not_lt_zero, Nat.zero_le, Nat.succ_ne_self, one_ne0, zero_ne1, ne_eq]; omega
    have hv := vp_in_nI (n := i) (N := 6) (by omega) (by decide)
    -- the end of a step: t is the time, if it is heard
    have fin : ∀ τ' : St, HM τ' (F i) → τ'.1 0 17 = (if B (i + 1) then 1 else 0) → (∀ j, j < i → τ'.1 10 j = eH (hN c dm j (p j)) j) → RingM m τ' → ∀ r, r = eT (hN c dm i (p i)) → J_X9_rings_122 (nI i) r τ' K Φ := by
      rintro τ' g1 g2 g3 g4 r rfl
      unfold J_X9_rings_122 J_X9_rings_144
      rw [nI_clamp (by omega)]
      have ok := Fo i (by omega)
      have hm : ∀ v, HM (uI τ' 10 i v) (F i) := by
        intro v
        refine ⟨(uI_c (by omega)).trans g1.1, fun j hj => ?_⟩
        rw [uI_c (by omega), uI_n (by have := (ok.2 j hj).1; omega)]
        exact g1.2 j hj
      have h10 : ∀ v j, j < i → (uI τ' 10 i v).1 10 j = eH (hN c dm j (p j)) j := fun v j hj => (uI_n (by omega)).trans (g3 j hj)
      have hr : ∀ v, RingM m (uI τ' 10 i v) := fun v => ⟨fun a b hab ha hb => (uI_c ha).trans (g4.1 a b hab ha hb), g4.2⟩
      by_cases z : hN c dm i (p i) = 0
      · rw [z, eT_0]
        unfold J_X9_rings_225
        rw [show nI i + 1 = nI (i + 1) from nI_1 i]
        refine ite_tt ⟨hv, ite_tt (hΦ _ ⟨?_, (uI_c (by omega)).trans g2, fun j hj => ?_, hr _⟩) rfl⟩ rfl
        · rw [Fs, if_pos z]; exact hm _
        · by_cases e : j = i
          · subst e; rw [uI_s]; unfold eH; rw [if_pos z]
          · exact h10 _ j (by omega)
      · rw [eT_n z]
        have n9 : ¬ nI (hN c dm i (p i)) = -9 := fun e => (nI_neg9 (a := hN c dm i (p i)) (by omega)).mp e
        refine ite_ff ⟨hv, ite_ff ?_ n9⟩ n9
        rw [two_nI, (hm _).1]
        refine entM_s (x := 2 * i + hN c dm i (p i)) (hm _) ok (by omega) (by omega) (uI_s _ _ _ _) (fun m' y1 y2 y3 => hΦ _ ⟨?_, (y2 0 17 (by omega) (by omega)).trans ((uI_c (by omega)).trans g2), fun j hj => ?_, ?_⟩)
        · rw [Fs, if_neg z]; exact y1
        · rw [y2 10 j (by omega) (by omega)]
          by_cases e : j = i
          · subst e; rw [uI_s]; unfold eH; rw [if_neg z]
          · exact h10 _ j (by omega)
        · exact ⟨fun a b hab ha hb => (y2 a b (by omega) hb).trans ((hr _).1 a b hab ha hb), y3.trans (hr _).2⟩
    -- with the mark of a broken stay
    have mid : ∀ r, (od c i = 0 → r = eA (aN (kd c i) (hdN c i) (p i))) → (od c i = 1 → r = 0) → J_X9_rings_60 (nI i) r τ K Φ := by
      intro r hr0 hr1
      have st : ∀ w1, (w1 = 0 ∨ w1 = 1) → w1 = (if B (i + 1) then 1 else 0) → J_X9_rings_79 (nI i) r w1 τ K Φ := by
        intro w1 hz hw
        have N'' : Now c (uI τ 0 17 w1) n dm d := N'.mm (fun j hj => uI_c (by omega)) (uI_n (by omega))
        have g1 : HM (uI τ 0 17 w1) (F i) := ⟨(uI_n (by omega)).trans h1.1, fun j hj => by rw [uI_c (by omega), uI_c (by omega)]; exact h1.2 j hj⟩
        have g2 : (uI τ 0 17 w1).1 0 17 = (if B (i + 1) then 1 else 0) := (uI_s _ _ _ _).trans hw
        have g3 : ∀ j, j < i → (uI τ 0 17 w1).1 10 j = eH (hN c dm j (p j)) j := fun j hj => (uI_c (by omega)).trans (h3 j hj)
        have g4 : RingM m (uI τ 0 17 w1) := ⟨fun a b hab ha hb => by
          by_cases e : a = 0
          · subst e; rw [uI_n (by omega)]; exact h4.1 0 b hab ha hb
          · rw [uI_c e]; exact h4.1 a b hab ha hb, h4.2⟩
        unfold J_X9_rings_79
        refine ⟨?_, isOver_s N'' hi (fun o => ite_ff (fin _ g1 g2 g3 g4 _ ?_) (by decide)) (fun o => ite_tt ?_ rfl)⟩
        · rcases hz with rfl | rfl
          · exact zok0
          · exact zok1
        · unfold hN; rw [if_pos o]; rfl
        · rw [i1, i5, show (1 : Int32).toNatClampNeg = 1 from rfl, uI_c (by omega), uI_c (by omega), uI_c (by omega), d1, d2, N'.2.2.1.2.1, hr0 o]
          refine ⟨i6, i2, in1, tenthsM_s b1 b2 N.1.2.1 (aN_le _ _ _) (fin _ g1 g2 g3 g4 _ ?_)⟩
          unfold hN sN; rw [if_neg (by omega)]
      unfold J_X9_rings_60 J_X9_rings_74
      rw [h2]
      have hb : bkB c i (p i) = decide (r = -1) := by
        unfold bkB
        rcases (by omega : od c i = 0 ∨ od c i = 1) with e | e
        · rw [hr0 e]
          simp only [eA_m1 (aN_le _ _ _), e, true_and]
        · rw [hr1 e, e]; rfl
      cases hB : B i with
      | true => exact ite_ff (st 1 (Or.inr rfl) (by rw [Bs, hB]; rfl)) (by decide)
      | false =>
        refine ite_tt (ite_c (fun z => st 1 (Or.inr rfl) ?_) (fun z => st 0 (Or.inl rfl) ?_)) rfl
        · rw [Bs, hB, hb, decide_eq_true z]; rfl
        · rw [Bs, hB, hb, decide_eq_false z]; rfl
    unfold B_X9_rings_12
    rw [show (0 : Int32).toNatClampNeg = 0 from rfl, N'.2.2.1.1]
    refine ⟨in0, ite_ff (isOver_s N' hi (fun o => ite_ff (mid 0 (fun o' => by omega) (fun _ => rfl)) (by decide)) (fun o => ite_tt ?_ rfl)) (nI_ge hi (by omega))⟩
    rw [i3, i5, nI_clamp (by omega), d1, d3, h4.1 9 i (by omega) (by omega) (by omega), (hp i hi).1]
    exact ⟨i6, i4, hv, afterM_s b1 (by omega) (hp i hi).2 (mid _ (fun _ => rfl) (fun o' => by omega))⟩
  · by_cases e : a = 0
    · subst e; rw [uI_n (by omega), uI_n (by omega)]
    · rw [uI_c e, uI_c e]

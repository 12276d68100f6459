/-! even: the class's search -/
theorem leave_s {c : St} {X : HS} {i x : Nat} (hc : HC c (entH X i x)) (ok : HOK X i) (hi : i < 6) {K : St → Prop} (hK : ∀ c', HC c' X → (∀ a b, a < 70 ∨ 72 < a → c'.1 a b = c.1 a b) → c'.2 = c.2 → K c') : wp_X3_leave (nI i) c K := by
  obtain ⟨s, w, t⟩ := X
  have h1 : s ≤ i := ok.1
  have hw : ∀ j, j < s → w j < i := fun j hj => (ok.2 j hj).1
  have hP := posH_le t x s
  have hs : c.1 70 2 = nI (s + 1) := hc.1
  have hcc : ∀ j, j < s + 1 → c.1 71 j = nI (insF w (posH t x s) i j) ∧ c.1 72 j = nI (insF t (posH t x s) x j) := hc.2
  generalize posH t x s = P at hP hcc
  unfold wp_X3_leave L_X3_leave_4
  refine for3_2 (s + 1) (fun k a τ => a = nI (if k ≤ P then k else k - 1) ∧ (∀ j, j < (if k ≤ P then k else k - 1) → τ.1 71 j = nI (w j) ∧ τ.1 72 j = nI (t j)) ∧ (∀ j, k ≤ j → j ≤ s → τ.1 71 j = nI (insF w P i j) ∧ τ.1 72 j = nI (insF t P x j)) ∧ τ.1 70 2 = nI (s + 1) ∧ (∀ a b, a < 70 ∨ 72 < a → τ.1 a b = c.1 a b) ∧ τ.2 = c.2) ?_ ?_ 0 _ _ (Nat.zero_le _) ⟨rfl, fun j hj => by rw [if_pos (Nat.zero_le _)] at hj; omega, fun j _ hj => hcc j (by omega), hs, fun _ _ _ => rfl, rfl⟩
  · rintro _ τ Φ ⟨rfl, t1, t2, t3, t4, t5⟩
    unfold B_X3_leave_4
    rw [t3]
    rw [if_neg (show ¬ s + 1 ≤ P by omega)] at t1 ⊢
    refine ite_tt (hK _ ⟨by rw [uI_s]; rfl, fun j hj => ?_⟩ (fun a b z => (uI_c (by omega)).trans (t4 a b z)) t5) (Int32.le_refl _)
    have hj' : j < s := hj
    rw [uI_c (by decide), uI_c (by decide)]
    exact t1 j (by omega)
  · rintro k _ τ Φ hk ⟨rfl, t1, t2, t3, t4, t5⟩ hΦ
    have hv := vp_in_nI (n := k) (N := 6) (by omega) (by decide)
    obtain ⟨e1, e2⟩ := t2 k (Nat.le_refl _) (by omega)
    unfold B_X3_leave_4 J_X3_leave_49
    rw [t3, nI_clamp (show k < 2 ^ 31 by omega), show nI k + 1 = nI (k + 1) from nI_1 k, uI_c (show (72 : Nat) ≠ 71 by decide), e1, e2]
    refine ite_ff ⟨hv, ?_⟩ (nI_ge hk (by omega))
    unfold insF
    rcases Nat.lt_trichotomy k P with z | z | z
    · have wk := hw k (by omega)
      rw [if_pos (show k ≤ P by omega)] at t1 ⊢
      rw [if_pos z, if_pos z, nI_clamp (show k < 2 ^ 31 by omega), show nI k + 1 = nI (k + 1) from nI_1 k]
      refine ite_ff ⟨hv, hv, hv, hv, hΦ _ _ ⟨by rw [if_pos (by omega)], fun j hj => ?_, fun j j1 j2 => ?_, (uI_c (by decide)).trans ((uI_c (by decide)).trans t3), fun a b y => (uI_c (by omega)).trans ((uI_c (by omega)).trans (t4 a b y)), t5⟩⟩ (by rw [nI_inj (by omega) (by omega)]; omega)
      · rw [if_pos (by omega)] at hj
        rw [uI_c (show (71 : Nat) ≠ 72 by decide)]
        by_cases e : j = k
        · subst e; exact ⟨uI_s _ _ _ _, uI_s _ _ _ _⟩
        · rw [uI_n e, uI_n e, uI_c (by decide)]; exact t1 j (by omega)
      · rw [uI_c (show (71 : Nat) ≠ 72 by decide), uI_n (by omega), uI_n (by omega), uI_c (by decide)]
        exact t2 j (by omega) j2
    · subst z
      rw [if_pos (Nat.le_refl _)] at t1 ⊢
      rw [if_neg (Nat.lt_irrefl _), if_pos rfl]
      refine ite_tt (hΦ _ _ ⟨by rw [if_neg (by omega)]; rfl, fun j hj => ?_, fun j j1 j2 => t2 j (by omega) j2, t3, t4, t5⟩) rfl
      rw [if_neg (by omega)] at hj
      exact t1 j (by omega)
    · have wk := hw (k - 1) (by omega)
      rw [if_neg (show ¬ k ≤ P by omega)] at t1 ⊢
      have hv1 := vp_in_nI (n := k - 1) (N := 6) (by omega) (by decide)
      rw [if_neg (show ¬ k < P by omega), if_neg (show ¬ k = P by omega), if_neg (show ¬ k < P by omega), if_neg (show ¬ k = P by omega), nI_clamp (show k - 1 < 2 ^ 31 by omega), show nI (k - 1) + 1 = nI (k - 1 + 1) from nI_1 _]
      refine ite_ff ⟨hv, hv1, hv, hv1, hΦ _ _ ⟨by rw [if_neg (by omega), show k - 1 + 1 = k + 1 - 1 by omega], fun j hj => ?_, fun j j1 j2 => ?_, (uI_c (by decide)).trans ((uI_c (by decide)).trans t3), fun a b y => (uI_c (by omega)).trans ((uI_c (by omega)).trans (t4 a b y)), t5⟩⟩ (by rw [nI_inj (by omega) (by omega)]; omega)
      · rw [if_neg (by omega)] at hj
        rw [uI_c (show (71 : Nat) ≠ 72 by decide)]
        by_cases e : j = k - 1
        · subst e; exact ⟨uI_s _ _ _ _, uI_s _ _ _ _⟩
        · rw [uI_n e, uI_n e, uI_c (by decide)]; exact t1 j (by omega)
      · rw [uI_c (show (71 : Nat) ≠ 72 by decide), uI_n (by omega), uI_n (by omega), uI_c (by decide)]
        exact t2 j (by omega) j2
def eE (l : Nat) : Int32 := if l = 1000000 then -9 else nI l
/-- the search: trial p up to i, best so far -/
def SK (c τ : St) (n dm i : Nat) (p : Nat → Nat) (l : Nat) (b : Nat → Nat) : Prop := (∀ a x, a < 70 ∨ 75 < a → τ.1 a x = c.1 a x) ∧ τ.2 = c.2 ∧ HC τ (hearF (rowF (od c) (sN c dm) p) i) ∧ (∀ j, j < i → τ.1 74 j = nI (p j)) ∧ τ.1 73 2 = eE l ∧ (l < 1000000 → ∀ j, j < n → τ.1 75 j = nI (b j))
theorem rowF_le {c m : St} {n dm d : Nat} (N : Now c m n dm d) (p : Nat → Nat) {i : Nat} (hi : i < n) : rowF (od c) (sN c dm) p i ≤ 30 := by
  unfold rowF
  split
  · omega
  · exact sN_le N hi _
theorem rowE_lt {c m : St} {n dm d : Nat} (N : Now c m n dm d) (p : Nat → Nat) : rowE n (od c) (sN c dm) p < 1000000 := by
  have hn := N.1.1
  have ok := hearF_ok (f := rowF (od c) (sN c dm) p) (n := n) (fun i hi => rowF_le N p hi) hn
  unfold rowE erH
  have h1 := ok.1
  rcases Nat.eq_zero_or_pos (hearF (rowF (od c) (sN c dm) p) n).1 with e | e
  · rw [e]; exact Nat.lt_of_le_of_lt (Nat.le_refl 0) (by decide)
  · have := erN_le (t := (hearF (rowF (od c) (sN c dm) p) n).2.2) (s := (hearF (rowF (od c) (sN c dm) p) n).1) (fun j hj => (ok.2 j hj).2) ((hearF (rowF (od c) (sN c dm) p) n).1 - 1) (by omega)
    omega
theorem take_s {c τ : St} {n dm i E l : Nat} {p b : Nat → Nat} (hn : n ≤ 6) (hi : i = n) (h : SK c τ n dm i p l b) (hl : l ≤ 1000000) (hE : E < 1000000) {K : St → Prop} (k1 : E < l → ∀ τ', SK c τ' n dm i p E p → K τ') (k0 : ¬ E < l → K τ) : wp_X1_take (nI E) τ K := by
  obtain ⟨h1, h2, h3, h4, h5, h6⟩ := h
  have tk : E < l → J_X1_take_17 (nI E) τ K := by
    intro z
    unfold J_X1_take_17 J_X1_take_37
    have uc : ∀ a x, a ≠ 75 → (uCI (uI τ 73 2 (nI E)) 74 75 (0 : Int32).toNatClampNeg (0 : Int32).toNatClampNeg (6 : Int32).toNatClampNeg).1 a x = (uI τ 73 2 (nI E)).1 a x := fun a x y => if_neg y
    have uc5 : ∀ x, (uCI (uI τ 73 2 (nI E)) 74 75 (0 : Int32).toNatClampNeg (0 : Int32).toNatClampNeg (6 : Int32).toNatClampNeg).1 75 x = va_cpy ((uI τ 73 2 (nI E)).1 74) ((uI τ 73 2 (nI E)).1 75) (0 : Int32).toNatClampNeg (0 : Int32).toNatClampNeg (6 : Int32).toNatClampNeg x := fun x => by unfold uCI; dsimp only; rw [if_pos rfl]
    refine ⟨by decide, by decide, by decide, by decide, by decide, k1 z _ ⟨fun a x y => ?_, h2, ?_, fun j hj => ?_, ?_, fun _ j hj => ?_⟩⟩
    · rw [uc _ _ (by omega), uI_c (by omega)]; exact h1 a x y
    · refine h3.cc (fun a x y1 y2 => ?_)
      rw [uc _ _ (by omega), uI_c (by omega)]
    · rw [uc _ _ (by decide), uI_c (by decide)]; exact h4 j hj
    · rw [uc _ _ (by decide), uI_s]
      unfold eE; rw [if_neg (by omega)]
    · rw [uc5, show (0 : Int32).toNatClampNeg = 0 from rfl, show (6 : Int32).toNatClampNeg = 6 from rfl]
      unfold va_cpy
      rw [if_pos (by omega), show 0 + (j - 0) = j by omega, uI_c (by decide)]
      exact h4 j (by omega)
  unfold wp_X1_take
  rw [h5]
  unfold eE
  by_cases e : l = 1000000
  · rw [if_pos e]
    exact ite_tt (tk (by omega)) rfl
  · rw [if_neg e]
    refine ite_ff (ite_c (fun z => ?_) (fun z => ?_)) (fun z => (nI_neg9 (a := l) (by omega)).mp z)
    · rw [nI_le' (by omega) (by omega)] at z
      unfold J_X1_take_37
      exact k0 (by omega)
    · rw [nI_le' (by omega) (by omega)] at z
      exact tk (by omega)
theorem Bst.le {n : Nat} {o : Nat → Nat} {t : Nat → Nat → Nat} {i β l : Nat} {b : Nat → Nat} (h : Bst n o t i β l b) : l ≤ 1000000 := by
  rcases h with ⟨h1, _⟩ | ⟨_, _, _, h4, _⟩ <;> omega
theorem seek_s {c m : St} {n dm d : Nat} (N : Now c m n dm d) : ∀ (f i : Nat) (p : Nat → Nat) (l : Nat) (b : Nat → Nat) (τ : St) (K : St → Prop), n - i < f → i ≤ n → SK c τ n dm i p l b → (∀ j, j < i → p j < 7 ∧ (od c j = 1 → p j = 0) ∧ (od c j = 0 → sN c dm j (p j) ≠ 0)) → Bst n (od c) (sN c dm) i (vN p i) l b → (∀ τ' l' b', SK c τ' n dm i p l' b' → Bst n (od c) (sN c dm) i (vN p i + 1) l' b' → K τ') → wpR_X1_seek f 25 (nI i) τ K := by
  have hn := N.1.1
  intro f
  induction f with
  | zero => intro i p l b τ K h1; omega
  | succ f ih =>
    intro i p l b τ K hf hin S hp B hK
    have S' := S
    obtain ⟨s1, s2, s3, s4, s5, s6⟩ := S'
    have ok : HOK (hearF (rowF (od c) (sN c dm) p) i) i := hearF_ok (fun j hj => rowF_le N p (by omega)) (by omega)
    show D_X1_seek (wpR_X1_seek f) 25 (nI i) τ K
    unfold D_X1_seek
    rw [s1 25 2 (by omega), N.2.1.1]
    by_cases ei : i = n
    · refine ite_tt ?_ (by rw [ei]; exact Int32.le_refl _)
      unfold J_X1_seek_14
      subst ei
      have hA : rowA i (od c) (sN c dm) p := hp
      have hE := rowE_lt N p
      obtain ⟨b1, b2⟩ := B.take hA hE
      refine unev_s s3 ok hn (hearF_srt _ _) ?_
      exact take_s hn rfl S B.le hE (fun z τ' hτ => hK τ' _ _ hτ (b1 z)) (fun z => hK τ _ _ S (b2 z))
    · obtain ⟨⟨b1, b2, b3, b4, b5⟩, ⟨c1, c2, c3, c4⟩, -⟩ := N.2.2.2 i (by omega)
      have hv := vp_in_nI (n := i) (N := 6) (by omega) (by decide)
      refine ite_ff (ite_tt ⟨hv, ?_⟩ (by rw [lit_nI, nI_lt' (by omega) (by decide)]; omega)) (nI_ge (by omega) (by omega))
      rw [nI_clamp (show i < 2 ^ 31 by omega), show 25 + 3 + i = 28 + i by omega, s1 (28 + i) 5 (by omega), c4, show nI i + 1 = nI (i + 1) from nI_1 i]
      have hcong : ∀ q, hearF (rowF (od c) (sN c dm) (setN p i q)) i = hearF (rowF (od c) (sN c dm) p) i := fun q => hearF_congr (fun j hj => by unfold rowF; rw [setN_n (by omega)])
      refine ite_c (fun z => ?_) (fun z => ?_)
      · rw [lit_nI, nI_inj (by omega) (by decide)] at z
        unfold L_X1_seek_59
        refine for3_2 7 (fun q v τ => ∃ l b, SK c τ n dm i p l b ∧ Bst n (od c) (sN c dm) (i + 1) (vN p i * 7 + q) l b ∧ (v = -9 ∨ ∃ q', q' < q ∧ sN c dm i q' ≠ 0 ∧ v = nI (sN c dm i q'))) ?_ ?_ 0 _ _ (Nat.zero_le _) ⟨l, b, S, by rw [Nat.add_zero]; exact B.down (by omega), Or.inl rfl⟩
        · rintro v τ Φ ⟨l, b, S, B, -⟩
          unfold B_X1_seek_59
          refine ite_tt (hK τ l b S ?_) (by decide)
          rw [show vN p i * 7 + 7 = (vN p i + 1) * 7 by omega] at B
          exact B.up (by omega)
        · rintro q v τ Φ hq ⟨l, b, S, B, hv4⟩ hΦ
          obtain ⟨s1, s2, s3, s4, s5, s6⟩ := S
          have N' : Now τ m n dm d := N.cc (fun a x y1 y2 => s1 a x (by omega))
          have hs30 := sN_le N (i := i) (by omega) q
          unfold B_X1_seek_59 J_X1_seek_126
          rw [show nI q + 1 = nI (q + 1) from nI_1 q]
          refine ite_ff (tenthsBy_s N' (by omega) (by omega) ?_) (nI_ge hq (by decide))
          rw [sN_cc (fun a x y1 y2 => s1 a x (by omega)) (by omega)]
          have digit : ∀ r, rowA n (od c) (sN c dm) r → vN p i * 7 + q ≤ vN r (i + 1) → vN r (i + 1) < vN p i * 7 + (q + 1) → r i = q ∧ vN r i = vN p i := by
            intro r hr y1 y2
            have := (hr i (by omega)).1
            simp only [vN] at y1 y2
            omega
          by_cases t0 : sN c dm i q = 0
          · rw [t0]
            refine ite_tt (hΦ _ _ ⟨l, b, ⟨s1, s2, s3, s4, s5, s6⟩, ?_, ?_⟩) rfl
            · refine B.none (by omega) (by omega) (fun r hr y1 y2 => ?_)
              obtain ⟨d1, d2⟩ := digit r hr y1 y2
              have := (hr i (by omega)).2.2 z
              rw [d1] at this
              exact this t0
            · rcases hv4 with e | ⟨q', e1, e2, e3⟩
              · exact Or.inl e
              · exact Or.inr ⟨q', by omega, e2, e3⟩
          · rw [eT_n t0]
            refine ite_ff (ite_c (fun y => hΦ _ _ ⟨l, b, ⟨s1, s2, s3, s4, s5, s6⟩, ?_, ?_⟩) (fun y => ⟨hv, ?_⟩)) (fun e => (nI_neg9 (a := sN c dm i q) (by omega)).mp e)
            · rcases hv4 with e | ⟨q', e1, e2, e3⟩
              · rw [e] at y; exact absurd y (fun e => (nI_neg9 (a := sN c dm i q) (by omega)).mp e)
              · have hs30' := sN_le N (i := i) (by omega) q'
                rw [e3, nI_inj (by omega) (by omega)] at y
                refine B.skip (by omega) (by omega) (fun r hr y1 y2 => ?_)
                obtain ⟨d1, d2⟩ := digit r hr y1 y2
                refine ⟨setN r i q', fun j hj => ?_, ?_, rowE_congr (fun j hj => ?_)⟩
                · by_cases e : j = i
                  · subst e; rw [setN_s]; exact ⟨by omega, fun z' => by omega, fun _ => e2⟩
                  · rw [setN_n e]; exact hr j hj
                · rw [vN_set, d2]; omega
                · unfold rowF
                  by_cases e : j = i
                  · subst e; rw [setN_s, d1, y]
                  · rw [setN_n e]
            · rcases hv4 with e | ⟨q', e1, e2, e3⟩
              · exact Or.inl e
              · exact Or.inr ⟨q', by omega, e2, e3⟩
            · rw [two_nI, nI_clamp (show i < 2 ^ 31 by omega), show nI i + 1 = nI (i + 1) from nI_1 i]
              have hc1 : HC (uI τ 74 i (nI q)) (hearF (rowF (od c) (sN c dm) p) i) := s3.cc (fun a x y1 y2 => uI_c (by omega))
              refine enter_s (x := 2 * i + sN c dm i q) hc1 ok (by omega) (by omega) (fun τ1 g1 g2 g3 => ?_)
              have eh : hearF (rowF (od c) (sN c dm) (setN p i q)) (i + 1) = entH (hearF (rowF (od c) (sN c dm) p) i) i (2 * i + sN c dm i q) := by
                have ef : rowF (od c) (sN c dm) (setN p i q) i = sN c dm i q := by unfold rowF; rw [if_neg (by omega), setN_s]
                simp only [hearF]
                rw [ef, if_neg t0, hcong]
              have S1 : SK c τ1 n dm (i + 1) (setN p i q) l b := by
                refine ⟨fun a x y1 => ?_, g3.trans s2, by rw [eh]; exact g1, fun j hj => ?_, ?_, fun y1 j hj => ?_⟩
                · rw [g2 a x (by omega), uI_c (by omega)]; exact s1 a x y1
                · rw [g2 74 j (by omega)]
                  by_cases e : j = i
                  · subst e; rw [uI_s, setN_s]
                  · rw [uI_n e, setN_n e]; exact s4 j (by omega)
                · rw [g2 73 2 (by omega), uI_c (by decide)]; exact s5
                · rw [g2 75 j (by omega), uI_c (by decide)]; exact s6 y1 j hj
              refine ih (i + 1) (setN p i q) l b τ1 _ (by omega) (by omega) S1 (fun j hj => ?_) (by rw [vN_set]; exact B) (fun τ2 l2 b2 S2 B2 => ?_)
              · by_cases e : j = i
                · subst e; rw [setN_s]; exact ⟨hq, fun z' => by omega, fun _ => t0⟩
                · rw [setN_n e]; exact hp j (by omega)
              · obtain ⟨r1, r2, r3, r4, r5, r6⟩ := S2
                rw [eh] at r3
                refine leave_s r3 ok (by omega) (fun τ3 g4 g5 g6 => hΦ _ _ ⟨l2, b2, ⟨fun a x y1 => ?_, g6.trans r2, g4, fun j hj => ?_, ?_, fun y1 j hj => ?_⟩, ?_, Or.inr ⟨q, by omega, t0, rfl⟩⟩)
                · rw [g5 a x (by omega)]; exact r1 a x y1
                · rw [g5 74 j (by omega), r4 j (by omega), setN_n (by omega)]
                · rw [g5 73 2 (by omega)]; exact r5
                · rw [g5 75 j (by omega)]; exact r6 y1 j hj
                · rw [vN_set] at B2; exact B2
      · have o1 : od c i = 1 := by
          rw [lit_nI, nI_inj (by omega) (by decide)] at z; omega
        refine ⟨hv, ?_⟩
        have eh : hearF (rowF (od c) (sN c dm) (setN p i 0)) (i + 1) = hearF (rowF (od c) (sN c dm) p) i := by
          have ef : rowF (od c) (sN c dm) (setN p i 0) i = 0 := by unfold rowF; rw [if_pos o1]
          simp only [hearF]
          rw [ef, if_pos rfl, hcong]
        refine ih (i + 1) (setN p i 0) l b _ _ (by omega) (by omega) ⟨fun a x y1 => (uI_c (by omega)).trans (s1 a x y1), s2, by rw [eh]; exact s3.cc (fun a x y1 y2 => uI_c (by omega)), fun j hj => ?_, (uI_c (by decide)).trans s5, fun y1 j hj => (uI_c (by decide)).trans (s6 y1 j hj)⟩ (fun j hj => ?_) (by rw [vN_set, Nat.add_zero]; exact B.down (by omega)) (fun τ2 l2 b2 S2 B2 => ?_)
        · by_cases e : j = i
          · subst e; rw [uI_s, setN_s]; rfl
          · rw [uI_n e, setN_n e]; exact s4 j (by omega)
        · by_cases e : j = i
          · subst e; rw [setN_s]; exact ⟨by omega, fun _ => rfl, fun z' => by omega⟩
          · rw [setN_n e]; exact hp j (by omega)
        · obtain ⟨r1, r2, r3, r4, r5, r6⟩ := S2
          rw [eh] at r3
          refine hK τ2 l2 b2 ⟨r1, r2, r3, fun j hj => ?_, r5, r6⟩ ?_
          · rw [r4 j (by omega), setN_n (by omega)]
          · rw [vN_set] at B2
            refine Bst.up (B2.none (β' := (vN p i + 1) * 7) (by omega) (by omega) (fun r hr y1 y2 => ?_)) (by omega)
            have := (hr i (by omega)).2.1 o1
            simp only [vN] at y1 y2
            omega

/-! fault, tower -/
/-- the reference's draft -/
def DraftM (m m' : St) (T : Nat → Int32) (s p0 dm i q : Nat) : Prop := m'.1 0 13 = nI q ∧ m'.1 1 5248 = nI i ∧ m'.1 1 5249 = nI dm ∧ (∀ j, j < i → m'.1 1 (5250 + j) = nI (kdN T s (psN T s p0 j)) ∧ m'.1 1 (5256 + j) = nI (fgN T s (psN T s p0 j + 1)) ∧ m'.1 1 (5262 + j) = nI (10 * fgN T s (psN T s p0 j + 2) + fgN T s (psN T s p0 j + 3))) ∧ (∀ j, j < 12 → m'.1 1 (5268 + j) = 0) ∧ (∀ a b, ¬ (a = 0 ∧ b = 13) → ¬ (a = 1 ∧ 5248 ≤ b) → m'.1 a b = m.1 a b) ∧ m'.2 = m.2
def OutM (m m' : St) : Prop := (∀ a b, ¬ (a = 0 ∧ b = 13) → ¬ (a = 1 ∧ 5248 ≤ b) → m'.1 a b = m.1 a b) ∧ m'.2 = m.2
theorem OutM.keep {c m m' : St} (h : OutM m m') (hR : Rel c m) : Rel c m' := hR.keep (KeepC.rf c) ⟨⟨h.1 _ _ (by omega) (by omega), h.1 _ _ (by omega) (by omega), h.1 _ _ (by omega) (by omega)⟩, fun j hj => h.1 _ _ (by omega) (by omega), fun k j hk => h.1 _ _ (by omega) (by omega), by rw [h.2], by rw [h.2]⟩
theorem DraftM.out {m m' : St} {T : Nat → Int32} {s p0 dm i q : Nat} (h : DraftM m m' T s p0 dm i q) : OutM m m' := ⟨h.2.2.2.2.2.1, h.2.2.2.2.2.2⟩
theorem TxM.out {m m' : St} {t s : Nat} {T : Nat → Int32} (h : TxM m t T s) (ho : OutM m m') : TxM m' t T s := ⟨h.1, h.2.1, by rw [ho.1 _ _ (by omega) (by omega)]; exact h.2.2.1, fun i hi => by rw [ho.1 _ _ (by omega) (by omega)]; exact h.2.2.2 i hi⟩
theorem faultPre_s {m : St} {t s : Nat} {T : Nat → Int32} (h : TxM m t T s) {K : Int32 → St → Prop} (hK : ∀ m1, OutM m m1 → m1.1 0 13 = nI (pb T s 0) → (∀ j, j < 32 → m1.1 1 (5248 + j) = 0) → wp_X9_byteAt (nI t) (nI (pb T s 0)) m1 (fun r41 => if r41 = 100 then wp_X9_figure (nI t) 0 3 (uI m1 0 13 (nI (pb T s 0 + 1))) (fun r68 t68 => if 0 ≤ r68 then vp_in 5249 5280 ∧ wp_X9_blanks (nI t) (uI t68 1 5249 r68) (fun t92 => L_X9_faultOf_95 (nI t) K t92) else K (t68.1 0 13) t68) else K (nI (pb T s 0)) m1)) : wp_X9_faultOf (nI t) m K := by
  unfold wp_X9_faultOf L_X9_faultOf_2
  refine for2_1 32 (fun j τ => (∀ x, x < j → τ.1 1 (5248 + x) = 0) ∧ OutM m τ) ?_ ?_ 0 _ (Nat.zero_le _) ⟨fun x hx => by omega, fun _ _ _ _ => rfl, rfl⟩
  · rintro τ Φ ⟨t1, t2⟩
    unfold B_X9_faultOf_2
    have c49 : (5249 : Int32).toNatClampNeg = 5249 := by decide
    have P0 := PosM.set τ 0
    refine ite_tt (blanksM_s (p := 0) ((h.out t2).pos P0) (Nat.zero_le _) P0.1 (fun m1 P1 => ?_)) (by decide)
    have P := P0.tr P1
    have O : OutM m m1 := ⟨fun a b z1 z2 => (P.2.1 a b z1).trans (t2.1 a b z1 z2), P.2.2.trans t2.2⟩
    have := hK m1 O P.1 (fun j hj => (P.2.1 _ _ (by omega)).trans (t1 j hj))
    rw [P.1, show nI (pb T s 0) + 1 = nI (pb T s 0 + 1) from nI_1 _, c49]
    exact this
  · rintro j τ Φ hj ⟨t1, t2⟩ hΦ
    unfold B_X9_faultOf_2
    have i1 : (5248 + nI j).toNatClampNeg = 5248 + j := by simp (disch := omega) only [lit_nI, nI_add, pk_mul, nI_clamp, vp_nI, nI_inj, nI_lt', nI_le', nI_neg1, nI_neg9, nI_neg3, neg1_nI, neg9_nI, neg_l0, neg_g0, ↓reduceIte, true_and, and_true, not_true_eq_false, not_false_eq_true, Nat.reduceEqDiff, Nat.reduceLeDiff, Nat.reduceAdd, Nat.reduceSub, Nat.reduceDiv, Nat.reduceMod, Nat.reducePow, Nat.reduceLT, Nat.reduceMul, Nat.not_lt_zero, Nat.zero_le, Nat.succ_ne_self, one_ne0, zero_ne1, ne_eq]
    have i2 : vp_in (5248 + nI j) 5280 := by simp (disch := omega) only [lit_nI, nI_add, pk_mul, nI_clamp, vp_nI, nI_inj, nI_lt', nI_le', nI_neg1, nI_neg9, nI_neg3, neg1_nI, neg9_nI, neg_l0, neg_g0, ↓reduceIte, true_and, and_true, not_true_eq_false, not_false_eq_true, Nat.reduceEqDiff, Nat.reduceLeDiff, Nat.reduceAdd, Nat.reduceSub, Nat.reduceDiv, Nat.reduceMod, Nat.reducePow, Nat.reduceLT, Nat.reduceMul, Nat.not_lt_zero, Nat.zero_le, Nat.succ_ne_self, one_ne0, zero_ne1, ne_eq]; omega
    rw [i1, show nI j + 1 = nI (j + 1) from nI_1 j]
    refine ite_ff ⟨i2, hΦ _ ⟨fun x hx => ?_, fun a b z1 z2 => ?_, t2.2⟩⟩ (nI_ge hj (by decide))
    · by_cases e : x = j
      · subst e; rw [uI_s]
      · rw [uI_n (by omega)]; exact t1 x (by omega)
    · rw [uI_1, if_neg (by omega)]; exact t2.1 a b z1 z2
theorem faultA_s {m : St} {t s : Nat} {T : Nat → Int32} (h : TxM m t T s) (hA : ¬ (pb T s 0 < s ∧ T (pb T s 0) = 100)) {K : Int32 → St → Prop} (hK : ∀ m', OutM m m' → K (nI (pb T s 0)) m') : wp_X9_faultOf (nI t) m K := by
  have hq := pb_le (T := T) (s := s) _ 0 rfl (Nat.zero_le _)
  have hs := h.2.1
  refine faultPre_s h (fun m1 O p1 z1 => byteM_s (h.out O) (by omega) (fun y => ite_ff (hK m1 O) (fun z => hA ⟨y, z⟩)) (fun y => ite_ff (hK m1 O) (by decide)))
theorem faultB_s {m : St} {t s : Nat} {T : Nat → Int32} (h : TxM m t T s) (hA : pb T s 0 < s) (hB : T (pb T s 0) = 100) (hC : ¬ fgN T s (pb T s 0 + 1) ≤ 3) {K : Int32 → St → Prop} (hK : ∀ m', OutM m m' → K (nI (pb T s 0 + 1)) m') : wp_X9_faultOf (nI t) m K := by
  have hs := h.2.1
  refine faultPre_s h (fun m1 O p1 z1 => byteM_s (h.out O) (by omega) (fun y => ite_tt ?_ hB) (fun y => by omega))
  have P := PosM.set m1 (pb T s 0 + 1)
  have O2 : OutM m (uI m1 0 13 (nI (pb T s 0 + 1))) := ⟨fun a b z1 z2 => (P.2.1 a b z1).trans (O.1 a b z1 z2), O.2⟩
  refine figM_s (lo := 0) (hi := 3) ((h.out O).pos P) (by omega) P.1 (by decide) (by decide) (fun _ w => absurd w hC) (fun _ => ite_ff ?_ (by decide))
  rw [P.1]; exact hK _ O2
theorem faultC_s {m : St} {t s i : Nat} {T : Nat → Int32} (h : TxM m t T s) (hA : pb T s 0 < s) (hB : T (pb T s 0) = 100) (hC : fgN T s (pb T s 0 + 1) ≤ 3) (hi : i ≤ 6) (hg : goodTo T s (pb T s (pb T s 0 + 2)) i) {K : Int32 → St → Prop}
    (k9 : 0 < i → s ≤ psN T s (pb T s (pb T s 0 + 2)) i → ∀ m' q, DraftM m m' T s (pb T s (pb T s 0 + 2)) (fgN T s (pb T s 0 + 1)) i q → K (-9) m')
    (k0 : (0 < i → psN T s (pb T s (pb T s 0 + 2)) i < s) → (i = 6 ∨ gdN T s (psN T s (pb T s (pb T s 0 + 2)) i) < 4) ∧ ∀ m', OutM m m' → K (nI (psN T s (pb T s (pb T s 0 + 2)) i + (if i = 6 then 0 else gdN T s (psN T s (pb T s (pb T s 0 + 2)) i)))) m') : wp_X9_faultOf (nI t) m K := by
  have hs := h.2.1
  refine faultPre_s h (fun m1 O p1 z1 => byteM_s (h.out O) (by omega) (fun y => ite_tt ?_ hB) (fun y => by omega))
  have P := PosM.set m1 (pb T s 0 + 1)
  have hf1 := (fg_lt (T := T) (s := s) (p := pb T s 0 + 1) (by omega)).1
  refine figM_s (lo := 0) (hi := 3) ((h.out O).pos P) (by omega) P.1 (by decide) (by decide) (fun _ w => ite_tt ⟨vp_in_nI (n := 5249) (by decide) (by decide), ?_⟩ (nI_pos' (by omega))) (fun w => absurd ⟨Nat.zero_le _, hC⟩ w)
  have hp0 : pb T s (pb T s 0 + 2) ≤ s := pb_le _ _ rfl (by omega)
  obtain ⟨q0, eq0⟩ := ex_eq (pb T s 0)
  rw [eq0] at hA hB hC hg k9 k0 P hf1 hp0 ⊢
  obtain ⟨dm, edm⟩ := ex_eq (fgN T s (q0 + 1))
  rw [edm] at hC k9 ⊢
  obtain ⟨p0, ep0⟩ := ex_eq (pb T s (q0 + 2))
  obtain ⟨m2, em2⟩ := ex_eq (uI (uI (uI m1 0 13 (nI (q0 + 1))) 0 13 (nI (q0 + 1 + 1))) 1 5249 (nI dm))
  rw [em2]
  have a13 : m2.1 0 13 = nI (q0 + 2) := by rw [← em2, uI_c (by decide), uI_s]
  have O2 : OutM m m2 := by
    refine ⟨fun a b y1 y2 => ?_, by rw [← em2]; exact O.2⟩
    rw [← em2]
    simp only [uI_1]
    rw [if_neg (by omega), if_neg y1, if_neg y1]
    exact O.1 a b y1 y2
  have a49 : m2.1 1 5249 = nI dm := by rw [← em2, uI_s]
  have az : ∀ j, j < 32 → j ≠ 1 → m2.1 1 (5248 + j) = 0 := by
    intro j hj hj1
    rw [← em2, uI_n (by omega), uI_c (by decide), uI_c (by decide)]
    exact z1 j hj
  refine blanksM_s (h.out O2) (by omega) a13 (fun m3 P3 => ?_)
  rw [ep0] at hg k9 k0 hp0 P3
  have D0 : DraftM m m3 T s p0 dm 0 p0 := by
    refine ⟨P3.1, ?_, ?_, fun j hj => by omega, fun j hj => ?_, fun a b y1 y2 => (P3.2.1 a b y1).trans (O2.1 a b y1 y2), P3.2.2.trans O2.2⟩
    · rw [P3.2.1 _ _ (by omega)]; exact az 0 (by omega) (by omega)
    · rw [P3.2.1 _ _ (by omega)]; exact a49
    · rw [P3.2.1 _ _ (by omega), show 5268 + j = 5248 + (20 + j) by omega]; exact az (20 + j) (by omega) (by omega)
  unfold L_X9_faultOf_95
  refine wl1_ind (fun τ => ∃ j, j ≤ i ∧ DraftM m τ T s p0 dm j (psN T s p0 j)) (fun τ => 6 - (τ.1 1 5248).toNatClampNeg) ?_ _ ⟨0, Nat.zero_le _, D0⟩
  rintro τ ⟨j, hj, D⟩ Φ hΦ
  have hgj : goodTo T s p0 j := fun x hx => hg x (by omega)
  have hps := ps_le hp0 hgj
  have ht := h.out D.out
  have c48 : (5248 : Int32).toNatClampNeg = 5248 := by decide
  have v48 : vp_in 5248 5280 := vp_in_nI (n := 5248) (by decide) (by decide)
  have stp : (0 < j → psN T s p0 j < s) → J_X9_faultOf_119 (nI t) τ K Φ := by
    intro hlt
    unfold J_X9_faultOf_119
    refine takes_s ht hps D.1 (by omega) D.2.1 (fun hb m' P' => ite_tt ?_ rfl) (fun j6 g4 m' b1 b2 b3 b4 b5 b6 b7 => ite_ff ?_ (by decide))
    · rw [P'.1]
      have hji : j = i := by
        rcases Nat.lt_or_ge j i with z | z
        · have := (hg j z).1; omega
        · omega
      subst hji
      have O' : OutM m m' := ⟨fun a b y1 y2 => (P'.2.1 a b y1).trans (D.out.1 a b y1 y2), P'.2.2.trans D.out.2⟩
      exact (k0 hlt).2 m' O'
    · have hji : j < i := by
        rcases Nat.lt_or_ge j i with z | z
        · exact z
        · have hji : j = i := by omega
          subst hji
          have := (k0 hlt).1
          omega
      obtain ⟨e1, e2, e3, e4, e5, e6, e7⟩ := D
      have g6 := (gd_4 g4).2.2.2.2.2.1
      have O' : OutM m m' := ⟨fun a b y1 y2 => (b6 a b y1 (by omega)).trans (e6 a b y1 y2), b7.trans e7⟩
      refine blanksM_s (h.out O') (by omega) b1 (fun m4 P4 => hΦ _ ⟨j + 1, by omega, P4.1, ?_, ?_, fun x hx => ?_, fun x hx => ?_, fun a b y1 y2 => (P4.2.1 a b y1).trans (O'.1 a b y1 y2), P4.2.2.trans O'.2⟩ ?_)
      · rw [P4.2.1 _ _ (by omega)]; exact b2
      · rw [P4.2.1 _ _ (by omega), b6 _ _ (by omega) (by omega)]; exact e3
      · rw [P4.2.1 _ _ (by omega), P4.2.1 _ _ (by omega), P4.2.1 _ _ (by omega)]
        by_cases e : x = j
        · subst e; exact ⟨b3, b4, b5⟩
        · rw [b6 _ _ (by omega) (by omega), b6 _ _ (by omega) (by omega), b6 _ _ (by omega) (by omega)]
          exact e4 x (by omega)
      · rw [P4.2.1 _ _ (by omega), b6 _ _ (by omega) (by omega)]; exact e5 x hx
      · rw [P4.2.1 _ _ (by omega), b2, e2, nI_clamp (by omega), nI_clamp (by omega)]; omega
  unfold B_X9_faultOf_95
  rw [nI_clamp (by have := h.1; omega), ht.2.2.1, c48, D.1, D.2.1]
  refine ⟨vp_in_nI h.1 (by decide), ite_c (fun z => stp (fun _ => ?_)) (fun z => ⟨v48, ite_c (fun y => stp (fun y2 => ?_)) (fun y => ?_)⟩)⟩
  · rw [nI_lt' (by omega) (by omega)] at z; exact z
  · rw [lit_nI, nI_inj (by omega) (by decide)] at y; omega
  · rw [nI_lt' (by omega) (by omega)] at z
    rw [lit_nI, nI_inj (by omega) (by decide)] at y
    have hji : j = i := by
      rcases Nat.lt_or_ge j i with w | w
      · have := (hg j w).2; omega
      · omega
    subst hji
    exact k9 (by omega) (by omega) τ _ D

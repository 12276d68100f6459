/-! fault, tower: the calls -/
theorem keepC_d {c c' : St} (h : ∀ a b, a < 34 ∨ 43 ≤ a → c'.1 a b = c.1 a b) (h2 : c'.2 = c.2) : KeepC c c' := ⟨fun k j hk => h k j (by omega), fun j => by rw [h2]⟩
theorem faultM_n {m : St} {t s : Nat} {T : Nat → Int32} (h : TxM m t T s) {K : Int32 → St → Prop} (hK : wp_X9_faultOf (nI t) m K) : wp_X9_fault (nI t) m K := by
  unfold wp_X9_fault J_X9_fault_31
  have h1 := h.1
  have h2 := h.2.1
  rw [nI_clamp (by omega), h.2.2.1]
  exact isTextM_y h.1 (ite_ff ⟨vp_in_nI h.1 (by decide), ite_tt hK (nI_pos' (by omega))⟩ (by decide))
theorem op_fault {c m : St} (h : Rel c m) (a : Int32) : wp_X8_fault a c (fun r c' => wp_X9_fault a m (fun r' m' => r = r' ∧ Rel c' m')) := by
  unfold wp_X8_fault J_X8_fault_39
  by_cases ha : vp_in a 4
  · obtain ⟨t, ht, rfl⟩ := vp_in_of ha (by decide)
    refine isText_y ht (ite_ff ⟨ha, ?_⟩ (by decide))
    rw [nI_clamp (by omega)]
    rcases h.2.2.1 t ht with ⟨s, a1, a2, a3, a4, a5⟩ | ⟨a1, a2, a3⟩
    · rw [a2]
      obtain ⟨T, eT⟩ : ∃ T : Nat → Int32, ∀ i, c.1 (17 + 2 * t + 1) i = T i := ⟨fun i => c.1 (17 + 2 * t + 1) i, fun _ => rfl⟩
      have hC : TxC c (17 + 2 * t) T s := ⟨a1, a3, fun i _ => eT i⟩
      have hM : TxM m t T s := ⟨ht, a1, a4, fun i hi => (a5 i hi).trans (eT i)⟩
      refine ite_ff ⟨ha, scan_s hC (by omega) (fun q c' g1 g2 => faultM_n hM ?_) (fun q1 q2 q3 c' g1 g2 => faultM_n hM ?_) (fun q1 q2 q3 i c' hi hg D => ⟨fun z1 z2 => faultM_n hM ?_, fun z1 z2 => faultM_n hM ?_⟩)⟩ (by decide)
      · exact faultA_s hM q (fun m' O => ⟨rfl, O.keep (h.keep (keepC_d g1 g2) (KeepM.rf m))⟩)
      · exact faultB_s hM q1 q2 q3 (fun m' O => ⟨rfl, O.keep (h.keep (keepC_d g1 g2) (KeepM.rf m))⟩)
      · have hR := h.keep (keepC_d D.2.2.2.2.1 D.2.2.2.2.2) (KeepM.rf m)
        exact faultC_s hM q1 q2 q3 hi hg (fun _ _ m' q DM => ⟨rfl, DM.out.keep hR⟩) (fun z => absurd (z z1) (by omega))
      · have hR := h.keep (keepC_d D.2.2.2.2.1 D.2.2.2.2.2) (KeepM.rf m)
        exact faultC_s hM q1 q2 q3 hi hg (fun y1 y2 => absurd (z1 y1) (by omega)) (fun _ => ⟨z2, fun m' O => ⟨rfl, O.keep hR⟩⟩)
    · rw [a1]
      refine ite_tt (find_s 1 (by decide) ?_) rfl
      unfold wp_X9_fault J_X9_fault_31
      rw [nI_clamp (by omega), a3]
      exact isTextM_y ht (ite_ff ⟨ha, ite_ff (found_s 1 (by decide) ⟨rfl, h.find 1 (by decide)⟩) (by decide)⟩ (by decide))
  · refine isText_n ha (ite_tt ?_ rfl)
    unfold wp_X9_fault
    exact isTextM_n ha (ite_tt ⟨rfl, h⟩ rfl)
theorem towerM_n {m : St} {t s : Nat} {T : Nat → Int32} (h : TxM m t T s) {K : Int32 → St → Prop} (hK : wp_X9_faultOf (nI t) m (fun r26 t26 => if r26 = -9 then wp_X9_copyAll 5248 0 32 t26 (fun t44 => L_X9_tower_54 K 0 (uI t44 0 1 0)) else K (-4) t26)) : wp_X9_tower (nI t) m K := by
  unfold wp_X9_tower
  have h1 := h.1
  have h2 := h.2.1
  rw [nI_clamp (by omega), h.2.2.1]
  exact isTextM_y h.1 (ite_ff ⟨vp_in_nI h.1 (by decide), ite_tt hK (nI_pos' (by omega))⟩ (by decide))
theorem Rel.setup {c m c1 c3 m1 m3 : St} {T : Nat → Int32} {s p0 dm i q : Nat} (h : Rel c m) (hi : i ≤ 6) (hdm : dm ≤ 3) (hg : goodTo T s p0 i) (D : DraftC c c1 T s p0 dm i) (DM : DraftM m m1 T s p0 dm i q)
    (u1 : ∀ j, 2 ≤ j → j ≤ 4 → c3.1 25 j = c1.1 34 j) (u2 : ∀ x j, x < i → j ≤ 5 → c3.1 (28 + x) j = c1.1 (37 + x) j) (u3 : ∀ a b, a < 25 → c3.1 a b = c.1 a b) (u4 : ∀ k, k < 3 → c3.1 (43 + 9 * k) 2 = nI 0) (u5 : c3.2 = c.2)
    (w1 : ∀ j, j < 32 → m3.1 1 j = m1.1 1 (5248 + j)) (w2 : m3.1 0 1 = nI 0) (w3 : ∀ k, k < 3 → m3.1 2 k = -nI 1) (w4 : ∀ a b, ¬ (a = 0 ∧ b = 13) → ¬ (a = 0 ∧ b = 1) → a ≠ 1 → a ≠ 2 → m3.1 a b = m.1 a b) (w5 : m3.2 = m.2) : Rel c3 m3 := by
  obtain ⟨t1, t2, t3, t4, t5⟩ := h.1
  obtain ⟨D1, D2, D3, D4, D5, D6⟩ := D
  obtain ⟨E1, E2, E3, E4, E5, E6, E7⟩ := DM
  have st : ∀ x, x < i → stC c3 25 0 x = (c1.1 (37 + x) 2, 0, 0) := by
    intro x hx
    have : c3.1 (25 + 3 + x) 2 = c1.1 (37 + x) 2 := u2 x 2 hx (by omega)
    simp only [stC]
    rw [this]
  have b : ∀ x j, x < i → j ≤ 5 → c3.1 (25 + 3 + x) j = c1.1 (37 + x) j := fun x j hx hj => u2 x j hx hj
  refine ⟨⟨fun f hf => by rw [u3 _ _ (by omega), w4 _ _ (by omega) (by omega) (by omega) (by omega)]; exact t1 f hf, by rw [u3 _ _ (by omega), w4 _ _ (by omega) (by omega) (by omega) (by omega)]; exact t2, by rw [u3 _ _ (by omega), w4 _ _ (by omega) (by omega) (by omega) (by omega)]; exact t3, by rw [u5, w5]; exact t4, by rw [u5, w5]; exact t5⟩,
    fun ρ hρ => row_same (h.2.1 ρ hρ) (fun j => u3 _ _ (by omega)) (fun j => u3 _ _ (by omega)) (w4 _ _ (by omega) (by omega) (by omega) (by omega)) (fun i _ => w4 _ _ (by omega) (by omega) (by omega) (by omega)),
    fun ρ hρ => text_same (h.2.2.1 ρ hρ) (fun j => u3 _ _ (by omega)) (fun j => u3 _ _ (by omega)) (w4 _ _ (by omega) (by omega) (by omega) (by omega)) (fun i _ => w4 _ _ (by omega) (by omega) (by omega) (by omega)),
    ⟨i, dm, 0, ⟨hi, hdm, by omega, (u1 2 (by omega) (by omega)).trans D1, (u1 3 (by omega) (by omega)).trans D2, (u1 4 (by omega) (by omega)).trans D3, fun x hx => ?_, fun j hj => by omega⟩, ⟨?_, ?_, fun x hx => ?_, fun e he => by omega⟩, w2⟩,
    fun k hk => Or.inl ⟨u4 k hk, w3 k hk⟩⟩
  · obtain ⟨q1, q2, q3, q4, q5, q6⟩ := D4 x hx
    obtain ⟨g1, g2, g3, g4, g5, g6, g7⟩ := gd_4 (hg x hx).1
    refine ⟨⟨_, g1, (b x 0 hx (by omega)).trans q1⟩, ⟨_, g3, (b x 1 hx (by omega)).trans q2⟩, ⟨_, g7, (b x 2 hx (by omega)).trans q3⟩, ?_⟩
    rw [st x hx, b x 3 hx (by omega), b x 4 hx (by omega), b x 5 hx (by omega), q4, q5, q6]
  · rw [w1 0 (by omega)]; exact E2
  · rw [show 0 + 1 = 1 from rfl, w1 1 (by omega)]; exact E3
  · obtain ⟨q1, q2, q3, q4, q5, q6⟩ := D4 x hx
    obtain ⟨e1, e2, e3⟩ := E4 x hx
    refine ⟨?_, ?_, ?_⟩
    · rw [b x 0 hx (by omega), q1, ← e1, w1 _ (by omega), show 5248 + (0 + 2 + x) = 5250 + x by omega]
    · rw [b x 1 hx (by omega), q2, ← e2, w1 _ (by omega), show 5248 + (0 + 8 + x) = 5256 + x by omega]
    · rw [st x hx, w1 _ (by omega), w1 _ (by omega), w1 _ (by omega), q3, ← e3]
      have f1 : m1.1 1 (5248 + (0 + 26 + x)) = 0 := by rw [show 5248 + (0 + 26 + x) = 5268 + (6 + x) by omega]; exact E5 _ (by omega)
      have f2 : m1.1 1 (5248 + (0 + 20 + x)) = 0 := by rw [show 5248 + (0 + 20 + x) = 5268 + x by omega]; exact E5 _ (by omega)
      rw [f1, f2, show 5248 + (0 + 14 + x) = 5262 + x by omega]
theorem op_tower {c m : St} (h : Rel c m) (a : Int32) : wp_X8_tower a c (fun r c' => wp_X9_tower a m (fun r' m' => r = r' ∧ Rel c' m')) := by
  unfold wp_X8_tower
  by_cases ha : vp_in a 4
  · obtain ⟨t, ht, rfl⟩ := vp_in_of ha (by decide)
    refine isText_y ht (ite_ff ⟨ha, ?_⟩ (by decide))
    rw [nI_clamp (by omega)]
    rcases h.2.2.1 t ht with ⟨s, a1, a2, a3, a4, a5⟩ | ⟨a1, a2, a3⟩
    · rw [a2]
      obtain ⟨T, eT⟩ : ∃ T : Nat → Int32, ∀ i, c.1 (17 + 2 * t + 1) i = T i := ⟨fun i => c.1 (17 + 2 * t + 1) i, fun _ => rfl⟩
      have hC : TxC c (17 + 2 * t) T s := ⟨a1, a3, fun i _ => eT i⟩
      have hM : TxM m t T s := ⟨ht, a1, a4, fun i hi => (a5 i hi).trans (eT i)⟩
      have hq0 : pb T s 0 ≤ s := pb_le _ _ rfl (Nat.zero_le _)
      have n9 : ∀ x : Nat, x < 2 ^ 31 → ¬ nI x = -9 := fun x hx e => (nI_neg9 hx).mp e
      refine ite_ff ⟨ha, scan_s hC (by omega) (fun q c' g1 g2 => ite_ff (towerM_n hM ?_) (n9 _ (by omega))) (fun q1 q2 q3 c' g1 g2 => ite_ff (towerM_n hM ?_) (n9 _ (by omega))) (fun q1 q2 q3 i c1 hi hg D => ⟨fun z1 z2 => ite_tt ?_ rfl, fun z1 z2 => ?_⟩)⟩ (by decide)
      · exact faultA_s hM q (fun m' O => ite_ff ⟨rfl, O.keep (h.keep (keepC_d g1 g2) (KeepM.rf m))⟩ (n9 _ (by omega)))
      · exact faultB_s hM q1 q2 q3 (fun m' O => ite_ff ⟨rfl, O.keep (h.keep (keepC_d g1 g2) (KeepM.rf m))⟩ (n9 _ (by omega)))
      · have TC : TowC c1 34 i (fgN T s (pb T s 0 + 1)) 0 := by
          obtain ⟨D1, D2, D3, D4, D5, D6⟩ := D
          refine ⟨hi, q3, by omega, D1, D2, D3, fun x hx => ?_, fun j hj => by omega⟩
          obtain ⟨r1, r2, r3, r4, r5, r6⟩ := D4 x hx
          obtain ⟨g1, g2, g3, g4, g5, g6, g7⟩ := gd_4 (hg x hx).1
          refine ⟨⟨_, g1, r1⟩, ⟨_, g3, r2⟩, ⟨_, g7, r3⟩, ?_⟩
          show (c1.1 (37 + x) 3, c1.1 (37 + x) 4, c1.1 (37 + x) 5) = (c1.1 (37 + x) 2, 0, 0)
          rw [r4, r5, r6]
        refine become_s (by omega) TC (fun c2 u1 u2 u3 u4 u5 => ?_)
        unfold L_X8_tower_58
        refine for2_1 3 (fun k τ => (∀ x, x < k → τ.1 (43 + 9 * x) 2 = nI 0) ∧ (∀ a b, a < 43 → τ.1 a b = c2.1 a b) ∧ τ.2 = c2.2) ?_ ?_ 0 _ (Nat.zero_le _) ⟨fun x hx => by omega, fun _ _ _ => rfl, rfl⟩
        · rintro c3 Φ ⟨v1, v2, v3⟩
          unfold B_X8_tower_58
          have e25 : c3.1 25 2 = nI i := by rw [v2 _ _ (by omega), u1 2 (by omega) (by omega)]; exact D.1
          rw [e25]
          refine ite_tt (towerM_n hM (faultC_s hM q1 q2 q3 hi hg (fun _ _ m1 q DM => ite_tt ?_ rfl) (fun z => absurd (z z1) (by omega)))) (by decide)
          refine copyAll_s (f := 5248) (t := 0) (len := 32) (by omega) (by omega) (by omega) (fun m2 y1 y2 y3 => ?_)
          unfold L_X9_tower_54
          refine for2_1 3 (fun k τ => (∀ x, x < k → τ.1 2 x = -nI 1) ∧ (∀ a b, a ≠ 2 → τ.1 a b = (uI m2 0 1 0).1 a b) ∧ τ.2 = m2.2) ?_ ?_ 0 _ (Nat.zero_le _) ⟨fun x hx => by omega, fun _ _ _ => rfl, rfl⟩
          · rintro m3 Ψ ⟨x1, x2, x3⟩
            unfold B_X9_tower_54
            have w1 : ∀ j, j < 32 → m3.1 1 j = m1.1 1 (5248 + j) := fun j hj => by
              rw [x2 1 j (by decide), uI_c (by decide)]
              have := y1 j hj
              rwa [Nat.zero_add] at this
            have e0 : m3.1 1 0 = nI i := (w1 0 (by omega)).trans DM.2.1
            rw [show (0 : Int32).toNatClampNeg = 0 from rfl, e0]
            refine ite_tt ⟨in0, rfl, ?_⟩ (by decide)
            refine h.setup hi q3 hg D DM (fun j j1 j2 => (v2 _ _ (by omega)).trans (u1 j j1 j2)) (fun x j hx hj => (v2 _ _ (by omega)).trans (u2 x j hx hj)) (fun a b z => ?_) v1 ?_ w1 ?_ x1 (fun a b n1 n2 n3 n4 => ?_) ?_
            · rw [v2 _ _ (by omega), u4 _ _ (by omega), D.2.2.2.2.1 _ _ (by omega)]
            · rw [v3, u5, D.2.2.2.2.2]
            · rw [x2 0 1 (by decide), uI_s]; rfl
            · rw [x2 a b n4, uI_1, if_neg n2, y2 a b (by omega), DM.out.1 a b n1 (by omega)]
            · rw [x3, y3, DM.out.2]
          · rintro k τ Ψ hk ⟨x1, x2, x3⟩ hΨ
            unfold B_X9_tower_54
            rw [nI_clamp (by omega), show nI k + 1 = nI (k + 1) from nI_1 k]
            refine ite_ff ⟨vp_in_nI hk (by decide), hΨ _ ⟨fun x hx => ?_, fun a b z => (uI_c z).trans (x2 a b z), x3⟩⟩ (nI_ge hk (by decide))
            by_cases e : x = k
            · subst e; rw [uI_s]; rfl
            · rw [uI_n e]; exact x1 x (by omega)
        · rintro k τ Φ hk ⟨v1, v2, v3⟩ hΦ
          unfold B_X8_tower_58 wp_X7_clear
          rw [nI_clamp (by omega), show nI k + 1 = nI (k + 1) from nI_1 k]
          refine ite_ff ⟨vp_in_nI hk (by decide), hΦ _ ⟨fun x hx => ?_, fun a b z => ?_, v3⟩⟩ (nI_ge hk (by decide))
          · by_cases e : x = k
            · subst e; rw [uI_n (by decide), uI_n (by decide), uI_s]; rfl
            · rw [uI_c (by omega), uI_c (by omega), uI_c (by omega)]; exact v1 x (by omega)
          · rw [uI_c (by omega), uI_c (by omega), uI_c (by omega)]; exact v2 a b z
      · have hR := h.keep (keepC_d D.2.2.2.2.1 D.2.2.2.2.2) (KeepM.rf m)
        have hp0 : pb T s (pb T s 0 + 2) ≤ s := pb_le _ _ rfl (by have := (fg_lt (T := T) (s := s) (p := pb T s 0 + 1) (by omega)).1; omega)
        have hps := ps_le hp0 hg
        have gb : gdN T s (psN T s (pb T s (pb T s 0 + 2)) i) ≤ 4 := by unfold gdN; (repeat' split) <;> omega
        have nn := n9 (psN T s (pb T s (pb T s 0 + 2)) i + (if i = 6 then 0 else gdN T s (psN T s (pb T s (pb T s 0 + 2)) i))) (by split <;> omega)
        exact ite_ff (towerM_n hM (faultC_s hM q1 q2 q3 hi hg (fun y1 y2 => absurd (z1 y1) (by omega)) (fun _ => ⟨z2, fun m' O => ite_ff ⟨rfl, O.keep hR⟩ nn⟩))) nn
    · rw [a1]
      refine ite_tt (find_s 1 (by decide) ?_) rfl
      unfold wp_X9_tower
      rw [nI_clamp (by omega), a3]
      exact isTextM_y ht (ite_ff ⟨ha, ite_ff (found_s 1 (by decide) ⟨rfl, h.find 1 (by decide)⟩) (by decide)⟩ (by decide))
  · refine isText_n ha (ite_tt ?_ rfl)
    unfold wp_X9_tower
    exact isTextM_n ha (ite_tt ⟨rfl, h⟩ rfl)

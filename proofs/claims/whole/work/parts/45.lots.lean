/-! rounds by lots -/
def nxN (x : Nat) : Nat := x * 48271 % 2147483647
def lotN (c : St) (x : Nat) : Nat → Nat
  | 0 => x
  | i + 1 => if od c i = 0 then nxN (lotN c x i) else lotN c x i
def lqN (c : St) (x i : Nat) : Nat := if od c i = 0 then lotN c x (i + 1) / 16 % 4 else 0
def lvN (c : St) (x : Nat) : Nat → Nat
  | 0 => 0
  | i + 1 => lvN c x i + lqN c x i * 7 ^ i
theorem lotN_lt {c : St} {x : Nat} (hx : x < 2 ^ 31) (i : Nat) : lotN c x i < 2 ^ 31 := by
  induction i with
  | zero => exact hx
  | succ i ih =>
    simp only [lotN]
    split
    · unfold nxN; omega
    · exact ih
theorem lqN_lt (c : St) (x i : Nat) : lqN c x i < 7 := by unfold lqN; split <;> omega
theorem lvN_lt (c : St) (x : Nat) (i : Nat) : lvN c x i < 7 ^ i := by
  induction i with
  | zero => exact Nat.one_pos
  | succ i ih =>
    simp only [lvN]
    have h1 := lqN_lt c x i
    have h2 : lqN c x i * 7 ^ i ≤ 6 * 7 ^ i := Nat.mul_le_mul_right _ (by omega)
    rw [Nat.pow_succ]; omega
theorem lvN_rv (c : St) (x n : Nat) : ∀ j, j ≤ n → rvN (lqN c x) n j * 7 ^ (n - j) + lvN c x (n - j) = lvN c x n := by
  intro j
  induction j with
  | zero => intro _; simp only [rvN]; rw [Nat.zero_mul, Nat.zero_add, Nat.sub_zero]
  | succ j ih =>
    intro hj
    rw [← ih (by omega), show n - j = (n - (j + 1)) + 1 by omega]
    simp only [rvN, lvN]
    rw [show n - 1 - j = n - (j + 1) by omega, Nat.pow_succ, Nat.add_mul, Nat.mul_assoc, Nat.mul_comm 7 (7 ^ (n - (j + 1)))]
    omega
theorem lvN_dig {c : St} {x n j : Nat} (hj : j < n) : lvN c x n / 7 ^ j % 7 = lqN c x j := by
  have h := lvN_rv c x n n (Nat.le_refl _)
  rw [Nat.sub_self, Nat.pow_zero, Nat.mul_one] at h
  have h0 : lvN c x 0 = 0 := rfl
  rw [h0, Nat.add_zero] at h
  rw [← h, rvN_dig (fun i _ => lqN_lt c x i) n (Nat.le_refl _) j hj, Nat.sub_self, Nat.zero_add]
theorem nx_l {x : Nat} (hx : x < 2 ^ 31) : lrm (lN x * (48271 : Int64)) (2147483647 : Int64) = lN (nxN x) := by
  unfold lrm nxN
  rw [show (48271 : Int64) = lN 48271 from rfl, show (2147483647 : Int64) = lN 2147483647 from rfl, lN_mul]
  exact pk_lRem (by omega) (by decide) (by decide)
theorem pl_l {x : Nat} (hx : x < 2 ^ 31) : (lrm (lN x / (16 : Int64)) (4 : Int64)).toInt32 = nI (x / 16 % 4) := by
  unfold lrm
  rw [show (16 : Int64) = lN 16 from rfl, show (4 : Int64) = lN 4 from rfl, pk_lDiv (by omega) (by decide) (by decide), pk_lRem (by omega) (by decide) (by decide), lN_i]
theorem Rel.nowE {c m : St} (h : Rel c m) {n dm d : Nat} (hn : n ≤ 6) (hdm : dm ≤ 3) (hd : d ≤ 40) (e1 : c.1 25 2 = nI n) (e2 : c.1 25 3 = nI dm) (e3 : c.1 25 4 = nI d) : Now c m n dm d := by
  obtain ⟨n', dm', d', N⟩ := h.now
  have a1 : n' = n := by
    have := N.2.1.1.symm.trans e1
    rwa [nI_inj (by have := N.1.1; omega) (by omega)] at this
  have a2 : dm' = dm := by
    have := N.2.1.2.1.symm.trans e2
    rwa [nI_inj (by have := N.1.2.1; omega) (by omega)] at this
  have a3 : d' = d := by
    have := N.2.1.2.2.symm.trans e3
    rwa [nI_inj (by have := N.1.2.2; omega) (by omega)] at this
  subst a1; subst a2; subst a3
  exact N
/-- a state of the reference behind a deed -/
def actM (c m : St) (n d dd : Nat) : St := (fun a b => if a = 0 ∧ b = 1 then nI (d + 1) else if a = 1 ∧ 32 * (d + 1) ≤ b ∧ b < 32 * (d + 1) + 32 then m.1 1 (b - 32 * (d + 1)) else if a = 1 ∧ 14 ≤ b ∧ b < 14 + n then (dAct dd (b - 14) (c.1 (28 + (b - 14)) 0) (bl c (28 + (b - 14)))).1 else if a = 1 ∧ 20 ≤ b ∧ b < 20 + n then (dAct dd (b - 20) (c.1 (28 + (b - 20)) 0) (bl c (28 + (b - 20)))).2.2 else if a = 1 ∧ 26 ≤ b ∧ b < 26 + n then (dAct dd (b - 26) (c.1 (28 + (b - 26)) 0) (bl c (28 + (b - 26)))).2.1 else m.1 a b, m.2)
theorem actM_ok {c m : St} {n d dd : Nat} (hn : n ≤ 6) : ActedM c m (actM c m n d dd) n d dd := by
  have e : ∀ a b, (actM c m n d dd).1 a b = if a = 0 ∧ b = 1 then nI (d + 1) else if a = 1 ∧ 32 * (d + 1) ≤ b ∧ b < 32 * (d + 1) + 32 then m.1 1 (b - 32 * (d + 1)) else if a = 1 ∧ 14 ≤ b ∧ b < 14 + n then (dAct dd (b - 14) (c.1 (28 + (b - 14)) 0) (bl c (28 + (b - 14)))).1 else if a = 1 ∧ 20 ≤ b ∧ b < 20 + n then (dAct dd (b - 20) (c.1 (28 + (b - 20)) 0) (bl c (28 + (b - 20)))).2.2 else if a = 1 ∧ 26 ≤ b ∧ b < 26 + n then (dAct dd (b - 26) (c.1 (28 + (b - 26)) 0) (bl c (28 + (b - 26)))).2.1 else m.1 a b := fun _ _ => rfl
  refine ⟨fun i hi => ?_, fun j hj => ?_, ?_, fun a b h1 h2 h3 => ?_, rfl⟩
  · rw [e, e, e]
    rw [if_neg (by omega), if_neg (by omega), if_pos (by omega), if_neg (by omega), if_neg (by omega), if_neg (by omega), if_neg (by omega), if_pos (by omega), if_neg (by omega), if_neg (by omega), if_neg (by omega), if_pos (by omega)]
    rw [show 14 + i - 14 = i by omega, show 26 + i - 26 = i by omega, show 20 + i - 20 = i by omega]
  · rw [e, if_neg (by omega), if_pos (by omega), show 32 * (d + 1) + j - 32 * (d + 1) = j by omega]
  · rw [e, if_pos (by omega)]
  · rw [e, if_neg (by omega), if_neg (by omega), if_neg (by omega), if_neg (by omega), if_neg (by omega)]
/-- one round of the class -/
theorem lotsC_s {c m : St} {n dm d s k X : Nat} (N : Now c m n dm d) (hd : d < 40) (hX : X < 2 ^ 31) {K : Int32 → St → Prop} {Φ : Int64 → Int32 → St → Prop} (hΦ : ∀ c', Acted c c' n d (48 + lvN c X n) → Φ (lN (lotN c X n)) (nI (k + 1)) c') : L_X8_lots_74 (nI s) (nI k) c K Φ (lN X) 48 1 0 := by
  have hn := N.1.1
  have hlt := lvN_lt c X n
  have h6 : (7 : Nat) ^ n ≤ 7 ^ 6 := Nat.pow_le_pow_right (by decide) hn
  have h6' : lvN c X n < 117649 := Nat.lt_of_lt_of_le hlt h6
  obtain ⟨V, LT, V0, Vs, L0, Ls, Lb, Ve, Le⟩ : ∃ V LT : Nat → Nat, V 0 = 0 ∧ (∀ i, V (i + 1) = V i + (if od c i = 0 then LT (i + 1) / 16 % 4 else 0) * 7 ^ i) ∧ LT 0 = X ∧ (∀ i, LT (i + 1) = if od c i = 0 then nxN (LT i) else LT i) ∧ (∀ i, LT i < 2 ^ 31) ∧ lvN c X n = V n ∧ lotN c X n = LT n := ⟨lvN c X, lotN c X, rfl, fun _ => rfl, rfl, fun _ => rfl, lotN_lt hX, rfl, rfl⟩
  rw [Ve] at h6'
  rw [Ve, Le] at hΦ
  unfold L_X8_lots_74
  refine for4_4 n (fun i x y z => x = lN (LT i) ∧ y = nI (48 + V i) ∧ z = nI (7 ^ i)) ?_ ?_ 0 _ _ _ (Nat.zero_le _) ⟨by rw [L0], by rw [V0]; rfl, rfl⟩
  · rintro _ _ _ Ψ ⟨rfl, rfl, rfl⟩
    unfold B_X8_lots_74
    rw [N.2.1.1, show nI k + 1 = nI (k + 1) from nI_1 k]
    exact ite_tt (act_s hn N.2.1.1 N.2.1.2.2 hd (by omega) N.ok (fun c' hc => hΦ c' hc)) (Int32.le_refl _)
  · rintro i _ _ _ Ψ hi ⟨rfl, rfl, rfl⟩ hΨ
    unfold B_X8_lots_74 J_X8_lots_130
    obtain ⟨⟨b1, b2, b3, b4, b5⟩, ⟨c1, c2, c3, c4⟩, d1, d2, d3, d4, d5⟩ := N.2.2.2 i hi
    have lb := Lb i
    have lb1 := Lb (i + 1)
    have ls := Ls i
    have vs := Vs i
    have ew : nI (7 ^ i) * 7 = nI (7 ^ (i + 1)) := by rw [lit_nI, pk_mul, Nat.pow_succ]
    rw [N.2.1.1, nI_clamp (by omega), c4, show nI i + 1 = nI (i + 1) from nI_1 i, ew]
    refine ite_ff ⟨vp_in_nI (by omega) (by decide), ite_c (fun z => ?_) (fun z => ?_)⟩ (nI_ge hi (by omega))
    · rw [lit_nI, nI_inj (by omega) (by decide)] at z
      rw [if_pos z] at ls vs
      rw [nx_l lb, ← ls, pl_l lb1, pk_mul, nI_add, Nat.add_assoc, ← vs]
      exact hΨ _ _ _ ⟨rfl, rfl, rfl⟩
    · rw [lit_nI, nI_inj (by omega) (by decide)] at z
      rw [if_neg z] at ls vs
      rw [Nat.zero_mul] at vs
      exact hΨ _ _ _ ⟨by rw [ls], by rw [show V (i + 1) = V i by omega], rfl⟩
/-- one round of the reference -/
theorem lotsM_s {c m : St} {n dm d s k X : Nat} (N : Now c m n dm d) (hd : d < 40) (hX : X < 2 ^ 31) (hk : k < s) (hs : s ≤ 20) {K : Int32 → St → Prop} {Φ : Int64 → Int32 → St → Prop} (hΦ : ∀ m', ActedM c m m' n d (48 + lvN c X n) → Φ (lN (lotN c X n)) (nI (k + 1)) m') : B_X9_lots_58 (nI s) K Φ (lN X) (nI k) m := by
  have hn := N.1.1
  have hdig : ∀ j, j < n → lvN c X n / 7 ^ j % 7 = lqN c X j := fun j hj => lvN_dig hj
  have hq7 := lqN_lt c X
  obtain ⟨LT, LQ, L0, Ls, Lb, Lq, Le, Lqe⟩ : ∃ LT LQ : Nat → Nat, LT 0 = X ∧ (∀ i, LT (i + 1) = if od c i = 0 then nxN (LT i) else LT i) ∧ (∀ i, LT i < 2 ^ 31) ∧ (∀ i, LQ i = if od c i = 0 then LT (i + 1) / 16 % 4 else 0) ∧ lotN c X n = LT n ∧ lqN c X = LQ := ⟨lotN c X, lqN c X, rfl, fun _ => rfl, lotN_lt hX, fun _ => rfl, rfl, rfl⟩
  rw [Le] at hΦ
  rw [Lqe] at hdig hq7
  generalize lvN c X n = V at hdig hΦ
  unfold B_X9_lots_58
  refine ite_ff (minds_s (d := d) hd N.2.2.1.2.2 (fun m1 hm1 => ?_)) (nI_ge hk (by omega))
  obtain ⟨v1, v2, v3, v4⟩ := hm1
  have da : ∀ j, j < n → dAct (48 + V) j (c.1 (28 + j) 0) (bl c (28 + j)) = bSw (c.1 (28 + j) 0) (nI (LQ j)) (bl c (28 + j)) := by
    intro j hj
    simp only [dAct]
    rw [if_pos (by omega), show 48 + V - 48 = V by omega, hdig j hj]
  unfold L_X9_lots_71
  refine for3_2 n (fun i x τ => x = lN (LT i) ∧ (∀ j, j < i → (τ.1 1 (14 + j), τ.1 1 (26 + j), τ.1 1 (20 + j)) = dAct (48 + V) j (c.1 (28 + j) 0) (bl c (28 + j))) ∧ (∀ a b, ¬ (a = 1 ∧ ((14 ≤ b ∧ b < 14 + i) ∨ (20 ≤ b ∧ b < 20 + i) ∨ (26 ≤ b ∧ b < 26 + i))) → τ.1 a b = m1.1 a b) ∧ τ.2 = m1.2) ?_ ?_ 0 _ _ (Nat.zero_le _) ⟨by rw [L0], fun j hj => by omega, fun _ _ _ => rfl, rfl⟩
  · rintro _ τ Ψ ⟨rfl, t1, t2, t3⟩
    unfold B_X9_lots_71
    rw [show (0 : Int32).toNatClampNeg = 0 from rfl, t2 1 0 (by omega), v3 1 0 (by omega) (by omega), N.2.2.1.1, show nI k + 1 = nI (k + 1) from nI_1 k]
    refine ⟨in0, ite_tt (hΦ τ ⟨t1, fun j hj => ?_, ?_, fun a b q1 q2 q3 => ?_, t3.trans v4⟩) (Int32.le_refl _)⟩
    · rw [t2 _ _ (by omega)]; exact v1 j hj
    · rw [t2 _ _ (by omega)]; exact v2
    · rw [t2 a b (by omega)]; exact v3 a b q1 q2
  · rintro i _ τ Ψ hi ⟨rfl, t1, t2, t3⟩ hΨ
    obtain ⟨⟨b1, b2, b3, b4, b5⟩, ⟨c1, c2, c3, c4⟩, d1, d2, d3, d4, d5⟩ := N.2.2.2 i hi
    have tm : ∀ b, ¬ ((14 ≤ b ∧ b < 14 + i) ∨ (20 ≤ b ∧ b < 20 + i) ∨ (26 ≤ b ∧ b < 26 + i)) → b < 32 → τ.1 1 b = m.1 1 b := fun b z1 z2 => (t2 1 b (by omega)).trans (v3 1 b (by omega) (by omega))
    have s2 : τ.1 1 (2 + i) = nI (kd c i) := (tm _ (by omega) (by omega)).trans d1
    have s14 : τ.1 1 (14 + i) = nI (hdN c i) := (tm _ (by omega) (by omega)).trans d3
    have s20 : τ.1 1 (20 + i) = nI (od c i) := (tm _ (by omega) (by omega)).trans d4
    have s26 : τ.1 1 (26 + i) = c.1 (28 + i) 4 := (tm _ (by omega) (by omega)).trans d5
    have ebl : bl c (28 + i) = (nI (hdN c i), c.1 (28 + i) 4, nI (od c i)) := by unfold bl; rw [c3, c4]
    have lb := Lb i
    have lb1 := Lb (i + 1)
    have ls := Ls i
    have lq := Lq i
    have q7 := hq7 i
    unfold B_X9_lots_71 J_X9_lots_117
    rw [show (0 : Int32).toNatClampNeg = 0 from rfl, t2 1 0 (by omega), v3 1 0 (by omega) (by omega), N.2.2.1.1, show nI i + 1 = nI (i + 1) from nI_1 i]
    refine ⟨in0, ite_ff (isOver_r (by omega) b4 s20 (fun o => ite_ff (hΨ _ _ ⟨?_, fun j hj => ?_, fun a b z => t2 a b (by omega), t3⟩) (by decide)) (fun o => ite_tt ?_ rfl)) (nI_ge hi (by omega))⟩
    · rw [ls, if_neg (by omega)]
    · by_cases e : j = i
      · subst e
        rw [da j hi, ebl, s14, s20, s26, o]
        simp only [bSw]
        rw [if_neg (by decide)]
      · exact t1 j (by omega)
    · rw [if_pos o] at ls lq
      rw [nx_l lb, ← ls, pl_l lb1, ← lq]
      refine strokesM_s (by omega) b1 b3 (by omega) s2 s14 (fun m2 w1 w2 w3 => hΨ _ _ ⟨rfl, fun j hj => ?_, fun a b z => (w2 a b (by omega)).trans (t2 a b (by omega)), w3.trans t3⟩)
      by_cases e : j = i
      · subst e
        rw [da j hi, ebl, o, c1, w1, s26]; rfl
      · rw [w2 1 (14 + j) (by omega), w2 1 (26 + j) (by omega), w2 1 (20 + j) (by omega)]
        exact t1 j (by omega)
theorem op_lots {c m : St} (h : Rel c m) (a b : Int32) : wp_X8_lots a b c (fun r c' => wp_X9_lots a b m (fun r' m' => r = r' ∧ Rel c' m')) := by
  obtain ⟨n, dm, d, N⟩ := h.now
  have hn := N.1.1
  have hdm := N.1.2.1
  have hd40 := N.1.2.2
  have hbad : ¬ (1 ≤ a.toInt ∧ a.toInt ≤ 20 ∧ 1 ≤ b.toInt ∧ b.toInt ≤ 2147483646) → wp_X9_lots a b m (fun r' m' => (-1 : Int32) = r' ∧ Rel c m') := by
    intro hb
    unfold wp_X9_lots J_X9_lots_24
    refine inM (x := a.toInt) (l := 1) (h := 20) (toInt_L a) (by decide) (by decide) (fun q1 q2 => ite_ff ?_ (by decide)) (fun _ => ite_tt ⟨rfl, h⟩ rfl)
    exact inM (x := b.toInt) (l := 1) (h := 2147483646) (toInt_L b) (by decide) (by decide) (fun r1 r2 => absurd ⟨q1, q2, r1, r2⟩ hb) (fun _ => ite_tt ⟨rfl, h⟩ rfl)
  have l1 : (1 : Int32).toInt = 1 := rfl
  have l20 : (20 : Int32).toInt = 20 := rfl
  have lm : (2147483646 : Int32).toInt = 2147483646 := by decide
  have l0 : (0 : Int32).toInt = 0 := rfl
  unfold wp_X8_lots J_X8_lots_23 wp_X7_roomLeft
  refine ite_c (fun z => hbad ?_) (fun z1 => ite_c (fun z => hbad ?_) (fun z2 => ite_c (fun z => hbad ?_) (fun z3 => ite_c (fun z4 => ?_) (fun z => hbad ?_))))
  · rw [Int32.lt_iff_toInt_lt, l1] at z; omega
  · rw [Int32.lt_iff_toInt_lt, l20] at z; omega
  · rw [Int32.lt_iff_toInt_lt, l1] at z; omega
  · obtain ⟨s, hs, rfl⟩ := le_nI (n := 20) (v := a) (by decide) (Int32.not_lt.mp z2) (by rw [Int32.lt_iff_toInt_lt, l1] at z1; rw [Int32.le_iff_toInt_le, l0]; omega)
    obtain ⟨X, hX, rfl⟩ := le_nI (n := 2147483646) (v := b) (by decide) z4 (by rw [Int32.lt_iff_toInt_lt, l1] at z3; rw [Int32.le_iff_toInt_le, l0]; omega)
    rw [lit_nI, nI_lt' (by omega) (by decide)] at z1 z3
    have hX31 : X < 2 ^ 31 := by omega
    have pre : ∀ K : Int32 → St → Prop, (if nI n = 0 then K (-4) m else if nI d + nI s ≤ 40 then L_X9_lots_58 (nI s) K (lN X) 0 m else K (-2) m) → wp_X9_lots (nI s) (nI X) m K := by
      intro K hK
      unfold wp_X9_lots
      refine inM (x := s) (l := 1) (h := 20) (by rw [toInt_L, nI_toInt (by omega)]) (by decide) (by decide) (fun _ _ => ite_ff ?_ (by decide)) (fun q => by omega)
      refine inM (x := X) (l := 1) (h := 2147483646) (by rw [toInt_L, nI_toInt (by omega)]) (by decide) (by decide) (fun _ _ => ite_ff ⟨in0, ?_⟩ (by decide)) (fun q => by omega)
      rw [show (0 : Int32).toNatClampNeg = 0 from rfl, N.2.2.1.1, N.2.2.1.2.2, nI_toL hX31]
      exact hK
    rw [N.2.1.1, N.2.1.2.2]
    refine ite_c (fun z => pre _ (ite_tt ⟨rfl, h⟩ z)) (fun z => ?_)
    have er : (40 - nI d : Int32) = nI (40 - d) := pk_sub (a := 40) (by omega)
    rw [er, nI_toL hX31]
    refine ite_c (fun y => ?_) (fun y => pre _ (ite_ff (ite_ff ⟨rfl, h⟩ ?_) z))
    · rw [nI_le' (by omega) (by omega)] at y
      have y2 : nI d + nI s ≤ 40 := by rw [nI_add, lit_nI, nI_le' (by omega) (by decide)]; omega
      unfold L_X8_lots_58
      refine for3_2 s (fun k x τ => ∃ X' m', x = lN X' ∧ X' < 2 ^ 31 ∧ Rel τ m' ∧ Now τ m' n dm (d + k) ∧ ∀ K' : Int32 → St → Prop, (∀ m'', Rel τ m'' → it3 (B_X9_lots_58 (nI s) K') (s - k + 1) (lN X') (nI k) m'') → it3 (B_X9_lots_58 (nI s) K') (s + 1) (lN X) 0 m) ?_ ?_ 0 _ _ (Nat.zero_le _) ⟨X, m, rfl, hX31, h, N, fun K' H => H m h⟩
      · rintro _ τ Φ ⟨X', m', rfl, hX', hR', N', hA⟩
        unfold B_X8_lots_58
        refine ite_tt (ringing_s N' (pre _ (ite_ff (ite_tt ?_ y2) z))) (Int32.le_refl _)
        unfold L_X9_lots_58
        refine ⟨s + 1, hA _ (fun m'' hR'' => ?_)⟩
        rw [Nat.sub_self]
        have N'' : Now τ m'' n dm (d + s) := hR''.nowE hn hdm N'.1.2.2 N'.2.1.1 N'.2.1.2.1 N'.2.1.2.2
        show B_X9_lots_58 (nI s) _ _ (lN X') (nI s) m''
        unfold B_X9_lots_58
        exact ite_tt (sounds_s N'' ⟨rfl, hR''⟩) (Int32.le_refl _)
      · rintro k _ τ Φ hk ⟨X', m', rfl, hX', hR', N', hA⟩ hΦ
        unfold B_X8_lots_58
        have h6 : (7 : Nat) ^ n ≤ 7 ^ 6 := Nat.pow_le_pow_right (by decide) hn
        have h6' : lvN τ X' n < 117649 := Nat.lt_of_lt_of_le (lvN_lt τ X' n) h6
        refine ite_ff (lotsC_s N' (by omega) hX' (fun c' hc => hΦ _ _ ?_)) (nI_ge hk (by omega))
        have hR2 : Rel c' (actM τ m' n (d + k) (48 + lvN τ X' n)) := hR'.deed N' (by omega) (by omega) hc (actM_ok hn)
        have e2 : c'.1 25 2 = nI n := (hc.2.2.2.1 25 2 (by omega) (by omega) (by omega)).trans N'.2.1.1
        have e3 : c'.1 25 3 = nI dm := (hc.2.2.2.1 25 3 (by omega) (by omega) (by omega)).trans N'.2.1.2.1
        have e4 : c'.1 25 4 = nI (d + (k + 1)) := hc.2.1
        refine ⟨lotN τ X' n, _, rfl, lotN_lt hX' n, hR2, hR2.nowE hn hdm (by omega) e2 e3 e4, fun K' H => hA K' (fun m'' hR'' => ?_)⟩
        have N'' : Now τ m'' n dm (d + k) := hR''.nowE hn hdm N'.1.2.2 N'.2.1.1 N'.2.1.2.1 N'.2.1.2.2
        rw [show s - k = s - (k + 1) + 1 by omega]
        show B_X9_lots_58 (nI s) K' (it3 (B_X9_lots_58 (nI s) K') (s - (k + 1) + 1)) (lN X') (nI k) m''
        exact lotsM_s N'' (by omega) hX' hk hs (fun m3 h3 => H m3 (hR''.deed N'' (by omega) (by omega) hc h3))
    · rw [nI_le' (by omega) (by omega)] at y
      rw [nI_add, lit_nI, nI_le' (by omega) (by decide)]; omega
  · have : ¬ b.toInt ≤ 2147483646 := fun q => z (by rw [Int32.le_iff_toInt_le, lm]; exact q)
    omega

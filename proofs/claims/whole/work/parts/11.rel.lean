/-! What ties the class's state c to the reference's m. -/
theorem nI_neg1 {a : Nat} (ha : a < 2 ^ 31) : (nI a = -nI 1) = False := nI_em1 ha
theorem nI_neg9 {a : Nat} (ha : a < 2 ^ 31) : (nI a = -nI 9) = False := nI_em9 ha
theorem nI_neg3 {a : Nat} (ha : a < 2 ^ 31) : (nI a = -nI 3) = False := eq_false (nI_nm ha (by decide))
theorem neg1_nI {a : Nat} (ha : a < 2 ^ 31) : (-nI 1 = nI a) = False := eq_false (fun h => nI_nm ha (v := -nI 1) (by decide) h.symm)
theorem neg9_nI {a : Nat} (ha : a < 2 ^ 31) : (-nI 9 = nI a) = False := eq_false (fun h => nI_nm ha (v := -nI 9) (by decide) h.symm)
theorem neg_l0 : (-nI 1 < nI 0) = True := by decide
theorem neg_g0 : (nI 0 ≤ -nI 1) = False := by decide
theorem one_ne0 : ((1 : Nat) = 0) = False := by decide
theorem zero_ne1 : ((0 : Nat) = 1) = False := by decide
/-- the fields that a row, a text has -/
def RowR (c m : St) (ρ : Nat) : Prop := (∃ s : Nat, s ≤ 40 ∧ c.1 (5 + 2 * ρ) 1 = nI 1 ∧ c.1 (5 + 2 * ρ) 2 = nI s ∧ m.1 4 ρ = nI s ∧ ∀ i, i < s → m.1 3 (40 * ρ + i) = c.1 (5 + 2 * ρ + 1) i) ∨ (c.1 (5 + 2 * ρ) 1 = nI 0 ∧ c.1 (5 + 2 * ρ) 2 = nI 0 ∧ m.1 4 ρ = -nI 1)
def TextR (c m : St) (ρ : Nat) : Prop := (∃ s : Nat, s ≤ 60 ∧ c.1 (17 + 2 * ρ) 1 = nI 1 ∧ c.1 (17 + 2 * ρ) 2 = nI s ∧ m.1 6 ρ = nI s ∧ ∀ i, i < s → m.1 5 (60 * ρ + i) = c.1 (17 + 2 * ρ + 1) i) ∨ (c.1 (17 + 2 * ρ) 1 = nI 0 ∧ c.1 (17 + 2 * ρ) 2 = nI 0 ∧ m.1 6 ρ = -nI 1)
/-- what is told -/
def TellR (c m : St) : Prop := (∀ f, f < 6 → c.1 4 f = m.1 8 f) ∧ c.1 0 11 = m.1 0 8 ∧ c.1 0 12 = m.1 0 10 ∧ c.2 0 13 = m.2 0 11 ∧ c.2 0 14 = m.2 0 12
/-- the height behind a stroke, as the class reckons it; -1: the stay breaks -/
def aftI (k h p : Int32) : Int32 := (fun (x : Int32) => if 22 ≤ x then -1 else imin x 20) (imax 0 ((h + (if k = 1 ∨ k = 4 then p / 2 else p)) - (if k = 2 ∨ k = 5 then 0 else 1)))
/-- one bell: height, strokes, over -/
abbrev Bl : Type := Int32 × Int32 × Int32
def bSw (k p : Int32) (x : Bl) : Bl := if x.2.2 = 0 then (if aftI k x.1 p = -1 then (0, x.2.1 + 1, 1) else (aftI k x.1 p, x.2.1 + 1, 0)) else x
def bMend (x : Bl) : Bl := (0, x.2.1, 0)
/-- what a deed does to bell i of kind k -/
def dAct (dd i : Nat) (k : Int32) (x : Bl) : Bl := if 48 ≤ dd then bSw k (nI ((dd - 48) / 7 ^ i % 7)) x else if 42 ≤ dd then (if dd - 42 = i then bMend x else x) else if dd / 7 = i then bSw k (nI (dd % 7)) x else x
/-- bell i of the tower at cell T behind d deeds -/
def stC (c : St) (T : Nat) : Nat → Nat → Bl
  | 0, i => (c.1 (T + 3 + i) 2, 0, 0)
  | d + 1, i => dAct (c.1 (T + 2) d).toNatClampNeg i (c.1 (T + 3 + i) 0) (stC c T d i)
/-- the class's tower at cell T: n bells, dm damp, d deeds -/
def TowC (c : St) (T n dm d : Nat) : Prop := n ≤ 6 ∧ dm ≤ 3 ∧ d ≤ 40 ∧ c.1 T 2 = nI n ∧ c.1 T 3 = nI dm ∧ c.1 T 4 = nI d ∧
  (∀ i, i < n → (∃ k, k < 6 ∧ c.1 (T + 3 + i) 0 = nI k) ∧ (∃ w, w ≤ 9 ∧ c.1 (T + 3 + i) 1 = nI w) ∧ (∃ h, h ≤ 20 ∧ c.1 (T + 3 + i) 2 = nI h) ∧ (c.1 (T + 3 + i) 3, c.1 (T + 3 + i) 4, c.1 (T + 3 + i) 5) = stC c T d i) ∧
  ∀ j, j < d → ∃ q, q < 117697 ∧ c.1 (T + 2) j = nI q
/-- the reference's: at place b of its row w -/
def TowM (c m : St) (T b n dm d : Nat) : Prop := m.1 1 b = nI n ∧ m.1 1 (b + 1) = nI dm ∧
  (∀ i, i < n → m.1 1 (b + 2 + i) = c.1 (T + 3 + i) 0 ∧ m.1 1 (b + 8 + i) = c.1 (T + 3 + i) 1 ∧ (m.1 1 (b + 14 + i), m.1 1 (b + 26 + i), m.1 1 (b + 20 + i)) = stC c T d i) ∧
  ∀ e, e < d → m.1 1 (b + 32 * (e + 1)) = nI n ∧ ∀ i, i < n → m.1 1 (b + 32 * (e + 1) + 2 + i) = c.1 (T + 3 + i) 0 ∧ m.1 1 (b + 32 * (e + 1) + 8 + i) = c.1 (T + 3 + i) 1 ∧ (m.1 1 (b + 32 * (e + 1) + 14 + i), m.1 1 (b + 32 * (e + 1) + 26 + i), m.1 1 (b + 32 * (e + 1) + 20 + i)) = stC c T e i
def NowR (c m : St) : Prop := ∃ n dm d, TowC c 25 n dm d ∧ TowM c m 25 0 n dm d ∧ m.1 0 1 = nI d
def KeptR (c m : St) (k : Nat) : Prop := (c.1 (43 + 9 * k) 2 = nI 0 ∧ m.1 2 k = -nI 1) ∨ ∃ n dm d, 0 < n ∧ TowC c (43 + 9 * k) n dm d ∧ TowM c m (43 + 9 * k) (1312 * (k + 1)) n dm d ∧ m.1 2 k = nI d
def Rel (c m : St) : Prop := TellR c m ∧ (∀ ρ, ρ < 6 → RowR c m ρ) ∧ (∀ ρ, ρ < 4 → TextR c m ρ) ∧ NowR c m ∧ ∀ k, k < 3 → KeptR c m k
/-- states that are alike but for what is laid aside -/
def KeepC (c c' : St) : Prop := (∀ k j, k < 34 ∨ (43 ≤ k ∧ k < 70) → c'.1 k j = c.1 k j) ∧ ∀ j, c'.2 0 j = c.2 0 j
def KeepM (m m' : St) : Prop := (m'.1 0 1 = m.1 0 1 ∧ m'.1 0 8 = m.1 0 8 ∧ m'.1 0 10 = m.1 0 10) ∧ (∀ j, j < 5248 → m'.1 1 j = m.1 1 j) ∧ (∀ k j, 2 ≤ k ∧ k ≤ 8 ∧ k ≠ 7 → m'.1 k j = m.1 k j) ∧ m'.2 0 11 = m.2 0 11 ∧ m'.2 0 12 = m.2 0 12
theorem KeepC.rf (c : St) : KeepC c c := ⟨fun _ _ _ => rfl, fun _ => rfl⟩
theorem KeepM.rf (m : St) : KeepM m m := ⟨⟨rfl, rfl, rfl⟩, fun _ _ => rfl, fun _ _ _ => rfl, rfl, rfl⟩
theorem KeepC.tr {a b c : St} (h : KeepC a b) (g : KeepC b c) : KeepC a c := ⟨fun k j q => (g.1 k j q).trans (h.1 k j q), fun j => (g.2 j).trans (h.2 j)⟩
theorem KeepM.tr {a b c : St} (h : KeepM a b) (g : KeepM b c) : KeepM a c := ⟨⟨g.1.1.trans h.1.1, g.1.2.1.trans h.1.2.1, g.1.2.2.trans h.1.2.2⟩, fun j q => (g.2.1 j q).trans (h.2.1 j q), fun k j q => (g.2.2.1 k j q).trans (h.2.2.1 k j q), g.2.2.2.1.trans h.2.2.2.1, g.2.2.2.2.trans h.2.2.2.2⟩
/-- stC reads the starts, the kinds and the deeds alone -/
theorem stC_congr {c c' : St} {T T' d i : Nat} (h0 : c'.1 (T' + 3 + i) 0 = c.1 (T + 3 + i) 0) (h2 : c'.1 (T' + 3 + i) 2 = c.1 (T + 3 + i) 2) (hd : ∀ j, j < d → c'.1 (T' + 2) j = c.1 (T + 2) j) : stC c' T' d i = stC c T d i := by
  induction d with
  | zero => simp [stC, h2]
  | succ d ih => simp only [stC]; rw [h0, hd d (Nat.lt_succ_self d), ih (fun j hj => hd j (Nat.lt_succ_of_lt hj))]
theorem TowC_congr {c c' : St} {T T' n dm d : Nat} (h : TowC c T n dm d) (hT : ∀ j, 2 ≤ j → j ≤ 4 → c'.1 T' j = c.1 T j) (hB : ∀ i j, i < n → c'.1 (T' + 3 + i) j = c.1 (T + 3 + i) j) (hd : ∀ j, j < d → c'.1 (T' + 2) j = c.1 (T + 2) j) : TowC c' T' n dm d := by
  obtain ⟨h1, h2, h3, h4, h5, h6, h7, h8⟩ := h
  refine ⟨h1, h2, h3, by rw [hT 2 (by omega) (by omega)]; exact h4, by rw [hT 3 (by omega) (by omega)]; exact h5, by rw [hT 4 (by omega) (by omega)]; exact h6, fun i hi => ?_, fun j hj => by rw [hd j hj]; exact h8 j hj⟩
  rw [stC_congr (hB i 0 hi) (hB i 2 hi) hd]
  simp only [hB i _ hi]
  exact h7 i hi
theorem TowM_congr {c c' m m' : St} {T T' b b' n dm d : Nat} (h : TowM c m T b n dm d) (hm : ∀ j, j < 32 * (d + 1) → m'.1 1 (b' + j) = m.1 1 (b + j)) (hn : n ≤ 6) (hB : ∀ i j, i < n → j ≤ 2 → c'.1 (T' + 3 + i) j = c.1 (T + 3 + i) j) (hd : ∀ j, j < d → c'.1 (T' + 2) j = c.1 (T + 2) j) : TowM c' m' T' b' n dm d := by
  obtain ⟨h1, h2, h3, h4⟩ := h
  have hs : ∀ e i, e ≤ d → i < n → stC c' T' e i = stC c T e i := fun e i he hi => stC_congr (hB i 0 hi (by omega)) (hB i 2 hi (by omega)) (fun j hj => hd j (by omega))
  refine ⟨by rw [show b' = b' + 0 from rfl, hm 0 (by omega)]; exact h1, by rw [hm 1 (by omega)]; exact h2, fun i hi => ?_, fun e he => ⟨by rw [hm (32 * (e + 1)) (by omega)]; exact (h4 e he).1, fun i hi => ?_⟩⟩
  · rw [hs d i (Nat.le_refl _) hi, hB i 0 hi (by omega), hB i 1 hi (by omega)]
    simp only [Nat.add_assoc]
    rw [hm (2 + i) (by omega), hm (8 + i) (by omega), hm (14 + i) (by omega), hm (26 + i) (by omega), hm (20 + i) (by omega)]
    have := h3 i hi
    simp only [Nat.add_assoc] at this
    exact this
  · rw [hs e i (by omega) hi, hB i 0 hi (by omega), hB i 1 hi (by omega)]
    have := (h4 e he).2 i hi
    simp only [Nat.add_assoc] at this ⊢
    rw [hm (32 * (e + 1) + (2 + i)) (by omega), hm (32 * (e + 1) + (8 + i)) (by omega), hm (32 * (e + 1) + (14 + i)) (by omega), hm (32 * (e + 1) + (26 + i)) (by omega), hm (32 * (e + 1) + (20 + i)) (by omega)]
    exact this
theorem Rel.keep {c m c' m' : St} (h : Rel c m) (hc : KeepC c c') (hm : KeepM m m') : Rel c' m' := by
  obtain ⟨⟨t1, t2, t3, t4, t5⟩, hr, ht, ⟨n, dm, d, hn1, hn2, hn3⟩, hk⟩ := h
  obtain ⟨hc1, hc2⟩ := hc
  obtain ⟨⟨m1, m2, m3⟩, mw, mr, ml1, ml2⟩ := hm
  refine ⟨⟨fun f hf => by rw [hc1 4 f (by omega), mr 8 f (by omega)]; exact t1 f hf, by rw [hc1 0 11 (by omega), m2]; exact t2, by rw [hc1 0 12 (by omega), m3]; exact t3, by rw [hc2, ml1]; exact t4, by rw [hc2, ml2]; exact t5⟩, fun ρ hρ => ?_, fun ρ hρ => ?_, ⟨n, dm, d, ?_, ?_, by rw [m1]; exact hn3⟩, fun k hk' => ?_⟩
  · have := hr ρ hρ
    unfold RowR at this ⊢
    rw [hc1 _ 1 (by omega), hc1 _ 2 (by omega), mr 4 _ (by omega)]
    simp only [mr 3 _ (by omega : 2 ≤ 3 ∧ 3 ≤ 8 ∧ 3 ≠ 7), hc1 (5 + 2 * ρ + 1) _ (by omega)]
    exact this
  · have := ht ρ hρ
    unfold TextR at this ⊢
    rw [hc1 _ 1 (by omega), hc1 _ 2 (by omega), mr 6 _ (by omega)]
    simp only [mr 5 _ (by omega : 2 ≤ 5 ∧ 5 ≤ 8 ∧ 5 ≠ 7), hc1 (17 + 2 * ρ + 1) _ (by omega)]
    exact this
  · have hn6 := hn1.1
    exact TowC_congr hn1 (fun j _ _ => hc1 _ _ (by omega)) (fun i j hi => hc1 _ _ (by omega)) (fun j hj => hc1 _ _ (by omega))
  · have hn6 := hn1.1
    have hd := hn1.2.2.1
    exact TowM_congr hn2 (fun j hj => mw _ (by omega)) hn6 (fun i j hi _ => hc1 _ _ (by omega)) (fun j hj => hc1 _ _ (by omega))
  · rcases hk k hk' with ⟨a1, a2⟩ | ⟨n, dm, d, a0, a1, a2, a3⟩
    · exact Or.inl ⟨by rw [hc1 _ _ (by omega)]; exact a1, by rw [mr 2 _ (by omega)]; exact a2⟩
    · have hn6 := a1.1
      have hd := a1.2.2.1
      exact Or.inr ⟨n, dm, d, a0, TowC_congr a1 (fun j _ _ => hc1 _ _ (by omega)) (fun i j hi => hc1 _ _ (by omega)) (fun j hj => hc1 _ _ (by omega)), TowM_congr a2 (fun j hj => mw _ (by omega)) hn6 (fun i j hi _ => hc1 _ _ (by omega)) (fun j hj => hc1 _ _ (by omega)), by rw [mr 2 _ (by omega)]; exact a3⟩

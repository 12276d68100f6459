/-! The frame of this claim: one world a side (class, reference), its cells by number; 'Go': the machine at a pc with these locals, this stack, this state comes to Q. -/
abbrev St : Type := (Nat → Nat → Int32) × (Nat → Nat → Int64)
abbrev Sh : Type := List (Nat × Nat × Nat)
abbrev Gp : Type := va_G × (Nat → ClassId) × (Nat → Nat)
def uI (σ : St) (k j : Nat) (v : Int32) : St := (fun a b => if a = k ∧ b = j then v else σ.1 a b, σ.2)
def uL (σ : St) (k j : Nat) (v : Int64) : St := (σ.1, fun a b => if a = k ∧ b = j then v else σ.2 a b)
def uCI (σ : St) (k0 k sp dp n : Nat) : St := (fun a b => if a = k then va_cpy (σ.1 k0) (σ.1 k) sp dp n b else σ.1 a b, σ.2)
def uCL (σ : St) (k0 k sp dp n : Nat) : St := (σ.1, fun a b => if a = k then va_cpy (σ.2 k0) (σ.2 k) sp dp n b else σ.2 a b)
def TB : List Cond := lw_tbl.filter goodWord
theorem TB_good : ∀ w ∈ TB, (w.onTables && w.keeps) = true ∨ ∃ ty, w = .arrayClass ty := fun w h => good_of_word (List.mem_filter.mp h).2
theorem tb_s {w : Cond} (h : w ∈ k2_sels lw_privs) (hg : goodWord w = true) : w ∈ TB := List.mem_filter.mpr ⟨List.mem_append_left _ h, hg⟩
theorem tb_0 {w : Cond} (h : w ∈ tables_1) (hg : goodWord w = true) : w ∈ TB := List.mem_filter.mpr ⟨List.mem_append_right _ h, hg⟩
theorem tb_1 {w : Cond} (h : w ∈ tables_1_1) (hg : goodWord w = true) : w ∈ TB := tb_0 (List.mem_append_left _ h) hg
theorem tb_2 {w : Cond} (h : w ∈ tables_1_2) (hg : goodWord w = true) : w ∈ TB := tb_0 (List.mem_append_right _ (List.mem_append_left _ h)) hg
theorem tb_3 {w : Cond} (h : w ∈ tables_1_3) (hg : goodWord w = true) : w ∈ TB := tb_0 (List.mem_append_right _ (List.mem_append_right _ (List.mem_append_left _ h))) hg
theorem tb_4 {w : Cond} (h : w ∈ tables_1_4) (hg : goodWord w = true) : w ∈ TB := tb_0 (List.mem_append_right _ (List.mem_append_right _ (List.mem_append_right _ (List.mem_append_left _ h)))) hg
theorem tb_5 {w : Cond} (h : w ∈ tables_1_5) (hg : goodWord w = true) : w ∈ TB := tb_0 (List.mem_append_right _ (List.mem_append_right _ (List.mem_append_right _ (List.mem_append_right _ (List.mem_append_left _ h))))) hg
theorem tb_6 {w : Cond} (h : w ∈ tables_1_6) (hg : goodWord w = true) : w ∈ TB := tb_0 (List.mem_append_right _ (List.mem_append_right _ (List.mem_append_right _ (List.mem_append_right _ (List.mem_append_right _ h))))) hg
/-- nest mates' links -/
def NB : List (String × Nat × MethodName × String) := [(RX8, 276, yX1_seek, RX8), (RX8, 301, yX7_ordersBehind, RX8), (RX8, 34, yX3_init, RX8), (RX8, 41, yX1_init, RX8), (RX8, 48, yX4_init, RX8), (RX8, 55, yX2_init, RX8), (RX8, 62, yX5_init, RX8), (RX0, 38, yX8_after, RX8), (RX2, 24, yX8_after, RX8), (RX4, 22, yX8_after, RX8), (RX5, 26, yX8_after, RX8), (RX6, 38, yX8_isPull, RX8), (RX7, 106, yX8_isOf, RX8), (RX7, 21, yX0_init, RX8), (RX7, 81, yX8_after, RX8), (RX7, 85, yX8_tenths, RX8)]
def NsOK (U : State) : Prop := ∀ q ∈ NB, va_Nw (.methodLinkNest q.1 q.2.1 q.2.2.1 q.2.2.2) U
theorem NsOK.same {u U : State} (h : u.vm = U.vm) (hZ : NsOK u) : NsOK U := fun q hq => va_Nw.same rfl h (hZ q hq)
theorem NsOK.warm {u U : State} (h : u.WarmedH U.vm) (hZ : NsOK u) : NsOK U := fun q hq => va_Nw.warmM h (hZ q hq)
/-- the cells -/
def cellOf (G : Gp) (σ : St) (k : Nat) (q : Nat × Nat × Nat) : va_E := match q with
  | (0, _, _) => .inr (0, [.int (σ.1 k 0), .int (σ.1 k 1), .int (σ.1 k 2), .int (σ.1 k 3), .int (σ.1 k 4), .int (σ.1 k 5)])
  | (1, _, _) => .inr (1, [.ref (G.2.2 (k + 1)), .ref (G.2.2 (k + 2)), .int (σ.1 k 2)])
  | (2, _, _) => .inr (2, [.ref (G.2.2 (k + 1)), .ref (G.2.2 (k + 2))])
  | (3, _, _) => .inr (3, [.ref (G.2.2 (k + 1)), .ref (G.2.2 (k + 2)), .int (σ.1 k 2)])
  | (4, _, _) => .inr (4, [.ref (G.2.2 (k + 1)), .ref (G.2.2 (k + 2))])
  | (5, _, _) => .inr (5, [.ref (G.2.2 (k + 1)), .ref (G.2.2 (k + 2))])
  | (6, _, _) => .inr (6, [.ref (G.2.2 (k + 1)), .int (σ.1 k 1), .int (σ.1 k 2)])
  | (7, _, _) => .inr (7, [.ref (G.2.2 (k + 1)), .ref (G.2.2 (k + 2)), .int (σ.1 k 2), .int (σ.1 k 3), .int (σ.1 k 4)])
  | (8, _, _) => .inr (8, [.ref (G.2.2 1), .ref (G.2.2 2), .ref (G.2.2 3), .ref (G.2.2 25), .ref (G.2.2 34), .ref (G.2.2 70), .ref (G.2.2 73), .ref (G.2.2 76), .ref (G.2.2 79), .ref (G.2.2 82), .ref (G.2.2 4), .int (σ.1 k 11), .int (σ.1 k 12), .long (σ.2 k 13), .long (σ.2 k 14)])
  | (9, _, _) => .inr (9, [.ref (G.2.2 1), .int (σ.1 k 1), .ref (G.2.2 2), .ref (G.2.2 3), .ref (G.2.2 4), .ref (G.2.2 5), .ref (G.2.2 6), .ref (G.2.2 7), .int (σ.1 k 8), .ref (G.2.2 8), .int (σ.1 k 10), .long (σ.2 k 11), .long (σ.2 k 12), .int (σ.1 k 13), .ref (G.2.2 9), .ref (G.2.2 10), .ref (G.2.2 11), .int (σ.1 k 17), .int (σ.1 k 18), .ref (G.2.2 12), .ref (G.2.2 13), .ref (G.2.2 14), .ref (G.2.2 15), .ref (G.2.2 16), .ref (G.2.2 17), .ref (G.2.2 18), .ref (G.2.2 19), .long (σ.2 k 27)])
  | (10, n, _) => .inl (G.2.1 0, n, .inl (σ.1 k))
  | (11, n, _) => .inl (G.2.1 1, n, .inl (σ.1 k))
  | (12, n, _) => .inl (G.2.1 2, n, .inr (.inl (σ.2 k)))
  | (13, n, b) => .inl (G.2.1 3, n, .inr (.inr (.inr (.inr (fun j => some (G.2.2 (b + 2 * j)))))))
  | (14, n, b) => .inl (G.2.1 4, n, .inr (.inr (.inr (.inr (fun j => some (G.2.2 (b + 9 * j)))))))
  | (_, n, b) => .inl (G.2.1 5, n, .inr (.inr (.inr (.inr (fun j => some (G.2.2 (b + j)))))))
/-- the class's cells: 0 the object, 1 rows, 2 texts, 3 kept, 4 found, 5.. the ROWS, 17.. the TEXTS, 25 now, 34 draft, 43.. kept TOWERS, 70 hearing, 73 evening, 76 paths, 79 flow, 82 play -/
def shC : Sh := [(8, 0, 0), (13, 6, 5), (13, 4, 17), (14, 3, 43), (10, 6, 0),
  (6, 40, 0), (10, 40, 0), (6, 40, 0), (10, 40, 0), (6, 40, 0), (10, 40, 0), (6, 40, 0), (10, 40, 0), (6, 40, 0), (10, 40, 0), (6, 40, 0), (10, 40, 0),
  (6, 60, 0), (10, 60, 0), (6, 60, 0), (10, 60, 0), (6, 60, 0), (10, 60, 0), (6, 60, 0), (10, 60, 0),
  (7, 0, 0), (15, 6, 28), (10, 40, 0), (0, 0, 0), (0, 0, 0), (0, 0, 0), (0, 0, 0), (0, 0, 0), (0, 0, 0),
  (7, 0, 0), (15, 6, 37), (10, 40, 0), (0, 0, 0), (0, 0, 0), (0, 0, 0), (0, 0, 0), (0, 0, 0), (0, 0, 0),
  (7, 0, 0), (15, 6, 46), (10, 40, 0), (0, 0, 0), (0, 0, 0), (0, 0, 0), (0, 0, 0), (0, 0, 0), (0, 0, 0),
  (7, 0, 0), (15, 6, 55), (10, 40, 0), (0, 0, 0), (0, 0, 0), (0, 0, 0), (0, 0, 0), (0, 0, 0), (0, 0, 0),
  (7, 0, 0), (15, 6, 64), (10, 40, 0), (0, 0, 0), (0, 0, 0), (0, 0, 0), (0, 0, 0), (0, 0, 0), (0, 0, 0),
  (3, 0, 0), (10, 6, 0), (10, 6, 0), (1, 0, 0), (10, 6, 0), (10, 6, 0), (4, 0, 0), (10, 21, 0), (10, 273, 0), (2, 0, 0), (12, 21, 0), (12, 21, 0), (5, 0, 0), (11, 21, 0), (11, 21, 0)]
/-- the reference's: 0 the object, 1 w, 2 keptDeeds, 3 rows, 4 rowSize, 5 texts, 6 textSize, 7 held, 8 findings, 9 pulls, 10 when, 11 order, 12 can, 13 sums, 14 ways, 15 best, 16 met, 17 wins, 18 parts, 19 next -/
def shM : Sh := [(9, 0, 0), (10, 5280, 0), (10, 3, 0), (10, 240, 0), (10, 6, 0), (10, 240, 0), (10, 4, 0), (10, 40, 0), (10, 6, 0), (10, 6, 0), (10, 6, 0), (10, 6, 0), (11, 651, 0), (10, 273, 0), (12, 273, 0), (10, 6, 0), (11, 46656, 0), (11, 147, 0), (12, 21, 0), (12, 21, 0)]
def wsOf (S : Sh) (G : Gp) (σ : St) : va_W := (List.range S.length).map (fun k => (G.2.2 k, cellOf G σ k (S.getD k (99, 0, 0))))
def Dj (S : Sh) (G : Gp) : Prop := ∀ i j, i < S.length → j < S.length → G.2.2 i = G.2.2 j → i = j
def tysOf (G : Gp) : List (ClassId × FieldType) := [(G.2.1 0, .int), (G.2.1 1, .boolean), (G.2.1 2, .long), (G.2.1 3, .object RX6), (G.2.1 4, .object RX7), (G.2.1 5, .object RX0)]
def Sx (G : Gp) (U : State) : Prop := va_K G.1 vwCl (tysOf G) U ∧ NsOK U
def Fr (S : Sh) (G : Gp) : Nat → Prop := fun q => ∃ k, k < S.length ∧ q = G.2.2 k
theorem ws_at {S : Sh} {G : Gp} {σ : St} {k : Nat} {q : Nat × Nat × Nat} (h : S[k]? = some q) : (wsOf S G σ)[k]? = some (G.2.2 k, cellOf G σ k q) := by
  obtain ⟨h1, h2⟩ := List.getElem?_eq_some_iff.mp h
  simp [wsOf, h1, List.getD, h2]
theorem ws_len {S : Sh} {G : Gp} {σ : St} : (wsOf S G σ).length = S.length := by simp [wsOf]
theorem ws_D {S : Sh} {G : Gp} (hD : Dj S G) (σ : St) : va_D (Fr S G) (wsOf S G σ) := by
  refine ⟨fun i j p q hi hj e => ?_, fun k q hk => ?_⟩
  · obtain ⟨hi1, hi2⟩ := List.getElem?_eq_some_iff.mp hi
    obtain ⟨hj1, hj2⟩ := List.getElem?_eq_some_iff.mp hj
    rw [ws_len] at hi1 hj1
    refine hD i j hi1 hj1 ?_
    simp [wsOf] at hi2 hj2
    rw [← hi2, ← hj2] at e
    exact e
  · obtain ⟨hk1, hk2⟩ := List.getElem?_eq_some_iff.mp hk
    rw [ws_len] at hk1
    simp [wsOf] at hk2
    exact ⟨k, hk1, by rw [← hk2]⟩
theorem cell_congr {G : Gp} {σ σ' : St} {i : Nat} (h1 : σ'.1 i = σ.1 i) (h2 : σ'.2 i = σ.2 i) (q : Nat × Nat × Nat) : cellOf G σ' i q = cellOf G σ i q := by
  unfold cellOf
  split <;> simp [h1, h2]
theorem ws_set {S : Sh} {G : Gp} {σ σ' : St} {k : Nat} {q : Nat × Nat × Nat} (hk : S[k]? = some q) {E : va_E} (h1 : cellOf G σ' k q = E) (h2 : ∀ i, i ≠ k → σ'.1 i = σ.1 i ∧ σ'.2 i = σ.2 i) : (wsOf S G σ).set k (G.2.2 k, E) = wsOf S G σ' := by
  obtain ⟨hk1, hk2⟩ := List.getElem?_eq_some_iff.mp hk
  apply List.ext_getElem?
  intro i
  by_cases hi : i = k
  · subst hi
    rw [List.getElem?_set_self (by rw [ws_len]; exact hk1), ws_at hk, h1]
  · rw [List.getElem?_set_ne (fun e => hi e.symm)]
    rcases Nat.lt_or_ge i S.length with h | h
    · have hs : S[i]? = some S[i] := List.getElem?_eq_getElem h
      rw [ws_at hs, ws_at hs, cell_congr (h2 i hi).1 (h2 i hi).2]
    · rw [List.getElem?_eq_none (by rw [ws_len]; exact h), List.getElem?_eq_none (by rw [ws_len]; exact h)]
theorem uI_o {σ : St} {k j : Nat} {v : Int32} : ∀ i, i ≠ k → (uI σ k j v).1 i = σ.1 i ∧ (uI σ k j v).2 i = σ.2 i := fun i hi => ⟨by funext b; simp [uI, hi], rfl⟩
theorem uL_o {σ : St} {k j : Nat} {v : Int64} : ∀ i, i ≠ k → (uL σ k j v).1 i = σ.1 i ∧ (uL σ k j v).2 i = σ.2 i := fun i hi => ⟨rfl, by funext b; simp [uL, hi]⟩
theorem uCI_o {σ : St} {k0 k sp dp n : Nat} : ∀ i, i ≠ k → (uCI σ k0 k sp dp n).1 i = σ.1 i ∧ (uCI σ k0 k sp dp n).2 i = σ.2 i := fun i hi => ⟨by funext b; simp [uCI, hi], rfl⟩
theorem uCL_o {σ : St} {k0 k sp dp n : Nat} : ∀ i, i ≠ k → (uCL σ k0 k sp dp n).1 i = σ.1 i ∧ (uCL σ k0 k sp dp n).2 i = σ.2 i := fun i hi => ⟨rfl, by funext b; simp [uCL, hi]⟩
theorem Sx.moved {G : Gp} {s U : State} (h : s.WarmedH U.vm) (hx : Sx G s) : Sx G U := ⟨va_K.moved h.alike hx.1, hx.2.warm h⟩
theorem Sx.same {G : Gp} {s U : State} (h : s.vm = U.vm) (hx : Sx G s) : Sx G U := ⟨va_K.moved (by rw [h]; exact Vm.Alike.refl _) hx.1, hx.2.same h⟩
/-- contracts -/
def rmD (d : Nat) : Room := { frames := d, cells := 0, slots := 0, locals := 60 * d }
def wsM (y : MethodName) (cc : ByteArray) (n : Nat) (ret : Option FieldType) : List Cond := .code y cc n ret :: TB
def Pw (S : Sh) (G : Gp) (av : List Value) (σ : St) : Array Value → State → Prop := fun a U => a = av.toArray ∧ va_P G.1 vwCl (wsOf S G σ) U.heap ∧ Sx G U
def Qw (S : Sh) (G : Gp) (K : Option Value → St → Prop) : Array Value → State → Outcome → State → Prop := fun _ st oc t => (∃ (r : Option Value) (σ : St), oc = .returned r ∧ K r σ ∧ va_P G.1 vwCl (wsOf S G σ) t.heap) ∧ va_F (Fr S G) st t
def MC (l : Launch) (S : Sh) (G : Gp) (y : MethodName) (cc : ByteArray) (n : Nat) (ret : Option FieldType) (d : Nat) (av : List Value) (σ : St) (K : Option Value → St → Prop) : Prop :=
  Met l y (wsM y cc n ret) (rmD d) (Pw S G av σ) (Qw S G K) 0 0 (Fr S G)
def RI (K : Int32 → St → Prop) : Option Value → St → Prop := fun o σ => ∃ r, o = some (.int r) ∧ K r σ
def RJ (K : Int64 → St → Prop) : Option Value → St → Prop := fun o σ => ∃ r, o = some (.long r) ∧ K r σ
def RV (K : St → Prop) : Option Value → St → Prop := fun o σ => o = none ∧ K σ
/-- loops -/
def zok (r : Int32) : Prop := r = 0 ∨ r = 1
theorem zok_n {r : Int32} (h : zok r) : narrow .boolean (.int r) = .int r := by rcases h with rfl | rfl <;> rfl
theorem zok_f {r : Int32} (h : zok r) : fits .boolean (.int r) = true := by rcases h with rfl | rfl <;> rfl
theorem ite_t {c : Prop} [Decidable c] {A B : Prop} (h : if c then A else B) (hc : c) : A := by rwa [if_pos hc] at h
theorem ite_f {c : Prop} [Decidable c] {A B : Prop} (h : if c then A else B) (hc : ¬ c) : B := by rwa [if_neg hc] at h
/-- what a method's walk has at hand -/
def Cx (p : Program) (R : Room) (s : State) (m : MethodId) (args : Array Value) (meth : Method) (c : Code) (S : Sh) (G : Gp) (cc : ByteArray) (nL d : Nat) (own : String) (ret : Option FieldType) (cs sl : Nat) : Prop :=
  CallFix p m c cc nL s args TB own ∧ Sx G s ∧ Dj S G ∧ (meth.sig.returnType = ret ∧ meth.locks = false) ∧ d ≤ R.frames ∧ 60 * d ≤ R.locals ∧ cs ≤ R.cells ∧ sl ≤ R.slots
def Go (p : Program) (l : Launch) (e : Env) (R : Room) (s : State) (m : MethodId) (args : Array Value) (below : List Frame) (meth : Method) (c : Code) (S : Sh) (G : Gp) (nL cs sl : Nat) (Q : State → Prop) (pc : Nat) (lv : List (Nat × Value)) (st : List Value) (σ : St) : Prop :=
  ∀ (H : Heap) (locs : List Loc) (ls : Array Slot), va_P G.1 vwCl (wsOf S G σ) H → va_S (Fr S G) s.heap H locs → lv_has ls nL lv → W p l e R s m args below meth c H locs cs sl Q (F0 m pc ls st)

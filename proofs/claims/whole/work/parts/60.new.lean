/-! making: worlds that grow -/
theorem tw_oi : Cond.code objectInit ⟨#[0xb1]⟩ 1 none ∈ TB := tb_1 (List.mem_of_getElem? (i := 22) (by decide +kernel)) (by decide +kernel)
theorem tw_ai : Cond.arrayClass .int ∈ TB := tb_1 (List.mem_of_getElem? (i := 69) (by decide +kernel)) (by decide +kernel)
theorem tw_al : Cond.arrayClass .long ∈ TB := tb_1 (List.mem_of_getElem? (i := 155) (by decide +kernel)) (by decide +kernel)
theorem tw_az : Cond.arrayClass .boolean ∈ TB := tb_1 (List.mem_of_getElem? (i := 170) (by decide +kernel)) (by decide +kernel)
def SxN (G : Gp) (U : State) : Prop := Sx G U ∧ va_AO RX6 U ∧ va_AO RX7 U ∧ va_AO RX0 U
theorem SxN.moved {G : Gp} {s U : State} (h : s.WarmedH U.vm) (hx : SxN G s) : SxN G U := ⟨hx.1.moved h, hx.2.1.moved h.alike, hx.2.2.1.moved h.alike, hx.2.2.2.moved h.alike⟩
theorem SxN.same {G : Gp} {s U : State} (h : s.vm = U.vm) (hx : SxN G s) : SxN G U := ⟨hx.1.same h, hx.2.1.moved (by rw [h]; exact Vm.Alike.refl _), hx.2.2.1.moved (by rw [h]; exact Vm.Alike.refl _), hx.2.2.2.moved (by rw [h]; exact Vm.Alike.refl _)⟩
def MtI (meth : Method) : Prop := meth.sig.returnType = none ∧ meth.locks = false ∧ meth.name = "<init>"
def CxN (p : Program) (R : Room) (s : State) (m : MethodId) (args : Array Value) (meth : Method) (c : Code) (G : Gp) (A : Nat → Prop) (cc : ByteArray) (nL d : Nat) (own : String) (mc ms : Nat) (Mt : Prop) : Prop :=
  CallFix p m c cc nL s args TB own ∧ SxN G s ∧ (∀ q, s.heap.size ≤ q → A q) ∧ Mt ∧ d ≤ R.frames ∧ 60 * d ≤ R.locals ∧ mc ≤ R.cells ∧ ms ≤ R.slots
def GoN (p : Program) (l : Launch) (e : Env) (R : Room) (s : State) (m : MethodId) (args : Array Value) (below : List Frame) (meth : Method) (c : Code) (G : Gp) (A : Nat → Prop) (nL cs sl : Nat) (Q : State → Prop) (pc : Nat) (lv : List (Nat × Value)) (st : List Value) (ws : va_W) : Prop :=
  ∀ (H : Heap) (locs : List Loc) (ls : Array Slot), va_P G.1 vwCl ws H → va_D A ws → va_S A s.heap H locs → lv_has ls nL lv → W p l e R s m args below meth c H locs cs sl Q (F0 m pc ls st)
def rmN (d mc ms : Nat) : Room := { frames := d, cells := mc, slots := ms, locals := 60 * d }
def PwN (G : Gp) (av : List Value) (wc : va_W) (sz : Nat) : Array Value → State → Prop := fun a U => a = av.toArray ∧ U.heap.size = sz ∧ va_P G.1 vwCl wc U.heap ∧ va_D (fun _ => True) wc ∧ SxN G U
def QwN (G : Gp) (wc : va_W) (sz : Nat) (K : va_W → Prop) : Array Value → State → Outcome → State → Prop := fun _ st oc t => (oc = .returned none ∧ ∃ w1, K w1 ∧ va_P G.1 vwCl w1 t.heap ∧ va_D (va_A wc sz) w1) ∧ va_F (va_A wc sz) st t
/-- a constructor's contract: of a cell just made, worlds as K has them -/
def MN (l : Launch) (G : Gp) (y : MethodName) (cc : ByteArray) (n d mc ms : Nat) (q : Nat) (As : List Value) (cell : va_E) (K : va_W → Prop) : Prop := ∀ sz, Met l y (wsM y cc n none) (rmN d mc ms) (PwN G (.ref q :: As) [(q, cell)] sz) (QwN G [(q, cell)] sz K) mc ms (va_A [(q, cell)] sz)
theorem PwN_blind {G : Gp} {av : List Value} {wc : va_W} {sz : Nat} : FrameBlind (PwN G av wc sz) := fun a U g mk ⟨h1, h2, h3, h4, h5⟩ => ⟨h1, h2, h3, h4, SxN.same (s := U) (U := U.calling g mk a) rfl h5⟩
theorem D_app {A B : Nat → Prop} {w0 w1 : va_W} (h0 : va_D A w0) (h1 : va_D B w1) (hdis : ∀ (k : Nat) (x : Nat × va_E), w0[k]? = some x → ¬ B x.1) (hB : ∀ x, B x → A x) : va_D A (w0 ++ w1) := by
  have at' : ∀ (k : Nat) (x : Nat × va_E), (w0 ++ w1)[k]? = some x → (k < w0.length ∧ w0[k]? = some x) ∨ (w0.length ≤ k ∧ w1[k - w0.length]? = some x) := by
    intro k x hx
    by_cases hk : k < w0.length
    · rw [List.getElem?_append_left hk] at hx; exact Or.inl ⟨hk, hx⟩
    · rw [List.getElem?_append_right (by omega)] at hx; exact Or.inr ⟨by omega, hx⟩
  refine ⟨fun i j x y hi hj he => ?_, fun k x hk => ?_⟩
  · rcases at' i x hi with ⟨i1, i2⟩ | ⟨i1, i2⟩ <;> rcases at' j y hj with ⟨j1, j2⟩ | ⟨j1, j2⟩
    · exact h0.1 i j x y i2 j2 he
    · exact absurd (by rw [he]; exact h1.2 _ y j2) (hdis i x i2)
    · exact absurd (by rw [← he]; exact h1.2 _ x i2) (hdis j y j2)
    · have := h1.1 _ _ x y i2 j2 he; omega
  · rcases at' k x hk with ⟨k1, k2⟩ | ⟨k1, k2⟩
    · exact h0.2 k x k2
    · exact hB _ (h1.2 _ x k2)
section NEW
variable {p : Program} {l : Launch} {e : Env} {R : Room} {s : State} {m : MethodId} {args : Array Value} {below : List Frame} {meth : Method} {c : Code} {G : Gp} {A : Nat → Prop} {cc : ByteArray} {nL d cs sl mc ms : Nat} {own : String} {Q : State → Prop} {pc : Nat} {lv : List (Nat × Value)} {st : List Value} {ws : va_W} {Mt : Prop}
theorem n_iconst (C : CxN p R s m args meth c G A cc nL d own mc ms Mt) {n : Int} {v : Int32} (hd : decode cc pc = .ok (.iconst n, 1)) (hv : Int32.ofInt n = v) (kk : GoN p l e R s m args below meth c G A nL cs sl Q (pc + 1) lv (.int v :: st) ws) : GoN p l e R s m args below meth c G A nL cs sl Q pc lv st ws :=
  fun H locs ls hP hD hS hl => lv_iconst C.1.1 C.1.2.1 hd hv (kk H locs ls hP hD hS hl)
theorem n_bipush (C : CxN p R s m args meth c G A cc nL d own mc ms Mt) {n : Int} {v : Int32} (hd : decode cc pc = .ok (.bipush n, 2)) (hv : (Int8.ofInt n).toInt32 = v) (kk : GoN p l e R s m args below meth c G A nL cs sl Q (pc + 2) lv (.int v :: st) ws) : GoN p l e R s m args below meth c G A nL cs sl Q pc lv st ws :=
  fun H locs ls hP hD hS hl => lv_bipush C.1.1 C.1.2.1 hd hv (kk H locs ls hP hD hS hl)
theorem n_sipush (C : CxN p R s m args meth c G A cc nL d own mc ms Mt) {n : Int} {v : Int32} (hd : decode cc pc = .ok (.sipush n, 3)) (hv : (Int16.ofInt n).toInt32 = v) (kk : GoN p l e R s m args below meth c G A nL cs sl Q (pc + 3) lv (.int v :: st) ws) : GoN p l e R s m args below meth c G A nL cs sl Q pc lv st ws :=
  fun H locs ls hP hD hS hl => lv_sipush C.1.1 C.1.2.1 hd hv (kk H locs ls hP hD hS hl)
theorem n_lconst (C : CxN p R s m args meth c G A cc nL d own mc ms Mt) {n : Fin 2} {v : Int64} (hd : decode cc pc = .ok (.lconst n, 1)) (hv : Int64.ofNat (n : Nat) = v) (kk : GoN p l e R s m args below meth c G A nL cs sl Q (pc + 1) lv (.long v :: st) ws) : GoN p l e R s m args below meth c G A nL cs sl Q pc lv st ws :=
  fun H locs ls hP hD hS hl => lv_lconst C.1.1 C.1.2.1 hd hv (kk H locs ls hP hD hS hl)
theorem n_ldc (C : CxN p R s m args meth c G A cc nL d own mc ms Mt) {index : Nat} {v : Int32} (hd : decode cc pc = .ok (.ldc index, 2)) (hc : Cond.constant own index v ∈ TB) (kk : GoN p l e R s m args below meth c G A nL cs sl Q (pc + 2) lv (.int v :: st) ws) : GoN p l e R s m args below meth c G A nL cs sl Q pc lv st ws :=
  fun H locs ls hP hD hS hl => lv_ldc C.1.1 C.1.2.1 C.1.2.2.2.1 (C.1.2.2.2.2 _ hc) hd (kk H locs ls hP hD hS hl)
theorem n_iload_n (C : CxN p R s m args meth c G A cc nL d own mc ms Mt) (j : Nat) {k : Fin 4} {i : Nat} {x : Int32} (hd : decode cc pc = .ok (.iload_n k, 1)) (hi : (k : Nat) = i) (hv : lv[j]? = some (i, .int x)) (kk : GoN p l e R s m args below meth c G A nL cs sl Q (pc + 1) lv (.int x :: st) ws) : GoN p l e R s m args below meth c G A nL cs sl Q pc lv st ws :=
  fun H locs ls hP hD hS hl => lv_iload_n C.1.1 C.1.2.1 hd hi (lv_at hl j hv) (kk H locs ls hP hD hS hl)
theorem n_istore_n (C : CxN p R s m args meth c G A cc nL d own mc ms Mt) {k : Fin 4} {i : Nat} {x : Int32} {lv2 : List (Nat × Value)} (hd : decode cc pc = .ok (.istore_n k, 1)) (hi : (k : Nat) = i) (hn : i < nL) (he : (i, Value.int x) :: lv.filter (fun q => !(q.1 == i) && !(q.1 + 1 == i && q.2.category == 2)) = lv2) (kk : GoN p l e R s m args below meth c G A nL cs sl Q (pc + 1) lv2 st ws) : GoN p l e R s m args below meth c G A nL cs sl Q pc lv (.int x :: st) ws :=
  fun H locs ls hP hD hS hl => lv_istore_n C.1.1 C.1.2.1 hd hi hl hn he (fun ls2 hl2 => kk H locs ls2 hP hD hS hl2)
theorem n_aload_n (C : CxN p R s m args meth c G A cc nL d own mc ms Mt) (j : Nat) {k : Fin 4} {i : Nat} {x : Nat} (hd : decode cc pc = .ok (.aload_n k, 1)) (hi : (k : Nat) = i) (hv : lv[j]? = some (i, .ref x)) (kk : GoN p l e R s m args below meth c G A nL cs sl Q (pc + 1) lv (.ref x :: st) ws) : GoN p l e R s m args below meth c G A nL cs sl Q pc lv st ws :=
  fun H locs ls hP hD hS hl => lv_aload_n C.1.1 C.1.2.1 hd hi (lv_at hl j hv) (kk H locs ls hP hD hS hl)
theorem n_iinc (C : CxN p R s m args meth c G A cc nL d own mc ms Mt) (j : Nat) {i : Nat} {n : Int} {x v : Int32} {lv2 : List (Nat × Value)} (hd : decode cc pc = .ok (.iinc i n, 3)) (hv : Int32.ofInt n = v) (hk : lv[j]? = some (i, .int x)) (hn : i < nL) (he : (i, Value.int (x + v)) :: lv.filter (fun q => !(q.1 == i) && !(q.1 + 1 == i && q.2.category == 2)) = lv2) (kk : GoN p l e R s m args below meth c G A nL cs sl Q (pc + 3) lv2 st ws) : GoN p l e R s m args below meth c G A nL cs sl Q pc lv st ws :=
  fun H locs ls hP hD hS hl => lv_iinc C.1.1 C.1.2.1 hd hl hk (congrArg (fun z => x + z) hv) hn he (fun ls2 hl2 => kk H locs ls2 hP hD hS hl2)
theorem n_dup (C : CxN p R s m args meth c G A cc nL d own mc ms Mt) {v : Value} (hd : decode cc pc = .ok (.dup, 1)) (hva : v.category = 1) (kk : GoN p l e R s m args below meth c G A nL cs sl Q (pc + 1) lv (v :: v :: st) ws) : GoN p l e R s m args below meth c G A nL cs sl Q pc lv (v :: st) ws :=
  fun H locs ls hP hD hS hl => lv_dup C.1.1 C.1.2.1 hd hva (kk H locs ls hP hD hS hl)
theorem n_goto (C : CxN p R s m args meth c G A cc nL d own mc ms Mt) {off : Int} {tgt : Nat} (hd : decode cc pc = .ok (.goto off, 3)) (ht : (pc : Int) + off = (tgt : Int)) (kk : GoN p l e R s m args below meth c G A nL cs sl Q tgt lv st ws) : GoN p l e R s m args below meth c G A nL cs sl Q pc lv st ws :=
  fun H locs ls hP hD hS hl => lv_goto C.1.1 C.1.2.1 hd ht (kk H locs ls hP hD hS hl)
theorem n_icmp_ge (C : CxN p R s m args meth c G A cc nL d own mc ms Mt) {x y : Int32} {off : Int} {tgt : Nat} (hd : decode cc pc = .ok (.if_icmp .ge off, 3)) (ht : (pc : Int) + off = (tgt : Int)) (kt : y ≤ x → GoN p l e R s m args below meth c G A nL cs sl Q tgt lv st ws) (kf : ¬ y ≤ x → GoN p l e R s m args below meth c G A nL cs sl Q (pc + 3) lv st ws) : GoN p l e R s m args below meth c G A nL cs sl Q pc lv (.int y :: .int x :: st) ws :=
  fun H locs ls hP hD hS hl => lv_icmp_ge C.1.1 C.1.2.1 hd ht (fun q => kt q H locs ls hP hD hS hl) (fun q => kf q H locs ls hP hD hS hl)
theorem n_max (C : CxN p R s m args meth c G A cc nL d own mc ms Mt) {index : Nat} {x y : Int32} (hd : decode cc pc = .ok (.invokestatic index, 3)) (h1 : Cond.methodLink own index Lib.Math.max.name ∈ TB) (h2 : Cond.static Lib.Math.max.name ∈ TB) (h3 : Cond.initialized "java/lang/Math" ∈ TB) (h4 : Cond.code Lib.Math.max.name Lib.Math.max.code 2 (some .int) ∈ TB) (hd1 : 1 ≤ d) (hr : (st.map fun v => v.category).sum ≤ 8) (hcs : cs ≤ mc) (hsl : sl ≤ ms) (kk : GoN p l e R s m args below meth c G A nL cs sl Q (pc + 3) lv (.int (imax x y) :: st) ws) : GoN p l e R s m args below meth c G A nL cs sl Q pc lv (.int y :: .int x :: st) ws :=
  fun H locs ls hP hD hS hl => va_mmax C.1.1 C.1.2.1 (C.1.2.2.1.trans hl.1.symm) C.1.2.2.2.1 (C.1.2.2.2.2 _ h1) (C.1.2.2.2.2 _ h2) (C.1.2.2.2.2 _ h3) (C.1.2.2.2.2 _ h4) (by have := C.2.2.2.2.1; omega) (by have := C.2.2.2.2.2.1; have := hr; omega) (by have := C.2.2.2.2.2.2.1; omega) (by have := C.2.2.2.2.2.2.2; omega) hd (kk H locs ls hP hD hS hl)
theorem n_obj (C : CxN p R s m args meth c G A cc nL d own mc ms Mt) {index a : Nat} (hd : decode cc pc = .ok (.invokespecial index, 3)) (hl0 : Cond.methodLink own index objectInit ∈ TB) (hd1 : 1 ≤ d) (hr : (st.map fun v => v.category).sum ≤ 8) (kk : GoN p l e R s m args below meth c G A nL cs sl Q (pc + 3) lv st ws) : GoN p l e R s m args below meth c G A nL cs sl Q pc lv (.ref a :: st) ws :=
  fun H locs ls hP hD hS hl => W.objInit C.1.1 C.1.2.1 C.1.2.2.2.1 (C.1.2.2.2.2 _ hl0) (C.1.2.2.2.2 _ tw_21) (C.1.2.2.2.2 _ tw_oi) rfl (hl.1.trans C.1.2.2.1.symm) rfl hd (by have := C.2.2.2.2.1; omega) (by have h1 := C.2.2.2.2.2.1; have h2 := lv_room (m := m) (pc := pc) (ls := ls) (rest := .ref a :: st) hr; omega) (W.eq (g2 := F0 m (pc + 3) ls st) rfl (kk H locs ls hP hD hS hl))
theorem n_get (C : CxN p R s m args meth c G A cc nL d own mc ms Mt) (q0 : Nat) {a : Nat} {ci N : Nat} {fs : List Value} {C0 : String} {T : u_T} (he : ws[q0]? = some (a, .inr (ci, fs))) (hcl : vwCl[ci]? = some (C0, T, N)) (hin : ∀ w ∈ u_ws C0 T N, w ∈ TB) (j : Nat) (hj : j < N) {index : Nat} (hli : Cond.fieldLink own index (T j).1 (T j).2.1 (T j).2.2.1 ∈ TB) {v : Value} (hv : fs[j]? = some v) (hd : decode cc pc = .ok (.getfield index, 3)) (kk : GoN p l e R s m args below meth c G A nL cs sl Q (pc + 3) lv (v :: st) ws) : GoN p l e R s m args below meth c G A nL cs sl Q pc lv (.ref a :: st) ws :=
  fun H locs ls hP hD hS hl => va_get (ref := (T j).1) C.1.1 C.1.2.1 C.1.2.2.2.2 hin C.1.2.2.2.1 C.2.1.1.1 hP q0 he hcl j hj (C.1.2.2.2.2 _ hli) (fun _ h9 => h9) hv hd (kk H locs ls hP hD hS hl)
theorem n_putF (C : CxN p R s m args meth c G A cc nL d own mc ms (MtI meth)) (q0 : Nat) {a : Nat} {ci N : Nat} {fs : List Value} {C0 : String} {T : u_T} (he : ws[q0]? = some (a, .inr (ci, fs))) (hcl : vwCl[ci]? = some (C0, T, N)) (hin : ∀ w ∈ u_ws C0 T N, w ∈ TB) (ty0 : Nat → FieldType) (hty : ∀ k, k < N → parseFieldDescriptor (T k).2.2.1 = some (ty0 k)) (hnm : ∀ a, a < N → ∀ b, b < N → a ≠ b → (T a).2.1 ≠ (T b).2.1) (j : Nat) (hj : j < N) {index : Nat} (hli : Cond.fieldLink own index (T j).1 (T j).2.1 (T j).2.2.1 ∈ TB) (hfin : (T j).2.2.2 = true) (hown : (T j).1 = own) {v : Value} (hn : narrow (ty0 j) v = v) (hfit : fits (ty0 j) v = true) (hlen : j < fs.length) {ws2 : va_W} (hw : ws.set q0 (a, .inr (ci, fs.set j v)) = ws2) (hd : decode cc pc = .ok (.putfield index, 3)) (kk : GoN p l e R s m args below meth c G A nL cs sl Q (pc + 3) lv st ws2) : GoN p l e R s m args below meth c G A nL cs sl Q pc lv (v :: .ref a :: st) ws :=
  fun H locs ls hP hD hS hl => va_putF (ref := (T j).1) C.1.1 C.1.2.1 C.1.2.2.2.2 hin ty0 hty hnm C.1.2.2.2.1 C.2.1.1.1 hP hD hS q0 he hcl j hj (C.1.2.2.2.2 _ hli) (fun _ h9 => h9) hfin C.2.2.2.1.2.2 hown (hty j hj) hn hfit hlen hd (fun H2 locs2 hP2 hD2 hS2 => kk H2 locs2 ls (by rw [← hw]; exact hP2) (by rw [← hw]; exact hD2) hS2 hl)
theorem n_put (C : CxN p R s m args meth c G A cc nL d own mc ms Mt) (q0 : Nat) {a : Nat} {ci N : Nat} {fs : List Value} {C0 : String} {T : u_T} (he : ws[q0]? = some (a, .inr (ci, fs))) (hcl : vwCl[ci]? = some (C0, T, N)) (hin : ∀ w ∈ u_ws C0 T N, w ∈ TB) (ty0 : Nat → FieldType) (hty : ∀ k, k < N → parseFieldDescriptor (T k).2.2.1 = some (ty0 k)) (hnm : ∀ a, a < N → ∀ b, b < N → a ≠ b → (T a).2.1 ≠ (T b).2.1) (j : Nat) (hj : j < N) {index : Nat} (hli : Cond.fieldLink own index (T j).1 (T j).2.1 (T j).2.2.1 ∈ TB) (hfin : (T j).2.2.2 = false) {v : Value} (hn : narrow (ty0 j) v = v) (hfit : fits (ty0 j) v = true) (hlen : j < fs.length) {ws2 : va_W} (hw : ws.set q0 (a, .inr (ci, fs.set j v)) = ws2) (hd : decode cc pc = .ok (.putfield index, 3)) (kk : GoN p l e R s m args below meth c G A nL cs sl Q (pc + 3) lv st ws2) : GoN p l e R s m args below meth c G A nL cs sl Q pc lv (v :: .ref a :: st) ws :=
  fun H locs ls hP hD hS hl => va_put (ref := (T j).1) C.1.1 C.1.2.1 C.1.2.2.2.2 hin ty0 hty hnm C.1.2.2.2.1 C.2.1.1.1 hP hD hS q0 he hcl j hj (C.1.2.2.2.2 _ hli) (fun _ h9 => h9) hfin (hty j hj) hn hfit hlen hd (fun H2 locs2 hP2 hD2 hS2 => kk H2 locs2 ls (by rw [← hw]; exact hP2) (by rw [← hw]; exact hD2) hS2 hl)
theorem n_newi (C : CxN p R s m args meth c G A cc nL d own mc ms Mt) {n : Int32} {N' : Nat} (hd : decode cc pc = .ok (.newarray .int, 2)) (hn : ¬ n < 0) (hN : n.toNatClampNeg = N') (hb : N' * componentBytes .int ≤ 536870912) (hcs : cs + 1 ≤ mc) (hsl : sl + N' ≤ ms) (kk : ∀ q, GoN p l e R s m args below meth c G A nL (cs + 1) (sl + N') Q (pc + 2) lv (.ref q :: st) (ws ++ [(q, .inl (G.2.1 0, N', .inl (fun _ => 0)))])) : GoN p l e R s m args below meth c G A nL cs sl Q pc lv (.int n :: st) ws :=
  fun H locs ls hP hD hS hl => va_newa (atype := .int) (ty := .int) (a0 := (N', .inl (fun _ => 0))) C.1.1 C.1.2.1 (C.1.2.2.2.2 _ tw_ai) rfl C.2.1.1.1 hP hD hS C.2.2.1 (fun _ => rfl) hn hN hb (by have := C.2.2.2.2.2.2.1; omega) (by have := C.2.2.2.2.2.2.2; omega) hd (fun q cA H1 hK1 hP1 hD1 hS1 => by
    have e1 : s.vm.findClass ("[" ++ (FieldType.int).toString) = some cA := (hK1.2 6 (cA, .int) rfl).2
    have e2 : s.vm.findClass ("[" ++ (FieldType.int).toString) = some (G.2.1 0) := (C.2.1.1.1.2 0 (G.2.1 0, .int) rfl).2
    have e : cA = G.2.1 0 := Option.some.inj (e1.symm.trans e2)
    subst e
    exact kk q H1 locs ls hP1 hD1 hS1 hl)
theorem n_newz (C : CxN p R s m args meth c G A cc nL d own mc ms Mt) {n : Int32} {N' : Nat} (hd : decode cc pc = .ok (.newarray .boolean, 2)) (hn : ¬ n < 0) (hN : n.toNatClampNeg = N') (hb : N' * componentBytes .boolean ≤ 536870912) (hcs : cs + 1 ≤ mc) (hsl : sl + N' ≤ ms) (kk : ∀ q, GoN p l e R s m args below meth c G A nL (cs + 1) (sl + N') Q (pc + 2) lv (.ref q :: st) (ws ++ [(q, .inl (G.2.1 1, N', .inl (fun _ => 0)))])) : GoN p l e R s m args below meth c G A nL cs sl Q pc lv (.int n :: st) ws :=
  fun H locs ls hP hD hS hl => va_newa (atype := .boolean) (ty := .boolean) (a0 := (N', .inl (fun _ => 0))) C.1.1 C.1.2.1 (C.1.2.2.2.2 _ tw_az) rfl C.2.1.1.1 hP hD hS C.2.2.1 (fun _ => rfl) hn hN hb (by have := C.2.2.2.2.2.2.1; omega) (by have := C.2.2.2.2.2.2.2; omega) hd (fun q cA H1 hK1 hP1 hD1 hS1 => by
    have e1 : s.vm.findClass ("[" ++ (FieldType.boolean).toString) = some cA := (hK1.2 6 (cA, .boolean) rfl).2
    have e2 : s.vm.findClass ("[" ++ (FieldType.boolean).toString) = some (G.2.1 1) := (C.2.1.1.1.2 1 (G.2.1 1, .boolean) rfl).2
    have e : cA = G.2.1 1 := Option.some.inj (e1.symm.trans e2)
    subst e
    exact kk q H1 locs ls hP1 hD1 hS1 hl)
theorem n_newl (C : CxN p R s m args meth c G A cc nL d own mc ms Mt) {n : Int32} {N' : Nat} (hd : decode cc pc = .ok (.newarray .long, 2)) (hn : ¬ n < 0) (hN : n.toNatClampNeg = N') (hb : N' * componentBytes .long ≤ 536870912) (hcs : cs + 1 ≤ mc) (hsl : sl + N' ≤ ms) (kk : ∀ q, GoN p l e R s m args below meth c G A nL (cs + 1) (sl + N') Q (pc + 2) lv (.ref q :: st) (ws ++ [(q, .inl (G.2.1 2, N', .inr (.inl (fun _ => 0))))])) : GoN p l e R s m args below meth c G A nL cs sl Q pc lv (.int n :: st) ws :=
  fun H locs ls hP hD hS hl => va_newa (atype := .long) (ty := .long) (a0 := (N', .inr (.inl (fun _ => 0)))) C.1.1 C.1.2.1 (C.1.2.2.2.2 _ tw_al) rfl C.2.1.1.1 hP hD hS C.2.2.1 (fun _ => rfl) hn hN hb (by have := C.2.2.2.2.2.2.1; omega) (by have := C.2.2.2.2.2.2.2; omega) hd (fun q cA H1 hK1 hP1 hD1 hS1 => by
    have e1 : s.vm.findClass ("[" ++ (FieldType.long).toString) = some cA := (hK1.2 6 (cA, .long) rfl).2
    have e2 : s.vm.findClass ("[" ++ (FieldType.long).toString) = some (G.2.1 2) := (C.2.1.1.1.2 2 (G.2.1 2, .long) rfl).2
    have e : cA = G.2.1 2 := Option.some.inj (e1.symm.trans e2)
    subst e
    exact kk q H1 locs ls hP1 hD1 hS1 hl)
theorem n_newq (C : CxN p R s m args meth c G A cc nL d own mc ms Mt) (t : Nat) {C0 : String} {index : Nat} {n : Int32} {N' : Nat} (ht : (tysOf G)[t]? = some (G.2.1 t, .object C0)) (hcl : Cond.classLink own index C0 ∈ TB) (hao : va_AO C0 s) (hd : decode cc pc = .ok (.anewarray index, 3)) (hn : ¬ n < 0) (hN : n.toNatClampNeg = N') (hb : N' * 4 ≤ 536870912) (hcs : cs + 1 ≤ mc) (hsl : sl + N' ≤ ms) (kk : ∀ q, GoN p l e R s m args below meth c G A nL (cs + 1) (sl + N') Q (pc + 3) lv (.ref q :: st) (ws ++ [(q, .inl (G.2.1 t, N', .inr (.inr (.inr (.inr (fun _ => none))))))])) : GoN p l e R s m args below meth c G A nL cs sl Q pc lv (.int n :: st) ws :=
  fun H locs ls hP hD hS hl => va_newq C.1.1 C.1.2.1 C.1.2.2.2.1 (C.1.2.2.2.2 _ hcl) hao C.2.1.1.1 hP hD hS C.2.2.1 hn hN hb (by have := C.2.2.2.2.2.2.1; omega) (by have := C.2.2.2.2.2.2.2; omega) hd (fun q cA H1 hK1 hP1 hD1 hS1 => by
    obtain ⟨_, _, _, _, _, e1⟩ := (hK1.2 6 (cA, .object C0) rfl).2
    obtain ⟨_, _, _, _, _, e2⟩ := (C.2.1.1.1.2 t (G.2.1 t, .object C0) ht).2
    have e : cA = G.2.1 t := Option.some.inj (e1.symm.trans e2)
    subst e
    exact kk q H1 locs ls hP1 hD1 hS1 hl)
theorem n_ast (C : CxN p R s m args meth c G A cc nL d own mc ms Mt) (q0 t0 qk ci : Nat) {a v n : Nat} {r : vw_C} {vs : List Value} {f : Nat → Option Nat} (ha : ws[q0]? = some (a, .inl (G.2.1 t0, n, .inr (.inr (.inr (.inr f)))))) (ht : (tysOf G)[t0]? = some (G.2.1 t0, .object r.1)) (hv : ws[qk]? = some (v, .inr (ci, vs))) (hc : vwCl[ci]? = some r) {i : Int32} (hin : vp_in i n) (hd : decode cc pc = .ok (.aastore, 1)) {ws2 : va_W} (hw : ws.set q0 (a, .inl (G.2.1 t0, n, .inr (.inr (.inr (.inr (va_up f i.toNatClampNeg (some v))))))) = ws2) (kk : GoN p l e R s m args below meth c G A nL cs sl Q (pc + 1) lv st ws2) : GoN p l e R s m args below meth c G A nL cs sl Q pc lv (.ref v :: .int i :: .ref a :: st) ws :=
  fun H locs ls hP hD hS hl => va_astq C.1.1 C.1.2.1 C.2.1.1.1 hP hD hS q0 t0 qk ci ha ht hv hc hin hd (fun H2 locs2 hP2 hD2 hS2 => kk H2 locs2 ls (by rw [← hw]; exact hP2) (by rw [← hw]; exact hD2) hS2 hl)
theorem n_iast (C : CxN p R s m args meth c G A cc nL d own mc ms Mt) (q0 : Nat) {a n : Nat} {f : Nat → Int32} (ha : ws[q0]? = some (a, .inl (G.2.1 0, n, .inl f))) {i x : Int32} (hin : vp_in i n) (hd : decode cc pc = .ok (.iastore, 1)) {ws2 : va_W} (hw : ws.set q0 (a, .inl (G.2.1 0, n, .inl (upd f i.toNatClampNeg x))) = ws2) (kk : GoN p l e R s m args below meth c G A nL cs sl Q (pc + 1) lv st ws2) : GoN p l e R s m args below meth c G A nL cs sl Q pc lv (.int x :: .int i :: .ref a :: st) ws :=
  fun H locs ls hP hD hS hl => va_iast C.1.1 C.1.2.1 C.2.1.1.1 hP hD hS q0 0 ha rfl hin hd (fun H2 locs2 hP2 hD2 hS2 => kk H2 locs2 ls (by rw [← hw]; exact hP2) (by rw [← hw]; exact hD2) hS2 hl)
theorem n_new (C : CxN p R s m args meth c G A cc nL d own mc ms Mt) {C0 : String} {T : u_T} {N ci index : Nat} (hin : ∀ w ∈ u_ws C0 T N, w ∈ TB) (ty : Nat → FieldType) (hty : ∀ k, k < N → parseFieldDescriptor (T k).2.2.1 = some (ty k)) (hcl : Cond.classLink own index C0 ∈ TB) (hinst : Cond.instantiable C0 N ∈ TB) (hini : Cond.initialized C0 ∈ TB) (hc : vwCl[ci]? = some (C0, T, N)) {fs : List Value} (hfs : ∀ j, j < N → defaultValue (ty j) = vp_V fs j) (hcs : cs + 1 ≤ mc) (hsl : sl + N ≤ ms) (hd : decode cc pc = .ok (.new index, 3)) (kk : ∀ q, GoN p l e R s m args below meth c G A nL (cs + 1) (sl + N) Q (pc + 3) lv (.ref q :: st) (ws ++ [(q, .inr (ci, fs))])) : GoN p l e R s m args below meth c G A nL cs sl Q pc lv st ws :=
  fun H locs ls hP hD hS hl => va_new C.1.1 C.1.2.1 C.1.2.2.2.2 hin ty hty C.1.2.2.2.1 (C.1.2.2.2.2 _ hcl) (C.1.2.2.2.2 _ hinst) (C.1.2.2.2.2 _ hini) C.2.1.1.1 hP hD hS C.2.2.1 hc hfs (by have := C.2.2.2.2.2.2.1; omega) (by have := C.2.2.2.2.2.2.2; omega) hd (fun q H1 hP1 hD1 hS1 => kk q H1 locs ls hP1 hD1 hS1 hl)
theorem n_back {y : MethodName} {bytes : ByteArray} {maxL d2 mc2 ms2 q : Nat} {cell : va_E} {K : va_W → Prop} {rest : List Value} {w0 : va_W} {H : Heap} {locs : List Loc} {ls : Array Slot} {aa : Array Value} (hA : ∀ q, s.heap.size ≤ q → A q)
    (hr : va_Run p l e R s m args below meth c H locs cs sl mc2 ms2 (F0 m pc ls st) rest (QwN G [(q, cell)] H.size K aa) (va_A [(q, cell)] H.size)) (hP : va_P G.1 vwCl (w0 ++ [(q, cell)]) H) (hD : va_D A (w0 ++ [(q, cell)])) (hS : va_S A s.heap H locs) (hl : lv_has ls nL lv)
    (kk : ∀ w1, K w1 → GoN p l e R s m args below meth c G A nL (cs + mc2) (sl + ms2) Q (pc + 3) lv rest (w0 ++ w1)) : W p l e R s m args below meth c H locs cs sl Q (F0 m pc ls st) := by
  intro T hT X
  obtain ⟨v, st₀, t, T', L, h0, X', hL, e1, e2, ⟨⟨hv, w1, hk, hP1, hD1⟩, hz, hkk⟩, stp⟩ := hr T hT X
  cases hv
  rw [h0] at hz hkk
  have hq : (w0 ++ [(q, cell)])[w0.length]? = some (q, cell) := by rw [List.getElem?_append_right (Nat.le_refl _), Nat.sub_self]; rfl
  have hl0 : ∀ (k : Nat) (x : Nat × va_E), w0[k]? = some x → (w0 ++ [(q, cell)])[k]? = some x := fun k x hx => by
    rw [List.getElem?_append_left (List.getElem?_eq_some_iff.mp hx).1]; exact hx
  have hP0 : va_P G.1 vwCl w0 H := fun k x hx => hP k x (hl0 k x hx)
  have hD0 : va_D A w0 := ⟨fun i j x y hi hj he => hD.1 i j x y (hl0 i x hi) (hl0 j y hj) he, fun k x hx => hD.2 k x (hl0 k x hx)⟩
  have apart : ∀ (k : Nat) (x : Nat × va_E), w0[k]? = some x → ¬ va_A [(q, cell)] H.size x.1 := by
    intro k x hx h
    have hlt := (hP0 k x hx).lt
    rcases h with ⟨k2, e0, h⟩ | h
    · have hz2 : k2 < 1 := (List.getElem?_eq_some_iff.mp h).1
      rw [show k2 = 0 by omega] at h
      cases h
      have := hD.1 k w0.length x _ (hl0 k x hx) hq rfl
      have := (List.getElem?_eq_some_iff.mp hx).1
      omega
    · omega
  have hB : ∀ x, va_A [(q, cell)] H.size x → A x := by
    intro x h
    rcases h with ⟨k2, e0, h⟩ | h
    · have hz2 : k2 < 1 := (List.getElem?_eq_some_iff.mp h).1
      rw [show k2 = 0 by omega] at h
      cases h
      exact hD.2 _ _ hq
    · exact hA x (Nat.le_trans hS.1 h)
  have hkept : ∀ (k : Nat) (x : Nat × va_E), w0[k]? = some x → T'.heap[x.1]? = H[x.1]? := fun k x hx => by
    rw [e1]; exact hkk x.1 (hP0 k x hx).lt (apart k x hx)
  obtain ⟨t2, a1, b1⟩ := kk w1 hk T'.heap (locs ++ L) ls ((hP0.kept hkept).app (by rw [e1]; exact hP1)) (D_app hD0 hD1 apart hB)
    ⟨Nat.le_trans hS.1 (by rw [e1]; exact hz), fun x h1 h2 => by rw [e1, hkk x (Nat.lt_of_lt_of_le h1 hS.1) (fun h => h2 (hB x h))]; exact hS.2.1 x h1 h2, fun x hx => by
      rcases List.mem_append.mp hx with h | h
      · exact hS.2.2 x h
      · exact hB _ (hL x h)⟩ hl T' rfl X'
  exact ⟨t2, stp t2 a1, b1⟩
theorem n_pre {q : Nat} {cell : va_E} {w0 : va_W} {H : Heap} (hx : SxN G s) (hP : va_P G.1 vwCl (w0 ++ [(q, cell)]) H) {As : List Value} : ∀ U : State, U.heap = H → s.WarmedH U.vm → PwN G (.ref q :: As) [(q, cell)] H.size (Value.ref q :: As).toArray U := by
  intro U hU hW
  refine ⟨rfl, by rw [hU], fun k x hk => ?_, ⟨fun i j x y hi hj _ => ?_, fun _ _ _ => trivial⟩, hx.moved hW⟩
  · have hz2 : k < 1 := (List.getElem?_eq_some_iff.mp hk).1
    rw [show k = 0 by omega] at hk
    rw [hU]
    exact hP w0.length x (by rw [List.getElem?_append_right (Nat.le_refl _), Nat.sub_self]; exact hk)
  · have h1 : i < 1 := (List.getElem?_eq_some_iff.mp hi).1
    have h2 : j < 1 := (List.getElem?_eq_some_iff.mp hj).1
    omega
theorem n_init (C : CxN p R s m args meth c G A cc nL d own mc ms Mt) {y : MethodName} {bytes : ByteArray} {maxL n d2 index mc2 ms2 q : Nat} {cell : va_E} {K : va_W → Prop} {As rest : List Value} {w0 : va_W} (hM : MN l G y bytes maxL d2 mc2 ms2 q As cell K) (hy : Cy y bytes maxL none n) (hnm : y.name = "<init>") (hl0 : Cond.methodLink own index y ∈ TB) (hi1 : Cond.instanceMethod y ∈ TB) (hdd : d2 + 1 ≤ d) (hn : As.length = n) (he : st = As.reverse ++ .ref q :: rest) (hrm : (rest.map fun v => v.category).sum ≤ 8) (hd : decode cc pc = .ok (.invokespecial index, 3)) (hcs : cs + mc2 ≤ mc) (hsl : sl + ms2 ≤ ms) (hw : ws = w0 ++ [(q, cell)]) (kk : ∀ w1, K w1 → GoN p l e R s m args below meth c G A nL (cs + mc2) (sl + ms2) Q (pc + 3) lv rest (w0 ++ w1)) : GoN p l e R s m args below meth c G A nL cs sl Q pc lv st ws := by
  intro H locs ls hP hD hS hl
  subst hw
  refine n_back (y := y) (bytes := bytes) (maxL := maxL) (d2 := d2) C.2.2.1 (va_runI (b := q) (g := F0 m pc ls st) (rest := rest) (As := As) C.1 (hM H.size) ⟨callB_of n C.1.2.2.2.2 (TB_in hy.1) rfl rfl rfl (C.1.2.2.2.2 _ hy.2.1) (C.1.2.2.2.2 _ hl0) hy.2.2.1 ⟨?_, ?_⟩, hnm, C.1.2.2.2.2 _ hi1⟩ ⟨PwN_blind, n_pre C.2.1 hP⟩ rfl hn hl.1 he (lv_room hrm) hd ⟨?_, ?_⟩) hP hD hS hl kk
  · have := C.2.2.2.2.1; show d2 + 1 ≤ R.frames; omega
  · have := C.2.2.2.2.2.1; have := hy.2.2.2; show 8 + (maxL + 11) + 60 * d2 ≤ R.locals; omega
  · have := C.2.2.2.2.2.2.1; omega
  · have := C.2.2.2.2.2.2.2; omega
theorem n_initN (C : CxN p R s m args meth c G A cc nL d own mc ms Mt) {y : MethodName} {bytes : ByteArray} {maxL n d2 index mc2 ms2 q : Nat} {cell : va_E} {K : va_W → Prop} {As rest : List Value} {w0 : va_W} (hM : MN l G y bytes maxL d2 mc2 ms2 q As cell K) (hy : Cy y bytes maxL none n) (hnm : y.name = "<init>") {host : String} (hl0 : (own, index, y, host) ∈ NB) (hi1 : Cond.instanceMethod y ∈ TB) (hdd : d2 + 1 ≤ d) (hn : As.length = n) (he : st = As.reverse ++ .ref q :: rest) (hrm : (rest.map fun v => v.category).sum ≤ 8) (hd : decode cc pc = .ok (.invokespecial index, 3)) (hcs : cs + mc2 ≤ mc) (hsl : sl + ms2 ≤ ms) (hw : ws = w0 ++ [(q, cell)]) (kk : ∀ w1, K w1 → GoN p l e R s m args below meth c G A nL (cs + mc2) (sl + ms2) Q (pc + 3) lv rest (w0 ++ w1)) : GoN p l e R s m args below meth c G A nL cs sl Q pc lv st ws := by
  intro H locs ls hP hD hS hl
  subst hw
  refine n_back (y := y) (bytes := bytes) (maxL := maxL) (d2 := d2) C.2.2.1 (va_runIN (b := q) (g := F0 m pc ls st) (rest := rest) (As := As) C.1 (hM H.size) ⟨va_cnB n C.1.2.2.2.2 (TB_in hy.1) rfl rfl rfl (C.2.1.1.2 _ hl0) (C.1.2.2.2.2 _ hy.2.1) hy.2.2.1 ⟨?_, ?_⟩, hnm, C.1.2.2.2.2 _ hi1⟩ ⟨PwN_blind, n_pre C.2.1 hP⟩ rfl hn hl.1 he (lv_room hrm) hd ⟨?_, ?_⟩) hP hD hS hl kk
  · have := C.2.2.2.2.1; show d2 + 1 ≤ R.frames; omega
  · have := C.2.2.2.2.2.1; have := hy.2.2.2; show 8 + (maxL + 11) + 60 * d2 ≤ R.locals; omega
  · have := C.2.2.2.2.2.2.1; omega
  · have := C.2.2.2.2.2.2.2; omega
theorem n_vret {wc : va_W} {K : va_W → Prop} (C : CxN p R s m args meth c G (va_A wc s.heap.size) cc nL d own mc ms (MtI meth)) (hd : decode cc pc = .ok (.return_, 1)) (hK : K ws) : GoN p l e R s m args below meth c G (va_A wc s.heap.size) nL mc ms (MQ below (QwN G wc s.heap.size K) args s mc ms (va_A wc s.heap.size)) pc lv [] ws :=
  fun H locs ls hP hD hS hl => W.vret C.1.1 C.1.2.1 C.2.2.2.1.1 (fun t ht hW => ⟨⟨rfl, ws, hK, by rw [ht]; exact hP, hD⟩, hS.F ht⟩) hS.2.2 hd C.2.2.2.1.2.1
end NEW
theorem MN.of {l : Launch} {G : Gp} {y : MethodName} {cc : ByteArray} {n d mc ms q : Nat} {As : List Value} {cell : va_E} {K : va_W → Prop} (hy : plainName y.cls = true) (hnm : y.name = "<init>") (hn : (lg_sl (.ref q :: As)).length ≤ n)
    (body : ∀ (p : Program) (e : Env) (s : State) (m : MethodId) (args : Array Value) (below : List Frame) (meth : Method) (c : Code), CxN p (rmN d mc ms) s m args meth c G (va_A [(q, cell)] s.heap.size) cc n d y.cls mc ms (MtI meth) → GoN p l e (rmN d mc ms) s m args below meth c G (va_A [(q, cell)] s.heap.size) n 0 0 (MQ below (QwN G [(q, cell)] s.heap.size K) args s mc ms (va_A [(q, cell)] s.heap.size)) 0 (lv_args 0 (.ref q :: As)) [] [(q, cell)]) : MN l G y cc n d mc ms q As cell K := by
  intro sz
  refine Met.ofW (cc := cc) (maxL := n) (ret := none) hy rfl ?_
  intro p e s m args below meth c s₁ B hml hv
  obtain ⟨rfl, hsz, hP, hD0, hX⟩ := hv
  have hts := atoms_spec (ws := wsM y cc n none) B.pre
  have hown : s.vm.findClass y.cls = some m.cls := findClass_of_methodNamed B.named
  have hin : meth.name = "<init>" := by rw [(name_of_methodNamed B.named B.method).1]; exact hnm
  subst hsz
  have hl := lv_entry (.ref q :: As) hn
  rw [lg_entry_eq]
  exact body p e s m _ below meth c ⟨⟨B.exec, B.bytes, hml, hown, fun w hw => hts w (List.mem_cons_of_mem _ hw)⟩, hX, fun x h => Or.inr h, ⟨B.returns, B.notSynchronized, hin⟩, Nat.le_refl _, Nat.le_refl _, Nat.le_refl _, Nat.le_refl _⟩ s.heap [] _ hP hD0.self va_S.rf hl

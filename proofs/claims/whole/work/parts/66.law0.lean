/-! the law: two worlds side by side -/
theorem P_l {D : va_G} {cl : List vw_C} {u v : va_W} {H : Heap} (h : va_P D cl (u ++ v) H) : va_P D cl u H := fun k x hx => h k x (by rw [List.getElem?_append_left (List.getElem?_eq_some_iff.mp hx).1]; exact hx)
theorem P_r {D : va_G} {cl : List vw_C} {u v : va_W} {H : Heap} (h : va_P D cl (u ++ v) H) : va_P D cl v H := fun k x hx => h (u.length + k) x (by rw [List.getElem?_append_right (Nat.le_add_right _ _), Nat.add_sub_cancel_left]; exact hx)
theorem ws_fst {S : Sh} {G : Gp} {σ σ2 : St} : (wsOf S G σ).map Prod.fst = (wsOf S G σ2).map Prod.fst := by
  simp only [wsOf, List.map_map, Function.comp_def]
theorem D_fst {A : Nat → Prop} {ws ws2 : va_W} (h : ws2.map Prod.fst = ws.map Prod.fst) (hD : va_D A ws) : va_D A ws2 := by
  have key : ∀ (i : Nat) (x : Nat × va_E), ws2[i]? = some x → ∃ y, ws[i]? = some y ∧ y.1 = x.1 := fun i x hx => by
    have h1 : (ws2.map Prod.fst)[i]? = some x.1 := by rw [List.getElem?_map, hx]; rfl
    rw [h, List.getElem?_map] at h1
    cases hz : ws[i]? with
    | none => rw [hz] at h1; cases h1
    | some y => rw [hz] at h1; exact ⟨y, rfl, Option.some.inj h1⟩
  refine ⟨fun i j x y hi hj he => ?_, fun k x hk => ?_⟩
  · obtain ⟨x1, i1, i2⟩ := key i x hi
    obtain ⟨y1, j1, j2⟩ := key j y hj
    exact hD.1 i j x1 y1 i1 j1 (i2.trans (he.trans j2.symm))
  · obtain ⟨x1, i1, i2⟩ := key k x hk
    rw [← i2]; exact hD.2 k x1 i1
section LAW
variable {p : Program} {l : Launch} {e : Env} {R : Room} {s : State} {m : MethodId} {args : Array Value} {below : List Frame} {meth : Method} {c : Code} {G : Gp} {A : Nat → Prop} {cc : ByteArray} {nL d cs sl mc ms : Nat} {own : String} {Q : State → Prop} {pc : Nat} {lv : List (Nat × Value)} {st : List Value} {ws : va_W} {Mt : Prop}
theorem n_call (C : CxN p R s m args meth c G A cc nL d own mc ms Mt) {S : Sh} {ad : Nat → Nat} {σ : St} {y : MethodName} {bytes : ByteArray} {maxL n d2 : Nat} {rt : Option FieldType} {index : Nat} {K : Option Value → St → Prop} {As rest : List Value} {u v : va_W} {q0 : Nat × Nat × Nat} (hk0 : S[0]? = some q0) {ci : Nat} {fs : List Value} (hce : cellOf (G.1, G.2.1, ad) σ 0 q0 = .inr (ci, fs)) {qc : vw_C} (hcl : vwCl[ci]? = some qc) (hqc : qc.1 = y.cls) (hM : MC l S (G.1, G.2.1, ad) y bytes maxL rt d2 (.ref (ad 0) :: As) σ K) (hy : Cy y bytes maxL rt n) (hl0 : Cond.methodLink own index y ∈ TB) (hi1 : Cond.instanceMethod y ∈ TB) (hi2 : Cond.selects y.cls y y ∈ TB) (hdd : d2 + 1 ≤ d) (hn : As.length = n) (he : st = As.reverse ++ .ref (ad 0) :: rest) (hrm : (rest.map fun v => v.category).sum ≤ 8) (hd : decode cc pc = .ok (.invokevirtual index, 3)) (hcs : cs ≤ mc) (hsl : sl ≤ ms)
    (kk : ∀ (o : Option Value) (σ2 : St), K o σ2 → GoN p l e R s m args below meth c G A nL cs sl Q (pc + 3) lv (o.toList ++ rest) (u ++ (wsOf S (G.1, G.2.1, ad) σ2 ++ v))) : GoN p l e R s m args below meth c G A nL cs sl Q pc lv st (u ++ (wsOf S (G.1, G.2.1, ad) σ ++ v)) := by
  intro H locs ls hP hD hS hl
  have hPw : va_P G.1 vwCl (wsOf S (G.1, G.2.1, ad) σ) H := P_l (P_r hP)
  have hPu := P_l hP
  have hPv := P_r (P_r hP)
  have hr := va_runV (l := l) (e := e) (below := below) (meth := meth) (H := H) (locs := locs) (cells := cs) (slots := sl) (C := y.cls) (b := ad 0) (g := F0 m pc ls st) (rest := rest) (As := As) C.1 hM ⟨callB_of n C.1.2.2.2.2 (TB_in hy.1) rfl rfl rfl (C.1.2.2.2.2 _ hy.2.1) (C.1.2.2.2.2 _ hl0) hy.2.2.1 ⟨by have := C.2.2.2.2.1; show d2 + 1 ≤ R.frames; omega, by have := C.2.2.2.2.2.1; have := hy.2.2.2; show 8 + (maxL + 11) + 60 * d2 ≤ R.locals; omega⟩, C.1.2.2.2.2 _ hi1, C.1.2.2.2.2 _ hi2⟩ ⟨Pw_blind, (by rw [← hqc]; exact va_recv C.2.1.1.1 hPw hcl ((ws_at hk0).trans (by rw [hce]))), fun U hU hW => ⟨rfl, by rw [hU]; exact hPw, C.2.1.1.moved hW⟩⟩ rfl hn hl.1 he (lv_room hrm) hd ⟨by have := C.2.2.2.2.2.2.1; omega, by have := C.2.2.2.2.2.2.2; omega⟩
  intro T hT X
  obtain ⟨v9, st₀, t, T', L, h0, X', hL, e1, e2, ⟨⟨r9, σ2, hv, hk, hP1⟩, hz, hkk⟩, stp⟩ := hr T hT X
  cases hv
  rw [h0] at hz hkk
  have atW : ∀ k, k < S.length → ∃ x, (u ++ (wsOf S (G.1, G.2.1, ad) σ ++ v))[u.length + k]? = some (ad k, x) := fun k hk9 => by
    rw [List.getElem?_append_right (Nat.le_add_right _ _), Nat.add_sub_cancel_left, List.getElem?_append_left (by rw [ws_len]; exact hk9), ws_at (List.getElem?_eq_getElem hk9)]
    exact ⟨_, rfl⟩
  have hin : ∀ x, Fr S (G.1, G.2.1, ad) x → A x := by
    rintro x ⟨k, hk9, rfl⟩
    obtain ⟨z, hz9⟩ := atW k hk9
    exact hD.2 _ _ hz9
  have apu : ∀ (k : Nat) (x : Nat × va_E), u[k]? = some x → ¬ Fr S (G.1, G.2.1, ad) x.1 := by
    rintro k x hx ⟨j, hj, hq⟩
    obtain ⟨z, hz9⟩ := atW j hj
    have hlt := (List.getElem?_eq_some_iff.mp hx).1
    have := hD.1 k (u.length + j) x (ad j, z) (by rw [List.getElem?_append_left hlt]; exact hx) hz9 hq
    omega
  have apv : ∀ (k : Nat) (x : Nat × va_E), v[k]? = some x → ¬ Fr S (G.1, G.2.1, ad) x.1 := by
    rintro k x hx ⟨j, hj, hq⟩
    obtain ⟨z, hz9⟩ := atW j hj
    have := hD.1 (u.length + (S.length + k)) (u.length + j) x (ad j, z) (by rw [List.getElem?_append_right (Nat.le_add_right _ _), Nat.add_sub_cancel_left, List.getElem?_append_right (by rw [ws_len]; exact Nat.le_add_right _ _), ws_len, Nat.add_sub_cancel_left]; exact hx) hz9 hq
    omega
  have hku : ∀ (k : Nat) (x : Nat × va_E), u[k]? = some x → T'.heap[x.1]? = H[x.1]? := fun k x hx => by
    rw [e1]; exact hkk x.1 (hPu k x hx).lt (apu k x hx)
  have hkv : ∀ (k : Nat) (x : Nat × va_E), v[k]? = some x → T'.heap[x.1]? = H[x.1]? := fun k x hx => by
    rw [e1]; exact hkk x.1 (hPv k x hx).lt (apv k x hx)
  have hP1' : va_P G.1 vwCl (wsOf S (G.1, G.2.1, ad) σ2) T'.heap := by rw [e1]; exact hP1
  have hD2 : va_D A (u ++ (wsOf S (G.1, G.2.1, ad) σ2 ++ v)) := D_fst (by simp only [List.map_append]; rw [ws_fst (σ := σ2) (σ2 := σ)]) hD
  obtain ⟨t2, a1, b1⟩ := kk _ σ2 hk T'.heap (locs ++ L) ls ((hPu.kept hku).app (hP1'.app (hPv.kept hkv))) hD2
    ⟨Nat.le_trans hS.1 (by rw [e1]; exact hz), fun x h1 h2 => by rw [e1, hkk x (Nat.lt_of_lt_of_le h1 hS.1) (fun h => h2 (hin x h))]; exact hS.2.1 x h1 h2, fun x hx => by
      rcases List.mem_append.mp hx with h | h
      · exact hS.2.2 x h
      · exact hin _ (hL x h)⟩ hl T' rfl X'
  exact ⟨t2, stp t2 a1, b1⟩
theorem n_astore_n (C : CxN p R s m args meth c G A cc nL d own mc ms Mt) {k : Fin 4} {i : Nat} {x : Nat} {lv2 : List (Nat × Value)} (hd : decode cc pc = .ok (.astore_n k, 1)) (hi : (k : Nat) = i) (hn : i < nL) (he : (i, Value.ref x) :: lv.filter (fun q => !(q.1 == i) && !(q.1 + 1 == i && q.2.category == 2)) = lv2) (kk : GoN p l e R s m args below meth c G A nL cs sl Q (pc + 1) lv2 st ws) : GoN p l e R s m args below meth c G A nL cs sl Q pc lv (.ref x :: st) ws :=
  fun H locs ls hP hD hS hl => lv_astore_n C.1.1 C.1.2.1 hd hi hl hn he (fun ls2 hl2 => kk H locs ls2 hP hD hS hl2)
theorem n_iadd (C : CxN p R s m args meth c G A cc nL d own mc ms Mt) {x y : Int32} (hd : decode cc pc = .ok (.iadd, 1)) (kk : GoN p l e R s m args below meth c G A nL cs sl Q (pc + 1) lv (.int (x + y) :: st) ws) : GoN p l e R s m args below meth c G A nL cs sl Q pc lv (.int y :: .int x :: st) ws :=
  fun H locs ls hP hD hS hl => lv_iadd C.1.1 C.1.2.1 hd (kk H locs ls hP hD hS hl)
theorem n_isub (C : CxN p R s m args meth c G A cc nL d own mc ms Mt) {x y : Int32} (hd : decode cc pc = .ok (.isub, 1)) (kk : GoN p l e R s m args below meth c G A nL cs sl Q (pc + 1) lv (.int (x - y) :: st) ws) : GoN p l e R s m args below meth c G A nL cs sl Q pc lv (.int y :: .int x :: st) ws :=
  fun H locs ls hP hD hS hl => lv_isub C.1.1 C.1.2.1 hd (kk H locs ls hP hD hS hl)
theorem n_iand (C : CxN p R s m args meth c G A cc nL d own mc ms Mt) {x y : Int32} (hd : decode cc pc = .ok (.iand, 1)) (kk : GoN p l e R s m args below meth c G A nL cs sl Q (pc + 1) lv (.int (x &&& y) :: st) ws) : GoN p l e R s m args below meth c G A nL cs sl Q pc lv (.int y :: .int x :: st) ws :=
  fun H locs ls hP hD hS hl => lv_iand C.1.1 C.1.2.1 hd (kk H locs ls hP hD hS hl)
theorem n_lcmp (C : CxN p R s m args meth c G A cc nL d own mc ms Mt) {x y : Int64} (hd : decode cc pc = .ok (.lcmp, 1)) (kk : GoN p l e R s m args below meth c G A nL cs sl Q (pc + 1) lv (.int (lg_cmp x y) :: st) ws) : GoN p l e R s m args below meth c G A nL cs sl Q pc lv (.long y :: .long x :: st) ws :=
  fun H locs ls hP hD hS hl => W.lcmp C.1.1 C.1.2.1 hd (kk H locs ls hP hD hS hl)
theorem n_if_eq (C : CxN p R s m args meth c G A cc nL d own mc ms Mt) {x : Int32} {off : Int} {tgt : Nat} (hd : decode cc pc = .ok (.ifCond .eq off, 3)) (ht : (pc : Int) + off = (tgt : Int)) (hx : x = 0) (kt : GoN p l e R s m args below meth c G A nL cs sl Q tgt lv st ws) : GoN p l e R s m args below meth c G A nL cs sl Q pc lv (.int x :: st) ws :=
  fun H locs ls hP hD hS hl => lv_if_eq C.1.1 C.1.2.1 hd ht (fun _ => kt H locs ls hP hD hS hl) (fun q => absurd hx q)
theorem n_icmp_eq (C : CxN p R s m args meth c G A cc nL d own mc ms Mt) {x y : Int32} {off : Int} {tgt : Nat} (hd : decode cc pc = .ok (.if_icmp .eq off, 3)) (ht : (pc : Int) + off = (tgt : Int)) (hx : x = y) (kt : GoN p l e R s m args below meth c G A nL cs sl Q tgt lv st ws) : GoN p l e R s m args below meth c G A nL cs sl Q pc lv (.int y :: .int x :: st) ws :=
  fun H locs ls hP hD hS hl => lv_icmp_eq C.1.1 C.1.2.1 hd ht (fun _ => kt H locs ls hP hD hS hl) (fun q => absurd hx q)
theorem n_icmp_gt (C : CxN p R s m args meth c G A cc nL d own mc ms Mt) {x y : Int32} {off : Int} {tgt : Nat} (hd : decode cc pc = .ok (.if_icmp .gt off, 3)) (ht : (pc : Int) + off = (tgt : Int)) (kt : y < x → GoN p l e R s m args below meth c G A nL cs sl Q tgt lv st ws) (kf : ¬ y < x → GoN p l e R s m args below meth c G A nL cs sl Q (pc + 3) lv st ws) : GoN p l e R s m args below meth c G A nL cs sl Q pc lv (.int y :: .int x :: st) ws :=
  fun H locs ls hP hD hS hl => lv_icmp_gt C.1.1 C.1.2.1 hd ht (fun q => kt q H locs ls hP hD hS hl) (fun q => kf q H locs ls hP hD hS hl)
theorem n_sld (C : CxN p R s m args meth c G A cc nL d own mc ms Mt) {b L : Nat} {xs : Nat → Int32} (hX : va_X b L xs s s.heap) (hbl : b < s.heap.size) (hbA : ¬ A b) {i : Int32} (hin : vp_in i L) (hd : decode cc pc = .ok (.iaload, 1)) (kk : GoN p l e R s m args below meth c G A nL cs sl Q (pc + 1) lv (.int (xs i.toNatClampNeg) :: st) ws) : GoN p l e R s m args below meth c G A nL cs sl Q pc lv (.int i :: .ref b :: st) ws :=
  fun H locs ls hP hD hS hl => va_sld C.1.1 C.1.2.1 hX hbl hbA hS hin hd (kk H locs ls hP hD hS hl)
theorem n_slen (C : CxN p R s m args meth c G A cc nL d own mc ms Mt) {b L : Nat} {xs : Nat → Int32} (hX : va_X b L xs s s.heap) (hbl : b < s.heap.size) (hbA : ¬ A b) (hd : decode cc pc = .ok (.arraylength, 1)) (kk : GoN p l e R s m args below meth c G A nL cs sl Q (pc + 1) lv (.int (Int32.ofNat L) :: st) ws) : GoN p l e R s m args below meth c G A nL cs sl Q pc lv (.ref b :: st) ws :=
  fun H locs ls hP hD hS hl => va_slen C.1.1 C.1.2.1 hX hbl hbA hS hd (kk H locs ls hP hD hS hl)
theorem n_tabOut (C : CxN p R s m args meth c G A cc nL d own mc ms Mt) {dflt lo hi : Int} {offs : Array Int} {len : Nat} {x : Int32} {tgt : Nat} (hd : decode cc pc = .ok (.tableswitch dflt lo hi offs, len)) (h : x.toInt < lo ∨ hi < x.toInt) (ht : (pc : Int) + dflt = (tgt : Int)) (kk : GoN p l e R s m args below meth c G A nL cs sl Q tgt lv st ws) : GoN p l e R s m args below meth c G A nL cs sl Q pc lv (.int x :: st) ws :=
  fun H locs ls hP hD hS hl => lv_tableOut C.1.1 C.1.2.1 hd h ht (kk H locs ls hP hD hS hl)
theorem n_tabIn (C : CxN p R s m args meth c G A cc nL d own mc ms Mt) {dflt lo hi : Int} {offs : Array Int} {len : Nat} {x : Int32} {off : Int} {tgt : Nat} (hd : decode cc pc = .ok (.tableswitch dflt lo hi offs, len)) (h1 : ¬ x.toInt < lo) (h2 : ¬ hi < x.toInt) (ho : offs[(x.toInt - lo).toNat]? = some off) (ht : (pc : Int) + off = (tgt : Int)) (kk : GoN p l e R s m args below meth c G A nL cs sl Q tgt lv st ws) : GoN p l e R s m args below meth c G A nL cs sl Q pc lv (.int x :: st) ws :=
  fun H locs ls hP hD hS hl => lv_tableIn C.1.1 C.1.2.1 hd h1 h2 ho ht (kk H locs ls hP hD hS hl)
end LAW

/-! the law's cases (written by gen/law.py) -/
section CALLS
variable {p : Program} {l : Launch} {e : Env} {R : Room} {s : State} {m : MethodId} {args : Array Value} {below : List Frame} {meth : Method} {c : Code} {G : Gp} {A : Nat → Prop} {cc : ByteArray} {nL d cs sl mc ms : Nat} {own : String} {Q : State → Prop} {pc : Nat} {lv : List (Nat × Value)} {st : List Value} {Mt : Prop} {aC aM : Nat → Nat} {sc sm : St}
theorem l_callC (C : CxN p R s m args meth c G A cc nL d own mc ms Mt) {y : MethodName} {bytes : ByteArray} {maxL n d2 : Nat} {rt : Option FieldType} {index : Nat} {K : Option Value → St → Prop} {As rest : List Value} (hqc : RX8 = y.cls) (hM : MC l shC (G.1, G.2.1, aC) y bytes maxL rt d2 (.ref (aC 0) :: As) sc K) (hy : Cy y bytes maxL rt n) (hl0 : Cond.methodLink own index y ∈ TB) (hi1 : Cond.instanceMethod y ∈ TB) (hi2 : Cond.selects y.cls y y ∈ TB) (hdd : d2 + 1 ≤ d) (hn : As.length = n) (he : st = As.reverse ++ .ref (aC 0) :: rest) (hrm : (rest.map fun v => v.category).sum ≤ 8) (hd : decode cc pc = .ok (.invokevirtual index, 3)) (hcs : cs ≤ mc) (hsl : sl ≤ ms)
    (kk : ∀ (o : Option Value) (s2 : St), K o s2 → GoN p l e R s m args below meth c G A nL cs sl Q (pc + 3) lv (o.toList ++ rest) (wsOf shC (G.1, G.2.1, aC) s2 ++ wsOf shM (G.1, G.2.1, aM) sm)) : GoN p l e R s m args below meth c G A nL cs sl Q pc lv st (wsOf shC (G.1, G.2.1, aC) sc ++ wsOf shM (G.1, G.2.1, aM) sm) :=
  n_call (u := []) (v := wsOf shM (G.1, G.2.1, aM) sm) C (S := shC) (q0 := (8, 0, 0)) (qc := (RX8, TX8, 15)) rfl rfl rfl hqc hM hy hl0 hi1 hi2 hdd hn he hrm hd hcs hsl kk
theorem l_callM (C : CxN p R s m args meth c G A cc nL d own mc ms Mt) {y : MethodName} {bytes : ByteArray} {maxL n d2 : Nat} {rt : Option FieldType} {index : Nat} {K : Option Value → St → Prop} {As rest : List Value} (hqc : RX9 = y.cls) (hM : MC l shM (G.1, G.2.1, aM) y bytes maxL rt d2 (.ref (aM 0) :: As) sm K) (hy : Cy y bytes maxL rt n) (hl0 : Cond.methodLink own index y ∈ TB) (hi1 : Cond.instanceMethod y ∈ TB) (hi2 : Cond.selects y.cls y y ∈ TB) (hdd : d2 + 1 ≤ d) (hn : As.length = n) (he : st = As.reverse ++ .ref (aM 0) :: rest) (hrm : (rest.map fun v => v.category).sum ≤ 8) (hd : decode cc pc = .ok (.invokevirtual index, 3)) (hcs : cs ≤ mc) (hsl : sl ≤ ms)
    (kk : ∀ (o : Option Value) (s2 : St), K o s2 → GoN p l e R s m args below meth c G A nL cs sl Q (pc + 3) lv (o.toList ++ rest) (wsOf shC (G.1, G.2.1, aC) sc ++ wsOf shM (G.1, G.2.1, aM) s2)) : GoN p l e R s m args below meth c G A nL cs sl Q pc lv st (wsOf shC (G.1, G.2.1, aC) sc ++ wsOf shM (G.1, G.2.1, aM) sm) := by
  have h := n_call (l := l) (e := e) (below := below) (nL := nL) (Q := Q) (lv := lv) (u := wsOf shC (G.1, G.2.1, aC) sc) (v := []) C (S := shM) (q0 := (9, 0, 0)) (qc := (RX9, TX9, 28)) rfl rfl rfl hqc hM hy hl0 hi1 hi2 hdd hn he hrm hd hcs hsl (fun o s2 hK => by rw [List.append_nil]; exact kk o s2 hK)
  rw [List.append_nil] at h
  exact h
theorem lg_cmp0 {x y : Int64} (h : x = y) : lg_cmp x y = 0 := by
  subst h
  simp [lg_cmp]
end CALLS
theorem lw_k0 {p : Program} {l : Launch} {e : Env} {R : Room} {s : State} {m : MethodId} {args : Array Value} {below : List Frame} {meth : Method} {c : Code} {G : Gp} {A : Nat → Prop} {Q : State → Prop} {cs sl mc ms : Nat} {Mt : Prop} {b L : Nat} {xs : Nat → Int32} {aC aM : Nat → Nat} {sc sm : St} {i : Int32} (C : CxN p R s m args meth c G A cL_law 4 20 RL mc ms Mt) (hX : va_X b L xs s s.heap) (hbl : b < s.heap.size) (hbA : ¬ A b) (hjC : Dj shC (G.1, G.2.1, aC)) (hjM : Dj shM (G.1, G.2.1, aM)) (hcs : cs ≤ mc) (hsl : sl ≤ ms) (h1 : vp_in (i + 1) L) (h2 : vp_in (i + 2) L) (h3 : vp_in (i + 3) L) (h4 : vp_in (i + 4) L) (h5 : vp_in (i + 5) L) (h : Rel sc sm) (kk : ∀ c9 m9, Rel c9 m9 → GoN p l e R s m args below meth c G A 4 cs sl Q 1674 [(3, .int i), (2, .ref (aM 0)), (1, .ref (aC 0)), (0, .ref b)] [] (wsOf shC (G.1, G.2.1, aC) c9 ++ wsOf shM (G.1, G.2.1, aM) m9)) : GoN p l e R s m args below meth c G A 4 cs sl Q 244 [(3, .int i), (2, .ref (aM 0)), (1, .ref (aC 0)), (0, .ref b)] [] (wsOf shC (G.1, G.2.1, aC) sc ++ wsOf shM (G.1, G.2.1, aM) sm) := by
  refine n_aload_n C 2 dL_law_244 rfl rfl ?_
  refine n_aload_n C 3 dL_law_245 rfl rfl ?_
  refine n_iload_n C 0 dL_law_246 rfl rfl ?_
  refine n_iconst C (v := 1) dL_law_247 (by decide) ?_
  refine n_iadd C dL_law_248 ?_
  refine n_sld C hX hbl hbA h1 dL_law_249 ?_
  refine n_aload_n C 3 dL_law_250 rfl rfl ?_
  refine n_iload_n C 0 dL_law_251 rfl rfl ?_
  refine n_iconst C (v := 2) dL_law_252 (by decide) ?_
  refine n_iadd C dL_law_253 ?_
  refine n_sld C hX hbl hbA h2 dL_law_254 ?_
  refine l_callC C (rest := []) rfl (M_X8_row hjC (op_row h (xs (i + 1).toNatClampNeg) (xs (i + 2).toNatClampNeg))) CyX8_row tw_240 tw_241 tw_242 (by decide) rfl rfl (Nat.le_of_ble_eq_true rfl) dL_law_255 hcs hsl ?_
  rintro o9 c9 ⟨r9, rfl, hK9⟩
  refine n_aload_n C 1 dL_law_258 rfl rfl ?_
  refine n_aload_n C 3 dL_law_259 rfl rfl ?_
  refine n_iload_n C 0 dL_law_260 rfl rfl ?_
  refine n_iconst C (v := 1) dL_law_261 (by decide) ?_
  refine n_iadd C dL_law_262 ?_
  refine n_sld C hX hbl hbA h1 dL_law_263 ?_
  refine n_aload_n C 3 dL_law_264 rfl rfl ?_
  refine n_iload_n C 0 dL_law_265 rfl rfl ?_
  refine n_iconst C (v := 2) dL_law_266 (by decide) ?_
  refine n_iadd C dL_law_267 ?_
  refine n_sld C hX hbl hbA h2 dL_law_268 ?_
  refine l_callM C (rest := [.int r9]) rfl (M_X9_row hjM hK9) CyX9_row tw_947 tw_948 tw_949 (by decide) rfl rfl (Nat.le_of_ble_eq_true rfl) dL_law_269 hcs hsl ?_
  rintro o8 m9 ⟨r8, rfl, hr9, hR9⟩
  refine n_icmp_eq C (tgt := 1674) dL_law_272 (by decide) hr9 ?_
  exact kk _ _ hR9
theorem lw_k1 {p : Program} {l : Launch} {e : Env} {R : Room} {s : State} {m : MethodId} {args : Array Value} {below : List Frame} {meth : Method} {c : Code} {G : Gp} {A : Nat → Prop} {Q : State → Prop} {cs sl mc ms : Nat} {Mt : Prop} {b L : Nat} {xs : Nat → Int32} {aC aM : Nat → Nat} {sc sm : St} {i : Int32} (C : CxN p R s m args meth c G A cL_law 4 20 RL mc ms Mt) (hX : va_X b L xs s s.heap) (hbl : b < s.heap.size) (hbA : ¬ A b) (hjC : Dj shC (G.1, G.2.1, aC)) (hjM : Dj shM (G.1, G.2.1, aM)) (hcs : cs ≤ mc) (hsl : sl ≤ ms) (h1 : vp_in (i + 1) L) (h2 : vp_in (i + 2) L) (h3 : vp_in (i + 3) L) (h4 : vp_in (i + 4) L) (h5 : vp_in (i + 5) L) (h : Rel sc sm) (kk : ∀ c9 m9, Rel c9 m9 → GoN p l e R s m args below meth c G A 4 cs sl Q 1674 [(3, .int i), (2, .ref (aM 0)), (1, .ref (aC 0)), (0, .ref b)] [] (wsOf shC (G.1, G.2.1, aC) c9 ++ wsOf shM (G.1, G.2.1, aM) m9)) : GoN p l e R s m args below meth c G A 4 cs sl Q 277 [(3, .int i), (2, .ref (aM 0)), (1, .ref (aC 0)), (0, .ref b)] [] (wsOf shC (G.1, G.2.1, aC) sc ++ wsOf shM (G.1, G.2.1, aM) sm) := by
  refine n_aload_n C 2 dL_law_277 rfl rfl ?_
  refine n_aload_n C 3 dL_law_278 rfl rfl ?_
  refine n_iload_n C 0 dL_law_279 rfl rfl ?_
  refine n_iconst C (v := 1) dL_law_280 (by decide) ?_
  refine n_iadd C dL_law_281 ?_
  refine n_sld C hX hbl hbA h1 dL_law_282 ?_
  refine n_aload_n C 3 dL_law_283 rfl rfl ?_
  refine n_iload_n C 0 dL_law_284 rfl rfl ?_
  refine n_iconst C (v := 2) dL_law_285 (by decide) ?_
  refine n_iadd C dL_law_286 ?_
  refine n_sld C hX hbl hbA h2 dL_law_287 ?_
  refine n_aload_n C 3 dL_law_288 rfl rfl ?_
  refine n_iload_n C 0 dL_law_289 rfl rfl ?_
  refine n_iconst C (v := 3) dL_law_290 (by decide) ?_
  refine n_iadd C dL_law_291 ?_
  refine n_sld C hX hbl hbA h3 dL_law_292 ?_
  refine l_callC C (rest := []) rfl (M_X8_lay hjC (op_lay h (xs (i + 1).toNatClampNeg) (xs (i + 2).toNatClampNeg) (xs (i + 3).toNatClampNeg))) CyX8_lay tw_268 tw_269 tw_270 (by decide) rfl rfl (Nat.le_of_ble_eq_true rfl) dL_law_293 hcs hsl ?_
  rintro o9 c9 ⟨r9, rfl, hK9⟩
  refine n_aload_n C 1 dL_law_296 rfl rfl ?_
  refine n_aload_n C 3 dL_law_297 rfl rfl ?_
  refine n_iload_n C 0 dL_law_298 rfl rfl ?_
  refine n_iconst C (v := 1) dL_law_299 (by decide) ?_
  refine n_iadd C dL_law_300 ?_
  refine n_sld C hX hbl hbA h1 dL_law_301 ?_
  refine n_aload_n C 3 dL_law_302 rfl rfl ?_
  refine n_iload_n C 0 dL_law_303 rfl rfl ?_
  refine n_iconst C (v := 2) dL_law_304 (by decide) ?_
  refine n_iadd C dL_law_305 ?_
  refine n_sld C hX hbl hbA h2 dL_law_306 ?_
  refine n_aload_n C 3 dL_law_307 rfl rfl ?_
  refine n_iload_n C 0 dL_law_308 rfl rfl ?_
  refine n_iconst C (v := 3) dL_law_309 (by decide) ?_
  refine n_iadd C dL_law_310 ?_
  refine n_sld C hX hbl hbA h3 dL_law_311 ?_
  refine l_callM C (rest := [.int r9]) rfl (M_X9_lay hjM hK9) CyX9_lay tw_966 tw_967 tw_968 (by decide) rfl rfl (Nat.le_of_ble_eq_true rfl) dL_law_312 hcs hsl ?_
  rintro o8 m9 ⟨r8, rfl, hr9, hR9⟩
  refine n_icmp_eq C (tgt := 1674) dL_law_315 (by decide) hr9 ?_
  exact kk _ _ hR9
theorem lw_k2 {p : Program} {l : Launch} {e : Env} {R : Room} {s : State} {m : MethodId} {args : Array Value} {below : List Frame} {meth : Method} {c : Code} {G : Gp} {A : Nat → Prop} {Q : State → Prop} {cs sl mc ms : Nat} {Mt : Prop} {b L : Nat} {xs : Nat → Int32} {aC aM : Nat → Nat} {sc sm : St} {i : Int32} (C : CxN p R s m args meth c G A cL_law 4 20 RL mc ms Mt) (hX : va_X b L xs s s.heap) (hbl : b < s.heap.size) (hbA : ¬ A b) (hjC : Dj shC (G.1, G.2.1, aC)) (hjM : Dj shM (G.1, G.2.1, aM)) (hcs : cs ≤ mc) (hsl : sl ≤ ms) (h1 : vp_in (i + 1) L) (h2 : vp_in (i + 2) L) (h3 : vp_in (i + 3) L) (h4 : vp_in (i + 4) L) (h5 : vp_in (i + 5) L) (h : Rel sc sm) (kk : ∀ c9 m9, Rel c9 m9 → GoN p l e R s m args below meth c G A 4 cs sl Q 1674 [(3, .int i), (2, .ref (aM 0)), (1, .ref (aC 0)), (0, .ref b)] [] (wsOf shC (G.1, G.2.1, aC) c9 ++ wsOf shM (G.1, G.2.1, aM) m9)) : GoN p l e R s m args below meth c G A 4 cs sl Q 320 [(3, .int i), (2, .ref (aM 0)), (1, .ref (aC 0)), (0, .ref b)] [] (wsOf shC (G.1, G.2.1, aC) sc ++ wsOf shM (G.1, G.2.1, aM) sm) := by
  refine n_aload_n C 2 dL_law_320 rfl rfl ?_
  refine n_aload_n C 3 dL_law_321 rfl rfl ?_
  refine n_iload_n C 0 dL_law_322 rfl rfl ?_
  refine n_iconst C (v := 1) dL_law_323 (by decide) ?_
  refine n_iadd C dL_law_324 ?_
  refine n_sld C hX hbl hbA h1 dL_law_325 ?_
  refine n_aload_n C 3 dL_law_326 rfl rfl ?_
  refine n_iload_n C 0 dL_law_327 rfl rfl ?_
  refine n_iconst C (v := 2) dL_law_328 (by decide) ?_
  refine n_iadd C dL_law_329 ?_
  refine n_sld C hX hbl hbA h2 dL_law_330 ?_
  refine l_callC C (rest := []) rfl (M_X8_at hjC (op_at h (xs (i + 1).toNatClampNeg) (xs (i + 2).toNatClampNeg))) CyX8_at tw_280 tw_281 tw_282 (by decide) rfl rfl (Nat.le_of_ble_eq_true rfl) dL_law_331 hcs hsl ?_
  rintro o9 c9 ⟨r9, rfl, hK9⟩
  refine n_aload_n C 1 dL_law_334 rfl rfl ?_
  refine n_aload_n C 3 dL_law_335 rfl rfl ?_
  refine n_iload_n C 0 dL_law_336 rfl rfl ?_
  refine n_iconst C (v := 1) dL_law_337 (by decide) ?_
  refine n_iadd C dL_law_338 ?_
  refine n_sld C hX hbl hbA h1 dL_law_339 ?_
  refine n_aload_n C 3 dL_law_340 rfl rfl ?_
  refine n_iload_n C 0 dL_law_341 rfl rfl ?_
  refine n_iconst C (v := 2) dL_law_342 (by decide) ?_
  refine n_iadd C dL_law_343 ?_
  refine n_sld C hX hbl hbA h2 dL_law_344 ?_
  refine l_callM C (rest := [.int r9]) rfl (M_X9_at hjM hK9) CyX9_at tw_978 tw_971 tw_972 (by decide) rfl rfl (Nat.le_of_ble_eq_true rfl) dL_law_345 hcs hsl ?_
  rintro o8 m9 ⟨r8, rfl, hr9, hR9⟩
  refine n_icmp_eq C (tgt := 1674) dL_law_348 (by decide) hr9 ?_
  exact kk _ _ hR9
theorem lw_k3 {p : Program} {l : Launch} {e : Env} {R : Room} {s : State} {m : MethodId} {args : Array Value} {below : List Frame} {meth : Method} {c : Code} {G : Gp} {A : Nat → Prop} {Q : State → Prop} {cs sl mc ms : Nat} {Mt : Prop} {b L : Nat} {xs : Nat → Int32} {aC aM : Nat → Nat} {sc sm : St} {i : Int32} (C : CxN p R s m args meth c G A cL_law 4 20 RL mc ms Mt) (hX : va_X b L xs s s.heap) (hbl : b < s.heap.size) (hbA : ¬ A b) (hjC : Dj shC (G.1, G.2.1, aC)) (hjM : Dj shM (G.1, G.2.1, aM)) (hcs : cs ≤ mc) (hsl : sl ≤ ms) (h1 : vp_in (i + 1) L) (h2 : vp_in (i + 2) L) (h3 : vp_in (i + 3) L) (h4 : vp_in (i + 4) L) (h5 : vp_in (i + 5) L) (h : Rel sc sm) (kk : ∀ c9 m9, Rel c9 m9 → GoN p l e R s m args below meth c G A 4 cs sl Q 1674 [(3, .int i), (2, .ref (aM 0)), (1, .ref (aC 0)), (0, .ref b)] [] (wsOf shC (G.1, G.2.1, aC) c9 ++ wsOf shM (G.1, G.2.1, aM) m9)) : GoN p l e R s m args below meth c G A 4 cs sl Q 353 [(3, .int i), (2, .ref (aM 0)), (1, .ref (aC 0)), (0, .ref b)] [] (wsOf shC (G.1, G.2.1, aC) sc ++ wsOf shM (G.1, G.2.1, aM) sm) := by
  refine n_aload_n C 2 dL_law_353 rfl rfl ?_
  refine n_aload_n C 3 dL_law_354 rfl rfl ?_
  refine n_iload_n C 0 dL_law_355 rfl rfl ?_
  refine n_iconst C (v := 1) dL_law_356 (by decide) ?_
  refine n_iadd C dL_law_357 ?_
  refine n_sld C hX hbl hbA h1 dL_law_358 ?_
  refine l_callC C (rest := []) rfl (M_X8_tear hjC (op_tear h (xs (i + 1).toNatClampNeg))) CyX8_tear tw_284 tw_285 tw_286 (by decide) rfl rfl (Nat.le_of_ble_eq_true rfl) dL_law_359 hcs hsl ?_
  rintro o9 c9 ⟨r9, rfl, hK9⟩
  refine n_aload_n C 1 dL_law_362 rfl rfl ?_
  refine n_aload_n C 3 dL_law_363 rfl rfl ?_
  refine n_iload_n C 0 dL_law_364 rfl rfl ?_
  refine n_iconst C (v := 1) dL_law_365 (by decide) ?_
  refine n_iadd C dL_law_366 ?_
  refine n_sld C hX hbl hbA h1 dL_law_367 ?_
  refine l_callM C (rest := [.int r9]) rfl (M_X9_tear hjM hK9) CyX9_tear tw_979 tw_980 tw_981 (by decide) rfl rfl (Nat.le_of_ble_eq_true rfl) dL_law_368 hcs hsl ?_
  rintro o8 m9 ⟨r8, rfl, hr9, hR9⟩
  refine n_icmp_eq C (tgt := 1674) dL_law_371 (by decide) hr9 ?_
  exact kk _ _ hR9
theorem lw_k4 {p : Program} {l : Launch} {e : Env} {R : Room} {s : State} {m : MethodId} {args : Array Value} {below : List Frame} {meth : Method} {c : Code} {G : Gp} {A : Nat → Prop} {Q : State → Prop} {cs sl mc ms : Nat} {Mt : Prop} {b L : Nat} {xs : Nat → Int32} {aC aM : Nat → Nat} {sc sm : St} {i : Int32} (C : CxN p R s m args meth c G A cL_law 4 20 RL mc ms Mt) (hX : va_X b L xs s s.heap) (hbl : b < s.heap.size) (hbA : ¬ A b) (hjC : Dj shC (G.1, G.2.1, aC)) (hjM : Dj shM (G.1, G.2.1, aM)) (hcs : cs ≤ mc) (hsl : sl ≤ ms) (h1 : vp_in (i + 1) L) (h2 : vp_in (i + 2) L) (h3 : vp_in (i + 3) L) (h4 : vp_in (i + 4) L) (h5 : vp_in (i + 5) L) (h : Rel sc sm) (kk : ∀ c9 m9, Rel c9 m9 → GoN p l e R s m args below meth c G A 4 cs sl Q 1674 [(3, .int i), (2, .ref (aM 0)), (1, .ref (aC 0)), (0, .ref b)] [] (wsOf shC (G.1, G.2.1, aC) c9 ++ wsOf shM (G.1, G.2.1, aM) m9)) : GoN p l e R s m args below meth c G A 4 cs sl Q 376 [(3, .int i), (2, .ref (aM 0)), (1, .ref (aC 0)), (0, .ref b)] [] (wsOf shC (G.1, G.2.1, aC) sc ++ wsOf shM (G.1, G.2.1, aM) sm) := by
  refine n_aload_n C 2 dL_law_376 rfl rfl ?_
  refine n_aload_n C 3 dL_law_377 rfl rfl ?_
  refine n_iload_n C 0 dL_law_378 rfl rfl ?_
  refine n_iconst C (v := 1) dL_law_379 (by decide) ?_
  refine n_iadd C dL_law_380 ?_
  refine n_sld C hX hbl hbA h1 dL_law_381 ?_
  refine n_aload_n C 3 dL_law_382 rfl rfl ?_
  refine n_iload_n C 0 dL_law_383 rfl rfl ?_
  refine n_iconst C (v := 2) dL_law_384 (by decide) ?_
  refine n_iadd C dL_law_385 ?_
  refine n_sld C hX hbl hbA h2 dL_law_386 ?_
  refine n_aload_n C 3 dL_law_387 rfl rfl ?_
  refine n_iload_n C 0 dL_law_388 rfl rfl ?_
  refine n_iconst C (v := 3) dL_law_389 (by decide) ?_
  refine n_iadd C dL_law_390 ?_
  refine n_sld C hX hbl hbA h3 dL_law_391 ?_
  refine n_aload_n C 3 dL_law_392 rfl rfl ?_
  refine n_iload_n C 0 dL_law_393 rfl rfl ?_
  refine n_iconst C (v := 4) dL_law_394 (by decide) ?_
  refine n_iadd C dL_law_395 ?_
  refine n_sld C hX hbl hbA h4 dL_law_396 ?_
  refine n_aload_n C 3 dL_law_397 rfl rfl ?_
  refine n_iload_n C 0 dL_law_398 rfl rfl ?_
  refine n_iconst C (v := 5) dL_law_399 (by decide) ?_
  refine n_iadd C dL_law_400 ?_
  refine n_sld C hX hbl hbA h5 dL_law_401 ?_
  refine l_callC C (rest := []) rfl (M_X8_copy hjC (op_copy h (xs (i + 1).toNatClampNeg) (xs (i + 2).toNatClampNeg) (xs (i + 3).toNatClampNeg) (xs (i + 4).toNatClampNeg) (xs (i + 5).toNatClampNeg))) CyX8_copy tw_288 tw_289 tw_290 (by decide) rfl rfl (Nat.le_of_ble_eq_true rfl) dL_law_402 hcs hsl ?_
  rintro o9 c9 ⟨r9, rfl, hK9⟩
  refine n_aload_n C 1 dL_law_405 rfl rfl ?_
  refine n_aload_n C 3 dL_law_406 rfl rfl ?_
  refine n_iload_n C 0 dL_law_407 rfl rfl ?_
  refine n_iconst C (v := 1) dL_law_408 (by decide) ?_
  refine n_iadd C dL_law_409 ?_
  refine n_sld C hX hbl hbA h1 dL_law_410 ?_
  refine n_aload_n C 3 dL_law_411 rfl rfl ?_
  refine n_iload_n C 0 dL_law_412 rfl rfl ?_
  refine n_iconst C (v := 2) dL_law_413 (by decide) ?_
  refine n_iadd C dL_law_414 ?_
  refine n_sld C hX hbl hbA h2 dL_law_415 ?_
  refine n_aload_n C 3 dL_law_416 rfl rfl ?_
  refine n_iload_n C 0 dL_law_417 rfl rfl ?_
  refine n_iconst C (v := 3) dL_law_418 (by decide) ?_
  refine n_iadd C dL_law_419 ?_
  refine n_sld C hX hbl hbA h3 dL_law_420 ?_
  refine n_aload_n C 3 dL_law_421 rfl rfl ?_
  refine n_iload_n C 0 dL_law_422 rfl rfl ?_
  refine n_iconst C (v := 4) dL_law_423 (by decide) ?_
  refine n_iadd C dL_law_424 ?_
  refine n_sld C hX hbl hbA h4 dL_law_425 ?_
  refine n_aload_n C 3 dL_law_426 rfl rfl ?_
  refine n_iload_n C 0 dL_law_427 rfl rfl ?_
  refine n_iconst C (v := 5) dL_law_428 (by decide) ?_
  refine n_iadd C dL_law_429 ?_
  refine n_sld C hX hbl hbA h5 dL_law_430 ?_
  refine l_callM C (rest := [.int r9]) rfl (M_X9_copy hjM hK9) CyX9_copy tw_983 tw_984 tw_985 (by decide) rfl rfl (Nat.le_of_ble_eq_true rfl) dL_law_431 hcs hsl ?_
  rintro o8 m9 ⟨r8, rfl, hr9, hR9⟩
  refine n_icmp_eq C (tgt := 1674) dL_law_434 (by decide) hr9 ?_
  exact kk _ _ hR9
theorem lw_k5 {p : Program} {l : Launch} {e : Env} {R : Room} {s : State} {m : MethodId} {args : Array Value} {below : List Frame} {meth : Method} {c : Code} {G : Gp} {A : Nat → Prop} {Q : State → Prop} {cs sl mc ms : Nat} {Mt : Prop} {b L : Nat} {xs : Nat → Int32} {aC aM : Nat → Nat} {sc sm : St} {i : Int32} (C : CxN p R s m args meth c G A cL_law 4 20 RL mc ms Mt) (hX : va_X b L xs s s.heap) (hbl : b < s.heap.size) (hbA : ¬ A b) (hjC : Dj shC (G.1, G.2.1, aC)) (hjM : Dj shM (G.1, G.2.1, aM)) (hcs : cs ≤ mc) (hsl : sl ≤ ms) (h1 : vp_in (i + 1) L) (h2 : vp_in (i + 2) L) (h3 : vp_in (i + 3) L) (h4 : vp_in (i + 4) L) (h5 : vp_in (i + 5) L) (h : Rel sc sm) (kk : ∀ c9 m9, Rel c9 m9 → GoN p l e R s m args below meth c G A 4 cs sl Q 1674 [(3, .int i), (2, .ref (aM 0)), (1, .ref (aC 0)), (0, .ref b)] [] (wsOf shC (G.1, G.2.1, aC) c9 ++ wsOf shM (G.1, G.2.1, aM) m9)) : GoN p l e R s m args below meth c G A 4 cs sl Q 439 [(3, .int i), (2, .ref (aM 0)), (1, .ref (aC 0)), (0, .ref b)] [] (wsOf shC (G.1, G.2.1, aC) sc ++ wsOf shM (G.1, G.2.1, aM) sm) := by
  refine n_aload_n C 2 dL_law_439 rfl rfl ?_
  refine n_aload_n C 3 dL_law_440 rfl rfl ?_
  refine n_iload_n C 0 dL_law_441 rfl rfl ?_
  refine n_iconst C (v := 1) dL_law_442 (by decide) ?_
  refine n_iadd C dL_law_443 ?_
  refine n_sld C hX hbl hbA h1 dL_law_444 ?_
  refine l_callC C (rest := []) rfl (M_X8_mean hjC (op_mean h (xs (i + 1).toNatClampNeg))) CyX8_mean tw_299 tw_300 tw_301 (by decide) rfl rfl (Nat.le_of_ble_eq_true rfl) dL_law_445 hcs hsl ?_
  rintro o9 c9 ⟨r9, rfl, hK9⟩
  refine n_aload_n C 1 dL_law_448 rfl rfl ?_
  refine n_aload_n C 3 dL_law_449 rfl rfl ?_
  refine n_iload_n C 0 dL_law_450 rfl rfl ?_
  refine n_iconst C (v := 1) dL_law_451 (by decide) ?_
  refine n_iadd C dL_law_452 ?_
  refine n_sld C hX hbl hbA h1 dL_law_453 ?_
  refine l_callM C (rest := [.int r9]) rfl (M_X9_mean hjM hK9) CyX9_mean tw_990 tw_991 tw_992 (by decide) rfl rfl (Nat.le_of_ble_eq_true rfl) dL_law_454 hcs hsl ?_
  rintro o8 m9 ⟨r8, rfl, hr9, hR9⟩
  refine n_icmp_eq C (tgt := 1674) dL_law_457 (by decide) hr9 ?_
  exact kk _ _ hR9
theorem lw_k6 {p : Program} {l : Launch} {e : Env} {R : Room} {s : State} {m : MethodId} {args : Array Value} {below : List Frame} {meth : Method} {c : Code} {G : Gp} {A : Nat → Prop} {Q : State → Prop} {cs sl mc ms : Nat} {Mt : Prop} {b L : Nat} {xs : Nat → Int32} {aC aM : Nat → Nat} {sc sm : St} {i : Int32} (C : CxN p R s m args meth c G A cL_law 4 20 RL mc ms Mt) (hX : va_X b L xs s s.heap) (hbl : b < s.heap.size) (hbA : ¬ A b) (hjC : Dj shC (G.1, G.2.1, aC)) (hjM : Dj shM (G.1, G.2.1, aM)) (hcs : cs ≤ mc) (hsl : sl ≤ ms) (h1 : vp_in (i + 1) L) (h2 : vp_in (i + 2) L) (h3 : vp_in (i + 3) L) (h4 : vp_in (i + 4) L) (h5 : vp_in (i + 5) L) (h : Rel sc sm) (kk : ∀ c9 m9, Rel c9 m9 → GoN p l e R s m args below meth c G A 4 cs sl Q 1674 [(3, .int i), (2, .ref (aM 0)), (1, .ref (aC 0)), (0, .ref b)] [] (wsOf shC (G.1, G.2.1, aC) c9 ++ wsOf shM (G.1, G.2.1, aM) m9)) : GoN p l e R s m args below meth c G A 4 cs sl Q 462 [(3, .int i), (2, .ref (aM 0)), (1, .ref (aC 0)), (0, .ref b)] [] (wsOf shC (G.1, G.2.1, aC) sc ++ wsOf shM (G.1, G.2.1, aM) sm) := by
  refine n_aload_n C 2 dL_law_462 rfl rfl ?_
  refine n_aload_n C 3 dL_law_463 rfl rfl ?_
  refine n_iload_n C 0 dL_law_464 rfl rfl ?_
  refine n_iconst C (v := 1) dL_law_465 (by decide) ?_
  refine n_iadd C dL_law_466 ?_
  refine n_sld C hX hbl hbA h1 dL_law_467 ?_
  refine n_aload_n C 3 dL_law_468 rfl rfl ?_
  refine n_iload_n C 0 dL_law_469 rfl rfl ?_
  refine n_iconst C (v := 2) dL_law_470 (by decide) ?_
  refine n_iadd C dL_law_471 ?_
  refine n_sld C hX hbl hbA h2 dL_law_472 ?_
  refine l_callC C (rest := []) rfl (M_X8_text hjC (op_text h (xs (i + 1).toNatClampNeg) (xs (i + 2).toNatClampNeg))) CyX8_text tw_303 tw_304 tw_305 (by decide) rfl rfl (Nat.le_of_ble_eq_true rfl) dL_law_473 hcs hsl ?_
  rintro o9 c9 ⟨r9, rfl, hK9⟩
  refine n_aload_n C 1 dL_law_476 rfl rfl ?_
  refine n_aload_n C 3 dL_law_477 rfl rfl ?_
  refine n_iload_n C 0 dL_law_478 rfl rfl ?_
  refine n_iconst C (v := 1) dL_law_479 (by decide) ?_
  refine n_iadd C dL_law_480 ?_
  refine n_sld C hX hbl hbA h1 dL_law_481 ?_
  refine n_aload_n C 3 dL_law_482 rfl rfl ?_
  refine n_iload_n C 0 dL_law_483 rfl rfl ?_
  refine n_iconst C (v := 2) dL_law_484 (by decide) ?_
  refine n_iadd C dL_law_485 ?_
  refine n_sld C hX hbl hbA h2 dL_law_486 ?_
  refine l_callM C (rest := [.int r9]) rfl (M_X9_text hjM hK9) CyX9_text tw_994 tw_995 tw_996 (by decide) rfl rfl (Nat.le_of_ble_eq_true rfl) dL_law_487 hcs hsl ?_
  rintro o8 m9 ⟨r8, rfl, hr9, hR9⟩
  refine n_icmp_eq C (tgt := 1674) dL_law_490 (by decide) hr9 ?_
  exact kk _ _ hR9
theorem lw_k7 {p : Program} {l : Launch} {e : Env} {R : Room} {s : State} {m : MethodId} {args : Array Value} {below : List Frame} {meth : Method} {c : Code} {G : Gp} {A : Nat → Prop} {Q : State → Prop} {cs sl mc ms : Nat} {Mt : Prop} {b L : Nat} {xs : Nat → Int32} {aC aM : Nat → Nat} {sc sm : St} {i : Int32} (C : CxN p R s m args meth c G A cL_law 4 20 RL mc ms Mt) (hX : va_X b L xs s s.heap) (hbl : b < s.heap.size) (hbA : ¬ A b) (hjC : Dj shC (G.1, G.2.1, aC)) (hjM : Dj shM (G.1, G.2.1, aM)) (hcs : cs ≤ mc) (hsl : sl ≤ ms) (h1 : vp_in (i + 1) L) (h2 : vp_in (i + 2) L) (h3 : vp_in (i + 3) L) (h4 : vp_in (i + 4) L) (h5 : vp_in (i + 5) L) (h : Rel sc sm) (kk : ∀ c9 m9, Rel c9 m9 → GoN p l e R s m args below meth c G A 4 cs sl Q 1674 [(3, .int i), (2, .ref (aM 0)), (1, .ref (aC 0)), (0, .ref b)] [] (wsOf shC (G.1, G.2.1, aC) c9 ++ wsOf shM (G.1, G.2.1, aM) m9)) : GoN p l e R s m args below meth c G A 4 cs sl Q 495 [(3, .int i), (2, .ref (aM 0)), (1, .ref (aC 0)), (0, .ref b)] [] (wsOf shC (G.1, G.2.1, aC) sc ++ wsOf shM (G.1, G.2.1, aM) sm) := by
  refine n_aload_n C 2 dL_law_495 rfl rfl ?_
  refine n_aload_n C 3 dL_law_496 rfl rfl ?_
  refine n_iload_n C 0 dL_law_497 rfl rfl ?_
  refine n_iconst C (v := 1) dL_law_498 (by decide) ?_
  refine n_iadd C dL_law_499 ?_
  refine n_sld C hX hbl hbA h1 dL_law_500 ?_
  refine n_aload_n C 3 dL_law_501 rfl rfl ?_
  refine n_iload_n C 0 dL_law_502 rfl rfl ?_
  refine n_iconst C (v := 2) dL_law_503 (by decide) ?_
  refine n_iadd C dL_law_504 ?_
  refine n_sld C hX hbl hbA h2 dL_law_505 ?_
  refine n_aload_n C 3 dL_law_506 rfl rfl ?_
  refine n_iload_n C 0 dL_law_507 rfl rfl ?_
  refine n_iconst C (v := 3) dL_law_508 (by decide) ?_
  refine n_iadd C dL_law_509 ?_
  refine n_sld C hX hbl hbA h3 dL_law_510 ?_
  refine l_callC C (rest := []) rfl (M_X8_put hjC (op_put h (xs (i + 1).toNatClampNeg) (xs (i + 2).toNatClampNeg) (xs (i + 3).toNatClampNeg))) CyX8_put tw_310 tw_311 tw_312 (by decide) rfl rfl (Nat.le_of_ble_eq_true rfl) dL_law_511 hcs hsl ?_
  rintro o9 c9 ⟨r9, rfl, hK9⟩
  refine n_aload_n C 1 dL_law_514 rfl rfl ?_
  refine n_aload_n C 3 dL_law_515 rfl rfl ?_
  refine n_iload_n C 0 dL_law_516 rfl rfl ?_
  refine n_iconst C (v := 1) dL_law_517 (by decide) ?_
  refine n_iadd C dL_law_518 ?_
  refine n_sld C hX hbl hbA h1 dL_law_519 ?_
  refine n_aload_n C 3 dL_law_520 rfl rfl ?_
  refine n_iload_n C 0 dL_law_521 rfl rfl ?_
  refine n_iconst C (v := 2) dL_law_522 (by decide) ?_
  refine n_iadd C dL_law_523 ?_
  refine n_sld C hX hbl hbA h2 dL_law_524 ?_
  refine n_aload_n C 3 dL_law_525 rfl rfl ?_
  refine n_iload_n C 0 dL_law_526 rfl rfl ?_
  refine n_iconst C (v := 3) dL_law_527 (by decide) ?_
  refine n_iadd C dL_law_528 ?_
  refine n_sld C hX hbl hbA h3 dL_law_529 ?_
  refine l_callM C (rest := [.int r9]) rfl (M_X9_put hjM hK9) CyX9_put tw_1002 tw_1003 tw_1004 (by decide) rfl rfl (Nat.le_of_ble_eq_true rfl) dL_law_530 hcs hsl ?_
  rintro o8 m9 ⟨r8, rfl, hr9, hR9⟩
  refine n_icmp_eq C (tgt := 1674) dL_law_533 (by decide) hr9 ?_
  exact kk _ _ hR9
theorem lw_k8 {p : Program} {l : Launch} {e : Env} {R : Room} {s : State} {m : MethodId} {args : Array Value} {below : List Frame} {meth : Method} {c : Code} {G : Gp} {A : Nat → Prop} {Q : State → Prop} {cs sl mc ms : Nat} {Mt : Prop} {b L : Nat} {xs : Nat → Int32} {aC aM : Nat → Nat} {sc sm : St} {i : Int32} (C : CxN p R s m args meth c G A cL_law 4 20 RL mc ms Mt) (hX : va_X b L xs s s.heap) (hbl : b < s.heap.size) (hbA : ¬ A b) (hjC : Dj shC (G.1, G.2.1, aC)) (hjM : Dj shM (G.1, G.2.1, aM)) (hcs : cs ≤ mc) (hsl : sl ≤ ms) (h1 : vp_in (i + 1) L) (h2 : vp_in (i + 2) L) (h3 : vp_in (i + 3) L) (h4 : vp_in (i + 4) L) (h5 : vp_in (i + 5) L) (h : Rel sc sm) (kk : ∀ c9 m9, Rel c9 m9 → GoN p l e R s m args below meth c G A 4 cs sl Q 1674 [(3, .int i), (2, .ref (aM 0)), (1, .ref (aC 0)), (0, .ref b)] [] (wsOf shC (G.1, G.2.1, aC) c9 ++ wsOf shM (G.1, G.2.1, aM) m9)) : GoN p l e R s m args below meth c G A 4 cs sl Q 538 [(3, .int i), (2, .ref (aM 0)), (1, .ref (aC 0)), (0, .ref b)] [] (wsOf shC (G.1, G.2.1, aC) sc ++ wsOf shM (G.1, G.2.1, aM) sm) := by
  refine n_aload_n C 2 dL_law_538 rfl rfl ?_
  refine n_aload_n C 3 dL_law_539 rfl rfl ?_
  refine n_iload_n C 0 dL_law_540 rfl rfl ?_
  refine n_iconst C (v := 1) dL_law_541 (by decide) ?_
  refine n_iadd C dL_law_542 ?_
  refine n_sld C hX hbl hbA h1 dL_law_543 ?_
  refine l_callC C (rest := []) rfl (M_X8_fault hjC (op_fault h (xs (i + 1).toNatClampNeg))) CyX8_fault tw_314 tw_315 tw_316 (by decide) rfl rfl (Nat.le_of_ble_eq_true rfl) dL_law_544 hcs hsl ?_
  rintro o9 c9 ⟨r9, rfl, hK9⟩
  refine n_aload_n C 1 dL_law_547 rfl rfl ?_
  refine n_aload_n C 3 dL_law_548 rfl rfl ?_
  refine n_iload_n C 0 dL_law_549 rfl rfl ?_
  refine n_iconst C (v := 1) dL_law_550 (by decide) ?_
  refine n_iadd C dL_law_551 ?_
  refine n_sld C hX hbl hbA h1 dL_law_552 ?_
  refine l_callM C (rest := [.int r9]) rfl (M_X9_fault hjM hK9) CyX9_fault tw_1006 tw_1007 tw_1008 (by decide) rfl rfl (Nat.le_of_ble_eq_true rfl) dL_law_553 hcs hsl ?_
  rintro o8 m9 ⟨r8, rfl, hr9, hR9⟩
  refine n_icmp_eq C (tgt := 1674) dL_law_556 (by decide) hr9 ?_
  exact kk _ _ hR9
theorem lw_k9 {p : Program} {l : Launch} {e : Env} {R : Room} {s : State} {m : MethodId} {args : Array Value} {below : List Frame} {meth : Method} {c : Code} {G : Gp} {A : Nat → Prop} {Q : State → Prop} {cs sl mc ms : Nat} {Mt : Prop} {b L : Nat} {xs : Nat → Int32} {aC aM : Nat → Nat} {sc sm : St} {i : Int32} (C : CxN p R s m args meth c G A cL_law 4 20 RL mc ms Mt) (hX : va_X b L xs s s.heap) (hbl : b < s.heap.size) (hbA : ¬ A b) (hjC : Dj shC (G.1, G.2.1, aC)) (hjM : Dj shM (G.1, G.2.1, aM)) (hcs : cs ≤ mc) (hsl : sl ≤ ms) (h1 : vp_in (i + 1) L) (h2 : vp_in (i + 2) L) (h3 : vp_in (i + 3) L) (h4 : vp_in (i + 4) L) (h5 : vp_in (i + 5) L) (h : Rel sc sm) (kk : ∀ c9 m9, Rel c9 m9 → GoN p l e R s m args below meth c G A 4 cs sl Q 1674 [(3, .int i), (2, .ref (aM 0)), (1, .ref (aC 0)), (0, .ref b)] [] (wsOf shC (G.1, G.2.1, aC) c9 ++ wsOf shM (G.1, G.2.1, aM) m9)) : GoN p l e R s m args below meth c G A 4 cs sl Q 561 [(3, .int i), (2, .ref (aM 0)), (1, .ref (aC 0)), (0, .ref b)] [] (wsOf shC (G.1, G.2.1, aC) sc ++ wsOf shM (G.1, G.2.1, aM) sm) := by
  refine n_aload_n C 2 dL_law_561 rfl rfl ?_
  refine n_aload_n C 3 dL_law_562 rfl rfl ?_
  refine n_iload_n C 0 dL_law_563 rfl rfl ?_
  refine n_iconst C (v := 1) dL_law_564 (by decide) ?_
  refine n_iadd C dL_law_565 ?_
  refine n_sld C hX hbl hbA h1 dL_law_566 ?_
  refine l_callC C (rest := []) rfl (M_X8_tower hjC (op_tower h (xs (i + 1).toNatClampNeg))) CyX8_tower tw_364 tw_365 tw_366 (by decide) rfl rfl (Nat.le_of_ble_eq_true rfl) dL_law_567 hcs hsl ?_
  rintro o9 c9 ⟨r9, rfl, hK9⟩
  refine n_aload_n C 1 dL_law_570 rfl rfl ?_
  refine n_aload_n C 3 dL_law_571 rfl rfl ?_
  refine n_iload_n C 0 dL_law_572 rfl rfl ?_
  refine n_iconst C (v := 1) dL_law_573 (by decide) ?_
  refine n_iadd C dL_law_574 ?_
  refine n_sld C hX hbl hbA h1 dL_law_575 ?_
  refine l_callM C (rest := [.int r9]) rfl (M_X9_tower hjM hK9) CyX9_tower tw_1033 tw_1034 tw_1035 (by decide) rfl rfl (Nat.le_of_ble_eq_true rfl) dL_law_576 hcs hsl ?_
  rintro o8 m9 ⟨r8, rfl, hr9, hR9⟩
  refine n_icmp_eq C (tgt := 1674) dL_law_579 (by decide) hr9 ?_
  exact kk _ _ hR9
theorem lw_k10 {p : Program} {l : Launch} {e : Env} {R : Room} {s : State} {m : MethodId} {args : Array Value} {below : List Frame} {meth : Method} {c : Code} {G : Gp} {A : Nat → Prop} {Q : State → Prop} {cs sl mc ms : Nat} {Mt : Prop} {b L : Nat} {xs : Nat → Int32} {aC aM : Nat → Nat} {sc sm : St} {i : Int32} (C : CxN p R s m args meth c G A cL_law 4 20 RL mc ms Mt) (hX : va_X b L xs s s.heap) (hbl : b < s.heap.size) (hbA : ¬ A b) (hjC : Dj shC (G.1, G.2.1, aC)) (hjM : Dj shM (G.1, G.2.1, aM)) (hcs : cs ≤ mc) (hsl : sl ≤ ms) (h1 : vp_in (i + 1) L) (h2 : vp_in (i + 2) L) (h3 : vp_in (i + 3) L) (h4 : vp_in (i + 4) L) (h5 : vp_in (i + 5) L) (h : Rel sc sm) (kk : ∀ c9 m9, Rel c9 m9 → GoN p l e R s m args below meth c G A 4 cs sl Q 1674 [(3, .int i), (2, .ref (aM 0)), (1, .ref (aC 0)), (0, .ref b)] [] (wsOf shC (G.1, G.2.1, aC) c9 ++ wsOf shM (G.1, G.2.1, aM) m9)) : GoN p l e R s m args below meth c G A 4 cs sl Q 584 [(3, .int i), (2, .ref (aM 0)), (1, .ref (aC 0)), (0, .ref b)] [] (wsOf shC (G.1, G.2.1, aC) sc ++ wsOf shM (G.1, G.2.1, aM) sm) := by
  refine n_aload_n C 2 dL_law_584 rfl rfl ?_
  refine n_aload_n C 3 dL_law_585 rfl rfl ?_
  refine n_iload_n C 0 dL_law_586 rfl rfl ?_
  refine n_iconst C (v := 1) dL_law_587 (by decide) ?_
  refine n_iadd C dL_law_588 ?_
  refine n_sld C hX hbl hbA h1 dL_law_589 ?_
  refine n_aload_n C 3 dL_law_590 rfl rfl ?_
  refine n_iload_n C 0 dL_law_591 rfl rfl ?_
  refine n_iconst C (v := 2) dL_law_592 (by decide) ?_
  refine n_iadd C dL_law_593 ?_
  refine n_sld C hX hbl hbA h2 dL_law_594 ?_
  refine l_callC C (rest := []) rfl (M_X8_bell hjC (op_bell h (xs (i + 1).toNatClampNeg) (xs (i + 2).toNatClampNeg))) CyX8_bell tw_377 tw_378 tw_379 (by decide) rfl rfl (Nat.le_of_ble_eq_true rfl) dL_law_595 hcs hsl ?_
  rintro o9 c9 ⟨r9, rfl, hK9⟩
  refine n_aload_n C 1 dL_law_598 rfl rfl ?_
  refine n_aload_n C 3 dL_law_599 rfl rfl ?_
  refine n_iload_n C 0 dL_law_600 rfl rfl ?_
  refine n_iconst C (v := 1) dL_law_601 (by decide) ?_
  refine n_iadd C dL_law_602 ?_
  refine n_sld C hX hbl hbA h1 dL_law_603 ?_
  refine n_aload_n C 3 dL_law_604 rfl rfl ?_
  refine n_iload_n C 0 dL_law_605 rfl rfl ?_
  refine n_iconst C (v := 2) dL_law_606 (by decide) ?_
  refine n_iadd C dL_law_607 ?_
  refine n_sld C hX hbl hbA h2 dL_law_608 ?_
  refine l_callM C (rest := [.int r9]) rfl (M_X9_bell hjM hK9) CyX9_bell tw_1041 tw_1042 tw_1043 (by decide) rfl rfl (Nat.le_of_ble_eq_true rfl) dL_law_609 hcs hsl ?_
  rintro o8 m9 ⟨r8, rfl, hr9, hR9⟩
  refine n_icmp_eq C (tgt := 1674) dL_law_612 (by decide) hr9 ?_
  exact kk _ _ hR9
theorem lw_k11 {p : Program} {l : Launch} {e : Env} {R : Room} {s : State} {m : MethodId} {args : Array Value} {below : List Frame} {meth : Method} {c : Code} {G : Gp} {A : Nat → Prop} {Q : State → Prop} {cs sl mc ms : Nat} {Mt : Prop} {b L : Nat} {xs : Nat → Int32} {aC aM : Nat → Nat} {sc sm : St} {i : Int32} (C : CxN p R s m args meth c G A cL_law 4 20 RL mc ms Mt) (hX : va_X b L xs s s.heap) (hbl : b < s.heap.size) (hbA : ¬ A b) (hjC : Dj shC (G.1, G.2.1, aC)) (hjM : Dj shM (G.1, G.2.1, aM)) (hcs : cs ≤ mc) (hsl : sl ≤ ms) (h1 : vp_in (i + 1) L) (h2 : vp_in (i + 2) L) (h3 : vp_in (i + 3) L) (h4 : vp_in (i + 4) L) (h5 : vp_in (i + 5) L) (h : Rel sc sm) (kk : ∀ c9 m9, Rel c9 m9 → GoN p l e R s m args below meth c G A 4 cs sl Q 1674 [(3, .int i), (2, .ref (aM 0)), (1, .ref (aC 0)), (0, .ref b)] [] (wsOf shC (G.1, G.2.1, aC) c9 ++ wsOf shM (G.1, G.2.1, aM) m9)) : GoN p l e R s m args below meth c G A 4 cs sl Q 617 [(3, .int i), (2, .ref (aM 0)), (1, .ref (aC 0)), (0, .ref b)] [] (wsOf shC (G.1, G.2.1, aC) sc ++ wsOf shM (G.1, G.2.1, aM) sm) := by
  refine n_aload_n C 2 dL_law_617 rfl rfl ?_
  refine n_aload_n C 3 dL_law_618 rfl rfl ?_
  refine n_iload_n C 0 dL_law_619 rfl rfl ?_
  refine n_iconst C (v := 1) dL_law_620 (by decide) ?_
  refine n_iadd C dL_law_621 ?_
  refine n_sld C hX hbl hbA h1 dL_law_622 ?_
  refine n_aload_n C 3 dL_law_623 rfl rfl ?_
  refine n_iload_n C 0 dL_law_624 rfl rfl ?_
  refine n_iconst C (v := 2) dL_law_625 (by decide) ?_
  refine n_iadd C dL_law_626 ?_
  refine n_sld C hX hbl hbA h2 dL_law_627 ?_
  refine l_callC C (rest := []) rfl (M_X8_mark hjC (op_mark h (xs (i + 1).toNatClampNeg) (xs (i + 2).toNatClampNeg))) CyX8_mark tw_389 tw_390 tw_391 (by decide) rfl rfl (Nat.le_of_ble_eq_true rfl) dL_law_628 hcs hsl ?_
  rintro o9 c9 ⟨r9, rfl, hK9⟩
  refine n_aload_n C 1 dL_law_631 rfl rfl ?_
  refine n_aload_n C 3 dL_law_632 rfl rfl ?_
  refine n_iload_n C 0 dL_law_633 rfl rfl ?_
  refine n_iconst C (v := 1) dL_law_634 (by decide) ?_
  refine n_iadd C dL_law_635 ?_
  refine n_sld C hX hbl hbA h1 dL_law_636 ?_
  refine n_aload_n C 3 dL_law_637 rfl rfl ?_
  refine n_iload_n C 0 dL_law_638 rfl rfl ?_
  refine n_iconst C (v := 2) dL_law_639 (by decide) ?_
  refine n_iadd C dL_law_640 ?_
  refine n_sld C hX hbl hbA h2 dL_law_641 ?_
  refine l_callM C (rest := [.int r9]) rfl (M_X9_mark hjM hK9) CyX9_mark tw_1053 tw_1054 tw_1055 (by decide) rfl rfl (Nat.le_of_ble_eq_true rfl) dL_law_642 hcs hsl ?_
  rintro o8 m9 ⟨r8, rfl, hr9, hR9⟩
  refine n_icmp_eq C (tgt := 1674) dL_law_645 (by decide) hr9 ?_
  exact kk _ _ hR9
theorem lw_k12 {p : Program} {l : Launch} {e : Env} {R : Room} {s : State} {m : MethodId} {args : Array Value} {below : List Frame} {meth : Method} {c : Code} {G : Gp} {A : Nat → Prop} {Q : State → Prop} {cs sl mc ms : Nat} {Mt : Prop} {b L : Nat} {xs : Nat → Int32} {aC aM : Nat → Nat} {sc sm : St} {i : Int32} (C : CxN p R s m args meth c G A cL_law 4 20 RL mc ms Mt) (hX : va_X b L xs s s.heap) (hbl : b < s.heap.size) (hbA : ¬ A b) (hjC : Dj shC (G.1, G.2.1, aC)) (hjM : Dj shM (G.1, G.2.1, aM)) (hcs : cs ≤ mc) (hsl : sl ≤ ms) (h1 : vp_in (i + 1) L) (h2 : vp_in (i + 2) L) (h3 : vp_in (i + 3) L) (h4 : vp_in (i + 4) L) (h5 : vp_in (i + 5) L) (h : Rel sc sm) (kk : ∀ c9 m9, Rel c9 m9 → GoN p l e R s m args below meth c G A 4 cs sl Q 1674 [(3, .int i), (2, .ref (aM 0)), (1, .ref (aC 0)), (0, .ref b)] [] (wsOf shC (G.1, G.2.1, aC) c9 ++ wsOf shM (G.1, G.2.1, aM) m9)) : GoN p l e R s m args below meth c G A 4 cs sl Q 650 [(3, .int i), (2, .ref (aM 0)), (1, .ref (aC 0)), (0, .ref b)] [] (wsOf shC (G.1, G.2.1, aC) sc ++ wsOf shM (G.1, G.2.1, aM) sm) := by
  refine n_aload_n C 2 dL_law_650 rfl rfl ?_
  refine n_aload_n C 3 dL_law_651 rfl rfl ?_
  refine n_iload_n C 0 dL_law_652 rfl rfl ?_
  refine n_iconst C (v := 1) dL_law_653 (by decide) ?_
  refine n_iadd C dL_law_654 ?_
  refine n_sld C hX hbl hbA h1 dL_law_655 ?_
  refine l_callC C (rest := []) rfl (M_X8_damp hjC (op_damp h (xs (i + 1).toNatClampNeg))) CyX8_damp tw_424 tw_425 tw_426 (by decide) rfl rfl (Nat.le_of_ble_eq_true rfl) dL_law_656 hcs hsl ?_
  rintro o9 c9 ⟨r9, rfl, hK9⟩
  refine n_aload_n C 1 dL_law_659 rfl rfl ?_
  refine n_aload_n C 3 dL_law_660 rfl rfl ?_
  refine n_iload_n C 0 dL_law_661 rfl rfl ?_
  refine n_iconst C (v := 1) dL_law_662 (by decide) ?_
  refine n_iadd C dL_law_663 ?_
  refine n_sld C hX hbl hbA h1 dL_law_664 ?_
  refine l_callM C (rest := [.int r9]) rfl (M_X9_damp hjM hK9) CyX9_damp tw_1077 tw_1078 tw_1079 (by decide) rfl rfl (Nat.le_of_ble_eq_true rfl) dL_law_665 hcs hsl ?_
  rintro o8 m9 ⟨r8, rfl, hr9, hR9⟩
  refine n_icmp_eq C (tgt := 1674) dL_law_668 (by decide) hr9 ?_
  exact kk _ _ hR9
theorem lw_k13 {p : Program} {l : Launch} {e : Env} {R : Room} {s : State} {m : MethodId} {args : Array Value} {below : List Frame} {meth : Method} {c : Code} {G : Gp} {A : Nat → Prop} {Q : State → Prop} {cs sl mc ms : Nat} {Mt : Prop} {b L : Nat} {xs : Nat → Int32} {aC aM : Nat → Nat} {sc sm : St} {i : Int32} (C : CxN p R s m args meth c G A cL_law 4 20 RL mc ms Mt) (hX : va_X b L xs s s.heap) (hbl : b < s.heap.size) (hbA : ¬ A b) (hjC : Dj shC (G.1, G.2.1, aC)) (hjM : Dj shM (G.1, G.2.1, aM)) (hcs : cs ≤ mc) (hsl : sl ≤ ms) (h1 : vp_in (i + 1) L) (h2 : vp_in (i + 2) L) (h3 : vp_in (i + 3) L) (h4 : vp_in (i + 4) L) (h5 : vp_in (i + 5) L) (h : Rel sc sm) (kk : ∀ c9 m9, Rel c9 m9 → GoN p l e R s m args below meth c G A 4 cs sl Q 1674 [(3, .int i), (2, .ref (aM 0)), (1, .ref (aC 0)), (0, .ref b)] [] (wsOf shC (G.1, G.2.1, aC) c9 ++ wsOf shM (G.1, G.2.1, aM) m9)) : GoN p l e R s m args below meth c G A 4 cs sl Q 673 [(3, .int i), (2, .ref (aM 0)), (1, .ref (aC 0)), (0, .ref b)] [] (wsOf shC (G.1, G.2.1, aC) sc ++ wsOf shM (G.1, G.2.1, aM) sm) := by
  refine n_aload_n C 2 dL_law_673 rfl rfl ?_
  refine n_aload_n C 3 dL_law_674 rfl rfl ?_
  refine n_iload_n C 0 dL_law_675 rfl rfl ?_
  refine n_iconst C (v := 1) dL_law_676 (by decide) ?_
  refine n_iadd C dL_law_677 ?_
  refine n_sld C hX hbl hbA h1 dL_law_678 ?_
  refine n_aload_n C 3 dL_law_679 rfl rfl ?_
  refine n_iload_n C 0 dL_law_680 rfl rfl ?_
  refine n_iconst C (v := 2) dL_law_681 (by decide) ?_
  refine n_iadd C dL_law_682 ?_
  refine n_sld C hX hbl hbA h2 dL_law_683 ?_
  refine l_callC C (rest := []) rfl (M_X8_stroke hjC (op_stroke h (xs (i + 1).toNatClampNeg) (xs (i + 2).toNatClampNeg))) CyX8_stroke tw_428 tw_429 tw_430 (by decide) rfl rfl (Nat.le_of_ble_eq_true rfl) dL_law_684 hcs hsl ?_
  rintro o9 c9 ⟨r9, rfl, hK9⟩
  refine n_aload_n C 1 dL_law_687 rfl rfl ?_
  refine n_aload_n C 3 dL_law_688 rfl rfl ?_
  refine n_iload_n C 0 dL_law_689 rfl rfl ?_
  refine n_iconst C (v := 1) dL_law_690 (by decide) ?_
  refine n_iadd C dL_law_691 ?_
  refine n_sld C hX hbl hbA h1 dL_law_692 ?_
  refine n_aload_n C 3 dL_law_693 rfl rfl ?_
  refine n_iload_n C 0 dL_law_694 rfl rfl ?_
  refine n_iconst C (v := 2) dL_law_695 (by decide) ?_
  refine n_iadd C dL_law_696 ?_
  refine n_sld C hX hbl hbA h2 dL_law_697 ?_
  refine l_callM C (rest := [.int r9]) rfl (M_X9_stroke hjM hK9) CyX9_stroke tw_1081 tw_1082 tw_1083 (by decide) rfl rfl (Nat.le_of_ble_eq_true rfl) dL_law_698 hcs hsl ?_
  rintro o8 m9 ⟨r8, rfl, hr9, hR9⟩
  refine n_icmp_eq C (tgt := 1674) dL_law_701 (by decide) hr9 ?_
  exact kk _ _ hR9
theorem lw_k14 {p : Program} {l : Launch} {e : Env} {R : Room} {s : State} {m : MethodId} {args : Array Value} {below : List Frame} {meth : Method} {c : Code} {G : Gp} {A : Nat → Prop} {Q : State → Prop} {cs sl mc ms : Nat} {Mt : Prop} {b L : Nat} {xs : Nat → Int32} {aC aM : Nat → Nat} {sc sm : St} {i : Int32} (C : CxN p R s m args meth c G A cL_law 4 20 RL mc ms Mt) (hX : va_X b L xs s s.heap) (hbl : b < s.heap.size) (hbA : ¬ A b) (hjC : Dj shC (G.1, G.2.1, aC)) (hjM : Dj shM (G.1, G.2.1, aM)) (hcs : cs ≤ mc) (hsl : sl ≤ ms) (h1 : vp_in (i + 1) L) (h2 : vp_in (i + 2) L) (h3 : vp_in (i + 3) L) (h4 : vp_in (i + 4) L) (h5 : vp_in (i + 5) L) (h : Rel sc sm) (kk : ∀ c9 m9, Rel c9 m9 → GoN p l e R s m args below meth c G A 4 cs sl Q 1674 [(3, .int i), (2, .ref (aM 0)), (1, .ref (aC 0)), (0, .ref b)] [] (wsOf shC (G.1, G.2.1, aC) c9 ++ wsOf shM (G.1, G.2.1, aM) m9)) : GoN p l e R s m args below meth c G A 4 cs sl Q 706 [(3, .int i), (2, .ref (aM 0)), (1, .ref (aC 0)), (0, .ref b)] [] (wsOf shC (G.1, G.2.1, aC) sc ++ wsOf shM (G.1, G.2.1, aM) sm) := by
  refine n_aload_n C 2 dL_law_706 rfl rfl ?_
  refine n_aload_n C 3 dL_law_707 rfl rfl ?_
  refine n_iload_n C 0 dL_law_708 rfl rfl ?_
  refine n_iconst C (v := 1) dL_law_709 (by decide) ?_
  refine n_iadd C dL_law_710 ?_
  refine n_sld C hX hbl hbA h1 dL_law_711 ?_
  refine l_callC C (rest := []) rfl (M_X8_round hjC (op_round h (xs (i + 1).toNatClampNeg))) CyX8_round tw_463 tw_464 tw_465 (by decide) rfl rfl (Nat.le_of_ble_eq_true rfl) dL_law_712 hcs hsl ?_
  rintro o9 c9 ⟨r9, rfl, hK9⟩
  refine n_aload_n C 1 dL_law_715 rfl rfl ?_
  refine n_aload_n C 3 dL_law_716 rfl rfl ?_
  refine n_iload_n C 0 dL_law_717 rfl rfl ?_
  refine n_iconst C (v := 1) dL_law_718 (by decide) ?_
  refine n_iadd C dL_law_719 ?_
  refine n_sld C hX hbl hbA h1 dL_law_720 ?_
  refine l_callM C (rest := [.int r9]) rfl (M_X9_round hjM hK9) CyX9_round tw_1101 tw_1102 tw_1103 (by decide) rfl rfl (Nat.le_of_ble_eq_true rfl) dL_law_721 hcs hsl ?_
  rintro o8 m9 ⟨r8, rfl, hr9, hR9⟩
  refine n_icmp_eq C (tgt := 1674) dL_law_724 (by decide) hr9 ?_
  exact kk _ _ hR9
theorem lw_k15 {p : Program} {l : Launch} {e : Env} {R : Room} {s : State} {m : MethodId} {args : Array Value} {below : List Frame} {meth : Method} {c : Code} {G : Gp} {A : Nat → Prop} {Q : State → Prop} {cs sl mc ms : Nat} {Mt : Prop} {b L : Nat} {xs : Nat → Int32} {aC aM : Nat → Nat} {sc sm : St} {i : Int32} (C : CxN p R s m args meth c G A cL_law 4 20 RL mc ms Mt) (hX : va_X b L xs s s.heap) (hbl : b < s.heap.size) (hbA : ¬ A b) (hjC : Dj shC (G.1, G.2.1, aC)) (hjM : Dj shM (G.1, G.2.1, aM)) (hcs : cs ≤ mc) (hsl : sl ≤ ms) (h1 : vp_in (i + 1) L) (h2 : vp_in (i + 2) L) (h3 : vp_in (i + 3) L) (h4 : vp_in (i + 4) L) (h5 : vp_in (i + 5) L) (h : Rel sc sm) (kk : ∀ c9 m9, Rel c9 m9 → GoN p l e R s m args below meth c G A 4 cs sl Q 1674 [(3, .int i), (2, .ref (aM 0)), (1, .ref (aC 0)), (0, .ref b)] [] (wsOf shC (G.1, G.2.1, aC) c9 ++ wsOf shM (G.1, G.2.1, aM) m9)) : GoN p l e R s m args below meth c G A 4 cs sl Q 729 [(3, .int i), (2, .ref (aM 0)), (1, .ref (aC 0)), (0, .ref b)] [] (wsOf shC (G.1, G.2.1, aC) sc ++ wsOf shM (G.1, G.2.1, aM) sm) := by
  refine n_aload_n C 2 dL_law_729 rfl rfl ?_
  refine n_aload_n C 3 dL_law_730 rfl rfl ?_
  refine n_iload_n C 0 dL_law_731 rfl rfl ?_
  refine n_iconst C (v := 1) dL_law_732 (by decide) ?_
  refine n_iadd C dL_law_733 ?_
  refine n_sld C hX hbl hbA h1 dL_law_734 ?_
  refine l_callC C (rest := []) rfl (M_X8_mend hjC (op_mend h (xs (i + 1).toNatClampNeg))) CyX8_mend tw_499 tw_500 tw_501 (by decide) rfl rfl (Nat.le_of_ble_eq_true rfl) dL_law_735 hcs hsl ?_
  rintro o9 c9 ⟨r9, rfl, hK9⟩
  refine n_aload_n C 1 dL_law_738 rfl rfl ?_
  refine n_aload_n C 3 dL_law_739 rfl rfl ?_
  refine n_iload_n C 0 dL_law_740 rfl rfl ?_
  refine n_iconst C (v := 1) dL_law_741 (by decide) ?_
  refine n_iadd C dL_law_742 ?_
  refine n_sld C hX hbl hbA h1 dL_law_743 ?_
  refine l_callM C (rest := [.int r9]) rfl (M_X9_mend hjM hK9) CyX9_mend tw_1121 tw_1122 tw_1123 (by decide) rfl rfl (Nat.le_of_ble_eq_true rfl) dL_law_744 hcs hsl ?_
  rintro o8 m9 ⟨r8, rfl, hr9, hR9⟩
  refine n_icmp_eq C (tgt := 1674) dL_law_747 (by decide) hr9 ?_
  exact kk _ _ hR9
theorem lw_k16 {p : Program} {l : Launch} {e : Env} {R : Room} {s : State} {m : MethodId} {args : Array Value} {below : List Frame} {meth : Method} {c : Code} {G : Gp} {A : Nat → Prop} {Q : State → Prop} {cs sl mc ms : Nat} {Mt : Prop} {b L : Nat} {xs : Nat → Int32} {aC aM : Nat → Nat} {sc sm : St} {i : Int32} (C : CxN p R s m args meth c G A cL_law 4 20 RL mc ms Mt) (hX : va_X b L xs s s.heap) (hbl : b < s.heap.size) (hbA : ¬ A b) (hjC : Dj shC (G.1, G.2.1, aC)) (hjM : Dj shM (G.1, G.2.1, aM)) (hcs : cs ≤ mc) (hsl : sl ≤ ms) (h1 : vp_in (i + 1) L) (h2 : vp_in (i + 2) L) (h3 : vp_in (i + 3) L) (h4 : vp_in (i + 4) L) (h5 : vp_in (i + 5) L) (h : Rel sc sm) (kk : ∀ c9 m9, Rel c9 m9 → GoN p l e R s m args below meth c G A 4 cs sl Q 1674 [(3, .int i), (2, .ref (aM 0)), (1, .ref (aC 0)), (0, .ref b)] [] (wsOf shC (G.1, G.2.1, aC) c9 ++ wsOf shM (G.1, G.2.1, aM) m9)) : GoN p l e R s m args below meth c G A 4 cs sl Q 752 [(3, .int i), (2, .ref (aM 0)), (1, .ref (aC 0)), (0, .ref b)] [] (wsOf shC (G.1, G.2.1, aC) sc ++ wsOf shM (G.1, G.2.1, aM) sm) := by
  refine n_aload_n C 2 dL_law_752 rfl rfl ?_
  refine n_aload_n C 3 dL_law_753 rfl rfl ?_
  refine n_iload_n C 0 dL_law_754 rfl rfl ?_
  refine n_iconst C (v := 1) dL_law_755 (by decide) ?_
  refine n_iadd C dL_law_756 ?_
  refine n_sld C hX hbl hbA h1 dL_law_757 ?_
  refine l_callC C (rest := []) rfl (M_X8_undo hjC (op_undo h (xs (i + 1).toNatClampNeg))) CyX8_undo tw_506 tw_507 tw_508 (by decide) rfl rfl (Nat.le_of_ble_eq_true rfl) dL_law_758 hcs hsl ?_
  rintro o9 c9 ⟨r9, rfl, hK9⟩
  refine n_aload_n C 1 dL_law_761 rfl rfl ?_
  refine n_aload_n C 3 dL_law_762 rfl rfl ?_
  refine n_iload_n C 0 dL_law_763 rfl rfl ?_
  refine n_iconst C (v := 1) dL_law_764 (by decide) ?_
  refine n_iadd C dL_law_765 ?_
  refine n_sld C hX hbl hbA h1 dL_law_766 ?_
  refine l_callM C (rest := [.int r9]) rfl (M_X9_undo hjM hK9) CyX9_undo tw_1125 tw_1126 tw_1127 (by decide) rfl rfl (Nat.le_of_ble_eq_true rfl) dL_law_767 hcs hsl ?_
  rintro o8 m9 ⟨r8, rfl, hr9, hR9⟩
  refine n_icmp_eq C (tgt := 1674) dL_law_770 (by decide) hr9 ?_
  exact kk _ _ hR9
theorem lw_k17 {p : Program} {l : Launch} {e : Env} {R : Room} {s : State} {m : MethodId} {args : Array Value} {below : List Frame} {meth : Method} {c : Code} {G : Gp} {A : Nat → Prop} {Q : State → Prop} {cs sl mc ms : Nat} {Mt : Prop} {b L : Nat} {xs : Nat → Int32} {aC aM : Nat → Nat} {sc sm : St} {i : Int32} (C : CxN p R s m args meth c G A cL_law 4 20 RL mc ms Mt) (hX : va_X b L xs s s.heap) (hbl : b < s.heap.size) (hbA : ¬ A b) (hjC : Dj shC (G.1, G.2.1, aC)) (hjM : Dj shM (G.1, G.2.1, aM)) (hcs : cs ≤ mc) (hsl : sl ≤ ms) (h1 : vp_in (i + 1) L) (h2 : vp_in (i + 2) L) (h3 : vp_in (i + 3) L) (h4 : vp_in (i + 4) L) (h5 : vp_in (i + 5) L) (h : Rel sc sm) (kk : ∀ c9 m9, Rel c9 m9 → GoN p l e R s m args below meth c G A 4 cs sl Q 1674 [(3, .int i), (2, .ref (aM 0)), (1, .ref (aC 0)), (0, .ref b)] [] (wsOf shC (G.1, G.2.1, aC) c9 ++ wsOf shM (G.1, G.2.1, aM) m9)) : GoN p l e R s m args below meth c G A 4 cs sl Q 775 [(3, .int i), (2, .ref (aM 0)), (1, .ref (aC 0)), (0, .ref b)] [] (wsOf shC (G.1, G.2.1, aC) sc ++ wsOf shM (G.1, G.2.1, aM) sm) := by
  refine n_aload_n C 2 dL_law_775 rfl rfl ?_
  refine n_aload_n C 3 dL_law_776 rfl rfl ?_
  refine n_iload_n C 0 dL_law_777 rfl rfl ?_
  refine n_iconst C (v := 1) dL_law_778 (by decide) ?_
  refine n_iadd C dL_law_779 ?_
  refine n_sld C hX hbl hbA h1 dL_law_780 ?_
  refine l_callC C (rest := []) rfl (M_X8_keep hjC (op_keep h (xs (i + 1).toNatClampNeg))) CyX8_keep tw_517 tw_518 tw_519 (by decide) rfl rfl (Nat.le_of_ble_eq_true rfl) dL_law_781 hcs hsl ?_
  rintro o9 c9 ⟨r9, rfl, hK9⟩
  refine n_aload_n C 1 dL_law_784 rfl rfl ?_
  refine n_aload_n C 3 dL_law_785 rfl rfl ?_
  refine n_iload_n C 0 dL_law_786 rfl rfl ?_
  refine n_iconst C (v := 1) dL_law_787 (by decide) ?_
  refine n_iadd C dL_law_788 ?_
  refine n_sld C hX hbl hbA h1 dL_law_789 ?_
  refine l_callM C (rest := [.int r9]) rfl (M_X9_keep hjM hK9) CyX9_keep tw_1129 tw_1130 tw_1131 (by decide) rfl rfl (Nat.le_of_ble_eq_true rfl) dL_law_790 hcs hsl ?_
  rintro o8 m9 ⟨r8, rfl, hr9, hR9⟩
  refine n_icmp_eq C (tgt := 1674) dL_law_793 (by decide) hr9 ?_
  exact kk _ _ hR9
theorem lw_k18 {p : Program} {l : Launch} {e : Env} {R : Room} {s : State} {m : MethodId} {args : Array Value} {below : List Frame} {meth : Method} {c : Code} {G : Gp} {A : Nat → Prop} {Q : State → Prop} {cs sl mc ms : Nat} {Mt : Prop} {b L : Nat} {xs : Nat → Int32} {aC aM : Nat → Nat} {sc sm : St} {i : Int32} (C : CxN p R s m args meth c G A cL_law 4 20 RL mc ms Mt) (hX : va_X b L xs s s.heap) (hbl : b < s.heap.size) (hbA : ¬ A b) (hjC : Dj shC (G.1, G.2.1, aC)) (hjM : Dj shM (G.1, G.2.1, aM)) (hcs : cs ≤ mc) (hsl : sl ≤ ms) (h1 : vp_in (i + 1) L) (h2 : vp_in (i + 2) L) (h3 : vp_in (i + 3) L) (h4 : vp_in (i + 4) L) (h5 : vp_in (i + 5) L) (h : Rel sc sm) (kk : ∀ c9 m9, Rel c9 m9 → GoN p l e R s m args below meth c G A 4 cs sl Q 1674 [(3, .int i), (2, .ref (aM 0)), (1, .ref (aC 0)), (0, .ref b)] [] (wsOf shC (G.1, G.2.1, aC) c9 ++ wsOf shM (G.1, G.2.1, aM) m9)) : GoN p l e R s m args below meth c G A 4 cs sl Q 798 [(3, .int i), (2, .ref (aM 0)), (1, .ref (aC 0)), (0, .ref b)] [] (wsOf shC (G.1, G.2.1, aC) sc ++ wsOf shM (G.1, G.2.1, aM) sm) := by
  refine n_aload_n C 2 dL_law_798 rfl rfl ?_
  refine n_aload_n C 3 dL_law_799 rfl rfl ?_
  refine n_iload_n C 0 dL_law_800 rfl rfl ?_
  refine n_iconst C (v := 1) dL_law_801 (by decide) ?_
  refine n_iadd C dL_law_802 ?_
  refine n_sld C hX hbl hbA h1 dL_law_803 ?_
  refine l_callC C (rest := []) rfl (M_X8_on hjC (op_on h (xs (i + 1).toNatClampNeg))) CyX8_on tw_524 tw_525 tw_526 (by decide) rfl rfl (Nat.le_of_ble_eq_true rfl) dL_law_804 hcs hsl ?_
  rintro o9 c9 ⟨r9, rfl, hK9⟩
  refine n_aload_n C 1 dL_law_807 rfl rfl ?_
  refine n_aload_n C 3 dL_law_808 rfl rfl ?_
  refine n_iload_n C 0 dL_law_809 rfl rfl ?_
  refine n_iconst C (v := 1) dL_law_810 (by decide) ?_
  refine n_iadd C dL_law_811 ?_
  refine n_sld C hX hbl hbA h1 dL_law_812 ?_
  refine l_callM C (rest := [.int r9]) rfl (M_X9_on hjM hK9) CyX9_on tw_1134 tw_1135 tw_1136 (by decide) rfl rfl (Nat.le_of_ble_eq_true rfl) dL_law_813 hcs hsl ?_
  rintro o8 m9 ⟨r8, rfl, hr9, hR9⟩
  refine n_icmp_eq C (tgt := 1674) dL_law_816 (by decide) hr9 ?_
  exact kk _ _ hR9
theorem lw_k19 {p : Program} {l : Launch} {e : Env} {R : Room} {s : State} {m : MethodId} {args : Array Value} {below : List Frame} {meth : Method} {c : Code} {G : Gp} {A : Nat → Prop} {Q : State → Prop} {cs sl mc ms : Nat} {Mt : Prop} {b L : Nat} {xs : Nat → Int32} {aC aM : Nat → Nat} {sc sm : St} {i : Int32} (C : CxN p R s m args meth c G A cL_law 4 20 RL mc ms Mt) (hX : va_X b L xs s s.heap) (hbl : b < s.heap.size) (hbA : ¬ A b) (hjC : Dj shC (G.1, G.2.1, aC)) (hjM : Dj shM (G.1, G.2.1, aM)) (hcs : cs ≤ mc) (hsl : sl ≤ ms) (h1 : vp_in (i + 1) L) (h2 : vp_in (i + 2) L) (h3 : vp_in (i + 3) L) (h4 : vp_in (i + 4) L) (h5 : vp_in (i + 5) L) (h : Rel sc sm) (kk : ∀ c9 m9, Rel c9 m9 → GoN p l e R s m args below meth c G A 4 cs sl Q 1674 [(3, .int i), (2, .ref (aM 0)), (1, .ref (aC 0)), (0, .ref b)] [] (wsOf shC (G.1, G.2.1, aC) c9 ++ wsOf shM (G.1, G.2.1, aM) m9)) : GoN p l e R s m args below meth c G A 4 cs sl Q 821 [(3, .int i), (2, .ref (aM 0)), (1, .ref (aC 0)), (0, .ref b)] [] (wsOf shC (G.1, G.2.1, aC) sc ++ wsOf shM (G.1, G.2.1, aM) sm) := by
  refine n_aload_n C 2 dL_law_821 rfl rfl ?_
  refine n_aload_n C 3 dL_law_822 rfl rfl ?_
  refine n_iload_n C 0 dL_law_823 rfl rfl ?_
  refine n_iconst C (v := 1) dL_law_824 (by decide) ?_
  refine n_iadd C dL_law_825 ?_
  refine n_sld C hX hbl hbA h1 dL_law_826 ?_
  refine n_aload_n C 3 dL_law_827 rfl rfl ?_
  refine n_iload_n C 0 dL_law_828 rfl rfl ?_
  refine n_iconst C (v := 2) dL_law_829 (by decide) ?_
  refine n_iadd C dL_law_830 ?_
  refine n_sld C hX hbl hbA h2 dL_law_831 ?_
  refine l_callC C (rest := []) rfl (M_X8_strikes hjC (op_strikes h (xs (i + 1).toNatClampNeg) (xs (i + 2).toNatClampNeg))) CyX8_strikes tw_528 tw_529 tw_530 (by decide) rfl rfl (Nat.le_of_ble_eq_true rfl) dL_law_832 hcs hsl ?_
  rintro o9 c9 ⟨r9, rfl, hc9, hK9⟩
  subst hc9
  refine n_aload_n C 1 dL_law_835 rfl rfl ?_
  refine n_aload_n C 3 dL_law_836 rfl rfl ?_
  refine n_iload_n C 0 dL_law_837 rfl rfl ?_
  refine n_iconst C (v := 1) dL_law_838 (by decide) ?_
  refine n_iadd C dL_law_839 ?_
  refine n_sld C hX hbl hbA h1 dL_law_840 ?_
  refine n_aload_n C 3 dL_law_841 rfl rfl ?_
  refine n_iload_n C 0 dL_law_842 rfl rfl ?_
  refine n_iconst C (v := 2) dL_law_843 (by decide) ?_
  refine n_iadd C dL_law_844 ?_
  refine n_sld C hX hbl hbA h2 dL_law_845 ?_
  refine l_callM C (rest := [.int r9]) rfl (M_X9_strikes hjM hK9) CyX9_strikes tw_1138 tw_1139 tw_1140 (by decide) rfl rfl (Nat.le_of_ble_eq_true rfl) dL_law_846 hcs hsl ?_
  rintro o8 m9 ⟨r8, rfl, hm9, hr9⟩
  subst hm9
  refine n_icmp_eq C (tgt := 1674) dL_law_849 (by decide) hr9 ?_
  exact kk _ _ h
theorem lw_k20 {p : Program} {l : Launch} {e : Env} {R : Room} {s : State} {m : MethodId} {args : Array Value} {below : List Frame} {meth : Method} {c : Code} {G : Gp} {A : Nat → Prop} {Q : State → Prop} {cs sl mc ms : Nat} {Mt : Prop} {b L : Nat} {xs : Nat → Int32} {aC aM : Nat → Nat} {sc sm : St} {i : Int32} (C : CxN p R s m args meth c G A cL_law 4 20 RL mc ms Mt) (hX : va_X b L xs s s.heap) (hbl : b < s.heap.size) (hbA : ¬ A b) (hjC : Dj shC (G.1, G.2.1, aC)) (hjM : Dj shM (G.1, G.2.1, aM)) (hcs : cs ≤ mc) (hsl : sl ≤ ms) (h1 : vp_in (i + 1) L) (h2 : vp_in (i + 2) L) (h3 : vp_in (i + 3) L) (h4 : vp_in (i + 4) L) (h5 : vp_in (i + 5) L) (h : Rel sc sm) (kk : ∀ c9 m9, Rel c9 m9 → GoN p l e R s m args below meth c G A 4 cs sl Q 1674 [(3, .int i), (2, .ref (aM 0)), (1, .ref (aC 0)), (0, .ref b)] [] (wsOf shC (G.1, G.2.1, aC) c9 ++ wsOf shM (G.1, G.2.1, aM) m9)) : GoN p l e R s m args below meth c G A 4 cs sl Q 854 [(3, .int i), (2, .ref (aM 0)), (1, .ref (aC 0)), (0, .ref b)] [] (wsOf shC (G.1, G.2.1, aC) sc ++ wsOf shM (G.1, G.2.1, aM) sm) := by
  refine n_aload_n C 2 dL_law_854 rfl rfl ?_
  refine n_aload_n C 3 dL_law_855 rfl rfl ?_
  refine n_iload_n C 0 dL_law_856 rfl rfl ?_
  refine n_iconst C (v := 1) dL_law_857 (by decide) ?_
  refine n_iadd C dL_law_858 ?_
  refine n_sld C hX hbl hbA h1 dL_law_859 ?_
  refine l_callC C (rest := []) rfl (M_X8_stands hjC (op_stands h (xs (i + 1).toNatClampNeg))) CyX8_stands tw_532 tw_533 tw_534 (by decide) rfl rfl (Nat.le_of_ble_eq_true rfl) dL_law_860 hcs hsl ?_
  rintro o9 c9 ⟨r9, rfl, hK9⟩
  refine n_aload_n C 1 dL_law_863 rfl rfl ?_
  refine n_aload_n C 3 dL_law_864 rfl rfl ?_
  refine n_iload_n C 0 dL_law_865 rfl rfl ?_
  refine n_iconst C (v := 1) dL_law_866 (by decide) ?_
  refine n_iadd C dL_law_867 ?_
  refine n_sld C hX hbl hbA h1 dL_law_868 ?_
  refine l_callM C (rest := [.int r9]) rfl (M_X9_stands hjM hK9) CyX9_stands tw_1142 tw_1143 tw_1144 (by decide) rfl rfl (Nat.le_of_ble_eq_true rfl) dL_law_869 hcs hsl ?_
  rintro o8 m9 ⟨r8, rfl, hr9, hR9⟩
  refine n_icmp_eq C (tgt := 1674) dL_law_872 (by decide) hr9 ?_
  exact kk _ _ hR9
theorem lw_k21 {p : Program} {l : Launch} {e : Env} {R : Room} {s : State} {m : MethodId} {args : Array Value} {below : List Frame} {meth : Method} {c : Code} {G : Gp} {A : Nat → Prop} {Q : State → Prop} {cs sl mc ms : Nat} {Mt : Prop} {b L : Nat} {xs : Nat → Int32} {aC aM : Nat → Nat} {sc sm : St} {i : Int32} (C : CxN p R s m args meth c G A cL_law 4 20 RL mc ms Mt) (hX : va_X b L xs s s.heap) (hbl : b < s.heap.size) (hbA : ¬ A b) (hjC : Dj shC (G.1, G.2.1, aC)) (hjM : Dj shM (G.1, G.2.1, aM)) (hcs : cs ≤ mc) (hsl : sl ≤ ms) (h1 : vp_in (i + 1) L) (h2 : vp_in (i + 2) L) (h3 : vp_in (i + 3) L) (h4 : vp_in (i + 4) L) (h5 : vp_in (i + 5) L) (h : Rel sc sm) (kk : ∀ c9 m9, Rel c9 m9 → GoN p l e R s m args below meth c G A 4 cs sl Q 1674 [(3, .int i), (2, .ref (aM 0)), (1, .ref (aC 0)), (0, .ref b)] [] (wsOf shC (G.1, G.2.1, aC) c9 ++ wsOf shM (G.1, G.2.1, aM) m9)) : GoN p l e R s m args below meth c G A 4 cs sl Q 877 [(3, .int i), (2, .ref (aM 0)), (1, .ref (aC 0)), (0, .ref b)] [] (wsOf shC (G.1, G.2.1, aC) sc ++ wsOf shM (G.1, G.2.1, aM) sm) := by
  refine n_aload_n C 2 dL_law_877 rfl rfl ?_
  refine n_aload_n C 3 dL_law_878 rfl rfl ?_
  refine n_iload_n C 0 dL_law_879 rfl rfl ?_
  refine n_iconst C (v := 1) dL_law_880 (by decide) ?_
  refine n_iadd C dL_law_881 ?_
  refine n_sld C hX hbl hbA h1 dL_law_882 ?_
  refine n_aload_n C 3 dL_law_883 rfl rfl ?_
  refine n_iload_n C 0 dL_law_884 rfl rfl ?_
  refine n_iconst C (v := 2) dL_law_885 (by decide) ?_
  refine n_iadd C dL_law_886 ?_
  refine n_sld C hX hbl hbA h2 dL_law_887 ?_
  refine l_callC C (rest := []) rfl (M_X8_raise hjC (op_raise h (xs (i + 1).toNatClampNeg) (xs (i + 2).toNatClampNeg))) CyX8_raise tw_536 tw_537 tw_538 (by decide) rfl rfl (Nat.le_of_ble_eq_true rfl) dL_law_888 hcs hsl ?_
  rintro o9 c9 ⟨r9, rfl, hK9⟩
  refine n_aload_n C 1 dL_law_891 rfl rfl ?_
  refine n_aload_n C 3 dL_law_892 rfl rfl ?_
  refine n_iload_n C 0 dL_law_893 rfl rfl ?_
  refine n_iconst C (v := 1) dL_law_894 (by decide) ?_
  refine n_iadd C dL_law_895 ?_
  refine n_sld C hX hbl hbA h1 dL_law_896 ?_
  refine n_aload_n C 3 dL_law_897 rfl rfl ?_
  refine n_iload_n C 0 dL_law_898 rfl rfl ?_
  refine n_iconst C (v := 2) dL_law_899 (by decide) ?_
  refine n_iadd C dL_law_900 ?_
  refine n_sld C hX hbl hbA h2 dL_law_901 ?_
  refine l_callM C (rest := [.int r9]) rfl (M_X9_raise hjM hK9) CyX9_raise tw_1146 tw_1147 tw_1148 (by decide) rfl rfl (Nat.le_of_ble_eq_true rfl) dL_law_902 hcs hsl ?_
  rintro o8 m9 ⟨r8, rfl, hr9, hR9⟩
  refine n_icmp_eq C (tgt := 1674) dL_law_905 (by decide) hr9 ?_
  exact kk _ _ hR9
theorem lw_k22 {p : Program} {l : Launch} {e : Env} {R : Room} {s : State} {m : MethodId} {args : Array Value} {below : List Frame} {meth : Method} {c : Code} {G : Gp} {A : Nat → Prop} {Q : State → Prop} {cs sl mc ms : Nat} {Mt : Prop} {b L : Nat} {xs : Nat → Int32} {aC aM : Nat → Nat} {sc sm : St} {i : Int32} (C : CxN p R s m args meth c G A cL_law 4 20 RL mc ms Mt) (hX : va_X b L xs s s.heap) (hbl : b < s.heap.size) (hbA : ¬ A b) (hjC : Dj shC (G.1, G.2.1, aC)) (hjM : Dj shM (G.1, G.2.1, aM)) (hcs : cs ≤ mc) (hsl : sl ≤ ms) (h1 : vp_in (i + 1) L) (h2 : vp_in (i + 2) L) (h3 : vp_in (i + 3) L) (h4 : vp_in (i + 4) L) (h5 : vp_in (i + 5) L) (h : Rel sc sm) (kk : ∀ c9 m9, Rel c9 m9 → GoN p l e R s m args below meth c G A 4 cs sl Q 1674 [(3, .int i), (2, .ref (aM 0)), (1, .ref (aC 0)), (0, .ref b)] [] (wsOf shC (G.1, G.2.1, aC) c9 ++ wsOf shM (G.1, G.2.1, aM) m9)) : GoN p l e R s m args below meth c G A 4 cs sl Q 910 [(3, .int i), (2, .ref (aM 0)), (1, .ref (aC 0)), (0, .ref b)] [] (wsOf shC (G.1, G.2.1, aC) sc ++ wsOf shM (G.1, G.2.1, aM) sm) := by
  refine n_aload_n C 2 dL_law_910 rfl rfl ?_
  refine n_aload_n C 3 dL_law_911 rfl rfl ?_
  refine n_iload_n C 0 dL_law_912 rfl rfl ?_
  refine n_iconst C (v := 1) dL_law_913 (by decide) ?_
  refine n_iadd C dL_law_914 ?_
  refine n_sld C hX hbl hbA h1 dL_law_915 ?_
  refine n_aload_n C 3 dL_law_916 rfl rfl ?_
  refine n_iload_n C 0 dL_law_917 rfl rfl ?_
  refine n_iconst C (v := 2) dL_law_918 (by decide) ?_
  refine n_iadd C dL_law_919 ?_
  refine n_sld C hX hbl hbA h2 dL_law_920 ?_
  refine l_callC C (rest := []) rfl (M_X8_ways hjC (op_ways h (xs (i + 1).toNatClampNeg) (xs (i + 2).toNatClampNeg))) CyX8_ways tw_563 tw_564 tw_565 (by decide) rfl rfl (Nat.le_of_ble_eq_true rfl) dL_law_921 hcs hsl ?_
  rintro o9 c9 ⟨r9, rfl, hK9⟩
  refine n_aload_n C 1 dL_law_924 rfl rfl ?_
  refine n_aload_n C 3 dL_law_925 rfl rfl ?_
  refine n_iload_n C 0 dL_law_926 rfl rfl ?_
  refine n_iconst C (v := 1) dL_law_927 (by decide) ?_
  refine n_iadd C dL_law_928 ?_
  refine n_sld C hX hbl hbA h1 dL_law_929 ?_
  refine n_aload_n C 3 dL_law_930 rfl rfl ?_
  refine n_iload_n C 0 dL_law_931 rfl rfl ?_
  refine n_iconst C (v := 2) dL_law_932 (by decide) ?_
  refine n_iadd C dL_law_933 ?_
  refine n_sld C hX hbl hbA h2 dL_law_934 ?_
  refine l_callM C (rest := [.int r9]) rfl (M_X9_ways hjM hK9) CyX9_ways tw_1154 tw_1155 tw_1156 (by decide) rfl rfl (Nat.le_of_ble_eq_true rfl) dL_law_935 hcs hsl ?_
  rintro o8 m9 ⟨r8, rfl, hr9, hR9⟩
  refine n_icmp_eq C (tgt := 1674) dL_law_938 (by decide) hr9 ?_
  exact kk _ _ hR9
theorem lw_k23 {p : Program} {l : Launch} {e : Env} {R : Room} {s : State} {m : MethodId} {args : Array Value} {below : List Frame} {meth : Method} {c : Code} {G : Gp} {A : Nat → Prop} {Q : State → Prop} {cs sl mc ms : Nat} {Mt : Prop} {b L : Nat} {xs : Nat → Int32} {aC aM : Nat → Nat} {sc sm : St} {i : Int32} (C : CxN p R s m args meth c G A cL_law 4 20 RL mc ms Mt) (hX : va_X b L xs s s.heap) (hbl : b < s.heap.size) (hbA : ¬ A b) (hjC : Dj shC (G.1, G.2.1, aC)) (hjM : Dj shM (G.1, G.2.1, aM)) (hcs : cs ≤ mc) (hsl : sl ≤ ms) (h1 : vp_in (i + 1) L) (h2 : vp_in (i + 2) L) (h3 : vp_in (i + 3) L) (h4 : vp_in (i + 4) L) (h5 : vp_in (i + 5) L) (h : Rel sc sm) (kk : ∀ c9 m9, Rel c9 m9 → GoN p l e R s m args below meth c G A 4 cs sl Q 1674 [(3, .int i), (2, .ref (aM 0)), (1, .ref (aC 0)), (0, .ref b)] [] (wsOf shC (G.1, G.2.1, aC) c9 ++ wsOf shM (G.1, G.2.1, aM) m9)) : GoN p l e R s m args below meth c G A 4 cs sl Q 943 [(3, .int i), (2, .ref (aM 0)), (1, .ref (aC 0)), (0, .ref b)] [] (wsOf shC (G.1, G.2.1, aC) sc ++ wsOf shM (G.1, G.2.1, aM) sm) := by
  refine n_aload_n C 2 dL_law_943 rfl rfl ?_
  refine n_aload_n C 3 dL_law_944 rfl rfl ?_
  refine n_iload_n C 0 dL_law_945 rfl rfl ?_
  refine n_iconst C (v := 1) dL_law_946 (by decide) ?_
  refine n_iadd C dL_law_947 ?_
  refine n_sld C hX hbl hbA h1 dL_law_948 ?_
  refine n_aload_n C 3 dL_law_949 rfl rfl ?_
  refine n_iload_n C 0 dL_law_950 rfl rfl ?_
  refine n_iconst C (v := 2) dL_law_951 (by decide) ?_
  refine n_iadd C dL_law_952 ?_
  refine n_sld C hX hbl hbA h2 dL_law_953 ?_
  refine n_aload_n C 3 dL_law_954 rfl rfl ?_
  refine n_iload_n C 0 dL_law_955 rfl rfl ?_
  refine n_iconst C (v := 3) dL_law_956 (by decide) ?_
  refine n_iadd C dL_law_957 ?_
  refine n_sld C hX hbl hbA h3 dL_law_958 ?_
  refine n_aload_n C 3 dL_law_959 rfl rfl ?_
  refine n_iload_n C 0 dL_law_960 rfl rfl ?_
  refine n_iconst C (v := 4) dL_law_961 (by decide) ?_
  refine n_iadd C dL_law_962 ?_
  refine n_sld C hX hbl hbA h4 dL_law_963 ?_
  refine l_callC C (rest := []) rfl (M_X8_arms hjC (op_arms h (xs (i + 1).toNatClampNeg) (xs (i + 2).toNatClampNeg) (xs (i + 3).toNatClampNeg) (xs (i + 4).toNatClampNeg))) CyX8_arms tw_591 tw_592 tw_593 (by decide) rfl rfl (Nat.le_of_ble_eq_true rfl) dL_law_964 hcs hsl ?_
  rintro o9 c9 ⟨r9, rfl, hK9⟩
  refine n_aload_n C 1 dL_law_967 rfl rfl ?_
  refine n_aload_n C 3 dL_law_968 rfl rfl ?_
  refine n_iload_n C 0 dL_law_969 rfl rfl ?_
  refine n_iconst C (v := 1) dL_law_970 (by decide) ?_
  refine n_iadd C dL_law_971 ?_
  refine n_sld C hX hbl hbA h1 dL_law_972 ?_
  refine n_aload_n C 3 dL_law_973 rfl rfl ?_
  refine n_iload_n C 0 dL_law_974 rfl rfl ?_
  refine n_iconst C (v := 2) dL_law_975 (by decide) ?_
  refine n_iadd C dL_law_976 ?_
  refine n_sld C hX hbl hbA h2 dL_law_977 ?_
  refine n_aload_n C 3 dL_law_978 rfl rfl ?_
  refine n_iload_n C 0 dL_law_979 rfl rfl ?_
  refine n_iconst C (v := 3) dL_law_980 (by decide) ?_
  refine n_iadd C dL_law_981 ?_
  refine n_sld C hX hbl hbA h3 dL_law_982 ?_
  refine n_aload_n C 3 dL_law_983 rfl rfl ?_
  refine n_iload_n C 0 dL_law_984 rfl rfl ?_
  refine n_iconst C (v := 4) dL_law_985 (by decide) ?_
  refine n_iadd C dL_law_986 ?_
  refine n_sld C hX hbl hbA h4 dL_law_987 ?_
  refine l_callM C (rest := [.int r9]) rfl (M_X9_arms hjM hK9) CyX9_arms tw_1159 tw_1160 tw_1161 (by decide) rfl rfl (Nat.le_of_ble_eq_true rfl) dL_law_988 hcs hsl ?_
  rintro o8 m9 ⟨r8, rfl, hr9, hR9⟩
  refine n_icmp_eq C (tgt := 1674) dL_law_991 (by decide) hr9 ?_
  exact kk _ _ hR9
theorem lw_k24 {p : Program} {l : Launch} {e : Env} {R : Room} {s : State} {m : MethodId} {args : Array Value} {below : List Frame} {meth : Method} {c : Code} {G : Gp} {A : Nat → Prop} {Q : State → Prop} {cs sl mc ms : Nat} {Mt : Prop} {b L : Nat} {xs : Nat → Int32} {aC aM : Nat → Nat} {sc sm : St} {i : Int32} (C : CxN p R s m args meth c G A cL_law 4 20 RL mc ms Mt) (hX : va_X b L xs s s.heap) (hbl : b < s.heap.size) (hbA : ¬ A b) (hjC : Dj shC (G.1, G.2.1, aC)) (hjM : Dj shM (G.1, G.2.1, aM)) (hcs : cs ≤ mc) (hsl : sl ≤ ms) (h1 : vp_in (i + 1) L) (h2 : vp_in (i + 2) L) (h3 : vp_in (i + 3) L) (h4 : vp_in (i + 4) L) (h5 : vp_in (i + 5) L) (h : Rel sc sm) (kk : ∀ c9 m9, Rel c9 m9 → GoN p l e R s m args below meth c G A 4 cs sl Q 1674 [(3, .int i), (2, .ref (aM 0)), (1, .ref (aC 0)), (0, .ref b)] [] (wsOf shC (G.1, G.2.1, aC) c9 ++ wsOf shM (G.1, G.2.1, aM) m9)) : GoN p l e R s m args below meth c G A 4 cs sl Q 996 [(3, .int i), (2, .ref (aM 0)), (1, .ref (aC 0)), (0, .ref b)] [] (wsOf shC (G.1, G.2.1, aC) sc ++ wsOf shM (G.1, G.2.1, aM) sm) := by
  refine n_aload_n C 2 dL_law_996 rfl rfl ?_
  refine n_aload_n C 3 dL_law_997 rfl rfl ?_
  refine n_iload_n C 0 dL_law_998 rfl rfl ?_
  refine n_iconst C (v := 1) dL_law_999 (by decide) ?_
  refine n_iadd C dL_law_1000 ?_
  refine n_sld C hX hbl hbA h1 dL_law_1001 ?_
  refine n_aload_n C 3 dL_law_1002 rfl rfl ?_
  refine n_iload_n C 0 dL_law_1003 rfl rfl ?_
  refine n_iconst C (v := 2) dL_law_1004 (by decide) ?_
  refine n_iadd C dL_law_1005 ?_
  refine n_sld C hX hbl hbA h2 dL_law_1006 ?_
  refine l_callC C (rest := []) rfl (M_X8_hold hjC (op_hold h (xs (i + 1).toNatClampNeg) (xs (i + 2).toNatClampNeg))) CyX8_hold tw_616 tw_617 tw_618 (by decide) rfl rfl (Nat.le_of_ble_eq_true rfl) dL_law_1007 hcs hsl ?_
  rintro o9 c9 ⟨r9, rfl, hK9⟩
  refine n_aload_n C 1 dL_law_1010 rfl rfl ?_
  refine n_aload_n C 3 dL_law_1011 rfl rfl ?_
  refine n_iload_n C 0 dL_law_1012 rfl rfl ?_
  refine n_iconst C (v := 1) dL_law_1013 (by decide) ?_
  refine n_iadd C dL_law_1014 ?_
  refine n_sld C hX hbl hbA h1 dL_law_1015 ?_
  refine n_aload_n C 3 dL_law_1016 rfl rfl ?_
  refine n_iload_n C 0 dL_law_1017 rfl rfl ?_
  refine n_iconst C (v := 2) dL_law_1018 (by decide) ?_
  refine n_iadd C dL_law_1019 ?_
  refine n_sld C hX hbl hbA h2 dL_law_1020 ?_
  refine l_callM C (rest := [.int r9]) rfl (M_X9_hold hjM hK9) CyX9_hold tw_1165 tw_1166 tw_1167 (by decide) rfl rfl (Nat.le_of_ble_eq_true rfl) dL_law_1021 hcs hsl ?_
  rintro o8 m9 ⟨r8, rfl, hr9, hR9⟩
  refine n_icmp_eq C (tgt := 1674) dL_law_1024 (by decide) hr9 ?_
  exact kk _ _ hR9
theorem lw_k25 {p : Program} {l : Launch} {e : Env} {R : Room} {s : State} {m : MethodId} {args : Array Value} {below : List Frame} {meth : Method} {c : Code} {G : Gp} {A : Nat → Prop} {Q : State → Prop} {cs sl mc ms : Nat} {Mt : Prop} {b L : Nat} {xs : Nat → Int32} {aC aM : Nat → Nat} {sc sm : St} {i : Int32} (C : CxN p R s m args meth c G A cL_law 4 20 RL mc ms Mt) (hX : va_X b L xs s s.heap) (hbl : b < s.heap.size) (hbA : ¬ A b) (hjC : Dj shC (G.1, G.2.1, aC)) (hjM : Dj shM (G.1, G.2.1, aM)) (hcs : cs ≤ mc) (hsl : sl ≤ ms) (h1 : vp_in (i + 1) L) (h2 : vp_in (i + 2) L) (h3 : vp_in (i + 3) L) (h4 : vp_in (i + 4) L) (h5 : vp_in (i + 5) L) (h : Rel sc sm) (kk : ∀ c9 m9, Rel c9 m9 → GoN p l e R s m args below meth c G A 4 cs sl Q 1674 [(3, .int i), (2, .ref (aM 0)), (1, .ref (aC 0)), (0, .ref b)] [] (wsOf shC (G.1, G.2.1, aC) c9 ++ wsOf shM (G.1, G.2.1, aM) m9)) : GoN p l e R s m args below meth c G A 4 cs sl Q 1029 [(3, .int i), (2, .ref (aM 0)), (1, .ref (aC 0)), (0, .ref b)] [] (wsOf shC (G.1, G.2.1, aC) sc ++ wsOf shM (G.1, G.2.1, aM) sm) := by
  refine n_aload_n C 2 dL_law_1029 rfl rfl ?_
  refine n_aload_n C 3 dL_law_1030 rfl rfl ?_
  refine n_iload_n C 0 dL_law_1031 rfl rfl ?_
  refine n_iconst C (v := 1) dL_law_1032 (by decide) ?_
  refine n_iadd C dL_law_1033 ?_
  refine n_sld C hX hbl hbA h1 dL_law_1034 ?_
  refine l_callC C (rest := []) rfl (M_X8_drops hjC (op_drops h (xs (i + 1).toNatClampNeg))) CyX8_drops tw_623 tw_624 tw_625 (by decide) rfl rfl (Nat.le_of_ble_eq_true rfl) dL_law_1035 hcs hsl ?_
  rintro o9 c9 ⟨r9, rfl, hc9, hK9⟩
  subst hc9
  refine n_aload_n C 1 dL_law_1038 rfl rfl ?_
  refine n_aload_n C 3 dL_law_1039 rfl rfl ?_
  refine n_iload_n C 0 dL_law_1040 rfl rfl ?_
  refine n_iconst C (v := 1) dL_law_1041 (by decide) ?_
  refine n_iadd C dL_law_1042 ?_
  refine n_sld C hX hbl hbA h1 dL_law_1043 ?_
  refine l_callM C (rest := [.int r9]) rfl (M_X9_drops hjM hK9) CyX9_drops tw_1170 tw_1171 tw_1172 (by decide) rfl rfl (Nat.le_of_ble_eq_true rfl) dL_law_1044 hcs hsl ?_
  rintro o8 m9 ⟨r8, rfl, hm9, hr9⟩
  subst hm9
  refine n_icmp_eq C (tgt := 1674) dL_law_1047 (by decide) hr9 ?_
  exact kk _ _ h
theorem lw_k26 {p : Program} {l : Launch} {e : Env} {R : Room} {s : State} {m : MethodId} {args : Array Value} {below : List Frame} {meth : Method} {c : Code} {G : Gp} {A : Nat → Prop} {Q : State → Prop} {cs sl mc ms : Nat} {Mt : Prop} {b L : Nat} {xs : Nat → Int32} {aC aM : Nat → Nat} {sc sm : St} {i : Int32} (C : CxN p R s m args meth c G A cL_law 4 20 RL mc ms Mt) (hX : va_X b L xs s s.heap) (hbl : b < s.heap.size) (hbA : ¬ A b) (hjC : Dj shC (G.1, G.2.1, aC)) (hjM : Dj shM (G.1, G.2.1, aM)) (hcs : cs ≤ mc) (hsl : sl ≤ ms) (h1 : vp_in (i + 1) L) (h2 : vp_in (i + 2) L) (h3 : vp_in (i + 3) L) (h4 : vp_in (i + 4) L) (h5 : vp_in (i + 5) L) (h : Rel sc sm) (kk : ∀ c9 m9, Rel c9 m9 → GoN p l e R s m args below meth c G A 4 cs sl Q 1674 [(3, .int i), (2, .ref (aM 0)), (1, .ref (aC 0)), (0, .ref b)] [] (wsOf shC (G.1, G.2.1, aC) c9 ++ wsOf shM (G.1, G.2.1, aM) m9)) : GoN p l e R s m args below meth c G A 4 cs sl Q 1052 [(3, .int i), (2, .ref (aM 0)), (1, .ref (aC 0)), (0, .ref b)] [] (wsOf shC (G.1, G.2.1, aC) sc ++ wsOf shM (G.1, G.2.1, aM) sm) := by
  refine n_aload_n C 2 dL_law_1052 rfl rfl ?_
  refine n_aload_n C 3 dL_law_1053 rfl rfl ?_
  refine n_iload_n C 0 dL_law_1054 rfl rfl ?_
  refine n_iconst C (v := 1) dL_law_1055 (by decide) ?_
  refine n_iadd C dL_law_1056 ?_
  refine n_sld C hX hbl hbA h1 dL_law_1057 ?_
  refine l_callC C (rest := []) rfl (M_X8_back hjC (op_back h (xs (i + 1).toNatClampNeg))) CyX8_back tw_627 tw_628 tw_629 (by decide) rfl rfl (Nat.le_of_ble_eq_true rfl) dL_law_1058 hcs hsl ?_
  rintro o9 c9 ⟨r9, rfl, hK9⟩
  refine n_aload_n C 1 dL_law_1061 rfl rfl ?_
  refine n_aload_n C 3 dL_law_1062 rfl rfl ?_
  refine n_iload_n C 0 dL_law_1063 rfl rfl ?_
  refine n_iconst C (v := 1) dL_law_1064 (by decide) ?_
  refine n_iadd C dL_law_1065 ?_
  refine n_sld C hX hbl hbA h1 dL_law_1066 ?_
  refine l_callM C (rest := [.int r9]) rfl (M_X9_back hjM hK9) CyX9_back tw_1174 tw_1175 tw_1176 (by decide) rfl rfl (Nat.le_of_ble_eq_true rfl) dL_law_1067 hcs hsl ?_
  rintro o8 m9 ⟨r8, rfl, hm9, hr9, hR9⟩
  subst hm9
  refine n_icmp_eq C (tgt := 1674) dL_law_1070 (by decide) hr9 ?_
  exact kk _ _ hR9
theorem lw_k27 {p : Program} {l : Launch} {e : Env} {R : Room} {s : State} {m : MethodId} {args : Array Value} {below : List Frame} {meth : Method} {c : Code} {G : Gp} {A : Nat → Prop} {Q : State → Prop} {cs sl mc ms : Nat} {Mt : Prop} {b L : Nat} {xs : Nat → Int32} {aC aM : Nat → Nat} {sc sm : St} {i : Int32} (C : CxN p R s m args meth c G A cL_law 4 20 RL mc ms Mt) (hX : va_X b L xs s s.heap) (hbl : b < s.heap.size) (hbA : ¬ A b) (hjC : Dj shC (G.1, G.2.1, aC)) (hjM : Dj shM (G.1, G.2.1, aM)) (hcs : cs ≤ mc) (hsl : sl ≤ ms) (h1 : vp_in (i + 1) L) (h2 : vp_in (i + 2) L) (h3 : vp_in (i + 3) L) (h4 : vp_in (i + 4) L) (h5 : vp_in (i + 5) L) (h : Rel sc sm) (kk : ∀ c9 m9, Rel c9 m9 → GoN p l e R s m args below meth c G A 4 cs sl Q 1674 [(3, .int i), (2, .ref (aM 0)), (1, .ref (aC 0)), (0, .ref b)] [] (wsOf shC (G.1, G.2.1, aC) c9 ++ wsOf shM (G.1, G.2.1, aM) m9)) : GoN p l e R s m args below meth c G A 4 cs sl Q 1075 [(3, .int i), (2, .ref (aM 0)), (1, .ref (aC 0)), (0, .ref b)] [] (wsOf shC (G.1, G.2.1, aC) sc ++ wsOf shM (G.1, G.2.1, aM) sm) := by
  refine n_aload_n C 2 dL_law_1075 rfl rfl ?_
  refine n_aload_n C 3 dL_law_1076 rfl rfl ?_
  refine n_iload_n C 0 dL_law_1077 rfl rfl ?_
  refine n_iconst C (v := 1) dL_law_1078 (by decide) ?_
  refine n_iadd C dL_law_1079 ?_
  refine n_sld C hX hbl hbA h1 dL_law_1080 ?_
  refine l_callC C (rest := []) rfl (M_X8_error hjC (op_error h (xs (i + 1).toNatClampNeg))) CyX8_error tw_631 tw_632 tw_633 (by decide) rfl rfl (Nat.le_of_ble_eq_true rfl) dL_law_1081 hcs hsl ?_
  rintro o9 c9 ⟨r9, rfl, hK9⟩
  refine n_aload_n C 1 dL_law_1084 rfl rfl ?_
  refine n_aload_n C 3 dL_law_1085 rfl rfl ?_
  refine n_iload_n C 0 dL_law_1086 rfl rfl ?_
  refine n_iconst C (v := 1) dL_law_1087 (by decide) ?_
  refine n_iadd C dL_law_1088 ?_
  refine n_sld C hX hbl hbA h1 dL_law_1089 ?_
  refine l_callM C (rest := [.int r9]) rfl (M_X9_error hjM hK9) CyX9_error tw_1178 tw_1179 tw_1180 (by decide) rfl rfl (Nat.le_of_ble_eq_true rfl) dL_law_1090 hcs hsl ?_
  rintro o8 m9 ⟨r8, rfl, hr9, hR9⟩
  refine n_icmp_eq C (tgt := 1674) dL_law_1093 (by decide) hr9 ?_
  exact kk _ _ hR9
theorem lw_k28 {p : Program} {l : Launch} {e : Env} {R : Room} {s : State} {m : MethodId} {args : Array Value} {below : List Frame} {meth : Method} {c : Code} {G : Gp} {A : Nat → Prop} {Q : State → Prop} {cs sl mc ms : Nat} {Mt : Prop} {b L : Nat} {xs : Nat → Int32} {aC aM : Nat → Nat} {sc sm : St} {i : Int32} (C : CxN p R s m args meth c G A cL_law 4 20 RL mc ms Mt) (hX : va_X b L xs s s.heap) (hbl : b < s.heap.size) (hbA : ¬ A b) (hjC : Dj shC (G.1, G.2.1, aC)) (hjM : Dj shM (G.1, G.2.1, aM)) (hcs : cs ≤ mc) (hsl : sl ≤ ms) (h1 : vp_in (i + 1) L) (h2 : vp_in (i + 2) L) (h3 : vp_in (i + 3) L) (h4 : vp_in (i + 4) L) (h5 : vp_in (i + 5) L) (h : Rel sc sm) (kk : ∀ c9 m9, Rel c9 m9 → GoN p l e R s m args below meth c G A 4 cs sl Q 1674 [(3, .int i), (2, .ref (aM 0)), (1, .ref (aC 0)), (0, .ref b)] [] (wsOf shC (G.1, G.2.1, aC) c9 ++ wsOf shM (G.1, G.2.1, aM) m9)) : GoN p l e R s m args below meth c G A 4 cs sl Q 1098 [(3, .int i), (2, .ref (aM 0)), (1, .ref (aC 0)), (0, .ref b)] [] (wsOf shC (G.1, G.2.1, aC) sc ++ wsOf shM (G.1, G.2.1, aM) sm) := by
  refine n_aload_n C 2 dL_law_1098 rfl rfl ?_
  refine n_aload_n C 3 dL_law_1099 rfl rfl ?_
  refine n_iload_n C 0 dL_law_1100 rfl rfl ?_
  refine n_iconst C (v := 1) dL_law_1101 (by decide) ?_
  refine n_iadd C dL_law_1102 ?_
  refine n_sld C hX hbl hbA h1 dL_law_1103 ?_
  refine n_aload_n C 3 dL_law_1104 rfl rfl ?_
  refine n_iload_n C 0 dL_law_1105 rfl rfl ?_
  refine n_iconst C (v := 2) dL_law_1106 (by decide) ?_
  refine n_iadd C dL_law_1107 ?_
  refine n_sld C hX hbl hbA h2 dL_law_1108 ?_
  refine l_callC C (rest := []) rfl (M_X8_heard hjC (op_heard h (xs (i + 1).toNatClampNeg) (xs (i + 2).toNatClampNeg))) CyX8_heard tw_640 tw_641 tw_642 (by decide) rfl rfl (Nat.le_of_ble_eq_true rfl) dL_law_1109 hcs hsl ?_
  rintro o9 c9 ⟨r9, rfl, hK9⟩
  refine n_aload_n C 1 dL_law_1112 rfl rfl ?_
  refine n_aload_n C 3 dL_law_1113 rfl rfl ?_
  refine n_iload_n C 0 dL_law_1114 rfl rfl ?_
  refine n_iconst C (v := 1) dL_law_1115 (by decide) ?_
  refine n_iadd C dL_law_1116 ?_
  refine n_sld C hX hbl hbA h1 dL_law_1117 ?_
  refine n_aload_n C 3 dL_law_1118 rfl rfl ?_
  refine n_iload_n C 0 dL_law_1119 rfl rfl ?_
  refine n_iconst C (v := 2) dL_law_1120 (by decide) ?_
  refine n_iadd C dL_law_1121 ?_
  refine n_sld C hX hbl hbA h2 dL_law_1122 ?_
  refine l_callM C (rest := [.int r9]) rfl (M_X9_heard hjM hK9) CyX9_heard tw_1190 tw_1191 tw_1192 (by decide) rfl rfl (Nat.le_of_ble_eq_true rfl) dL_law_1123 hcs hsl ?_
  rintro o8 m9 ⟨r8, rfl, hr9, hR9⟩
  refine n_icmp_eq C (tgt := 1674) dL_law_1126 (by decide) hr9 ?_
  exact kk _ _ hR9
theorem lw_k29 {p : Program} {l : Launch} {e : Env} {R : Room} {s : State} {m : MethodId} {args : Array Value} {below : List Frame} {meth : Method} {c : Code} {G : Gp} {A : Nat → Prop} {Q : State → Prop} {cs sl mc ms : Nat} {Mt : Prop} {b L : Nat} {xs : Nat → Int32} {aC aM : Nat → Nat} {sc sm : St} {i : Int32} (C : CxN p R s m args meth c G A cL_law 4 20 RL mc ms Mt) (hX : va_X b L xs s s.heap) (hbl : b < s.heap.size) (hbA : ¬ A b) (hjC : Dj shC (G.1, G.2.1, aC)) (hjM : Dj shM (G.1, G.2.1, aM)) (hcs : cs ≤ mc) (hsl : sl ≤ ms) (h1 : vp_in (i + 1) L) (h2 : vp_in (i + 2) L) (h3 : vp_in (i + 3) L) (h4 : vp_in (i + 4) L) (h5 : vp_in (i + 5) L) (h : Rel sc sm) (kk : ∀ c9 m9, Rel c9 m9 → GoN p l e R s m args below meth c G A 4 cs sl Q 1674 [(3, .int i), (2, .ref (aM 0)), (1, .ref (aC 0)), (0, .ref b)] [] (wsOf shC (G.1, G.2.1, aC) c9 ++ wsOf shM (G.1, G.2.1, aM) m9)) : GoN p l e R s m args below meth c G A 4 cs sl Q 1131 [(3, .int i), (2, .ref (aM 0)), (1, .ref (aC 0)), (0, .ref b)] [] (wsOf shC (G.1, G.2.1, aC) sc ++ wsOf shM (G.1, G.2.1, aM) sm) := by
  refine n_aload_n C 2 dL_law_1131 rfl rfl ?_
  refine n_aload_n C 3 dL_law_1132 rfl rfl ?_
  refine n_iload_n C 0 dL_law_1133 rfl rfl ?_
  refine n_iconst C (v := 1) dL_law_1134 (by decide) ?_
  refine n_iadd C dL_law_1135 ?_
  refine n_sld C hX hbl hbA h1 dL_law_1136 ?_
  refine l_callC C (rest := []) rfl (M_X8_even hjC (op_even h (xs (i + 1).toNatClampNeg))) CyX8_even tw_644 tw_645 tw_646 (by decide) rfl rfl (Nat.le_of_ble_eq_true rfl) dL_law_1137 hcs hsl ?_
  rintro o9 c9 ⟨r9, rfl, hK9⟩
  refine n_aload_n C 1 dL_law_1140 rfl rfl ?_
  refine n_aload_n C 3 dL_law_1141 rfl rfl ?_
  refine n_iload_n C 0 dL_law_1142 rfl rfl ?_
  refine n_iconst C (v := 1) dL_law_1143 (by decide) ?_
  refine n_iadd C dL_law_1144 ?_
  refine n_sld C hX hbl hbA h1 dL_law_1145 ?_
  refine l_callM C (rest := [.int r9]) rfl (M_X9_even hjM hK9) CyX9_even tw_1194 tw_1195 tw_1196 (by decide) rfl rfl (Nat.le_of_ble_eq_true rfl) dL_law_1146 hcs hsl ?_
  rintro o8 m9 ⟨r8, rfl, hr9, hR9⟩
  refine n_icmp_eq C (tgt := 1674) dL_law_1149 (by decide) hr9 ?_
  exact kk _ _ hR9
theorem lw_k30 {p : Program} {l : Launch} {e : Env} {R : Room} {s : State} {m : MethodId} {args : Array Value} {below : List Frame} {meth : Method} {c : Code} {G : Gp} {A : Nat → Prop} {Q : State → Prop} {cs sl mc ms : Nat} {Mt : Prop} {b L : Nat} {xs : Nat → Int32} {aC aM : Nat → Nat} {sc sm : St} {i : Int32} (C : CxN p R s m args meth c G A cL_law 4 20 RL mc ms Mt) (hX : va_X b L xs s s.heap) (hbl : b < s.heap.size) (hbA : ¬ A b) (hjC : Dj shC (G.1, G.2.1, aC)) (hjM : Dj shM (G.1, G.2.1, aM)) (hcs : cs ≤ mc) (hsl : sl ≤ ms) (h1 : vp_in (i + 1) L) (h2 : vp_in (i + 2) L) (h3 : vp_in (i + 3) L) (h4 : vp_in (i + 4) L) (h5 : vp_in (i + 5) L) (h : Rel sc sm) (kk : ∀ c9 m9, Rel c9 m9 → GoN p l e R s m args below meth c G A 4 cs sl Q 1674 [(3, .int i), (2, .ref (aM 0)), (1, .ref (aC 0)), (0, .ref b)] [] (wsOf shC (G.1, G.2.1, aC) c9 ++ wsOf shM (G.1, G.2.1, aM) m9)) : GoN p l e R s m args below meth c G A 4 cs sl Q 1154 [(3, .int i), (2, .ref (aM 0)), (1, .ref (aC 0)), (0, .ref b)] [] (wsOf shC (G.1, G.2.1, aC) sc ++ wsOf shM (G.1, G.2.1, aM) sm) := by
  refine n_aload_n C 2 dL_law_1154 rfl rfl ?_
  refine n_aload_n C 3 dL_law_1155 rfl rfl ?_
  refine n_iload_n C 0 dL_law_1156 rfl rfl ?_
  refine n_iconst C (v := 1) dL_law_1157 (by decide) ?_
  refine n_iadd C dL_law_1158 ?_
  refine n_sld C hX hbl hbA h1 dL_law_1159 ?_
  refine n_aload_n C 3 dL_law_1160 rfl rfl ?_
  refine n_iload_n C 0 dL_law_1161 rfl rfl ?_
  refine n_iconst C (v := 2) dL_law_1162 (by decide) ?_
  refine n_iadd C dL_law_1163 ?_
  refine n_sld C hX hbl hbA h2 dL_law_1164 ?_
  refine l_callC C (rest := []) rfl (M_X8_change hjC (op_change h (xs (i + 1).toNatClampNeg) (xs (i + 2).toNatClampNeg))) CyX8_change tw_675 tw_676 tw_677 (by decide) rfl rfl (Nat.le_of_ble_eq_true rfl) dL_law_1165 hcs hsl ?_
  rintro o9 c9 ⟨r9, rfl, hK9⟩
  refine n_aload_n C 1 dL_law_1168 rfl rfl ?_
  refine n_aload_n C 3 dL_law_1169 rfl rfl ?_
  refine n_iload_n C 0 dL_law_1170 rfl rfl ?_
  refine n_iconst C (v := 1) dL_law_1171 (by decide) ?_
  refine n_iadd C dL_law_1172 ?_
  refine n_sld C hX hbl hbA h1 dL_law_1173 ?_
  refine n_aload_n C 3 dL_law_1174 rfl rfl ?_
  refine n_iload_n C 0 dL_law_1175 rfl rfl ?_
  refine n_iconst C (v := 2) dL_law_1176 (by decide) ?_
  refine n_iadd C dL_law_1177 ?_
  refine n_sld C hX hbl hbA h2 dL_law_1178 ?_
  refine l_callM C (rest := [.int r9]) rfl (M_X9_change hjM hK9) CyX9_change tw_1222 tw_1223 tw_1224 (by decide) rfl rfl (Nat.le_of_ble_eq_true rfl) dL_law_1179 hcs hsl ?_
  rintro o8 m9 ⟨r8, rfl, hr9, hR9⟩
  refine n_icmp_eq C (tgt := 1674) dL_law_1182 (by decide) hr9 ?_
  exact kk _ _ hR9
theorem lw_k31 {p : Program} {l : Launch} {e : Env} {R : Room} {s : State} {m : MethodId} {args : Array Value} {below : List Frame} {meth : Method} {c : Code} {G : Gp} {A : Nat → Prop} {Q : State → Prop} {cs sl mc ms : Nat} {Mt : Prop} {b L : Nat} {xs : Nat → Int32} {aC aM : Nat → Nat} {sc sm : St} {i : Int32} (C : CxN p R s m args meth c G A cL_law 4 20 RL mc ms Mt) (hX : va_X b L xs s s.heap) (hbl : b < s.heap.size) (hbA : ¬ A b) (hjC : Dj shC (G.1, G.2.1, aC)) (hjM : Dj shM (G.1, G.2.1, aM)) (hcs : cs ≤ mc) (hsl : sl ≤ ms) (h1 : vp_in (i + 1) L) (h2 : vp_in (i + 2) L) (h3 : vp_in (i + 3) L) (h4 : vp_in (i + 4) L) (h5 : vp_in (i + 5) L) (h : Rel sc sm) (kk : ∀ c9 m9, Rel c9 m9 → GoN p l e R s m args below meth c G A 4 cs sl Q 1674 [(3, .int i), (2, .ref (aM 0)), (1, .ref (aC 0)), (0, .ref b)] [] (wsOf shC (G.1, G.2.1, aC) c9 ++ wsOf shM (G.1, G.2.1, aM) m9)) : GoN p l e R s m args below meth c G A 4 cs sl Q 1187 [(3, .int i), (2, .ref (aM 0)), (1, .ref (aC 0)), (0, .ref b)] [] (wsOf shC (G.1, G.2.1, aC) sc ++ wsOf shM (G.1, G.2.1, aM) sm) := by
  refine n_aload_n C 2 dL_law_1187 rfl rfl ?_
  refine l_callC C (rest := []) rfl (M_X8_orders hjC (op_orders h)) CyX8_orders tw_715 tw_716 tw_717 (by decide) rfl rfl (Nat.le_of_ble_eq_true rfl) dL_law_1188 hcs hsl ?_
  rintro o9 c9 ⟨r9, rfl, hc9, hK9⟩
  subst hc9
  refine n_aload_n C 1 dL_law_1191 rfl rfl ?_
  refine l_callM C (rest := [.int r9]) rfl (M_X9_orders hjM hK9) CyX9_orders tw_1229 tw_1230 tw_1231 (by decide) rfl rfl (Nat.le_of_ble_eq_true rfl) dL_law_1192 hcs hsl ?_
  rintro o8 m9 ⟨r8, rfl, hr9, hR9⟩
  refine n_icmp_eq C (tgt := 1674) dL_law_1195 (by decide) hr9 ?_
  exact kk _ _ hR9
theorem lw_k32 {p : Program} {l : Launch} {e : Env} {R : Room} {s : State} {m : MethodId} {args : Array Value} {below : List Frame} {meth : Method} {c : Code} {G : Gp} {A : Nat → Prop} {Q : State → Prop} {cs sl mc ms : Nat} {Mt : Prop} {b L : Nat} {xs : Nat → Int32} {aC aM : Nat → Nat} {sc sm : St} {i : Int32} (C : CxN p R s m args meth c G A cL_law 4 20 RL mc ms Mt) (hX : va_X b L xs s s.heap) (hbl : b < s.heap.size) (hbA : ¬ A b) (hjC : Dj shC (G.1, G.2.1, aC)) (hjM : Dj shM (G.1, G.2.1, aM)) (hcs : cs ≤ mc) (hsl : sl ≤ ms) (h1 : vp_in (i + 1) L) (h2 : vp_in (i + 2) L) (h3 : vp_in (i + 3) L) (h4 : vp_in (i + 4) L) (h5 : vp_in (i + 5) L) (h : Rel sc sm) (kk : ∀ c9 m9, Rel c9 m9 → GoN p l e R s m args below meth c G A 4 cs sl Q 1674 [(3, .int i), (2, .ref (aM 0)), (1, .ref (aC 0)), (0, .ref b)] [] (wsOf shC (G.1, G.2.1, aC) c9 ++ wsOf shM (G.1, G.2.1, aM) m9)) : GoN p l e R s m args below meth c G A 4 cs sl Q 1200 [(3, .int i), (2, .ref (aM 0)), (1, .ref (aC 0)), (0, .ref b)] [] (wsOf shC (G.1, G.2.1, aC) sc ++ wsOf shM (G.1, G.2.1, aM) sm) := by
  refine n_aload_n C 2 dL_law_1200 rfl rfl ?_
  refine n_aload_n C 3 dL_law_1201 rfl rfl ?_
  refine n_iload_n C 0 dL_law_1202 rfl rfl ?_
  refine n_iconst C (v := 1) dL_law_1203 (by decide) ?_
  refine n_iadd C dL_law_1204 ?_
  refine n_sld C hX hbl hbA h1 dL_law_1205 ?_
  refine l_callC C (rest := []) rfl (M_X8_late hjC (op_late h (xs (i + 1).toNatClampNeg))) CyX8_late tw_726 tw_727 tw_728 (by decide) rfl rfl (Nat.le_of_ble_eq_true rfl) dL_law_1206 hcs hsl ?_
  rintro o9 c9 ⟨r9, rfl, hK9⟩
  refine n_aload_n C 1 dL_law_1209 rfl rfl ?_
  refine n_aload_n C 3 dL_law_1210 rfl rfl ?_
  refine n_iload_n C 0 dL_law_1211 rfl rfl ?_
  refine n_iconst C (v := 1) dL_law_1212 (by decide) ?_
  refine n_iadd C dL_law_1213 ?_
  refine n_sld C hX hbl hbA h1 dL_law_1214 ?_
  refine l_callM C (rest := [.int r9]) rfl (M_X9_late hjM hK9) CyX9_late tw_1233 tw_1234 tw_1235 (by decide) rfl rfl (Nat.le_of_ble_eq_true rfl) dL_law_1215 hcs hsl ?_
  rintro o8 m9 ⟨r8, rfl, hr9, hR9⟩
  refine n_icmp_eq C (tgt := 1674) dL_law_1218 (by decide) hr9 ?_
  exact kk _ _ hR9
theorem lw_k33 {p : Program} {l : Launch} {e : Env} {R : Room} {s : State} {m : MethodId} {args : Array Value} {below : List Frame} {meth : Method} {c : Code} {G : Gp} {A : Nat → Prop} {Q : State → Prop} {cs sl mc ms : Nat} {Mt : Prop} {b L : Nat} {xs : Nat → Int32} {aC aM : Nat → Nat} {sc sm : St} {i : Int32} (C : CxN p R s m args meth c G A cL_law 4 20 RL mc ms Mt) (hX : va_X b L xs s s.heap) (hbl : b < s.heap.size) (hbA : ¬ A b) (hjC : Dj shC (G.1, G.2.1, aC)) (hjM : Dj shM (G.1, G.2.1, aM)) (hcs : cs ≤ mc) (hsl : sl ≤ ms) (h1 : vp_in (i + 1) L) (h2 : vp_in (i + 2) L) (h3 : vp_in (i + 3) L) (h4 : vp_in (i + 4) L) (h5 : vp_in (i + 5) L) (h : Rel sc sm) (kk : ∀ c9 m9, Rel c9 m9 → GoN p l e R s m args below meth c G A 4 cs sl Q 1674 [(3, .int i), (2, .ref (aM 0)), (1, .ref (aC 0)), (0, .ref b)] [] (wsOf shC (G.1, G.2.1, aC) c9 ++ wsOf shM (G.1, G.2.1, aM) m9)) : GoN p l e R s m args below meth c G A 4 cs sl Q 1223 [(3, .int i), (2, .ref (aM 0)), (1, .ref (aC 0)), (0, .ref b)] [] (wsOf shC (G.1, G.2.1, aC) sc ++ wsOf shM (G.1, G.2.1, aM) sm) := by
  refine n_aload_n C 2 dL_law_1223 rfl rfl ?_
  refine n_aload_n C 3 dL_law_1224 rfl rfl ?_
  refine n_iload_n C 0 dL_law_1225 rfl rfl ?_
  refine n_iconst C (v := 1) dL_law_1226 (by decide) ?_
  refine n_iadd C dL_law_1227 ?_
  refine n_sld C hX hbl hbA h1 dL_law_1228 ?_
  refine n_aload_n C 3 dL_law_1229 rfl rfl ?_
  refine n_iload_n C 0 dL_law_1230 rfl rfl ?_
  refine n_iconst C (v := 2) dL_law_1231 (by decide) ?_
  refine n_iadd C dL_law_1232 ?_
  refine n_sld C hX hbl hbA h2 dL_law_1233 ?_
  refine l_callC C (rest := []) rfl (M_X8_game hjC (op_game h (xs (i + 1).toNatClampNeg) (xs (i + 2).toNatClampNeg))) CyX8_game tw_730 tw_731 tw_732 (by decide) rfl rfl (Nat.le_of_ble_eq_true rfl) dL_law_1234 hcs hsl ?_
  rintro o9 c9 ⟨r9, rfl, hK9⟩
  refine n_aload_n C 1 dL_law_1237 rfl rfl ?_
  refine n_aload_n C 3 dL_law_1238 rfl rfl ?_
  refine n_iload_n C 0 dL_law_1239 rfl rfl ?_
  refine n_iconst C (v := 1) dL_law_1240 (by decide) ?_
  refine n_iadd C dL_law_1241 ?_
  refine n_sld C hX hbl hbA h1 dL_law_1242 ?_
  refine n_aload_n C 3 dL_law_1243 rfl rfl ?_
  refine n_iload_n C 0 dL_law_1244 rfl rfl ?_
  refine n_iconst C (v := 2) dL_law_1245 (by decide) ?_
  refine n_iadd C dL_law_1246 ?_
  refine n_sld C hX hbl hbA h2 dL_law_1247 ?_
  refine l_callM C (rest := [.int r9]) rfl (M_X9_game hjM hK9) CyX9_game tw_1237 tw_1238 tw_1239 (by decide) rfl rfl (Nat.le_of_ble_eq_true rfl) dL_law_1248 hcs hsl ?_
  rintro o8 m9 ⟨r8, rfl, hr9, hR9⟩
  refine n_icmp_eq C (tgt := 1674) dL_law_1251 (by decide) hr9 ?_
  exact kk _ _ hR9
theorem lw_k34 {p : Program} {l : Launch} {e : Env} {R : Room} {s : State} {m : MethodId} {args : Array Value} {below : List Frame} {meth : Method} {c : Code} {G : Gp} {A : Nat → Prop} {Q : State → Prop} {cs sl mc ms : Nat} {Mt : Prop} {b L : Nat} {xs : Nat → Int32} {aC aM : Nat → Nat} {sc sm : St} {i : Int32} (C : CxN p R s m args meth c G A cL_law 4 20 RL mc ms Mt) (hX : va_X b L xs s s.heap) (hbl : b < s.heap.size) (hbA : ¬ A b) (hjC : Dj shC (G.1, G.2.1, aC)) (hjM : Dj shM (G.1, G.2.1, aM)) (hcs : cs ≤ mc) (hsl : sl ≤ ms) (h1 : vp_in (i + 1) L) (h2 : vp_in (i + 2) L) (h3 : vp_in (i + 3) L) (h4 : vp_in (i + 4) L) (h5 : vp_in (i + 5) L) (h : Rel sc sm) (kk : ∀ c9 m9, Rel c9 m9 → GoN p l e R s m args below meth c G A 4 cs sl Q 1674 [(3, .int i), (2, .ref (aM 0)), (1, .ref (aC 0)), (0, .ref b)] [] (wsOf shC (G.1, G.2.1, aC) c9 ++ wsOf shM (G.1, G.2.1, aM) m9)) : GoN p l e R s m args below meth c G A 4 cs sl Q 1256 [(3, .int i), (2, .ref (aM 0)), (1, .ref (aC 0)), (0, .ref b)] [] (wsOf shC (G.1, G.2.1, aC) sc ++ wsOf shM (G.1, G.2.1, aM) sm) := by
  refine n_aload_n C 2 dL_law_1256 rfl rfl ?_
  refine n_aload_n C 3 dL_law_1257 rfl rfl ?_
  refine n_iload_n C 0 dL_law_1258 rfl rfl ?_
  refine n_iconst C (v := 1) dL_law_1259 (by decide) ?_
  refine n_iadd C dL_law_1260 ?_
  refine n_sld C hX hbl hbA h1 dL_law_1261 ?_
  refine n_aload_n C 3 dL_law_1262 rfl rfl ?_
  refine n_iload_n C 0 dL_law_1263 rfl rfl ?_
  refine n_iconst C (v := 2) dL_law_1264 (by decide) ?_
  refine n_iadd C dL_law_1265 ?_
  refine n_sld C hX hbl hbA h2 dL_law_1266 ?_
  refine l_callC C (rest := []) rfl (M_X8_first hjC (op_first h (xs (i + 1).toNatClampNeg) (xs (i + 2).toNatClampNeg))) CyX8_first tw_747 tw_748 tw_749 (by decide) rfl rfl (Nat.le_of_ble_eq_true rfl) dL_law_1267 hcs hsl ?_
  rintro o9 c9 ⟨r9, rfl, hK9⟩
  refine n_aload_n C 1 dL_law_1270 rfl rfl ?_
  refine n_aload_n C 3 dL_law_1271 rfl rfl ?_
  refine n_iload_n C 0 dL_law_1272 rfl rfl ?_
  refine n_iconst C (v := 1) dL_law_1273 (by decide) ?_
  refine n_iadd C dL_law_1274 ?_
  refine n_sld C hX hbl hbA h1 dL_law_1275 ?_
  refine n_aload_n C 3 dL_law_1276 rfl rfl ?_
  refine n_iload_n C 0 dL_law_1277 rfl rfl ?_
  refine n_iconst C (v := 2) dL_law_1278 (by decide) ?_
  refine n_iadd C dL_law_1279 ?_
  refine n_sld C hX hbl hbA h2 dL_law_1280 ?_
  refine l_callM C (rest := [.int r9]) rfl (M_X9_first hjM hK9) CyX9_first tw_1245 tw_1246 tw_1247 (by decide) rfl rfl (Nat.le_of_ble_eq_true rfl) dL_law_1281 hcs hsl ?_
  rintro o8 m9 ⟨r8, rfl, hr9, hR9⟩
  refine n_icmp_eq C (tgt := 1674) dL_law_1284 (by decide) hr9 ?_
  exact kk _ _ hR9
theorem lw_k35 {p : Program} {l : Launch} {e : Env} {R : Room} {s : State} {m : MethodId} {args : Array Value} {below : List Frame} {meth : Method} {c : Code} {G : Gp} {A : Nat → Prop} {Q : State → Prop} {cs sl mc ms : Nat} {Mt : Prop} {b L : Nat} {xs : Nat → Int32} {aC aM : Nat → Nat} {sc sm : St} {i : Int32} (C : CxN p R s m args meth c G A cL_law 4 20 RL mc ms Mt) (hX : va_X b L xs s s.heap) (hbl : b < s.heap.size) (hbA : ¬ A b) (hjC : Dj shC (G.1, G.2.1, aC)) (hjM : Dj shM (G.1, G.2.1, aM)) (hcs : cs ≤ mc) (hsl : sl ≤ ms) (h1 : vp_in (i + 1) L) (h2 : vp_in (i + 2) L) (h3 : vp_in (i + 3) L) (h4 : vp_in (i + 4) L) (h5 : vp_in (i + 5) L) (h : Rel sc sm) (kk : ∀ c9 m9, Rel c9 m9 → GoN p l e R s m args below meth c G A 4 cs sl Q 1674 [(3, .int i), (2, .ref (aM 0)), (1, .ref (aC 0)), (0, .ref b)] [] (wsOf shC (G.1, G.2.1, aC) c9 ++ wsOf shM (G.1, G.2.1, aM) m9)) : GoN p l e R s m args below meth c G A 4 cs sl Q 1289 [(3, .int i), (2, .ref (aM 0)), (1, .ref (aC 0)), (0, .ref b)] [] (wsOf shC (G.1, G.2.1, aC) sc ++ wsOf shM (G.1, G.2.1, aM) sm) := by
  refine n_aload_n C 2 dL_law_1289 rfl rfl ?_
  refine n_aload_n C 3 dL_law_1290 rfl rfl ?_
  refine n_iload_n C 0 dL_law_1291 rfl rfl ?_
  refine n_iconst C (v := 1) dL_law_1292 (by decide) ?_
  refine n_iadd C dL_law_1293 ?_
  refine n_sld C hX hbl hbA h1 dL_law_1294 ?_
  refine n_aload_n C 3 dL_law_1295 rfl rfl ?_
  refine n_iload_n C 0 dL_law_1296 rfl rfl ?_
  refine n_iconst C (v := 2) dL_law_1297 (by decide) ?_
  refine n_iadd C dL_law_1298 ?_
  refine n_sld C hX hbl hbA h2 dL_law_1299 ?_
  refine l_callC C (rest := []) rfl (M_X8_kinds hjC (op_kinds h (xs (i + 1).toNatClampNeg) (xs (i + 2).toNatClampNeg))) CyX8_kinds tw_752 tw_753 tw_754 (by decide) rfl rfl (Nat.le_of_ble_eq_true rfl) dL_law_1300 hcs hsl ?_
  rintro o9 c9 ⟨r9, rfl, hK9⟩
  refine n_aload_n C 1 dL_law_1303 rfl rfl ?_
  refine n_aload_n C 3 dL_law_1304 rfl rfl ?_
  refine n_iload_n C 0 dL_law_1305 rfl rfl ?_
  refine n_iconst C (v := 1) dL_law_1306 (by decide) ?_
  refine n_iadd C dL_law_1307 ?_
  refine n_sld C hX hbl hbA h1 dL_law_1308 ?_
  refine n_aload_n C 3 dL_law_1309 rfl rfl ?_
  refine n_iload_n C 0 dL_law_1310 rfl rfl ?_
  refine n_iconst C (v := 2) dL_law_1311 (by decide) ?_
  refine n_iadd C dL_law_1312 ?_
  refine n_sld C hX hbl hbA h2 dL_law_1313 ?_
  refine l_callM C (rest := [.int r9]) rfl (M_X9_kinds hjM hK9) CyX9_kinds tw_1249 tw_1250 tw_1251 (by decide) rfl rfl (Nat.le_of_ble_eq_true rfl) dL_law_1314 hcs hsl ?_
  rintro o8 m9 ⟨r8, rfl, hr9, hR9⟩
  refine n_icmp_eq C (tgt := 1674) dL_law_1317 (by decide) hr9 ?_
  exact kk _ _ hR9
theorem lw_k36 {p : Program} {l : Launch} {e : Env} {R : Room} {s : State} {m : MethodId} {args : Array Value} {below : List Frame} {meth : Method} {c : Code} {G : Gp} {A : Nat → Prop} {Q : State → Prop} {cs sl mc ms : Nat} {Mt : Prop} {b L : Nat} {xs : Nat → Int32} {aC aM : Nat → Nat} {sc sm : St} {i : Int32} (C : CxN p R s m args meth c G A cL_law 4 20 RL mc ms Mt) (hX : va_X b L xs s s.heap) (hbl : b < s.heap.size) (hbA : ¬ A b) (hjC : Dj shC (G.1, G.2.1, aC)) (hjM : Dj shM (G.1, G.2.1, aM)) (hcs : cs ≤ mc) (hsl : sl ≤ ms) (h1 : vp_in (i + 1) L) (h2 : vp_in (i + 2) L) (h3 : vp_in (i + 3) L) (h4 : vp_in (i + 4) L) (h5 : vp_in (i + 5) L) (h : Rel sc sm) (kk : ∀ c9 m9, Rel c9 m9 → GoN p l e R s m args below meth c G A 4 cs sl Q 1674 [(3, .int i), (2, .ref (aM 0)), (1, .ref (aC 0)), (0, .ref b)] [] (wsOf shC (G.1, G.2.1, aC) c9 ++ wsOf shM (G.1, G.2.1, aM) m9)) : GoN p l e R s m args below meth c G A 4 cs sl Q 1322 [(3, .int i), (2, .ref (aM 0)), (1, .ref (aC 0)), (0, .ref b)] [] (wsOf shC (G.1, G.2.1, aC) sc ++ wsOf shM (G.1, G.2.1, aM) sm) := by
  refine n_aload_n C 2 dL_law_1322 rfl rfl ?_
  refine n_aload_n C 3 dL_law_1323 rfl rfl ?_
  refine n_iload_n C 0 dL_law_1324 rfl rfl ?_
  refine n_iconst C (v := 1) dL_law_1325 (by decide) ?_
  refine n_iadd C dL_law_1326 ?_
  refine n_sld C hX hbl hbA h1 dL_law_1327 ?_
  refine n_aload_n C 3 dL_law_1328 rfl rfl ?_
  refine n_iload_n C 0 dL_law_1329 rfl rfl ?_
  refine n_iconst C (v := 2) dL_law_1330 (by decide) ?_
  refine n_iadd C dL_law_1331 ?_
  refine n_sld C hX hbl hbA h2 dL_law_1332 ?_
  refine l_callC C (rest := []) rfl (M_X8_damps hjC (op_damps h (xs (i + 1).toNatClampNeg) (xs (i + 2).toNatClampNeg))) CyX8_damps tw_764 tw_765 tw_766 (by decide) rfl rfl (Nat.le_of_ble_eq_true rfl) dL_law_1333 hcs hsl ?_
  rintro o9 c9 ⟨r9, rfl, hK9⟩
  refine n_aload_n C 1 dL_law_1336 rfl rfl ?_
  refine n_aload_n C 3 dL_law_1337 rfl rfl ?_
  refine n_iload_n C 0 dL_law_1338 rfl rfl ?_
  refine n_iconst C (v := 1) dL_law_1339 (by decide) ?_
  refine n_iadd C dL_law_1340 ?_
  refine n_sld C hX hbl hbA h1 dL_law_1341 ?_
  refine n_aload_n C 3 dL_law_1342 rfl rfl ?_
  refine n_iload_n C 0 dL_law_1343 rfl rfl ?_
  refine n_iconst C (v := 2) dL_law_1344 (by decide) ?_
  refine n_iadd C dL_law_1345 ?_
  refine n_sld C hX hbl hbA h2 dL_law_1346 ?_
  refine l_callM C (rest := [.int r9]) rfl (M_X9_damps hjM hK9) CyX9_damps tw_1261 tw_1262 tw_1263 (by decide) rfl rfl (Nat.le_of_ble_eq_true rfl) dL_law_1347 hcs hsl ?_
  rintro o8 m9 ⟨r8, rfl, hr9, hR9⟩
  refine n_icmp_eq C (tgt := 1674) dL_law_1350 (by decide) hr9 ?_
  exact kk _ _ hR9
theorem lw_k37 {p : Program} {l : Launch} {e : Env} {R : Room} {s : State} {m : MethodId} {args : Array Value} {below : List Frame} {meth : Method} {c : Code} {G : Gp} {A : Nat → Prop} {Q : State → Prop} {cs sl mc ms : Nat} {Mt : Prop} {b L : Nat} {xs : Nat → Int32} {aC aM : Nat → Nat} {sc sm : St} {i : Int32} (C : CxN p R s m args meth c G A cL_law 4 20 RL mc ms Mt) (hX : va_X b L xs s s.heap) (hbl : b < s.heap.size) (hbA : ¬ A b) (hjC : Dj shC (G.1, G.2.1, aC)) (hjM : Dj shM (G.1, G.2.1, aM)) (hcs : cs ≤ mc) (hsl : sl ≤ ms) (h1 : vp_in (i + 1) L) (h2 : vp_in (i + 2) L) (h3 : vp_in (i + 3) L) (h4 : vp_in (i + 4) L) (h5 : vp_in (i + 5) L) (h : Rel sc sm) (kk : ∀ c9 m9, Rel c9 m9 → GoN p l e R s m args below meth c G A 4 cs sl Q 1674 [(3, .int i), (2, .ref (aM 0)), (1, .ref (aC 0)), (0, .ref b)] [] (wsOf shC (G.1, G.2.1, aC) c9 ++ wsOf shM (G.1, G.2.1, aM) m9)) : GoN p l e R s m args below meth c G A 4 cs sl Q 1355 [(3, .int i), (2, .ref (aM 0)), (1, .ref (aC 0)), (0, .ref b)] [] (wsOf shC (G.1, G.2.1, aC) sc ++ wsOf shM (G.1, G.2.1, aM) sm) := by
  refine n_aload_n C 2 dL_law_1355 rfl rfl ?_
  refine n_aload_n C 3 dL_law_1356 rfl rfl ?_
  refine n_iload_n C 0 dL_law_1357 rfl rfl ?_
  refine n_iconst C (v := 1) dL_law_1358 (by decide) ?_
  refine n_iadd C dL_law_1359 ?_
  refine n_sld C hX hbl hbA h1 dL_law_1360 ?_
  refine n_aload_n C 3 dL_law_1361 rfl rfl ?_
  refine n_iload_n C 0 dL_law_1362 rfl rfl ?_
  refine n_iconst C (v := 2) dL_law_1363 (by decide) ?_
  refine n_iadd C dL_law_1364 ?_
  refine n_sld C hX hbl hbA h2 dL_law_1365 ?_
  refine l_callC C (rest := []) rfl (M_X8_heights hjC (op_heights h (xs (i + 1).toNatClampNeg) (xs (i + 2).toNatClampNeg))) CyX8_heights tw_768 tw_769 tw_770 (by decide) rfl rfl (Nat.le_of_ble_eq_true rfl) dL_law_1366 hcs hsl ?_
  rintro o9 c9 ⟨r9, rfl, hK9⟩
  refine n_aload_n C 1 dL_law_1369 rfl rfl ?_
  refine n_aload_n C 3 dL_law_1370 rfl rfl ?_
  refine n_iload_n C 0 dL_law_1371 rfl rfl ?_
  refine n_iconst C (v := 1) dL_law_1372 (by decide) ?_
  refine n_iadd C dL_law_1373 ?_
  refine n_sld C hX hbl hbA h1 dL_law_1374 ?_
  refine n_aload_n C 3 dL_law_1375 rfl rfl ?_
  refine n_iload_n C 0 dL_law_1376 rfl rfl ?_
  refine n_iconst C (v := 2) dL_law_1377 (by decide) ?_
  refine n_iadd C dL_law_1378 ?_
  refine n_sld C hX hbl hbA h2 dL_law_1379 ?_
  refine l_callM C (rest := [.int r9]) rfl (M_X9_heights hjM hK9) CyX9_heights tw_1265 tw_1266 tw_1267 (by decide) rfl rfl (Nat.le_of_ble_eq_true rfl) dL_law_1380 hcs hsl ?_
  rintro o8 m9 ⟨r8, rfl, hr9, hR9⟩
  refine n_icmp_eq C (tgt := 1674) dL_law_1383 (by decide) hr9 ?_
  exact kk _ _ hR9
theorem lw_k38 {p : Program} {l : Launch} {e : Env} {R : Room} {s : State} {m : MethodId} {args : Array Value} {below : List Frame} {meth : Method} {c : Code} {G : Gp} {A : Nat → Prop} {Q : State → Prop} {cs sl mc ms : Nat} {Mt : Prop} {b L : Nat} {xs : Nat → Int32} {aC aM : Nat → Nat} {sc sm : St} {i : Int32} (C : CxN p R s m args meth c G A cL_law 4 20 RL mc ms Mt) (hX : va_X b L xs s s.heap) (hbl : b < s.heap.size) (hbA : ¬ A b) (hjC : Dj shC (G.1, G.2.1, aC)) (hjM : Dj shM (G.1, G.2.1, aM)) (hcs : cs ≤ mc) (hsl : sl ≤ ms) (h1 : vp_in (i + 1) L) (h2 : vp_in (i + 2) L) (h3 : vp_in (i + 3) L) (h4 : vp_in (i + 4) L) (h5 : vp_in (i + 5) L) (h : Rel sc sm) (kk : ∀ c9 m9, Rel c9 m9 → GoN p l e R s m args below meth c G A 4 cs sl Q 1674 [(3, .int i), (2, .ref (aM 0)), (1, .ref (aC 0)), (0, .ref b)] [] (wsOf shC (G.1, G.2.1, aC) c9 ++ wsOf shM (G.1, G.2.1, aM) m9)) : GoN p l e R s m args below meth c G A 4 cs sl Q 1388 [(3, .int i), (2, .ref (aM 0)), (1, .ref (aC 0)), (0, .ref b)] [] (wsOf shC (G.1, G.2.1, aC) sc ++ wsOf shM (G.1, G.2.1, aM) sm) := by
  refine n_aload_n C 2 dL_law_1388 rfl rfl ?_
  refine n_aload_n C 3 dL_law_1389 rfl rfl ?_
  refine n_iload_n C 0 dL_law_1390 rfl rfl ?_
  refine n_iconst C (v := 1) dL_law_1391 (by decide) ?_
  refine n_iadd C dL_law_1392 ?_
  refine n_sld C hX hbl hbA h1 dL_law_1393 ?_
  refine n_aload_n C 3 dL_law_1394 rfl rfl ?_
  refine n_iload_n C 0 dL_law_1395 rfl rfl ?_
  refine n_iconst C (v := 2) dL_law_1396 (by decide) ?_
  refine n_iadd C dL_law_1397 ?_
  refine n_sld C hX hbl hbA h2 dL_law_1398 ?_
  refine l_callC C (rest := []) rfl (M_X8_broke hjC (op_broke h (xs (i + 1).toNatClampNeg) (xs (i + 2).toNatClampNeg))) CyX8_broke tw_772 tw_773 tw_774 (by decide) rfl rfl (Nat.le_of_ble_eq_true rfl) dL_law_1399 hcs hsl ?_
  rintro o9 c9 ⟨r9, rfl, hK9⟩
  refine n_aload_n C 1 dL_law_1402 rfl rfl ?_
  refine n_aload_n C 3 dL_law_1403 rfl rfl ?_
  refine n_iload_n C 0 dL_law_1404 rfl rfl ?_
  refine n_iconst C (v := 1) dL_law_1405 (by decide) ?_
  refine n_iadd C dL_law_1406 ?_
  refine n_sld C hX hbl hbA h1 dL_law_1407 ?_
  refine n_aload_n C 3 dL_law_1408 rfl rfl ?_
  refine n_iload_n C 0 dL_law_1409 rfl rfl ?_
  refine n_iconst C (v := 2) dL_law_1410 (by decide) ?_
  refine n_iadd C dL_law_1411 ?_
  refine n_sld C hX hbl hbA h2 dL_law_1412 ?_
  refine l_callM C (rest := [.int r9]) rfl (M_X9_broke hjM hK9) CyX9_broke tw_1269 tw_1270 tw_1271 (by decide) rfl rfl (Nat.le_of_ble_eq_true rfl) dL_law_1413 hcs hsl ?_
  rintro o8 m9 ⟨r8, rfl, hr9, hR9⟩
  refine n_icmp_eq C (tgt := 1674) dL_law_1416 (by decide) hr9 ?_
  exact kk _ _ hR9
theorem lw_k39 {p : Program} {l : Launch} {e : Env} {R : Room} {s : State} {m : MethodId} {args : Array Value} {below : List Frame} {meth : Method} {c : Code} {G : Gp} {A : Nat → Prop} {Q : State → Prop} {cs sl mc ms : Nat} {Mt : Prop} {b L : Nat} {xs : Nat → Int32} {aC aM : Nat → Nat} {sc sm : St} {i : Int32} (C : CxN p R s m args meth c G A cL_law 4 20 RL mc ms Mt) (hX : va_X b L xs s s.heap) (hbl : b < s.heap.size) (hbA : ¬ A b) (hjC : Dj shC (G.1, G.2.1, aC)) (hjM : Dj shM (G.1, G.2.1, aM)) (hcs : cs ≤ mc) (hsl : sl ≤ ms) (h1 : vp_in (i + 1) L) (h2 : vp_in (i + 2) L) (h3 : vp_in (i + 3) L) (h4 : vp_in (i + 4) L) (h5 : vp_in (i + 5) L) (h : Rel sc sm) (kk : ∀ c9 m9, Rel c9 m9 → GoN p l e R s m args below meth c G A 4 cs sl Q 1674 [(3, .int i), (2, .ref (aM 0)), (1, .ref (aC 0)), (0, .ref b)] [] (wsOf shC (G.1, G.2.1, aC) c9 ++ wsOf shM (G.1, G.2.1, aM) m9)) : GoN p l e R s m args below meth c G A 4 cs sl Q 1421 [(3, .int i), (2, .ref (aM 0)), (1, .ref (aC 0)), (0, .ref b)] [] (wsOf shC (G.1, G.2.1, aC) sc ++ wsOf shM (G.1, G.2.1, aM) sm) := by
  refine n_aload_n C 2 dL_law_1421 rfl rfl ?_
  refine n_aload_n C 3 dL_law_1422 rfl rfl ?_
  refine n_iload_n C 0 dL_law_1423 rfl rfl ?_
  refine n_iconst C (v := 1) dL_law_1424 (by decide) ?_
  refine n_iadd C dL_law_1425 ?_
  refine n_sld C hX hbl hbA h1 dL_law_1426 ?_
  refine n_aload_n C 3 dL_law_1427 rfl rfl ?_
  refine n_iload_n C 0 dL_law_1428 rfl rfl ?_
  refine n_iconst C (v := 2) dL_law_1429 (by decide) ?_
  refine n_iadd C dL_law_1430 ?_
  refine n_sld C hX hbl hbA h2 dL_law_1431 ?_
  refine n_aload_n C 3 dL_law_1432 rfl rfl ?_
  refine n_iload_n C 0 dL_law_1433 rfl rfl ?_
  refine n_iconst C (v := 3) dL_law_1434 (by decide) ?_
  refine n_iadd C dL_law_1435 ?_
  refine n_sld C hX hbl hbA h3 dL_law_1436 ?_
  refine n_aload_n C 3 dL_law_1437 rfl rfl ?_
  refine n_iload_n C 0 dL_law_1438 rfl rfl ?_
  refine n_iconst C (v := 4) dL_law_1439 (by decide) ?_
  refine n_iadd C dL_law_1440 ?_
  refine n_sld C hX hbl hbA h4 dL_law_1441 ?_
  refine l_callC C (rest := []) rfl (M_X8_odds hjC (op_odds h (xs (i + 1).toNatClampNeg) (xs (i + 2).toNatClampNeg) (xs (i + 3).toNatClampNeg) (xs (i + 4).toNatClampNeg))) CyX8_odds tw_776 tw_777 tw_778 (by decide) rfl rfl (Nat.le_of_ble_eq_true rfl) dL_law_1442 hcs hsl ?_
  rintro o9 c9 ⟨r9, rfl, hK9⟩
  refine n_aload_n C 1 dL_law_1445 rfl rfl ?_
  refine n_aload_n C 3 dL_law_1446 rfl rfl ?_
  refine n_iload_n C 0 dL_law_1447 rfl rfl ?_
  refine n_iconst C (v := 1) dL_law_1448 (by decide) ?_
  refine n_iadd C dL_law_1449 ?_
  refine n_sld C hX hbl hbA h1 dL_law_1450 ?_
  refine n_aload_n C 3 dL_law_1451 rfl rfl ?_
  refine n_iload_n C 0 dL_law_1452 rfl rfl ?_
  refine n_iconst C (v := 2) dL_law_1453 (by decide) ?_
  refine n_iadd C dL_law_1454 ?_
  refine n_sld C hX hbl hbA h2 dL_law_1455 ?_
  refine n_aload_n C 3 dL_law_1456 rfl rfl ?_
  refine n_iload_n C 0 dL_law_1457 rfl rfl ?_
  refine n_iconst C (v := 3) dL_law_1458 (by decide) ?_
  refine n_iadd C dL_law_1459 ?_
  refine n_sld C hX hbl hbA h3 dL_law_1460 ?_
  refine n_aload_n C 3 dL_law_1461 rfl rfl ?_
  refine n_iload_n C 0 dL_law_1462 rfl rfl ?_
  refine n_iconst C (v := 4) dL_law_1463 (by decide) ?_
  refine n_iadd C dL_law_1464 ?_
  refine n_sld C hX hbl hbA h4 dL_law_1465 ?_
  refine l_callM C (rest := [.int r9]) rfl (M_X9_odds hjM hK9) CyX9_odds tw_1273 tw_1274 tw_1275 (by decide) rfl rfl (Nat.le_of_ble_eq_true rfl) dL_law_1466 hcs hsl ?_
  rintro o8 m9 ⟨r8, rfl, hr9, hR9⟩
  refine n_icmp_eq C (tgt := 1674) dL_law_1469 (by decide) hr9 ?_
  exact kk _ _ hR9
theorem lw_k40 {p : Program} {l : Launch} {e : Env} {R : Room} {s : State} {m : MethodId} {args : Array Value} {below : List Frame} {meth : Method} {c : Code} {G : Gp} {A : Nat → Prop} {Q : State → Prop} {cs sl mc ms : Nat} {Mt : Prop} {b L : Nat} {xs : Nat → Int32} {aC aM : Nat → Nat} {sc sm : St} {i : Int32} (C : CxN p R s m args meth c G A cL_law 4 20 RL mc ms Mt) (hX : va_X b L xs s s.heap) (hbl : b < s.heap.size) (hbA : ¬ A b) (hjC : Dj shC (G.1, G.2.1, aC)) (hjM : Dj shM (G.1, G.2.1, aM)) (hcs : cs ≤ mc) (hsl : sl ≤ ms) (h1 : vp_in (i + 1) L) (h2 : vp_in (i + 2) L) (h3 : vp_in (i + 3) L) (h4 : vp_in (i + 4) L) (h5 : vp_in (i + 5) L) (h : Rel sc sm) (kk : ∀ c9 m9, Rel c9 m9 → GoN p l e R s m args below meth c G A 4 cs sl Q 1674 [(3, .int i), (2, .ref (aM 0)), (1, .ref (aC 0)), (0, .ref b)] [] (wsOf shC (G.1, G.2.1, aC) c9 ++ wsOf shM (G.1, G.2.1, aM) m9)) : GoN p l e R s m args below meth c G A 4 cs sl Q 1474 [(3, .int i), (2, .ref (aM 0)), (1, .ref (aC 0)), (0, .ref b)] [] (wsOf shC (G.1, G.2.1, aC) sc ++ wsOf shM (G.1, G.2.1, aM) sm) := by
  refine n_aload_n C 2 dL_law_1474 rfl rfl ?_
  refine n_aload_n C 3 dL_law_1475 rfl rfl ?_
  refine n_iload_n C 0 dL_law_1476 rfl rfl ?_
  refine n_iconst C (v := 1) dL_law_1477 (by decide) ?_
  refine n_iadd C dL_law_1478 ?_
  refine n_sld C hX hbl hbA h1 dL_law_1479 ?_
  refine n_aload_n C 3 dL_law_1480 rfl rfl ?_
  refine n_iload_n C 0 dL_law_1481 rfl rfl ?_
  refine n_iconst C (v := 2) dL_law_1482 (by decide) ?_
  refine n_iadd C dL_law_1483 ?_
  refine n_sld C hX hbl hbA h2 dL_law_1484 ?_
  refine n_aload_n C 3 dL_law_1485 rfl rfl ?_
  refine n_iload_n C 0 dL_law_1486 rfl rfl ?_
  refine n_iconst C (v := 3) dL_law_1487 (by decide) ?_
  refine n_iadd C dL_law_1488 ?_
  refine n_sld C hX hbl hbA h3 dL_law_1489 ?_
  refine n_aload_n C 3 dL_law_1490 rfl rfl ?_
  refine n_iload_n C 0 dL_law_1491 rfl rfl ?_
  refine n_iconst C (v := 4) dL_law_1492 (by decide) ?_
  refine n_iadd C dL_law_1493 ?_
  refine n_sld C hX hbl hbA h4 dL_law_1494 ?_
  refine l_callC C (rest := []) rfl (M_X8_mid hjC (op_mid h (xs (i + 1).toNatClampNeg) (xs (i + 2).toNatClampNeg) (xs (i + 3).toNatClampNeg) (xs (i + 4).toNatClampNeg))) CyX8_mid tw_789 tw_790 tw_791 (by decide) rfl rfl (Nat.le_of_ble_eq_true rfl) dL_law_1495 hcs hsl ?_
  rintro o9 c9 ⟨r9, rfl, hK9⟩
  refine n_aload_n C 1 dL_law_1498 rfl rfl ?_
  refine n_aload_n C 3 dL_law_1499 rfl rfl ?_
  refine n_iload_n C 0 dL_law_1500 rfl rfl ?_
  refine n_iconst C (v := 1) dL_law_1501 (by decide) ?_
  refine n_iadd C dL_law_1502 ?_
  refine n_sld C hX hbl hbA h1 dL_law_1503 ?_
  refine n_aload_n C 3 dL_law_1504 rfl rfl ?_
  refine n_iload_n C 0 dL_law_1505 rfl rfl ?_
  refine n_iconst C (v := 2) dL_law_1506 (by decide) ?_
  refine n_iadd C dL_law_1507 ?_
  refine n_sld C hX hbl hbA h2 dL_law_1508 ?_
  refine n_aload_n C 3 dL_law_1509 rfl rfl ?_
  refine n_iload_n C 0 dL_law_1510 rfl rfl ?_
  refine n_iconst C (v := 3) dL_law_1511 (by decide) ?_
  refine n_iadd C dL_law_1512 ?_
  refine n_sld C hX hbl hbA h3 dL_law_1513 ?_
  refine n_aload_n C 3 dL_law_1514 rfl rfl ?_
  refine n_iload_n C 0 dL_law_1515 rfl rfl ?_
  refine n_iconst C (v := 4) dL_law_1516 (by decide) ?_
  refine n_iadd C dL_law_1517 ?_
  refine n_sld C hX hbl hbA h4 dL_law_1518 ?_
  refine l_callM C (rest := [.int r9]) rfl (M_X9_mid hjM hK9) CyX9_mid tw_1290 tw_1291 tw_1292 (by decide) rfl rfl (Nat.le_of_ble_eq_true rfl) dL_law_1519 hcs hsl ?_
  rintro o8 m9 ⟨r8, rfl, hr9, hR9⟩
  refine n_icmp_eq C (tgt := 1674) dL_law_1522 (by decide) hr9 ?_
  exact kk _ _ hR9
theorem lw_k41 {p : Program} {l : Launch} {e : Env} {R : Room} {s : State} {m : MethodId} {args : Array Value} {below : List Frame} {meth : Method} {c : Code} {G : Gp} {A : Nat → Prop} {Q : State → Prop} {cs sl mc ms : Nat} {Mt : Prop} {b L : Nat} {xs : Nat → Int32} {aC aM : Nat → Nat} {sc sm : St} {i : Int32} (C : CxN p R s m args meth c G A cL_law 4 20 RL mc ms Mt) (hX : va_X b L xs s s.heap) (hbl : b < s.heap.size) (hbA : ¬ A b) (hjC : Dj shC (G.1, G.2.1, aC)) (hjM : Dj shM (G.1, G.2.1, aM)) (hcs : cs ≤ mc) (hsl : sl ≤ ms) (h1 : vp_in (i + 1) L) (h2 : vp_in (i + 2) L) (h3 : vp_in (i + 3) L) (h4 : vp_in (i + 4) L) (h5 : vp_in (i + 5) L) (h : Rel sc sm) (kk : ∀ c9 m9, Rel c9 m9 → GoN p l e R s m args below meth c G A 4 cs sl Q 1674 [(3, .int i), (2, .ref (aM 0)), (1, .ref (aC 0)), (0, .ref b)] [] (wsOf shC (G.1, G.2.1, aC) c9 ++ wsOf shM (G.1, G.2.1, aM) m9)) : GoN p l e R s m args below meth c G A 4 cs sl Q 1527 [(3, .int i), (2, .ref (aM 0)), (1, .ref (aC 0)), (0, .ref b)] [] (wsOf shC (G.1, G.2.1, aC) sc ++ wsOf shM (G.1, G.2.1, aM) sm) := by
  refine n_aload_n C 2 dL_law_1527 rfl rfl ?_
  refine n_aload_n C 3 dL_law_1528 rfl rfl ?_
  refine n_iload_n C 0 dL_law_1529 rfl rfl ?_
  refine n_iconst C (v := 1) dL_law_1530 (by decide) ?_
  refine n_iadd C dL_law_1531 ?_
  refine n_sld C hX hbl hbA h1 dL_law_1532 ?_
  refine n_aload_n C 3 dL_law_1533 rfl rfl ?_
  refine n_iload_n C 0 dL_law_1534 rfl rfl ?_
  refine n_iconst C (v := 2) dL_law_1535 (by decide) ?_
  refine n_iadd C dL_law_1536 ?_
  refine n_sld C hX hbl hbA h2 dL_law_1537 ?_
  refine l_callC C (rest := []) rfl (M_X8_lots hjC (op_lots h (xs (i + 1).toNatClampNeg) (xs (i + 2).toNatClampNeg))) CyX8_lots tw_793 tw_794 tw_795 (by decide) rfl rfl (Nat.le_of_ble_eq_true rfl) dL_law_1538 hcs hsl ?_
  rintro o9 c9 ⟨r9, rfl, hK9⟩
  refine n_aload_n C 1 dL_law_1541 rfl rfl ?_
  refine n_aload_n C 3 dL_law_1542 rfl rfl ?_
  refine n_iload_n C 0 dL_law_1543 rfl rfl ?_
  refine n_iconst C (v := 1) dL_law_1544 (by decide) ?_
  refine n_iadd C dL_law_1545 ?_
  refine n_sld C hX hbl hbA h1 dL_law_1546 ?_
  refine n_aload_n C 3 dL_law_1547 rfl rfl ?_
  refine n_iload_n C 0 dL_law_1548 rfl rfl ?_
  refine n_iconst C (v := 2) dL_law_1549 (by decide) ?_
  refine n_iadd C dL_law_1550 ?_
  refine n_sld C hX hbl hbA h2 dL_law_1551 ?_
  refine l_callM C (rest := [.int r9]) rfl (M_X9_lots hjM hK9) CyX9_lots tw_1294 tw_1295 tw_1296 (by decide) rfl rfl (Nat.le_of_ble_eq_true rfl) dL_law_1552 hcs hsl ?_
  rintro o8 m9 ⟨r8, rfl, hr9, hR9⟩
  refine n_icmp_eq C (tgt := 1674) dL_law_1555 (by decide) hr9 ?_
  exact kk _ _ hR9
theorem lw_k42 {p : Program} {l : Launch} {e : Env} {R : Room} {s : State} {m : MethodId} {args : Array Value} {below : List Frame} {meth : Method} {c : Code} {G : Gp} {A : Nat → Prop} {Q : State → Prop} {cs sl mc ms : Nat} {Mt : Prop} {b L : Nat} {xs : Nat → Int32} {aC aM : Nat → Nat} {sc sm : St} {i : Int32} (C : CxN p R s m args meth c G A cL_law 4 20 RL mc ms Mt) (hX : va_X b L xs s s.heap) (hbl : b < s.heap.size) (hbA : ¬ A b) (hjC : Dj shC (G.1, G.2.1, aC)) (hjM : Dj shM (G.1, G.2.1, aM)) (hcs : cs ≤ mc) (hsl : sl ≤ ms) (h1 : vp_in (i + 1) L) (h2 : vp_in (i + 2) L) (h3 : vp_in (i + 3) L) (h4 : vp_in (i + 4) L) (h5 : vp_in (i + 5) L) (h : Rel sc sm) (kk : ∀ c9 m9, Rel c9 m9 → GoN p l e R s m args below meth c G A 4 cs sl Q 1674 [(3, .int i), (2, .ref (aM 0)), (1, .ref (aC 0)), (0, .ref b)] [] (wsOf shC (G.1, G.2.1, aC) c9 ++ wsOf shM (G.1, G.2.1, aM) m9)) : GoN p l e R s m args below meth c G A 4 cs sl Q 1560 [(3, .int i), (2, .ref (aM 0)), (1, .ref (aC 0)), (0, .ref b)] [] (wsOf shC (G.1, G.2.1, aC) sc ++ wsOf shM (G.1, G.2.1, aM) sm) := by
  refine n_aload_n C 2 dL_law_1560 rfl rfl ?_
  refine l_callC C (rest := []) rfl (M_X8_asked hjC (op_asked h)) CyX8_asked tw_802 tw_803 tw_804 (by decide) rfl rfl (Nat.le_of_ble_eq_true rfl) dL_law_1561 hcs hsl ?_
  rintro o9 c9 ⟨r9, rfl, hc9, hK9⟩
  subst hc9
  refine n_aload_n C 1 dL_law_1564 rfl rfl ?_
  refine l_callM C (rest := [.int r9]) rfl (M_X9_asked hjM hK9) CyX9_asked tw_1303 tw_1304 tw_1305 (by decide) rfl rfl (Nat.le_of_ble_eq_true rfl) dL_law_1565 hcs hsl ?_
  rintro o8 m9 ⟨r8, rfl, hm9, hr9⟩
  subst hm9
  refine n_icmp_eq C (tgt := 1674) dL_law_1568 (by decide) hr9 ?_
  exact kk _ _ h
theorem lw_k43 {p : Program} {l : Launch} {e : Env} {R : Room} {s : State} {m : MethodId} {args : Array Value} {below : List Frame} {meth : Method} {c : Code} {G : Gp} {A : Nat → Prop} {Q : State → Prop} {cs sl mc ms : Nat} {Mt : Prop} {b L : Nat} {xs : Nat → Int32} {aC aM : Nat → Nat} {sc sm : St} {i : Int32} (C : CxN p R s m args meth c G A cL_law 4 20 RL mc ms Mt) (hX : va_X b L xs s s.heap) (hbl : b < s.heap.size) (hbA : ¬ A b) (hjC : Dj shC (G.1, G.2.1, aC)) (hjM : Dj shM (G.1, G.2.1, aM)) (hcs : cs ≤ mc) (hsl : sl ≤ ms) (h1 : vp_in (i + 1) L) (h2 : vp_in (i + 2) L) (h3 : vp_in (i + 3) L) (h4 : vp_in (i + 4) L) (h5 : vp_in (i + 5) L) (h : Rel sc sm) (kk : ∀ c9 m9, Rel c9 m9 → GoN p l e R s m args below meth c G A 4 cs sl Q 1674 [(3, .int i), (2, .ref (aM 0)), (1, .ref (aC 0)), (0, .ref b)] [] (wsOf shC (G.1, G.2.1, aC) c9 ++ wsOf shM (G.1, G.2.1, aM) m9)) : GoN p l e R s m args below meth c G A 4 cs sl Q 1573 [(3, .int i), (2, .ref (aM 0)), (1, .ref (aC 0)), (0, .ref b)] [] (wsOf shC (G.1, G.2.1, aC) sc ++ wsOf shM (G.1, G.2.1, aM) sm) := by
  refine n_aload_n C 2 dL_law_1573 rfl rfl ?_
  refine l_callC C (rest := []) rfl (M_X8_upper hjC (op_upper h)) CyX8_upper tw_806 tw_807 tw_808 (by decide) rfl rfl (Nat.le_of_ble_eq_true rfl) dL_law_1574 hcs hsl ?_
  rintro o9 c9 ⟨r9, rfl, hc9, hK9⟩
  subst hc9
  refine n_aload_n C 1 dL_law_1577 rfl rfl ?_
  refine l_callM C (rest := [.long r9]) rfl (M_X9_upper hjM hK9) CyX9_upper tw_1307 tw_1308 tw_1309 (by decide) rfl rfl (Nat.le_of_ble_eq_true rfl) dL_law_1578 hcs hsl ?_
  rintro o8 m9 ⟨r8, rfl, hm9, hr9⟩
  subst hm9
  refine n_lcmp C dL_law_1581 ?_
  refine n_if_eq C (tgt := 1674) dL_law_1582 (by decide) (lg_cmp0 hr9) ?_
  exact kk _ _ h
theorem lw_k44 {p : Program} {l : Launch} {e : Env} {R : Room} {s : State} {m : MethodId} {args : Array Value} {below : List Frame} {meth : Method} {c : Code} {G : Gp} {A : Nat → Prop} {Q : State → Prop} {cs sl mc ms : Nat} {Mt : Prop} {b L : Nat} {xs : Nat → Int32} {aC aM : Nat → Nat} {sc sm : St} {i : Int32} (C : CxN p R s m args meth c G A cL_law 4 20 RL mc ms Mt) (hX : va_X b L xs s s.heap) (hbl : b < s.heap.size) (hbA : ¬ A b) (hjC : Dj shC (G.1, G.2.1, aC)) (hjM : Dj shM (G.1, G.2.1, aM)) (hcs : cs ≤ mc) (hsl : sl ≤ ms) (h1 : vp_in (i + 1) L) (h2 : vp_in (i + 2) L) (h3 : vp_in (i + 3) L) (h4 : vp_in (i + 4) L) (h5 : vp_in (i + 5) L) (h : Rel sc sm) (kk : ∀ c9 m9, Rel c9 m9 → GoN p l e R s m args below meth c G A 4 cs sl Q 1674 [(3, .int i), (2, .ref (aM 0)), (1, .ref (aC 0)), (0, .ref b)] [] (wsOf shC (G.1, G.2.1, aC) c9 ++ wsOf shM (G.1, G.2.1, aM) m9)) : GoN p l e R s m args below meth c G A 4 cs sl Q 1587 [(3, .int i), (2, .ref (aM 0)), (1, .ref (aC 0)), (0, .ref b)] [] (wsOf shC (G.1, G.2.1, aC) sc ++ wsOf shM (G.1, G.2.1, aM) sm) := by
  refine n_aload_n C 2 dL_law_1587 rfl rfl ?_
  refine l_callC C (rest := []) rfl (M_X8_lower hjC (op_lower h)) CyX8_lower tw_810 tw_811 tw_812 (by decide) rfl rfl (Nat.le_of_ble_eq_true rfl) dL_law_1588 hcs hsl ?_
  rintro o9 c9 ⟨r9, rfl, hc9, hK9⟩
  subst hc9
  refine n_aload_n C 1 dL_law_1591 rfl rfl ?_
  refine l_callM C (rest := [.long r9]) rfl (M_X9_lower hjM hK9) CyX9_lower tw_1311 tw_1312 tw_1313 (by decide) rfl rfl (Nat.le_of_ble_eq_true rfl) dL_law_1592 hcs hsl ?_
  rintro o8 m9 ⟨r8, rfl, hm9, hr9⟩
  subst hm9
  refine n_lcmp C dL_law_1595 ?_
  refine n_if_eq C (tgt := 1674) dL_law_1596 (by decide) (lg_cmp0 hr9) ?_
  exact kk _ _ h
theorem lw_k45 {p : Program} {l : Launch} {e : Env} {R : Room} {s : State} {m : MethodId} {args : Array Value} {below : List Frame} {meth : Method} {c : Code} {G : Gp} {A : Nat → Prop} {Q : State → Prop} {cs sl mc ms : Nat} {Mt : Prop} {b L : Nat} {xs : Nat → Int32} {aC aM : Nat → Nat} {sc sm : St} {i : Int32} (C : CxN p R s m args meth c G A cL_law 4 20 RL mc ms Mt) (hX : va_X b L xs s s.heap) (hbl : b < s.heap.size) (hbA : ¬ A b) (hjC : Dj shC (G.1, G.2.1, aC)) (hjM : Dj shM (G.1, G.2.1, aM)) (hcs : cs ≤ mc) (hsl : sl ≤ ms) (h1 : vp_in (i + 1) L) (h2 : vp_in (i + 2) L) (h3 : vp_in (i + 3) L) (h4 : vp_in (i + 4) L) (h5 : vp_in (i + 5) L) (h : Rel sc sm) (kk : ∀ c9 m9, Rel c9 m9 → GoN p l e R s m args below meth c G A 4 cs sl Q 1674 [(3, .int i), (2, .ref (aM 0)), (1, .ref (aC 0)), (0, .ref b)] [] (wsOf shC (G.1, G.2.1, aC) c9 ++ wsOf shM (G.1, G.2.1, aM) m9)) : GoN p l e R s m args below meth c G A 4 cs sl Q 1601 [(3, .int i), (2, .ref (aM 0)), (1, .ref (aC 0)), (0, .ref b)] [] (wsOf shC (G.1, G.2.1, aC) sc ++ wsOf shM (G.1, G.2.1, aM) sm) := by
  refine n_aload_n C 2 dL_law_1601 rfl rfl ?_
  refine n_aload_n C 3 dL_law_1602 rfl rfl ?_
  refine n_iload_n C 0 dL_law_1603 rfl rfl ?_
  refine n_iconst C (v := 1) dL_law_1604 (by decide) ?_
  refine n_iadd C dL_law_1605 ?_
  refine n_sld C hX hbl hbA h1 dL_law_1606 ?_
  refine l_callC C (rest := []) rfl (M_X8_count hjC (op_count h (xs (i + 1).toNatClampNeg))) CyX8_count tw_814 tw_815 tw_816 (by decide) rfl rfl (Nat.le_of_ble_eq_true rfl) dL_law_1607 hcs hsl ?_
  rintro o9 c9 ⟨r9, rfl, hc9, hK9⟩
  subst hc9
  refine n_aload_n C 1 dL_law_1610 rfl rfl ?_
  refine n_aload_n C 3 dL_law_1611 rfl rfl ?_
  refine n_iload_n C 0 dL_law_1612 rfl rfl ?_
  refine n_iconst C (v := 1) dL_law_1613 (by decide) ?_
  refine n_iadd C dL_law_1614 ?_
  refine n_sld C hX hbl hbA h1 dL_law_1615 ?_
  refine l_callM C (rest := [.int r9]) rfl (M_X9_count hjM hK9) CyX9_count tw_1315 tw_1316 tw_1317 (by decide) rfl rfl (Nat.le_of_ble_eq_true rfl) dL_law_1616 hcs hsl ?_
  rintro o8 m9 ⟨r8, rfl, hm9, hr9⟩
  subst hm9
  refine n_icmp_eq C (tgt := 1674) dL_law_1619 (by decide) hr9 ?_
  exact kk _ _ h
theorem lw_k46 {p : Program} {l : Launch} {e : Env} {R : Room} {s : State} {m : MethodId} {args : Array Value} {below : List Frame} {meth : Method} {c : Code} {G : Gp} {A : Nat → Prop} {Q : State → Prop} {cs sl mc ms : Nat} {Mt : Prop} {b L : Nat} {xs : Nat → Int32} {aC aM : Nat → Nat} {sc sm : St} {i : Int32} (C : CxN p R s m args meth c G A cL_law 4 20 RL mc ms Mt) (hX : va_X b L xs s s.heap) (hbl : b < s.heap.size) (hbA : ¬ A b) (hjC : Dj shC (G.1, G.2.1, aC)) (hjM : Dj shM (G.1, G.2.1, aM)) (hcs : cs ≤ mc) (hsl : sl ≤ ms) (h1 : vp_in (i + 1) L) (h2 : vp_in (i + 2) L) (h3 : vp_in (i + 3) L) (h4 : vp_in (i + 4) L) (h5 : vp_in (i + 5) L) (h : Rel sc sm) (kk : ∀ c9 m9, Rel c9 m9 → GoN p l e R s m args below meth c G A 4 cs sl Q 1674 [(3, .int i), (2, .ref (aM 0)), (1, .ref (aC 0)), (0, .ref b)] [] (wsOf shC (G.1, G.2.1, aC) c9 ++ wsOf shM (G.1, G.2.1, aM) m9)) : GoN p l e R s m args below meth c G A 4 cs sl Q 1624 [(3, .int i), (2, .ref (aM 0)), (1, .ref (aC 0)), (0, .ref b)] [] (wsOf shC (G.1, G.2.1, aC) sc ++ wsOf shM (G.1, G.2.1, aM) sm) := by
  refine n_aload_n C 2 dL_law_1624 rfl rfl ?_
  refine l_callC C (rest := []) rfl (M_X8_finding hjC (op_finding h)) CyX8_finding tw_835 tw_836 tw_837 (by decide) rfl rfl (Nat.le_of_ble_eq_true rfl) dL_law_1625 hcs hsl ?_
  rintro o9 c9 ⟨r9, rfl, hc9, hK9⟩
  subst hc9
  refine n_aload_n C 1 dL_law_1628 rfl rfl ?_
  refine l_callM C (rest := [.int r9]) rfl (M_X9_finding hjM hK9) CyX9_finding tw_1330 tw_1331 tw_1332 (by decide) rfl rfl (Nat.le_of_ble_eq_true rfl) dL_law_1629 hcs hsl ?_
  rintro o8 m9 ⟨r8, rfl, hm9, hr9⟩
  subst hm9
  refine n_icmp_eq C (tgt := 1674) dL_law_1632 (by decide) hr9 ?_
  exact kk _ _ h
theorem lw_k47 {p : Program} {l : Launch} {e : Env} {R : Room} {s : State} {m : MethodId} {args : Array Value} {below : List Frame} {meth : Method} {c : Code} {G : Gp} {A : Nat → Prop} {Q : State → Prop} {cs sl mc ms : Nat} {Mt : Prop} {b L : Nat} {xs : Nat → Int32} {aC aM : Nat → Nat} {sc sm : St} {i : Int32} (C : CxN p R s m args meth c G A cL_law 4 20 RL mc ms Mt) (hX : va_X b L xs s s.heap) (hbl : b < s.heap.size) (hbA : ¬ A b) (hjC : Dj shC (G.1, G.2.1, aC)) (hjM : Dj shM (G.1, G.2.1, aM)) (hcs : cs ≤ mc) (hsl : sl ≤ ms) (h1 : vp_in (i + 1) L) (h2 : vp_in (i + 2) L) (h3 : vp_in (i + 3) L) (h4 : vp_in (i + 4) L) (h5 : vp_in (i + 5) L) (h : Rel sc sm) (kk : ∀ c9 m9, Rel c9 m9 → GoN p l e R s m args below meth c G A 4 cs sl Q 1674 [(3, .int i), (2, .ref (aM 0)), (1, .ref (aC 0)), (0, .ref b)] [] (wsOf shC (G.1, G.2.1, aC) c9 ++ wsOf shM (G.1, G.2.1, aM) m9)) : GoN p l e R s m args below meth c G A 4 cs sl Q 1637 [(3, .int i), (2, .ref (aM 0)), (1, .ref (aC 0)), (0, .ref b)] [] (wsOf shC (G.1, G.2.1, aC) sc ++ wsOf shM (G.1, G.2.1, aM) sm) := by
  refine n_aload_n C 2 dL_law_1637 rfl rfl ?_
  refine n_aload_n C 3 dL_law_1638 rfl rfl ?_
  refine n_iload_n C 0 dL_law_1639 rfl rfl ?_
  refine n_iconst C (v := 1) dL_law_1640 (by decide) ?_
  refine n_iadd C dL_law_1641 ?_
  refine n_sld C hX hbl hbA h1 dL_law_1642 ?_
  refine l_callC C (rest := []) rfl (M_X8_findings hjC (op_findings h (xs (i + 1).toNatClampNeg))) CyX8_findings tw_839 tw_840 tw_841 (by decide) rfl rfl (Nat.le_of_ble_eq_true rfl) dL_law_1643 hcs hsl ?_
  rintro o9 c9 ⟨r9, rfl, hc9, hK9⟩
  subst hc9
  refine n_aload_n C 1 dL_law_1646 rfl rfl ?_
  refine n_aload_n C 3 dL_law_1647 rfl rfl ?_
  refine n_iload_n C 0 dL_law_1648 rfl rfl ?_
  refine n_iconst C (v := 1) dL_law_1649 (by decide) ?_
  refine n_iadd C dL_law_1650 ?_
  refine n_sld C hX hbl hbA h1 dL_law_1651 ?_
  refine l_callM C (rest := [.int r9]) rfl (M_X9_findings hjM hK9) CyX9_findings tw_1334 tw_1335 tw_1336 (by decide) rfl rfl (Nat.le_of_ble_eq_true rfl) dL_law_1652 hcs hsl ?_
  rintro o8 m9 ⟨r8, rfl, hm9, hr9⟩
  subst hm9
  refine n_icmp_eq C (tgt := 1674) dL_law_1655 (by decide) hr9 ?_
  exact kk _ _ h
theorem lw_k48 {p : Program} {l : Launch} {e : Env} {R : Room} {s : State} {m : MethodId} {args : Array Value} {below : List Frame} {meth : Method} {c : Code} {G : Gp} {A : Nat → Prop} {Q : State → Prop} {cs sl mc ms : Nat} {Mt : Prop} {b L : Nat} {xs : Nat → Int32} {aC aM : Nat → Nat} {sc sm : St} {i : Int32} (C : CxN p R s m args meth c G A cL_law 4 20 RL mc ms Mt) (hX : va_X b L xs s s.heap) (hbl : b < s.heap.size) (hbA : ¬ A b) (hjC : Dj shC (G.1, G.2.1, aC)) (hjM : Dj shM (G.1, G.2.1, aM)) (hcs : cs ≤ mc) (hsl : sl ≤ ms) (h1 : vp_in (i + 1) L) (h2 : vp_in (i + 2) L) (h3 : vp_in (i + 3) L) (h4 : vp_in (i + 4) L) (h5 : vp_in (i + 5) L) (h : Rel sc sm) (kk : ∀ c9 m9, Rel c9 m9 → GoN p l e R s m args below meth c G A 4 cs sl Q 1674 [(3, .int i), (2, .ref (aM 0)), (1, .ref (aC 0)), (0, .ref b)] [] (wsOf shC (G.1, G.2.1, aC) c9 ++ wsOf shM (G.1, G.2.1, aM) m9)) : GoN p l e R s m args below meth c G A 4 cs sl Q 1660 [(3, .int i), (2, .ref (aM 0)), (1, .ref (aC 0)), (0, .ref b)] [] (wsOf shC (G.1, G.2.1, aC) sc ++ wsOf shM (G.1, G.2.1, aM) sm) := by
  refine n_aload_n C 2 dL_law_1660 rfl rfl ?_
  refine l_callC C (rest := []) rfl (M_X8_digest hjC (op_digest h)) CyX8_digest tw_843 tw_844 tw_845 (by decide) rfl rfl (Nat.le_of_ble_eq_true rfl) dL_law_1661 hcs hsl ?_
  rintro o9 c9 ⟨r9, rfl, hc9, hK9⟩
  subst hc9
  refine n_aload_n C 1 dL_law_1664 rfl rfl ?_
  refine l_callM C (rest := [.long r9]) rfl (M_X9_digest hjM hK9) CyX9_digest tw_1338 tw_1339 tw_1340 (by decide) rfl rfl (Nat.le_of_ble_eq_true rfl) dL_law_1665 hcs hsl ?_
  rintro o8 m9 ⟨r8, rfl, hr9, hR9⟩
  refine n_lcmp C dL_law_1668 ?_
  refine n_if_eq C (tgt := 1674) dL_law_1669 (by decide) (lg_cmp0 hr9) ?_
  exact kk _ _ hR9
theorem lw_sw {p : Program} {l : Launch} {e : Env} {R : Room} {s : State} {m : MethodId} {args : Array Value} {below : List Frame} {meth : Method} {c : Code} {G : Gp} {A : Nat → Prop} {Q : State → Prop} {cs sl mc ms : Nat} {Mt : Prop} {b L : Nat} {xs : Nat → Int32} {aC aM : Nat → Nat} {sc sm : St} {i : Int32} (C : CxN p R s m args meth c G A cL_law 4 20 RL mc ms Mt) (hX : va_X b L xs s s.heap) (hbl : b < s.heap.size) (hbA : ¬ A b) (hjC : Dj shC (G.1, G.2.1, aC)) (hjM : Dj shM (G.1, G.2.1, aM)) (hcs : cs ≤ mc) (hsl : sl ≤ ms) (h1 : vp_in (i + 1) L) (h2 : vp_in (i + 2) L) (h3 : vp_in (i + 3) L) (h4 : vp_in (i + 4) L) (h5 : vp_in (i + 5) L) (h : Rel sc sm) {x : Int32} (kk : ∀ c9 m9, Rel c9 m9 → GoN p l e R s m args below meth c G A 4 cs sl Q 1674 [(3, .int i), (2, .ref (aM 0)), (1, .ref (aC 0)), (0, .ref b)] [] (wsOf shC (G.1, G.2.1, aC) c9 ++ wsOf shM (G.1, G.2.1, aM) m9)) : GoN p l e R s m args below meth c G A 4 cs sl Q 33 [(3, .int i), (2, .ref (aM 0)), (1, .ref (aC 0)), (0, .ref b)] [.int x] (wsOf shC (G.1, G.2.1, aC) sc ++ wsOf shM (G.1, G.2.1, aM) sm) := by
  by_cases hx : x.toInt < 0 ∨ 48 < x.toInt
  · exact n_tabOut C (tgt := 1674) dL_law_33 hx (by decide) (kk _ _ h)
  have hall : allLt 49 (fun k => x.toInt = (k : Int) → GoN p l e R s m args below meth c G A 4 cs sl Q 33 [(3, .int i), (2, .ref (aM 0)), (1, .ref (aC 0)), (0, .ref b)] [.int x] (wsOf shC (G.1, G.2.1, aC) sc ++ wsOf shM (G.1, G.2.1, aM) sm)) :=
    ⟨⟨⟨⟨⟨⟨⟨⟨⟨⟨⟨⟨⟨⟨⟨⟨⟨⟨⟨⟨⟨⟨⟨⟨⟨⟨⟨⟨⟨⟨⟨⟨⟨⟨⟨⟨⟨⟨⟨⟨⟨⟨⟨⟨⟨⟨⟨⟨⟨trivial, fun e9 => n_tabIn C (tgt := 244) dL_law_33 (by omega) (by omega) (by rw [e9]; rfl) (by decide) (lw_k0 C hX hbl hbA hjC hjM hcs hsl h1 h2 h3 h4 h5 h kk)⟩, fun e9 => n_tabIn C (tgt := 277) dL_law_33 (by omega) (by omega) (by rw [e9]; rfl) (by decide) (lw_k1 C hX hbl hbA hjC hjM hcs hsl h1 h2 h3 h4 h5 h kk)⟩, fun e9 => n_tabIn C (tgt := 320) dL_law_33 (by omega) (by omega) (by rw [e9]; rfl) (by decide) (lw_k2 C hX hbl hbA hjC hjM hcs hsl h1 h2 h3 h4 h5 h kk)⟩, fun e9 => n_tabIn C (tgt := 353) dL_law_33 (by omega) (by omega) (by rw [e9]; rfl) (by decide) (lw_k3 C hX hbl hbA hjC hjM hcs hsl h1 h2 h3 h4 h5 h kk)⟩, fun e9 => n_tabIn C (tgt := 376) dL_law_33 (by omega) (by omega) (by rw [e9]; rfl) (by decide) (lw_k4 C hX hbl hbA hjC hjM hcs hsl h1 h2 h3 h4 h5 h kk)⟩, fun e9 => n_tabIn C (tgt := 439) dL_law_33 (by omega) (by omega) (by rw [e9]; rfl) (by decide) (lw_k5 C hX hbl hbA hjC hjM hcs hsl h1 h2 h3 h4 h5 h kk)⟩, fun e9 => n_tabIn C (tgt := 462) dL_law_33 (by omega) (by omega) (by rw [e9]; rfl) (by decide) (lw_k6 C hX hbl hbA hjC hjM hcs hsl h1 h2 h3 h4 h5 h kk)⟩, fun e9 => n_tabIn C (tgt := 495) dL_law_33 (by omega) (by omega) (by rw [e9]; rfl) (by decide) (lw_k7 C hX hbl hbA hjC hjM hcs hsl h1 h2 h3 h4 h5 h kk)⟩, fun e9 => n_tabIn C (tgt := 538) dL_law_33 (by omega) (by omega) (by rw [e9]; rfl) (by decide) (lw_k8 C hX hbl hbA hjC hjM hcs hsl h1 h2 h3 h4 h5 h kk)⟩, fun e9 => n_tabIn C (tgt := 561) dL_law_33 (by omega) (by omega) (by rw [e9]; rfl) (by decide) (lw_k9 C hX hbl hbA hjC hjM hcs hsl h1 h2 h3 h4 h5 h kk)⟩, fun e9 => n_tabIn C (tgt := 584) dL_law_33 (by omega) (by omega) (by rw [e9]; rfl) (by decide) (lw_k10 C hX hbl hbA hjC hjM hcs hsl h1 h2 h3 h4 h5 h kk)⟩, fun e9 => n_tabIn C (tgt := 617) dL_law_33 (by omega) (by omega) (by rw [e9]; rfl) (by decide) (lw_k11 C hX hbl hbA hjC hjM hcs hsl h1 h2 h3 h4 h5 h kk)⟩, fun e9 => n_tabIn C (tgt := 650) dL_law_33 (by omega) (by omega) (by rw [e9]; rfl) (by decide) (lw_k12 C hX hbl hbA hjC hjM hcs hsl h1 h2 h3 h4 h5 h kk)⟩, fun e9 => n_tabIn C (tgt := 673) dL_law_33 (by omega) (by omega) (by rw [e9]; rfl) (by decide) (lw_k13 C hX hbl hbA hjC hjM hcs hsl h1 h2 h3 h4 h5 h kk)⟩, fun e9 => n_tabIn C (tgt := 706) dL_law_33 (by omega) (by omega) (by rw [e9]; rfl) (by decide) (lw_k14 C hX hbl hbA hjC hjM hcs hsl h1 h2 h3 h4 h5 h kk)⟩, fun e9 => n_tabIn C (tgt := 729) dL_law_33 (by omega) (by omega) (by rw [e9]; rfl) (by decide) (lw_k15 C hX hbl hbA hjC hjM hcs hsl h1 h2 h3 h4 h5 h kk)⟩, fun e9 => n_tabIn C (tgt := 752) dL_law_33 (by omega) (by omega) (by rw [e9]; rfl) (by decide) (lw_k16 C hX hbl hbA hjC hjM hcs hsl h1 h2 h3 h4 h5 h kk)⟩, fun e9 => n_tabIn C (tgt := 775) dL_law_33 (by omega) (by omega) (by rw [e9]; rfl) (by decide) (lw_k17 C hX hbl hbA hjC hjM hcs hsl h1 h2 h3 h4 h5 h kk)⟩, fun e9 => n_tabIn C (tgt := 798) dL_law_33 (by omega) (by omega) (by rw [e9]; rfl) (by decide) (lw_k18 C hX hbl hbA hjC hjM hcs hsl h1 h2 h3 h4 h5 h kk)⟩, fun e9 => n_tabIn C (tgt := 821) dL_law_33 (by omega) (by omega) (by rw [e9]; rfl) (by decide) (lw_k19 C hX hbl hbA hjC hjM hcs hsl h1 h2 h3 h4 h5 h kk)⟩, fun e9 => n_tabIn C (tgt := 854) dL_law_33 (by omega) (by omega) (by rw [e9]; rfl) (by decide) (lw_k20 C hX hbl hbA hjC hjM hcs hsl h1 h2 h3 h4 h5 h kk)⟩, fun e9 => n_tabIn C (tgt := 877) dL_law_33 (by omega) (by omega) (by rw [e9]; rfl) (by decide) (lw_k21 C hX hbl hbA hjC hjM hcs hsl h1 h2 h3 h4 h5 h kk)⟩, fun e9 => n_tabIn C (tgt := 910) dL_law_33 (by omega) (by omega) (by rw [e9]; rfl) (by decide) (lw_k22 C hX hbl hbA hjC hjM hcs hsl h1 h2 h3 h4 h5 h kk)⟩, fun e9 => n_tabIn C (tgt := 943) dL_law_33 (by omega) (by omega) (by rw [e9]; rfl) (by decide) (lw_k23 C hX hbl hbA hjC hjM hcs hsl h1 h2 h3 h4 h5 h kk)⟩, fun e9 => n_tabIn C (tgt := 996) dL_law_33 (by omega) (by omega) (by rw [e9]; rfl) (by decide) (lw_k24 C hX hbl hbA hjC hjM hcs hsl h1 h2 h3 h4 h5 h kk)⟩, fun e9 => n_tabIn C (tgt := 1029) dL_law_33 (by omega) (by omega) (by rw [e9]; rfl) (by decide) (lw_k25 C hX hbl hbA hjC hjM hcs hsl h1 h2 h3 h4 h5 h kk)⟩, fun e9 => n_tabIn C (tgt := 1052) dL_law_33 (by omega) (by omega) (by rw [e9]; rfl) (by decide) (lw_k26 C hX hbl hbA hjC hjM hcs hsl h1 h2 h3 h4 h5 h kk)⟩, fun e9 => n_tabIn C (tgt := 1075) dL_law_33 (by omega) (by omega) (by rw [e9]; rfl) (by decide) (lw_k27 C hX hbl hbA hjC hjM hcs hsl h1 h2 h3 h4 h5 h kk)⟩, fun e9 => n_tabIn C (tgt := 1098) dL_law_33 (by omega) (by omega) (by rw [e9]; rfl) (by decide) (lw_k28 C hX hbl hbA hjC hjM hcs hsl h1 h2 h3 h4 h5 h kk)⟩, fun e9 => n_tabIn C (tgt := 1131) dL_law_33 (by omega) (by omega) (by rw [e9]; rfl) (by decide) (lw_k29 C hX hbl hbA hjC hjM hcs hsl h1 h2 h3 h4 h5 h kk)⟩, fun e9 => n_tabIn C (tgt := 1154) dL_law_33 (by omega) (by omega) (by rw [e9]; rfl) (by decide) (lw_k30 C hX hbl hbA hjC hjM hcs hsl h1 h2 h3 h4 h5 h kk)⟩, fun e9 => n_tabIn C (tgt := 1187) dL_law_33 (by omega) (by omega) (by rw [e9]; rfl) (by decide) (lw_k31 C hX hbl hbA hjC hjM hcs hsl h1 h2 h3 h4 h5 h kk)⟩, fun e9 => n_tabIn C (tgt := 1200) dL_law_33 (by omega) (by omega) (by rw [e9]; rfl) (by decide) (lw_k32 C hX hbl hbA hjC hjM hcs hsl h1 h2 h3 h4 h5 h kk)⟩, fun e9 => n_tabIn C (tgt := 1223) dL_law_33 (by omega) (by omega) (by rw [e9]; rfl) (by decide) (lw_k33 C hX hbl hbA hjC hjM hcs hsl h1 h2 h3 h4 h5 h kk)⟩, fun e9 => n_tabIn C (tgt := 1256) dL_law_33 (by omega) (by omega) (by rw [e9]; rfl) (by decide) (lw_k34 C hX hbl hbA hjC hjM hcs hsl h1 h2 h3 h4 h5 h kk)⟩, fun e9 => n_tabIn C (tgt := 1289) dL_law_33 (by omega) (by omega) (by rw [e9]; rfl) (by decide) (lw_k35 C hX hbl hbA hjC hjM hcs hsl h1 h2 h3 h4 h5 h kk)⟩, fun e9 => n_tabIn C (tgt := 1322) dL_law_33 (by omega) (by omega) (by rw [e9]; rfl) (by decide) (lw_k36 C hX hbl hbA hjC hjM hcs hsl h1 h2 h3 h4 h5 h kk)⟩, fun e9 => n_tabIn C (tgt := 1355) dL_law_33 (by omega) (by omega) (by rw [e9]; rfl) (by decide) (lw_k37 C hX hbl hbA hjC hjM hcs hsl h1 h2 h3 h4 h5 h kk)⟩, fun e9 => n_tabIn C (tgt := 1388) dL_law_33 (by omega) (by omega) (by rw [e9]; rfl) (by decide) (lw_k38 C hX hbl hbA hjC hjM hcs hsl h1 h2 h3 h4 h5 h kk)⟩, fun e9 => n_tabIn C (tgt := 1421) dL_law_33 (by omega) (by omega) (by rw [e9]; rfl) (by decide) (lw_k39 C hX hbl hbA hjC hjM hcs hsl h1 h2 h3 h4 h5 h kk)⟩, fun e9 => n_tabIn C (tgt := 1474) dL_law_33 (by omega) (by omega) (by rw [e9]; rfl) (by decide) (lw_k40 C hX hbl hbA hjC hjM hcs hsl h1 h2 h3 h4 h5 h kk)⟩, fun e9 => n_tabIn C (tgt := 1527) dL_law_33 (by omega) (by omega) (by rw [e9]; rfl) (by decide) (lw_k41 C hX hbl hbA hjC hjM hcs hsl h1 h2 h3 h4 h5 h kk)⟩, fun e9 => n_tabIn C (tgt := 1560) dL_law_33 (by omega) (by omega) (by rw [e9]; rfl) (by decide) (lw_k42 C hX hbl hbA hjC hjM hcs hsl h1 h2 h3 h4 h5 h kk)⟩, fun e9 => n_tabIn C (tgt := 1573) dL_law_33 (by omega) (by omega) (by rw [e9]; rfl) (by decide) (lw_k43 C hX hbl hbA hjC hjM hcs hsl h1 h2 h3 h4 h5 h kk)⟩, fun e9 => n_tabIn C (tgt := 1587) dL_law_33 (by omega) (by omega) (by rw [e9]; rfl) (by decide) (lw_k44 C hX hbl hbA hjC hjM hcs hsl h1 h2 h3 h4 h5 h kk)⟩, fun e9 => n_tabIn C (tgt := 1601) dL_law_33 (by omega) (by omega) (by rw [e9]; rfl) (by decide) (lw_k45 C hX hbl hbA hjC hjM hcs hsl h1 h2 h3 h4 h5 h kk)⟩, fun e9 => n_tabIn C (tgt := 1624) dL_law_33 (by omega) (by omega) (by rw [e9]; rfl) (by decide) (lw_k46 C hX hbl hbA hjC hjM hcs hsl h1 h2 h3 h4 h5 h kk)⟩, fun e9 => n_tabIn C (tgt := 1637) dL_law_33 (by omega) (by omega) (by rw [e9]; rfl) (by decide) (lw_k47 C hX hbl hbA hjC hjM hcs hsl h1 h2 h3 h4 h5 h kk)⟩, fun e9 => n_tabIn C (tgt := 1660) dL_law_33 (by omega) (by omega) (by rw [e9]; rfl) (by decide) (lw_k48 C hX hbl hbA hjC hjM hcs hsl h1 h2 h3 h4 h5 h kk)⟩
  exact hall.at x.toInt.toNat (by omega) (by omega)

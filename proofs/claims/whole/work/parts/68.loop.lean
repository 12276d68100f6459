/-! the law's loop -/
theorem lw_step {p : Program} {l : Launch} {e : Env} {R : Room} {s : State} {m : MethodId} {args : Array Value} {below : List Frame} {meth : Method} {c : Code} {G : Gp} {A : Nat → Prop} {Q : State → Prop} {cs sl mc ms : Nat} {Mt : Prop} {b L : Nat} {xs : Nat → Int32} {aC aM : Nat → Nat} {sc sm : St} {i : Nat} (C : CxN p R s m args meth c G A cL_law 4 20 RL mc ms Mt) (hX : va_X b L xs s s.heap) (hbl : b < s.heap.size) (hbA : ¬ A b) (hjC : Dj shC (G.1, G.2.1, aC)) (hjM : Dj shM (G.1, G.2.1, aM)) (hcs : cs ≤ mc) (hsl : sl ≤ ms) (hL : L ≤ 3072) (hend : ∀ (sc sm : St) (i : Int32), GoN p l e R s m args below meth c G A 4 cs sl Q 1680 [(3, .int i), (2, .ref (aM 0)), (1, .ref (aC 0)), (0, .ref b)] [] (wsOf shC (G.1, G.2.1, aC) sc ++ wsOf shM (G.1, G.2.1, aM) sm)) (h : Rel sc sm) (hi : i ≤ 4000) (rec9 : i + 6 ≤ L → ∀ c9 m9, Rel c9 m9 → GoN p l e R s m args below meth c G A 4 cs sl Q 18 [(3, .int (nI (i + 6))), (2, .ref (aM 0)), (1, .ref (aC 0)), (0, .ref b)] [] (wsOf shC (G.1, G.2.1, aC) c9 ++ wsOf shM (G.1, G.2.1, aM) m9)) : GoN p l e R s m args below meth c G A 4 cs sl Q 18 [(3, .int (nI i)), (2, .ref (aM 0)), (1, .ref (aC 0)), (0, .ref b)] [] (wsOf shC (G.1, G.2.1, aC) sc ++ wsOf shM (G.1, G.2.1, aM) sm) := by
  refine n_iload_n C 0 dL_law_18 rfl rfl ?_
  refine n_aload_n C 3 dL_law_19 rfl rfl ?_
  refine n_slen C hX hbl hbA dL_law_20 ?_
  refine n_bipush C (v := 6) dL_law_21 (by decide) ?_
  refine n_isub C dL_law_23 ?_
  refine n_icmp_gt C (tgt := 1680) dL_law_24 (by decide) (fun _ => hend _ _ _) (fun hle => ?_)
  have hiL : i + 6 ≤ L := by
    have e1 : (Int32.ofNat L - 6).toInt = (L : Int) - (6 : Nat) := pk_sub_toInt (a := L) (b := 6) (by omega) (by decide)
    have e2 : (nI i).toInt = (i : Int) := nI_toInt (by omega)
    rw [Int32.lt_iff_toInt_lt, e1, e2] at hle
    omega
  have h0 : vp_in (nI i) L := by rw [vp_nI (by omega)]; omega
  have h1 : vp_in (nI i + 1) L := by rw [show nI i + 1 = nI (i + 1) from nI_add i 1, vp_nI (by omega)]; omega
  have h2 : vp_in (nI i + 2) L := by rw [show nI i + 2 = nI (i + 2) from nI_add i 2, vp_nI (by omega)]; omega
  have h3 : vp_in (nI i + 3) L := by rw [show nI i + 3 = nI (i + 3) from nI_add i 3, vp_nI (by omega)]; omega
  have h4 : vp_in (nI i + 4) L := by rw [show nI i + 4 = nI (i + 4) from nI_add i 4, vp_nI (by omega)]; omega
  have h5 : vp_in (nI i + 5) L := by rw [show nI i + 5 = nI (i + 5) from nI_add i 5, vp_nI (by omega)]; omega
  refine n_aload_n C 3 dL_law_27 rfl rfl ?_
  refine n_iload_n C 0 dL_law_28 rfl rfl ?_
  refine n_sld C hX hbl hbA h0 dL_law_29 ?_
  refine n_bipush C (v := 63) dL_law_30 (by decide) ?_
  refine n_iand C dL_law_32 ?_
  refine lw_sw C hX hbl hbA hjC hjM hcs hsl h1 h2 h3 h4 h5 h (fun c9 m9 hR => ?_)
  refine n_iinc C 0 (v := 6) (lv2 := [(3, .int (nI i + 6)), (2, .ref (aM 0)), (1, .ref (aC 0)), (0, .ref b)]) dL_law_1674 (by decide) rfl (by decide) rfl ?_
  refine n_goto C (tgt := 18) dL_law_1677 (by decide) ?_
  rw [show nI i + 6 = nI (i + 6) from nI_add i 6]
  exact rec9 hiL c9 m9 hR
theorem lw_loop {p : Program} {l : Launch} {e : Env} {R : Room} {s : State} {m : MethodId} {args : Array Value} {below : List Frame} {meth : Method} {c : Code} {G : Gp} {A : Nat → Prop} {Q : State → Prop} {cs sl mc ms : Nat} {Mt : Prop} {b L : Nat} {xs : Nat → Int32} {aC aM : Nat → Nat} (C : CxN p R s m args meth c G A cL_law 4 20 RL mc ms Mt) (hX : va_X b L xs s s.heap) (hbl : b < s.heap.size) (hbA : ¬ A b) (hjC : Dj shC (G.1, G.2.1, aC)) (hjM : Dj shM (G.1, G.2.1, aM)) (hcs : cs ≤ mc) (hsl : sl ≤ ms) (hL : L ≤ 3072) (hend : ∀ (sc sm : St) (i : Int32), GoN p l e R s m args below meth c G A 4 cs sl Q 1680 [(3, .int i), (2, .ref (aM 0)), (1, .ref (aC 0)), (0, .ref b)] [] (wsOf shC (G.1, G.2.1, aC) sc ++ wsOf shM (G.1, G.2.1, aM) sm)) : ∀ (f i : Nat) (sc sm : St), i ≤ 4000 → L ≤ i + f → Rel sc sm → GoN p l e R s m args below meth c G A 4 cs sl Q 18 [(3, .int (nI i)), (2, .ref (aM 0)), (1, .ref (aC 0)), (0, .ref b)] [] (wsOf shC (G.1, G.2.1, aC) sc ++ wsOf shM (G.1, G.2.1, aM) sm) := by
  intro f
  induction f with
  | zero => exact fun i sc sm hi hf h => lw_step C hX hbl hbA hjC hjM hcs hsl hL hend h hi (fun h9 => absurd h9 (by omega))
  | succ f ih => exact fun i sc sm hi hf h => lw_step C hX hbl hbA hjC hjM hcs hsl hL hend h hi (fun h9 c9 m9 hR => ih (i + 6) c9 m9 (by omega) (by omega) hR)

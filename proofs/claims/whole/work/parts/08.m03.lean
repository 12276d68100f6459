section MM
variable {p : Program} {l : Launch} {e : Env} {R : Room} {s : State} {m : MethodId} {args : Array Value} {below : List Frame} {meth : Method} {c : Code} {G : Gp}
set_option maxHeartbeats 4000000 in
set_option maxRecDepth 100000 in
theorem k_X8_orders_32 {w0 : Int32} {σ : St} {K : Int32 → Prop} (C : Cx p R s m args meth c shC G cX8_orders 1 15 RX8 (some .int) 0 0) (h : J_X8_orders_32 w0 σ K) : Go p l e R s m args below meth c shC G 1 0 0 (MQ below (Qw shC G (RI (fun r t => t = σ ∧ K r))) args s 0 0 (Fr shC G)) 32 [] [.int w0] σ := by
  unfold J_X8_orders_32 at h
  exact g_iret (pc := 32) C dX8_orders_32 ⟨_, rfl, ⟨rfl, h⟩⟩
set_option maxHeartbeats 4000000 in
set_option maxRecDepth 100000 in
theorem M_X8_orders {l : Launch} {G : Gp} (hD : Dj shC G) {σ : St} {K : Int32 → Prop} (h : wp_X8_orders σ K) : MC l shC G yX8_orders cX8_orders 1 (some .int) 15 [.ref (G.2.2 0)] σ (RI (fun r t => t = σ ∧ K r)) := by
  unfold wp_X8_orders at h
  refine MC.of (by decide) hD (Nat.le_of_ble_eq_true rfl) ?_
  intro p e s m args below meth c C
  replace C : Cx p (rmD 15) s m args meth c shC G cX8_orders 1 15 RX8 (some .int) 0 0 := C
  show Go p l e (rmD 15) s m args below meth c shC G 1 0 0 (MQ below (Qw shC G (RI (fun r t => t = σ ∧ K r))) args s 0 0 (Fr shC G)) 0 [(0, .ref (G.2.2 0))] [] σ
  refine g_aload_n (pc := 0) C 0 dX8_orders_0 rfl rfl ?_
  refine get_X8_3 (pc := 1) C rfl tw_197 dX8_orders_1 ?_
  refine get_X7_2 (pc := 4) C rfl tw_76 dX8_orders_4 ?_
  refine g_if_ne (pc := 7) (tgt := 15) C dX8_orders_7 (by decide) (fun c_ => ?_) (fun c_ => ?_)
  · replace h := ite_f h c_
    refine g_aload_n (pc := 15) C 0 dX8_orders_15 rfl rfl ?_
    refine get_X8_3 (pc := 16) C rfl tw_197 dX8_orders_16 ?_
    refine g_aload_n (pc := 19) C 0 dX8_orders_19 rfl rfl ?_
    refine get_X8_3 (pc := 20) C rfl tw_197 dX8_orders_20 ?_
    refine g_callVip (pc := 23) (As := []) (rest := [.ref (G.2.2 25)]) C rfl rfl rfl rfl (M_X7_overBits C.2.2.1 rfl h) CyX7_overBits tw_719 tw_684 tw_685 (by decide) rfl rfl (Nat.le_of_ble_eq_true rfl) dX8_orders_23 (fun r23 h => ?_)
    refine g_bipush (pc := 26) (v := -9) C dX8_orders_26 bp_m9 ?_
    refine g_iconst (pc := 28) (v := 0) C dX8_orders_28 ic_0 ?_
    refine g_callVNip (pc := 29) (As := [.int r23, .int (-9), .int 0]) (rest := []) C rfl rfl rfl rfl (M_X7_ordersBehind C.2.2.1 rfl h) CyX7_ordersBehind (List.mem_of_getElem? (i := 1) rfl) tw_722 ts_19 (by decide) rfl rfl (Nat.le_of_ble_eq_true rfl) dX8_orders_29 (fun r29 h => ?_)
    refine g_lv [] (lv2 := []) rfl ?_
    exact k_X8_orders_32 C  h
  · replace h := ite_t h c_
    refine g_bipush (pc := 10) (v := -4) C dX8_orders_10 bp_m4 ?_
    refine g_goto (pc := 12) (tgt := 32) C dX8_orders_12 (by decide) ?_
    refine g_lv [] (lv2 := []) rfl ?_
    exact k_X8_orders_32 C  h
set_option maxHeartbeats 4000000 in
set_option maxRecDepth 100000 in
theorem M_X8_put {l : Launch} {G : Gp} (hD : Dj shC G) {v1 : Int32} {v2 : Int32} {v3 : Int32} {σ : St} {K : Int32 → St → Prop} (h : wp_X8_put v1 v2 v3 σ K) : MC l shC G yX8_put cX8_put 6 (some .int) 2 [.ref (G.2.2 0), .int v1, .int v2, .int v3] σ (RI K) := by
  unfold wp_X8_put at h
  refine MC.of (by decide) hD (Nat.le_of_ble_eq_true rfl) ?_
  intro p e s m args below meth c C
  replace C : Cx p (rmD 2) s m args meth c shC G cX8_put 6 2 RX8 (some .int) 0 0 := C
  show Go p l e (rmD 2) s m args below meth c shC G 6 0 0 (MQ below (Qw shC G (RI K)) args s 0 0 (Fr shC G)) 0 [(0, .ref (G.2.2 0)), (1, .int v1), (2, .int v2), (3, .int v3)] [] σ
  refine g_iload_n (pc := 0) C 1 dX8_put_0 rfl rfl ?_
  refine g_callSip (pc := 1) (As := [.int v1]) (rest := []) C (M_X8_isText C.2.2.1  h) CyX8_isText tw_307 tw_308 (by decide) rfl rfl (Nat.le_of_ble_eq_true rfl) dX8_put_1 (fun r1 h => ?_)
  refine g_if_ne (pc := 4) (tgt := 9) C dX8_put_4 (by decide) (fun c_ => ?_) (fun c_ => ?_)
  · replace h := ite_f h c_
    refine g_aload_n (pc := 9) C 0 dX8_put_9 rfl rfl ?_
    refine get_X8_1 (pc := 10) C rfl tw_195 dX8_put_10 ?_
    refine g_iload_n (pc := 13) C 1 dX8_put_13 rfl rfl ?_
    obtain ⟨g_, h⟩ := h
    have hs14_ : shC[(17 + 2 * v1.toNatClampNeg)]? = some (6, 60, 0) := shR17 g_
    refine g_aldR (pc := 14) C rfl g_ dX8_put_14 ?_
    refine g_astore (pc := 15) (lv2 := [(4, .ref (G.2.2 (17 + 2 * v1.toNatClampNeg))), (0, .ref (G.2.2 0)), (1, .int v1), (2, .int v2), (3, .int v3)]) C dX8_put_15 (by decide) rfl ?_
    refine g_aload (pc := 17) C 0 dX8_put_17 rfl ?_
    refine get_X6_1 (pc := 19) C hs14_ tw_183 dX8_put_19 ?_
    refine g_if_ne (pc := 22) (tgt := 31) C dX8_put_22 (by decide) (fun c_ => ?_) (fun c_ => ?_)
    · replace h := ite_f h c_
      refine g_aload (pc := 31) C 0 dX8_put_31 rfl ?_
      refine g_iload_n (pc := 33) C 3 dX8_put_33 rfl rfl ?_
      refine g_callVip (pc := 34) (As := [.int v2]) (rest := []) C hs14_ rfl rfl rfl (M_X6_has C.2.2.1 hs14_ h) CyX6_has tw_276 tw_277 tw_278 (by decide) rfl rfl (Nat.le_of_ble_eq_true rfl) dX8_put_34 (fun r34 h => ?_)
      refine g_if_ne (pc := 37) (tgt := 46) C dX8_put_37 (by decide) (fun c_ => ?_) (fun c_ => ?_)
      · replace h := ite_f h c_
        refine g_aload (pc := 46) C 0 dX8_put_46 rfl ?_
        refine get_X6_0 (pc := 48) C hs14_ tw_180 dX8_put_48 ?_
        refine g_iload_n (pc := 51) C 3 dX8_put_51 rfl rfl ?_
        obtain ⟨g_, h⟩ := h
        refine g_iald (pc := 52) C (sh6_0 hs14_) g_ dX8_put_52 ?_
        refine g_istore (pc := 53) (lv2 := [(5, .int (σ.1 ((17 + 2 * v1.toNatClampNeg) + 1) v2.toNatClampNeg)), (4, .ref (G.2.2 (17 + 2 * v1.toNatClampNeg))), (0, .ref (G.2.2 0)), (1, .int v1), (2, .int v2), (3, .int v3)]) C dX8_put_53 (by decide) rfl ?_
        refine g_aload (pc := 55) C 1 dX8_put_55 rfl ?_
        refine get_X6_0 (pc := 57) C hs14_ tw_180 dX8_put_57 ?_
        refine g_iload_n (pc := 60) C 4 dX8_put_60 rfl rfl ?_
        refine g_iload_n (pc := 61) C 5 dX8_put_61 rfl rfl ?_
        refine g_i2b (pc := 62) C dX8_put_62 ?_
        obtain ⟨g_, h⟩ := h
        refine g_iast (pc := 63) C (sh6_0 hs14_) g_ dX8_put_63 ?_
        refine g_iload (pc := 64) C 0 dX8_put_64 rfl ?_
        refine g_sipush (pc := 66) (v := 1000) C dX8_put_66 sp_1000 ?_
        refine g_iadd (pc := 69) C dX8_put_69 ?_
        exact g_iret (pc := 70) C dX8_put_70 ⟨_, rfl, h⟩
      · replace h := ite_t h c_
        refine g_aload_n (pc := 40) C 1 dX8_put_40 rfl rfl ?_
        refine g_iconst (pc := 41) (v := 2) C dX8_put_41 ic_2 ?_
        refine g_callVi (pc := 42) (As := [.int 2]) (rest := []) C rfl rfl rfl rfl (M_X8_find C.2.2.1  h) CyX8_find tw_251 tw_253 ts_1 (by decide) rfl rfl (Nat.le_of_ble_eq_true rfl) dX8_put_42 (fun r42 t42 h => ?_)
        exact g_iret (pc := 45) C dX8_put_45 ⟨_, rfl, h⟩
    · replace h := ite_t h c_
      refine g_aload_n (pc := 25) C 1 dX8_put_25 rfl rfl ?_
      refine g_iconst (pc := 26) (v := 1) C dX8_put_26 ic_1 ?_
      refine g_callVi (pc := 27) (As := [.int 1]) (rest := []) C rfl rfl rfl rfl (M_X8_find C.2.2.1  h) CyX8_find tw_251 tw_253 ts_1 (by decide) rfl rfl (Nat.le_of_ble_eq_true rfl) dX8_put_27 (fun r27 t27 h => ?_)
      exact g_iret (pc := 30) C dX8_put_30 ⟨_, rfl, h⟩
  · replace h := ite_t h c_
    refine g_iconst (pc := 7) (v := -1) C dX8_put_7 ic_m1 ?_
    exact g_iret (pc := 8) C dX8_put_8 ⟨_, rfl, h⟩
set_option maxHeartbeats 4000000 in
set_option maxRecDepth 100000 in
theorem k_X4_layFewest_15 {k1 : Nat} {v2 : Int32} {k3 : Nat} {n3 : Nat} {v4 : Int32} {v5 : Int32} {σ : St} {K : St → Prop} (C : Cx p R s m args meth c shC G cX4_layFewest 7 4 RX4 none 0 0) (hk1 : shC[k1]? = some (0, 0, 0)) (hk3 : shC[k3]? = some (6, n3, 0)) (h : L_X4_layFewest_15 k1 v2 k3 n3 K v4 v5 σ) : Go p l e R s m args below meth c shC G 7 0 0 (MQ below (Qw shC G (RV K)) args s 0 0 (Fr shC G)) 15 [(0, .ref (G.2.2 76)), (1, .ref (G.2.2 k1)), (2, .int v2), (3, .ref (G.2.2 k3)), (4, .int v4), (5, .int v5)] [] σ := by
  obtain ⟨n_, h⟩ := h
  induction n_ generalizing v4 v5 σ with
  | zero => exact h.elim
  | succ n_ ih =>
    replace h : B_X4_layFewest_15 k1 v2 k3 n3 K (it3 (B_X4_layFewest_15 k1 v2 k3 n3 K) n_) v4 v5 σ := h
    unfold B_X4_layFewest_15 at h
    refine g_iload (pc := 15) C 5 dX4_layFewest_15 rfl ?_
    refine g_iload_n (pc := 17) C 2 dX4_layFewest_17 rfl rfl ?_
    refine g_icmp_ge (pc := 18) (tgt := 66) C dX4_layFewest_18 (by decide) (fun c_ => ?_) (fun c_ => ?_)
    · replace h := ite_t h c_
      exact g_vret (pc := 66) C dX4_layFewest_66 ⟨rfl, h⟩
    · replace h := ite_f h c_
      refine g_aload_n (pc := 21) C 0 dX4_layFewest_21 rfl rfl ?_
      refine g_aload_n (pc := 22) C 1 dX4_layFewest_22 rfl rfl ?_
      refine get_X0_0 (pc := 23) C hk1 tw_40 dX4_layFewest_23 ?_
      refine g_iload (pc := 26) C 4 dX4_layFewest_26 rfl ?_
      refine g_iload_n (pc := 28) C 2 dX4_layFewest_28 rfl rfl ?_
      refine g_iconst (pc := 29) (v := 1) C dX4_layFewest_29 ic_1 ?_
      refine g_isub (pc := 30) C dX4_layFewest_30 ?_
      refine g_iload (pc := 31) C 5 dX4_layFewest_31 rfl ?_
      refine g_isub (pc := 33) C dX4_layFewest_33 ?_
      refine g_callVip (pc := 34) (As := [.int (σ.1 k1 0), .int v4, .int ((v2 - 1) - v5)]) (rest := []) C rfl rfl rfl rfl (M_X4_pullToward C.2.2.1  h) CyX4_pullToward tw_544 tw_546 ts_12 (by decide) rfl rfl (Nat.le_of_ble_eq_true rfl) dX4_layFewest_34 (fun r34 h => ?_)
      refine g_istore (pc := 37) (lv2 := [(6, .int r34), (0, .ref (G.2.2 76)), (1, .ref (G.2.2 k1)), (2, .int v2), (3, .ref (G.2.2 k3)), (4, .int v4), (5, .int v5)]) C dX4_layFewest_37 (by decide) rfl ?_
      refine g_aload_n (pc := 39) C 4 dX4_layFewest_39 rfl rfl ?_
      refine g_iload (pc := 40) C 6 dX4_layFewest_40 rfl ?_
      refine g_iload (pc := 42) C 0 dX4_layFewest_42 rfl ?_
      refine g_callVv (pc := 44) (As := [.int v5, .int r34]) (rest := []) C hk3 rfl rfl rfl (M_X6_set C.2.2.1 hk3 h) CyX6_set tw_559 tw_560 tw_561 (by decide) rfl rfl (Nat.le_of_ble_eq_true rfl) dX4_layFewest_44 (fun t44 h => ?_)
      refine g_aload_n (pc := 47) C 2 dX4_layFewest_47 rfl rfl ?_
      refine get_X0_0 (pc := 48) C hk1 tw_40 dX4_layFewest_48 ?_
      refine g_iload (pc := 51) C 5 dX4_layFewest_51 rfl ?_
      refine g_iload (pc := 53) C 0 dX4_layFewest_53 rfl ?_
      refine g_callSNip (pc := 55) (As := [.int (t44.1 k1 0), .int v4, .int r34]) (rest := []) C (M_X8_after C.2.2.1  h) CyX8_after (List.mem_of_getElem? (i := 9) rfl) tw_401 (by decide) rfl rfl (Nat.le_of_ble_eq_true rfl) dX4_layFewest_55 (fun r55 h => ?_)
      refine g_istore (pc := 58) (lv2 := [(4, .int r55), (6, .int r34), (0, .ref (G.2.2 76)), (1, .ref (G.2.2 k1)), (2, .int v2), (3, .ref (G.2.2 k3)), (5, .int v5)]) C dX4_layFewest_58 (by decide) rfl ?_
      refine g_iinc (pc := 60) (lv2 := [(5, .int (v5 + 1)), (4, .int r55), (6, .int r34), (0, .ref (G.2.2 76)), (1, .ref (G.2.2 k1)), (2, .int v2), (3, .ref (G.2.2 k3))]) C 6 dX4_layFewest_60 ic_1 rfl (by decide) rfl ?_
      refine g_goto (pc := 63) (tgt := 15) C dX4_layFewest_63 (by decide) ?_
      refine g_lv [3, 4, 5, 6, 1, 0] (lv2 := [(0, .ref (G.2.2 76)), (1, .ref (G.2.2 k1)), (2, .int v2), (3, .ref (G.2.2 k3)), (4, .int r55), (5, .int (v5 + 1))]) rfl ?_
      exact ih h
set_option maxHeartbeats 4000000 in
set_option maxRecDepth 100000 in
theorem M_X4_layFewest {l : Launch} {G : Gp} (hD : Dj shC G) {k1 : Nat} {v2 : Int32} {k3 : Nat} {n3 : Nat} {σ : St} {K : St → Prop} (hk1 : shC[k1]? = some (0, 0, 0)) (hk3 : shC[k3]? = some (6, n3, 0)) (h : wp_X4_layFewest k1 v2 k3 n3 σ K) : MC l shC G yX4_layFewest cX4_layFewest 7 none 4 [.ref (G.2.2 76), .ref (G.2.2 k1), .int v2, .ref (G.2.2 k3)] σ (RV K) := by
  unfold wp_X4_layFewest at h
  refine MC.of (by decide) hD (Nat.le_of_ble_eq_true rfl) ?_
  intro p e s m args below meth c C
  replace C : Cx p (rmD 4) s m args meth c shC G cX4_layFewest 7 4 RX4 none 0 0 := C
  show Go p l e (rmD 4) s m args below meth c shC G 7 0 0 (MQ below (Qw shC G (RV K)) args s 0 0 (Fr shC G)) 0 [(0, .ref (G.2.2 76)), (1, .ref (G.2.2 k1)), (2, .int v2), (3, .ref (G.2.2 k3))] [] σ
  refine g_aload_n (pc := 0) C 3 dX4_layFewest_0 rfl rfl ?_
  refine g_iload_n (pc := 1) C 2 dX4_layFewest_1 rfl rfl ?_
  refine g_iconst (pc := 2) (v := 0) C dX4_layFewest_2 ic_0 ?_
  refine g_callVv (pc := 3) (As := [.int v2, .int 0]) (rest := []) C hk3 rfl rfl rfl (M_X6_begin C.2.2.1 hk3 h) CyX6_begin tw_558 tw_256 tw_257 (by decide) rfl rfl (Nat.le_of_ble_eq_true rfl) dX4_layFewest_3 (fun t3 h => ?_)
  refine g_aload_n (pc := 6) C 1 dX4_layFewest_6 rfl rfl ?_
  refine get_X0_3 (pc := 7) C hk1 tw_48 dX4_layFewest_7 ?_
  refine g_istore (pc := 10) (lv2 := [(4, .int (t3.1 k1 3)), (0, .ref (G.2.2 76)), (1, .ref (G.2.2 k1)), (2, .int v2), (3, .ref (G.2.2 k3))]) C dX4_layFewest_10 (by decide) rfl ?_
  refine g_iconst (pc := 12) (v := 0) C dX4_layFewest_12 ic_0 ?_
  refine g_istore (pc := 13) (lv2 := [(5, .int 0), (4, .int (t3.1 k1 3)), (0, .ref (G.2.2 76)), (1, .ref (G.2.2 k1)), (2, .int v2), (3, .ref (G.2.2 k3))]) C dX4_layFewest_13 (by decide) rfl ?_
  refine g_lv [2, 3, 4, 5, 1, 0] (lv2 := [(0, .ref (G.2.2 76)), (1, .ref (G.2.2 k1)), (2, .int v2), (3, .ref (G.2.2 k3)), (4, .int (t3.1 k1 3)), (5, .int 0)]) rfl ?_
  exact k_X4_layFewest_15 C hk1 hk3 h
set_option maxHeartbeats 4000000 in
set_option maxRecDepth 100000 in
theorem k_X8_raise_86 {v5 : Int32} {σ : St} {K : Int32 → St → Prop} (C : Cx p R s m args meth c shC G cX8_raise 6 5 RX8 (some .int) 0 0) (h : J_X8_raise_86 v5 σ K) : Go p l e R s m args below meth c shC G 6 0 0 (MQ below (Qw shC G (RI K)) args s 0 0 (Fr shC G)) 86 [(5, .int v5)] [] σ := by
  unfold J_X8_raise_86 at h
  refine g_iload (pc := 86) C 0 dX8_raise_86 rfl ?_
  exact g_iret (pc := 88) C dX8_raise_88 ⟨_, rfl, h⟩
set_option maxHeartbeats 4000000 in
set_option maxRecDepth 100000 in
theorem k_X8_raise_16 {v1 : Int32} {v2 : Int32} {w0 : Int32} {σ : St} {K : Int32 → St → Prop} (C : Cx p R s m args meth c shC G cX8_raise 6 5 RX8 (some .int) 0 0) (h : J_X8_raise_16 v1 v2 w0 σ K) : Go p l e R s m args below meth c shC G 6 0 0 (MQ below (Qw shC G (RI K)) args s 0 0 (Fr shC G)) 16 [(0, .ref (G.2.2 0)), (1, .int v1), (2, .int v2)] [.int w0] σ := by
  unfold J_X8_raise_16 at h
  refine g_istore_n (pc := 16) (lv2 := [(3, .int w0), (0, .ref (G.2.2 0)), (1, .int v1), (2, .int v2)]) C dX8_raise_16 rfl (by decide) rfl ?_
  refine g_iload_n (pc := 17) C 0 dX8_raise_17 rfl rfl ?_
  refine g_if_eq (pc := 18) (tgt := 23) C dX8_raise_18 (by decide) (fun c_ => ?_) (fun c_ => ?_)
  · replace h := ite_t h c_
    refine g_aload_n (pc := 23) C 1 dX8_raise_23 rfl rfl ?_
    refine get_X8_3 (pc := 24) C rfl tw_197 dX8_raise_24 ?_
    refine get_X7_0 (pc := 27) C rfl tw_72 dX8_raise_27 ?_
    refine g_iload_n (pc := 30) C 2 dX8_raise_30 rfl rfl ?_
    obtain ⟨g_, h⟩ := h
    have hs31_ : shC[(28 + v1.toNatClampNeg)]? = some (0, 0, 0) := sh7_e (k := 25) rfl g_
    refine g_aldB (pc := 31) C (sh7_0 rfl) g_ dX8_raise_31 ?_
    refine g_astore (pc := 32) (lv2 := [(4, .ref (G.2.2 (28 + v1.toNatClampNeg))), (3, .int w0), (0, .ref (G.2.2 0)), (1, .int v1), (2, .int v2)]) C dX8_raise_32 (by decide) rfl ?_
    refine g_aload_n (pc := 34) C 2 dX8_raise_34 rfl rfl ?_
    refine get_X8_7 (pc := 35) C rfl tw_201 dX8_raise_35 ?_
    refine g_aload (pc := 38) C 0 dX8_raise_38 rfl ?_
    refine get_X0_0 (pc := 40) C hs31_ tw_42 dX8_raise_40 ?_
    refine g_bipush (pc := 43) (v := 20) C dX8_raise_43 bp_20 ?_
    refine g_callVv (pc := 45) (As := [.int (σ.1 (28 + v1.toNatClampNeg) 0), .int 20]) (rest := []) C rfl rfl rfl rfl (M_X4_measure C.2.2.1  h) CyX4_measure tw_540 tw_541 tw_542 (by decide) rfl rfl (Nat.le_of_ble_eq_true rfl) dX8_raise_45 (fun t45 h => ?_)
    refine g_aload_n (pc := 48) C 2 dX8_raise_48 rfl rfl ?_
    refine get_X8_7 (pc := 49) C rfl tw_201 dX8_raise_49 ?_
    refine g_aload (pc := 52) C 0 dX8_raise_52 rfl ?_
    refine get_X0_3 (pc := 54) C hs31_ tw_50 dX8_raise_54 ?_
    refine g_callVip (pc := 57) (As := [.int (t45.1 (28 + v1.toNatClampNeg) 3)]) (rest := []) C rfl rfl rfl rfl (M_X4_strokesFrom C.2.2.1  h) CyX4_strokesFrom tw_553 tw_550 tw_551 (by decide) rfl rfl (Nat.le_of_ble_eq_true rfl) dX8_raise_57 (fun r57 h => ?_)
    refine g_istore (pc := 60) (lv2 := [(5, .int r57), (4, .ref (G.2.2 (28 + v1.toNatClampNeg))), (3, .int w0), (0, .ref (G.2.2 0)), (1, .int v1), (2, .int v2)]) C dX8_raise_60 (by decide) rfl ?_
    refine g_iload (pc := 62) C 0 dX8_raise_62 rfl ?_
    refine g_bipush (pc := 64) (v := -9) C dX8_raise_64 bp_m9 ?_
    refine g_icmp_eq (pc := 66) (tgt := 86) C dX8_raise_66 (by decide) (fun c_ => ?_) (fun c_ => ?_)
    · replace h := ite_t h c_
      refine g_lv [0] (lv2 := [(5, .int r57)]) rfl ?_
      exact k_X8_raise_86 C  h
    · replace h := ite_f h c_
      refine g_aload_n (pc := 69) C 3 dX8_raise_69 rfl rfl ?_
      refine get_X8_7 (pc := 70) C rfl tw_201 dX8_raise_70 ?_
      refine g_aload (pc := 73) C 1 dX8_raise_73 rfl ?_
      refine g_iload (pc := 75) C 0 dX8_raise_75 rfl ?_
      refine g_aload_n (pc := 77) C 3 dX8_raise_77 rfl rfl ?_
      refine get_X8_0 (pc := 78) C rfl tw_194 dX8_raise_78 ?_
      refine g_iload_n (pc := 81) C 5 dX8_raise_81 rfl rfl ?_
      obtain ⟨g_, h⟩ := h
      have hs82_ : shC[(5 + 2 * v2.toNatClampNeg)]? = some (6, 40, 0) := shR5 g_
      refine g_aldR (pc := 82) C rfl g_ dX8_raise_82 ?_
      refine g_callVv (pc := 83) (As := [.ref (G.2.2 (28 + v1.toNatClampNeg)), .int r57, .ref (G.2.2 (5 + 2 * v2.toNatClampNeg))]) (rest := []) C rfl rfl rfl rfl (M_X4_layFewest C.2.2.1 hs31_ hs82_ h) CyX4_layFewest tw_554 tw_555 tw_556 (by decide) rfl rfl (Nat.le_of_ble_eq_true rfl) dX8_raise_83 (fun t83 h => ?_)
      refine g_lv [0] (lv2 := [(5, .int r57)]) rfl ?_
      exact k_X8_raise_86 C  h
  · replace h := ite_f h c_
    refine g_iload_n (pc := 21) C 0 dX8_raise_21 rfl rfl ?_
    exact g_iret (pc := 22) C dX8_raise_22 ⟨_, rfl, h⟩
set_option maxHeartbeats 4000000 in
set_option maxRecDepth 100000 in
theorem M_X8_raise {l : Launch} {G : Gp} (hD : Dj shC G) {v1 : Int32} {v2 : Int32} {σ : St} {K : Int32 → St → Prop} (h : wp_X8_raise v1 v2 σ K) : MC l shC G yX8_raise cX8_raise 6 (some .int) 5 [.ref (G.2.2 0), .int v1, .int v2] σ (RI K) := by
  unfold wp_X8_raise at h
  refine MC.of (by decide) hD (Nat.le_of_ble_eq_true rfl) ?_
  intro p e s m args below meth c C
  replace C : Cx p (rmD 5) s m args meth c shC G cX8_raise 6 5 RX8 (some .int) 0 0 := C
  show Go p l e (rmD 5) s m args below meth c shC G 6 0 0 (MQ below (Qw shC G (RI K)) args s 0 0 (Fr shC G)) 0 [(0, .ref (G.2.2 0)), (1, .int v1), (2, .int v2)] [] σ
  refine g_iload_n (pc := 0) C 2 dX8_raise_0 rfl rfl ?_
  refine g_callSip (pc := 1) (As := [.int v2]) (rest := []) C (M_X8_isRow C.2.2.1  h) CyX8_isRow tw_244 tw_245 (by decide) rfl rfl (Nat.le_of_ble_eq_true rfl) dX8_raise_1 (fun r1 h => ?_)
  refine g_if_eq (pc := 4) (tgt := 15) C dX8_raise_4 (by decide) (fun c_ => ?_) (fun c_ => ?_)
  · replace h := ite_t h c_
    refine g_iconst (pc := 15) (v := -1) C dX8_raise_15 ic_m1 ?_
    refine g_lv [0, 1, 2] (lv2 := [(0, .ref (G.2.2 0)), (1, .int v1), (2, .int v2)]) rfl ?_
    exact k_X8_raise_16 C  h
  · replace h := ite_f h c_
    refine g_aload_n (pc := 7) C 0 dX8_raise_7 rfl rfl ?_
    refine g_iload_n (pc := 8) C 1 dX8_raise_8 rfl rfl ?_
    refine g_callVip (pc := 9) (As := [.int v1]) (rest := []) C rfl rfl rfl rfl (M_X8_refuseBell C.2.2.1  h) CyX8_refuseBell tw_435 tw_437 ts_7 (by decide) rfl rfl (Nat.le_of_ble_eq_true rfl) dX8_raise_9 (fun r9 h => ?_)
    refine g_goto (pc := 12) (tgt := 16) C dX8_raise_12 (by decide) ?_
    refine g_lv [0, 1, 2] (lv2 := [(0, .ref (G.2.2 0)), (1, .int v1), (2, .int v2)]) rfl ?_
    exact k_X8_raise_16 C  h
set_option maxHeartbeats 4000000 in
set_option maxRecDepth 100000 in
theorem k_X7_roundDeed_9 {k0 : Nat} {n0 : Nat} {v1 : Int32} {v2 : Int32} {σ : St} {K : Int32 → Prop} (C : Cx p R s m args meth c shC G cX7_roundDeed 3 1 RX7 (some .int) 0 0) (hk0 : shC[k0]? = some (6, n0, 0)) (h : L_X7_roundDeed_9 k0 n0 σ K v1 v2) : Go p l e R s m args below meth c shC G 3 0 0 (MQ below (Qw shC G (RI (fun r t => t = σ ∧ K r))) args s 0 0 (Fr shC G)) 9 [(0, .ref (G.2.2 k0)), (1, .int v1), (2, .int v2)] [] σ := by
  obtain ⟨n_, h⟩ := h
  induction n_ generalizing v1 v2 with
  | zero => exact h.elim
  | succ n_ ih =>
    replace h : B_X7_roundDeed_9 k0 n0 σ K (it2 (B_X7_roundDeed_9 k0 n0 σ K) n_) v1 v2 := h
    unfold B_X7_roundDeed_9 at h
    refine g_iload_n (pc := 9) C 2 dX7_roundDeed_9 rfl rfl ?_
    refine g_if_lt (pc := 10) (tgt := 31) C dX7_roundDeed_10 (by decide) (fun c_ => ?_) (fun c_ => ?_)
    · replace h := ite_t h c_
      refine g_bipush (pc := 31) (v := 48) C dX7_roundDeed_31 bp_48 ?_
      refine g_iload_n (pc := 33) C 1 dX7_roundDeed_33 rfl rfl ?_
      refine g_iadd (pc := 34) C dX7_roundDeed_34 ?_
      exact g_iret (pc := 35) C dX7_roundDeed_35 ⟨_, rfl, ⟨rfl, h⟩⟩
    · replace h := ite_f h c_
      refine g_iload_n (pc := 13) C 1 dX7_roundDeed_13 rfl rfl ?_
      refine g_bipush (pc := 14) (v := 7) C dX7_roundDeed_14 bp_7 ?_
      refine g_imul (pc := 16) C dX7_roundDeed_16 ?_
      refine g_aload_n (pc := 17) C 0 dX7_roundDeed_17 rfl rfl ?_
      refine get_X6_0 (pc := 18) C hk0 tw_181 dX7_roundDeed_18 ?_
      refine g_iload_n (pc := 21) C 2 dX7_roundDeed_21 rfl rfl ?_
      obtain ⟨g_, h⟩ := h
      refine g_iald (pc := 22) C (sh6_0 hk0) g_ dX7_roundDeed_22 ?_
      refine g_iadd (pc := 23) C dX7_roundDeed_23 ?_
      refine g_istore_n (pc := 24) (lv2 := [(1, .int ((v1 * 7) + (σ.1 (k0 + 1) v2.toNatClampNeg))), (0, .ref (G.2.2 k0)), (2, .int v2)]) C dX7_roundDeed_24 rfl (by decide) rfl ?_
      refine g_iinc (pc := 25) (lv2 := [(2, .int (v2 + (-1))), (1, .int ((v1 * 7) + (σ.1 (k0 + 1) v2.toNatClampNeg))), (0, .ref (G.2.2 k0))]) C 2 dX7_roundDeed_25 ic_m1 rfl (by decide) rfl ?_
      refine g_goto (pc := 28) (tgt := 9) C dX7_roundDeed_28 (by decide) ?_
      refine g_lv [2, 1, 0] (lv2 := [(0, .ref (G.2.2 k0)), (1, .int ((v1 * 7) + (σ.1 (k0 + 1) v2.toNatClampNeg))), (2, .int (v2 + (-1)))]) rfl ?_
      exact ih h
set_option maxHeartbeats 4000000 in
set_option maxRecDepth 100000 in
theorem M_X7_roundDeed {l : Launch} {G : Gp} (hD : Dj shC G) {k0 : Nat} {n0 : Nat} {σ : St} {K : Int32 → Prop} (hk0 : shC[k0]? = some (6, n0, 0)) (h : wp_X7_roundDeed k0 n0 σ K) : MC l shC G yX7_roundDeed cX7_roundDeed 3 (some .int) 1 [.ref (G.2.2 k0)] σ (RI (fun r t => t = σ ∧ K r)) := by
  unfold wp_X7_roundDeed at h
  refine MC.of (by decide) hD (Nat.le_of_ble_eq_true rfl) ?_
  intro p e s m args below meth c C
  replace C : Cx p (rmD 1) s m args meth c shC G cX7_roundDeed 3 1 RX7 (some .int) 0 0 := C
  show Go p l e (rmD 1) s m args below meth c shC G 3 0 0 (MQ below (Qw shC G (RI (fun r t => t = σ ∧ K r))) args s 0 0 (Fr shC G)) 0 [(0, .ref (G.2.2 k0))] [] σ
  refine g_iconst (pc := 0) (v := 0) C dX7_roundDeed_0 ic_0 ?_
  refine g_istore_n (pc := 1) (lv2 := [(1, .int 0), (0, .ref (G.2.2 k0))]) C dX7_roundDeed_1 rfl (by decide) rfl ?_
  refine g_aload_n (pc := 2) C 1 dX7_roundDeed_2 rfl rfl ?_
  refine get_X6_2 (pc := 3) C hk0 tw_185 dX7_roundDeed_3 ?_
  refine g_iconst (pc := 6) (v := 1) C dX7_roundDeed_6 ic_1 ?_
  refine g_isub (pc := 7) C dX7_roundDeed_7 ?_
  refine g_istore_n (pc := 8) (lv2 := [(2, .int ((σ.1 k0 2) - 1)), (1, .int 0), (0, .ref (G.2.2 k0))]) C dX7_roundDeed_8 rfl (by decide) rfl ?_
  refine g_lv [2, 1, 0] (lv2 := [(0, .ref (G.2.2 k0)), (1, .int 0), (2, .int ((σ.1 k0 2) - 1))]) rfl ?_
  exact k_X7_roundDeed_9 C hk0 h
set_option maxHeartbeats 4000000 in
set_option maxRecDepth 100000 in
theorem M_X8_round {l : Launch} {G : Gp} (hD : Dj shC G) {v1 : Int32} {σ : St} {K : Int32 → St → Prop} (h : wp_X8_round v1 σ K) : MC l shC G yX8_round cX8_round 3 (some .int) 6 [.ref (G.2.2 0), .int v1] σ (RI K) := by
  unfold wp_X8_round at h
  refine MC.of (by decide) hD (Nat.le_of_ble_eq_true rfl) ?_
  intro p e s m args below meth c C
  replace C : Cx p (rmD 6) s m args meth c shC G cX8_round 3 6 RX8 (some .int) 0 0 := C
  show Go p l e (rmD 6) s m args below meth c shC G 3 0 0 (MQ below (Qw shC G (RI K)) args s 0 0 (Fr shC G)) 0 [(0, .ref (G.2.2 0)), (1, .int v1)] [] σ
  refine g_aload_n (pc := 0) C 0 dX8_round_0 rfl rfl ?_
  refine g_iload_n (pc := 1) C 1 dX8_round_1 rfl rfl ?_
  refine g_callVi (pc := 2) (As := [.int v1]) (rest := []) C rfl rfl rfl rfl (M_X8_refuseRound C.2.2.1  h) CyX8_refuseRound tw_467 tw_469 ts_9 (by decide) rfl rfl (Nat.le_of_ble_eq_true rfl) dX8_round_2 (fun r2 t2 h => ?_)
  refine g_istore_n (pc := 5) (lv2 := [(2, .int r2), (0, .ref (G.2.2 0)), (1, .int v1)]) C dX8_round_5 rfl (by decide) rfl ?_
  refine g_iload_n (pc := 6) C 0 dX8_round_6 rfl rfl ?_
  refine g_if_eq (pc := 7) (tgt := 12) C dX8_round_7 (by decide) (fun c_ => ?_) (fun c_ => ?_)
  · replace h := ite_t h c_
    refine g_aload_n (pc := 12) C 1 dX8_round_12 rfl rfl ?_
    refine get_X8_3 (pc := 13) C rfl tw_197 dX8_round_13 ?_
    refine g_callVip (pc := 16) (As := []) (rest := []) C rfl rfl rfl rfl (M_X7_roomLeft C.2.2.1 rfl h) CyX7_roomLeft tw_439 tw_440 tw_441 (by decide) rfl rfl (Nat.le_of_ble_eq_true rfl) dX8_round_16 (fun r16 h => ?_)
    refine g_iconst (pc := 19) (v := 1) C dX8_round_19 ic_1 ?_
    refine g_icmp_ge (pc := 20) (tgt := 26) C dX8_round_20 (by decide) (fun c_ => ?_) (fun c_ => ?_)
    · replace h := ite_t h c_
      refine g_aload_n (pc := 26) C 1 dX8_round_26 rfl rfl ?_
      refine g_aload_n (pc := 27) C 1 dX8_round_27 rfl rfl ?_
      refine get_X8_0 (pc := 28) C rfl tw_194 dX8_round_28 ?_
      refine g_iload_n (pc := 31) C 2 dX8_round_31 rfl rfl ?_
      obtain ⟨g_, h⟩ := h
      have hs32_ : shC[(5 + 2 * v1.toNatClampNeg)]? = some (6, 40, 0) := shR5 g_
      refine g_aldR (pc := 32) C rfl g_ dX8_round_32 ?_
      refine g_callVv (pc := 33) (As := [.ref (G.2.2 (5 + 2 * v1.toNatClampNeg))]) (rest := []) C rfl rfl rfl rfl (M_X8_listen C.2.2.1 hs32_ h) CyX8_listen tw_476 tw_478 ts_10 (by decide) rfl rfl (Nat.le_of_ble_eq_true rfl) dX8_round_33 (fun t33 h => ?_)
      refine g_aload_n (pc := 36) C 1 dX8_round_36 rfl rfl ?_
      refine get_X8_3 (pc := 37) C rfl tw_197 dX8_round_37 ?_
      refine g_aload_n (pc := 40) C 1 dX8_round_40 rfl rfl ?_
      refine get_X8_0 (pc := 41) C rfl tw_194 dX8_round_41 ?_
      refine g_iload_n (pc := 44) C 2 dX8_round_44 rfl rfl ?_
      obtain ⟨g_, h⟩ := h
      have hs45_ : shC[(5 + 2 * v1.toNatClampNeg)]? = some (6, 40, 0) := shR5 g_
      refine g_aldR (pc := 45) C rfl g_ dX8_round_45 ?_
      refine g_callSip (pc := 46) (As := [.ref (G.2.2 (5 + 2 * v1.toNatClampNeg))]) (rest := [.ref (G.2.2 25)]) C (M_X7_roundDeed C.2.2.1 hs45_ h) CyX7_roundDeed tw_492 tw_493 (by decide) rfl rfl (Nat.le_of_ble_eq_true rfl) dX8_round_46 (fun r46 h => ?_)
      refine g_callVv (pc := 49) (As := [.int r46]) (rest := []) C rfl rfl rfl rfl (M_X7_act C.2.2.1 rfl h) CyX7_act tw_446 tw_447 tw_448 (by decide) rfl rfl (Nat.le_of_ble_eq_true rfl) dX8_round_49 (fun t49 h => ?_)
      refine g_aload_n (pc := 52) C 1 dX8_round_52 rfl rfl ?_
      refine get_X8_5 (pc := 53) C rfl tw_199 dX8_round_53 ?_
      refine g_callVip (pc := 56) (As := []) (rest := []) C rfl rfl rfl rfl (M_X3_bits C.2.2.1  h) CyX3_bits tw_495 tw_496 tw_497 (by decide) rfl rfl (Nat.le_of_ble_eq_true rfl) dX8_round_56 (fun r56 h => ?_)
      exact g_iret (pc := 59) C dX8_round_59 ⟨_, rfl, h⟩
    · replace h := ite_f h c_
      refine g_bipush (pc := 23) (v := -2) C dX8_round_23 bp_m2 ?_
      exact g_iret (pc := 25) C dX8_round_25 ⟨_, rfl, h⟩
  · replace h := ite_f h c_
    refine g_iload_n (pc := 10) C 0 dX8_round_10 rfl rfl ?_
    exact g_iret (pc := 11) C dX8_round_11 ⟨_, rfl, h⟩
set_option maxHeartbeats 4000000 in
set_option maxRecDepth 100000 in
theorem k_X8_row_23 {w0 : Int32} {σ : St} {K : Int32 → St → Prop} (C : Cx p R s m args meth c shC G cX8_row 3 5 RX8 (some .int) 0 0) (h : J_X8_row_23 w0 σ K) : Go p l e R s m args below meth c shC G 3 0 0 (MQ below (Qw shC G (RI K)) args s 0 0 (Fr shC G)) 23 [] [.int w0] σ := by
  unfold J_X8_row_23 at h
  exact g_iret (pc := 23) C dX8_row_23 ⟨_, rfl, h⟩
set_option maxHeartbeats 4000000 in
set_option maxRecDepth 100000 in
theorem M_X8_row {l : Launch} {G : Gp} (hD : Dj shC G) {v1 : Int32} {v2 : Int32} {σ : St} {K : Int32 → St → Prop} (h : wp_X8_row v1 v2 σ K) : MC l shC G yX8_row cX8_row 3 (some .int) 5 [.ref (G.2.2 0), .int v1, .int v2] σ (RI K) := by
  unfold wp_X8_row at h
  refine MC.of (by decide) hD (Nat.le_of_ble_eq_true rfl) ?_
  intro p e s m args below meth c C
  replace C : Cx p (rmD 5) s m args meth c shC G cX8_row 3 5 RX8 (some .int) 0 0 := C
  show Go p l e (rmD 5) s m args below meth c shC G 3 0 0 (MQ below (Qw shC G (RI K)) args s 0 0 (Fr shC G)) 0 [(0, .ref (G.2.2 0)), (1, .int v1), (2, .int v2)] [] σ
  refine g_iload_n (pc := 0) C 1 dX8_row_0 rfl rfl ?_
  refine g_callSip (pc := 1) (As := [.int v1]) (rest := []) C (M_X8_isRow C.2.2.1  h) CyX8_isRow tw_244 tw_245 (by decide) rfl rfl (Nat.le_of_ble_eq_true rfl) dX8_row_1 (fun r1 h => ?_)
  refine g_if_eq (pc := 4) (tgt := 22) C dX8_row_4 (by decide) (fun c_ => ?_) (fun c_ => ?_)
  · replace h := ite_t h c_
    refine g_iconst (pc := 22) (v := -1) C dX8_row_22 ic_m1 ?_
    refine g_lv [] (lv2 := []) rfl ?_
    exact k_X8_row_23 C  h
  · replace h := ite_f h c_
    refine g_aload_n (pc := 7) C 0 dX8_row_7 rfl rfl ?_
    refine g_aload_n (pc := 8) C 0 dX8_row_8 rfl rfl ?_
    refine get_X8_0 (pc := 9) C rfl tw_194 dX8_row_9 ?_
    refine g_iload_n (pc := 12) C 1 dX8_row_12 rfl rfl ?_
    obtain ⟨g_, h⟩ := h
    have hs13_ : shC[(5 + 2 * v1.toNatClampNeg)]? = some (6, 40, 0) := shR5 g_
    refine g_aldR (pc := 13) C rfl g_ dX8_row_13 ?_
    refine g_iload_n (pc := 14) C 2 dX8_row_14 rfl rfl ?_
    refine g_iconst (pc := 15) (v := 0) C dX8_row_15 ic_0 ?_
    refine g_callVi (pc := 16) (As := [.ref (G.2.2 (5 + 2 * v1.toNatClampNeg)), .int v2, .int 0]) (rest := []) C rfl rfl rfl rfl (M_X8_anew C.2.2.1 hs13_ h) CyX8_anew tw_247 tw_249 ts_0 (by decide) rfl rfl (Nat.le_of_ble_eq_true rfl) dX8_row_16 (fun r16 t16 h => ?_)
    refine g_goto (pc := 19) (tgt := 23) C dX8_row_19 (by decide) ?_
    refine g_lv [] (lv2 := []) rfl ?_
    exact k_X8_row_23 C  h
set_option maxHeartbeats 4000000 in
set_option maxRecDepth 100000 in
theorem k_X8_stands_87 {k3 : Nat} {v4 : Int32} {v5 : Int32} {v6 : Int32} {σ : St} {K : Int32 → St → Prop} {Φ31 : Int32 → Int32 → Int32 → Prop} (C : Cx p R s m args meth c shC G cX8_stands 8 3 RX8 (some .int) 0 0) (hk3 : shC[k3]? = some (0, 0, 0)) (hΦ31 : ∀ (v4' : Int32) (v5' : Int32) (v6' : Int32), Φ31 v4' v5' v6' → Go p l e R s m args below meth c shC G 8 0 0 (MQ below (Qw shC G (RI K)) args s 0 0 (Fr shC G)) 31 [(0, .ref (G.2.2 0)), (3, .ref (G.2.2 k3)), (4, .int (v4')), (5, .int (v5')), (6, .int (v6'))] [] σ) (h : J_X8_stands_87 k3 v4 v5 v6 σ K Φ31) : Go p l e R s m args below meth c shC G 8 0 0 (MQ below (Qw shC G (RI K)) args s 0 0 (Fr shC G)) 87 [(0, .ref (G.2.2 0)), (3, .ref (G.2.2 k3)), (4, .int v4), (5, .int v5), (6, .int v6)] [] σ := by
  unfold J_X8_stands_87 at h
  refine g_iinc (pc := 87) (lv2 := [(6, .int (v6 + 1)), (0, .ref (G.2.2 0)), (3, .ref (G.2.2 k3)), (4, .int v4), (5, .int v5)]) C 4 dX8_stands_87 ic_1 rfl (by decide) rfl ?_
  refine g_goto (pc := 90) (tgt := 31) C dX8_stands_90 (by decide) ?_
  refine g_lv [1, 2, 3, 4, 0] (lv2 := [(0, .ref (G.2.2 0)), (3, .ref (G.2.2 k3)), (4, .int v4), (5, .int v5), (6, .int (v6 + 1))]) rfl ?_
  exact hΦ31 _ _ _ h
set_option maxHeartbeats 4000000 in
set_option maxRecDepth 100000 in
theorem k_X8_stands_31 {k3 : Nat} {v4 : Int32} {v5 : Int32} {v6 : Int32} {σ : St} {K : Int32 → St → Prop} (C : Cx p R s m args meth c shC G cX8_stands 8 3 RX8 (some .int) 0 0) (hk3 : shC[k3]? = some (0, 0, 0)) (h : L_X8_stands_31 k3 σ K v4 v5 v6) : Go p l e R s m args below meth c shC G 8 0 0 (MQ below (Qw shC G (RI K)) args s 0 0 (Fr shC G)) 31 [(0, .ref (G.2.2 0)), (3, .ref (G.2.2 k3)), (4, .int v4), (5, .int v5), (6, .int v6)] [] σ := by
  obtain ⟨n_, h⟩ := h
  induction n_ generalizing v4 v5 v6 with
  | zero => exact h.elim
  | succ n_ ih =>
    replace h : B_X8_stands_31 k3 σ K (it3 (B_X8_stands_31 k3 σ K) n_) v4 v5 v6 := h
    unfold B_X8_stands_31 at h
    refine g_iload (pc := 31) C 4 dX8_stands_31 rfl ?_
    refine g_bipush (pc := 33) (v := 7) C dX8_stands_33 bp_7 ?_
    refine g_icmp_ge (pc := 35) (tgt := 93) C dX8_stands_35 (by decide) (fun c_ => ?_) (fun c_ => ?_)
    · replace h := ite_t h c_
      refine g_aload_n (pc := 93) C 0 dX8_stands_93 rfl rfl ?_
      refine g_iload (pc := 94) C 3 dX8_stands_94 rfl ?_
      refine put_X8_12 (pc := 96) C rfl tw_206 dX8_stands_96 ?_
      refine g_iload (pc := 99) C 2 dX8_stands_99 rfl ?_
      exact g_iret (pc := 101) C dX8_stands_101 ⟨_, rfl, h⟩
    · replace h := ite_f h c_
      refine g_aload_n (pc := 38) C 1 dX8_stands_38 rfl rfl ?_
      refine get_X0_0 (pc := 39) C hk3 tw_42 dX8_stands_39 ?_
      refine g_aload_n (pc := 42) C 1 dX8_stands_42 rfl rfl ?_
      refine get_X0_3 (pc := 43) C hk3 tw_50 dX8_stands_43 ?_
      refine g_iload (pc := 46) C 4 dX8_stands_46 rfl ?_
      refine g_callSip (pc := 48) (As := [.int (σ.1 k3 0), .int (σ.1 k3 3), .int v6]) (rest := []) C (M_X8_after C.2.2.1  h) CyX8_after tw_400 tw_401 (by decide) rfl rfl (Nat.le_of_ble_eq_true rfl) dX8_stands_48 (fun r48 h => ?_)
      refine g_istore (pc := 51) (lv2 := [(7, .int r48), (0, .ref (G.2.2 0)), (3, .ref (G.2.2 k3)), (4, .int v4), (5, .int v5), (6, .int v6)]) C dX8_stands_51 (by decide) rfl ?_
      refine g_iload (pc := 53) C 0 dX8_stands_53 rfl ?_
      refine g_bipush (pc := 55) (v := 20) C dX8_stands_55 bp_20 ?_
      refine g_icmp_ne (pc := 57) (tgt := 72) C dX8_stands_57 (by decide) (fun c_ => ?_) (fun c_ => ?_)
      · replace h := ite_f h c_
        refine g_iload (pc := 72) C 0 dX8_stands_72 rfl ?_
        refine g_iconst (pc := 74) (v := -1) C dX8_stands_74 ic_m1 ?_
        refine g_icmp_ne (pc := 75) (tgt := 87) C dX8_stands_75 (by decide) (fun c_ => ?_) (fun c_ => ?_)
        · replace h := ite_f h c_
          refine g_lv [1, 2, 3, 4, 5] (lv2 := [(0, .ref (G.2.2 0)), (3, .ref (G.2.2 k3)), (4, .int v4), (5, .int v5), (6, .int v6)]) rfl ?_
          exact k_X8_stands_87 C hk3 (fun _ _ _ h_ => ih h_) h
        · replace h := ite_t h c_
          refine g_iload (pc := 78) C 4 dX8_stands_78 rfl ?_
          refine g_iconst (pc := 80) (v := 1) C dX8_stands_80 ic_1 ?_
          refine g_iload (pc := 81) C 5 dX8_stands_81 rfl ?_
          refine g_ishl (pc := 83) C dX8_stands_83 ?_
          refine g_ior (pc := 84) C dX8_stands_84 ?_
          refine g_istore (pc := 85) (lv2 := [(5, .int (v5 ||| (shl 1 v6))), (7, .int r48), (0, .ref (G.2.2 0)), (3, .ref (G.2.2 k3)), (4, .int v4), (6, .int v6)]) C dX8_stands_85 (by decide) rfl ?_
          refine g_lv [2, 3, 4, 0, 5] (lv2 := [(0, .ref (G.2.2 0)), (3, .ref (G.2.2 k3)), (4, .int v4), (5, .int (v5 ||| (shl 1 v6))), (6, .int v6)]) rfl ?_
          exact k_X8_stands_87 C hk3 (fun _ _ _ h_ => ih h_) h
      · replace h := ite_t h c_
        refine g_iload (pc := 60) C 3 dX8_stands_60 rfl ?_
        refine g_iconst (pc := 62) (v := 1) C dX8_stands_62 ic_1 ?_
        refine g_iload (pc := 63) C 5 dX8_stands_63 rfl ?_
        refine g_ishl (pc := 65) C dX8_stands_65 ?_
        refine g_ior (pc := 66) C dX8_stands_66 ?_
        refine g_istore (pc := 67) (lv2 := [(4, .int (v4 ||| (shl 1 v6))), (7, .int r48), (0, .ref (G.2.2 0)), (3, .ref (G.2.2 k3)), (5, .int v5), (6, .int v6)]) C dX8_stands_67 (by decide) rfl ?_
        refine g_goto (pc := 69) (tgt := 87) C dX8_stands_69 (by decide) ?_
        refine g_lv [2, 3, 0, 4, 5] (lv2 := [(0, .ref (G.2.2 0)), (3, .ref (G.2.2 k3)), (4, .int (v4 ||| (shl 1 v6))), (5, .int v5), (6, .int v6)]) rfl ?_
        exact k_X8_stands_87 C hk3 (fun _ _ _ h_ => ih h_) h
set_option maxHeartbeats 4000000 in
set_option maxRecDepth 100000 in
theorem M_X8_stands {l : Launch} {G : Gp} (hD : Dj shC G) {v1 : Int32} {σ : St} {K : Int32 → St → Prop} (h : wp_X8_stands v1 σ K) : MC l shC G yX8_stands cX8_stands 8 (some .int) 3 [.ref (G.2.2 0), .int v1] σ (RI K) := by
  unfold wp_X8_stands at h
  refine MC.of (by decide) hD (Nat.le_of_ble_eq_true rfl) ?_
  intro p e s m args below meth c C
  replace C : Cx p (rmD 3) s m args meth c shC G cX8_stands 8 3 RX8 (some .int) 0 0 := C
  show Go p l e (rmD 3) s m args below meth c shC G 8 0 0 (MQ below (Qw shC G (RI K)) args s 0 0 (Fr shC G)) 0 [(0, .ref (G.2.2 0)), (1, .int v1)] [] σ
  refine g_aload_n (pc := 0) C 0 dX8_stands_0 rfl rfl ?_
  refine g_iload_n (pc := 1) C 1 dX8_stands_1 rfl rfl ?_
  refine g_callVip (pc := 2) (As := [.int v1]) (rest := []) C rfl rfl rfl rfl (M_X8_refuseBell C.2.2.1  h) CyX8_refuseBell tw_435 tw_437 ts_7 (by decide) rfl rfl (Nat.le_of_ble_eq_true rfl) dX8_stands_2 (fun r2 h => ?_)
  refine g_istore_n (pc := 5) (lv2 := [(2, .int r2), (0, .ref (G.2.2 0)), (1, .int v1)]) C dX8_stands_5 rfl (by decide) rfl ?_
  refine g_iload_n (pc := 6) C 0 dX8_stands_6 rfl rfl ?_
  refine g_if_eq (pc := 7) (tgt := 12) C dX8_stands_7 (by decide) (fun c_ => ?_) (fun c_ => ?_)
  · replace h := ite_t h c_
    refine g_aload_n (pc := 12) C 1 dX8_stands_12 rfl rfl ?_
    refine get_X8_3 (pc := 13) C rfl tw_197 dX8_stands_13 ?_
    refine get_X7_0 (pc := 16) C rfl tw_72 dX8_stands_16 ?_
    refine g_iload_n (pc := 19) C 2 dX8_stands_19 rfl rfl ?_
    obtain ⟨g_, h⟩ := h
    have hs20_ : shC[(28 + v1.toNatClampNeg)]? = some (0, 0, 0) := sh7_e (k := 25) rfl g_
    refine g_aldB (pc := 20) C (sh7_0 rfl) g_ dX8_stands_20 ?_
    refine g_astore_n (pc := 21) (lv2 := [(3, .ref (G.2.2 (28 + v1.toNatClampNeg))), (2, .int r2), (0, .ref (G.2.2 0)), (1, .int v1)]) C dX8_stands_21 rfl (by decide) rfl ?_
    refine g_iconst (pc := 22) (v := 0) C dX8_stands_22 ic_0 ?_
    refine g_istore (pc := 23) (lv2 := [(4, .int 0), (3, .ref (G.2.2 (28 + v1.toNatClampNeg))), (2, .int r2), (0, .ref (G.2.2 0)), (1, .int v1)]) C dX8_stands_23 (by decide) rfl ?_
    refine g_iconst (pc := 25) (v := 0) C dX8_stands_25 ic_0 ?_
    refine g_istore (pc := 26) (lv2 := [(5, .int 0), (4, .int 0), (3, .ref (G.2.2 (28 + v1.toNatClampNeg))), (2, .int r2), (0, .ref (G.2.2 0)), (1, .int v1)]) C dX8_stands_26 (by decide) rfl ?_
    refine g_iconst (pc := 28) (v := 0) C dX8_stands_28 ic_0 ?_
    refine g_istore (pc := 29) (lv2 := [(6, .int 0), (5, .int 0), (4, .int 0), (3, .ref (G.2.2 (28 + v1.toNatClampNeg))), (2, .int r2), (0, .ref (G.2.2 0)), (1, .int v1)]) C dX8_stands_29 (by decide) rfl ?_
    refine g_lv [5, 3, 2, 1, 0] (lv2 := [(0, .ref (G.2.2 0)), (3, .ref (G.2.2 (28 + v1.toNatClampNeg))), (4, .int 0), (5, .int 0), (6, .int 0)]) rfl ?_
    exact k_X8_stands_31 C hs20_ h
  · replace h := ite_f h c_
    refine g_iload_n (pc := 10) C 0 dX8_stands_10 rfl rfl ?_
    exact g_iret (pc := 11) C dX8_stands_11 ⟨_, rfl, h⟩
set_option maxHeartbeats 4000000 in
set_option maxRecDepth 100000 in
theorem k_X8_strikes_32 {w0 : Int32} {σ : St} {K : Int32 → Prop} (C : Cx p R s m args meth c shC G cX8_strikes 4 4 RX8 (some .int) 0 0) (h : J_X8_strikes_32 w0 σ K) : Go p l e R s m args below meth c shC G 4 0 0 (MQ below (Qw shC G (RI (fun r t => t = σ ∧ K r))) args s 0 0 (Fr shC G)) 32 [] [.int w0] σ := by
  unfold J_X8_strikes_32 at h
  exact g_iret (pc := 32) C dX8_strikes_32 ⟨_, rfl, ⟨rfl, h⟩⟩
set_option maxHeartbeats 4000000 in
set_option maxRecDepth 100000 in
theorem M_X8_strikes {l : Launch} {G : Gp} (hD : Dj shC G) {v1 : Int32} {v2 : Int32} {σ : St} {K : Int32 → Prop} (h : wp_X8_strikes v1 v2 σ K) : MC l shC G yX8_strikes cX8_strikes 4 (some .int) 4 [.ref (G.2.2 0), .int v1, .int v2] σ (RI (fun r t => t = σ ∧ K r)) := by
  unfold wp_X8_strikes at h
  refine MC.of (by decide) hD (Nat.le_of_ble_eq_true rfl) ?_
  intro p e s m args below meth c C
  replace C : Cx p (rmD 4) s m args meth c shC G cX8_strikes 4 4 RX8 (some .int) 0 0 := C
  show Go p l e (rmD 4) s m args below meth c shC G 4 0 0 (MQ below (Qw shC G (RI (fun r t => t = σ ∧ K r))) args s 0 0 (Fr shC G)) 0 [(0, .ref (G.2.2 0)), (1, .int v1), (2, .int v2)] [] σ
  refine g_iload_n (pc := 0) C 2 dX8_strikes_0 rfl rfl ?_
  refine g_callSip (pc := 1) (As := [.int v2]) (rest := []) C (M_X8_isPull C.2.2.1  h) CyX8_isPull tw_432 tw_433 (by decide) rfl rfl (Nat.le_of_ble_eq_true rfl) dX8_strikes_1 (fun r1 h => ?_)
  refine g_if_ne (pc := 4) (tgt := 9) C dX8_strikes_4 (by decide) (fun c_ => ?_) (fun c_ => ?_)
  · replace h := ite_f h c_
    refine g_aload_n (pc := 9) C 0 dX8_strikes_9 rfl rfl ?_
    refine g_iload_n (pc := 10) C 1 dX8_strikes_10 rfl rfl ?_
    refine g_callVip (pc := 11) (As := [.int v1]) (rest := []) C rfl rfl rfl rfl (M_X8_refuseBell C.2.2.1  h) CyX8_refuseBell tw_435 tw_437 ts_7 (by decide) rfl rfl (Nat.le_of_ble_eq_true rfl) dX8_strikes_11 (fun r11 h => ?_)
    refine g_istore_n (pc := 14) (lv2 := [(3, .int r11), (0, .ref (G.2.2 0)), (1, .int v1), (2, .int v2)]) C dX8_strikes_14 rfl (by decide) rfl ?_
    refine g_iload_n (pc := 15) C 0 dX8_strikes_15 rfl rfl ?_
    refine g_if_eq (pc := 16) (tgt := 23) C dX8_strikes_16 (by decide) (fun c_ => ?_) (fun c_ => ?_)
    · replace h := ite_t h c_
      refine g_aload_n (pc := 23) C 1 dX8_strikes_23 rfl rfl ?_
      refine get_X8_3 (pc := 24) C rfl tw_197 dX8_strikes_24 ?_
      refine g_iload_n (pc := 27) C 2 dX8_strikes_27 rfl rfl ?_
      refine g_iload_n (pc := 28) C 3 dX8_strikes_28 rfl rfl ?_
      refine g_callVip (pc := 29) (As := [.int v1, .int v2]) (rest := []) C rfl rfl rfl rfl (M_X7_tenthsBy C.2.2.1 rfl h) CyX7_tenthsBy tw_404 tw_405 tw_406 (by decide) rfl rfl (Nat.le_of_ble_eq_true rfl) dX8_strikes_29 (fun r29 h => ?_)
      refine g_lv [] (lv2 := []) rfl ?_
      exact k_X8_strikes_32 C  h
    · replace h := ite_f h c_
      refine g_iload_n (pc := 19) C 0 dX8_strikes_19 rfl rfl ?_
      refine g_goto (pc := 20) (tgt := 32) C dX8_strikes_20 (by decide) ?_
      refine g_lv [] (lv2 := []) rfl ?_
      exact k_X8_strikes_32 C  h
  · replace h := ite_t h c_
    refine g_iconst (pc := 7) (v := -1) C dX8_strikes_7 ic_m1 ?_
    exact g_iret (pc := 8) C dX8_strikes_8 ⟨_, rfl, ⟨rfl, h⟩⟩
set_option maxHeartbeats 4000000 in
set_option maxRecDepth 100000 in
theorem M_X7_strokeDeed {l : Launch} {G : Gp} (hD : Dj shC G) {v0 : Int32} {v1 : Int32} {σ : St} {K : Int32 → Prop} (h : wp_X7_strokeDeed v0 v1 K) : MC l shC G yX7_strokeDeed cX7_strokeDeed 2 (some .int) 1 [.int v0, .int v1] σ (RI (fun r t => t = σ ∧ K r)) := by
  unfold wp_X7_strokeDeed at h
  refine MC.of (by decide) hD (Nat.le_of_ble_eq_true rfl) ?_
  intro p e s m args below meth c C
  replace C : Cx p (rmD 1) s m args meth c shC G cX7_strokeDeed 2 1 RX7 (some .int) 0 0 := C
  show Go p l e (rmD 1) s m args below meth c shC G 2 0 0 (MQ below (Qw shC G (RI (fun r t => t = σ ∧ K r))) args s 0 0 (Fr shC G)) 0 [(0, .int v0), (1, .int v1)] [] σ
  refine g_iload_n (pc := 0) C 0 dX7_strokeDeed_0 rfl rfl ?_
  refine g_bipush (pc := 1) (v := 7) C dX7_strokeDeed_1 bp_7 ?_
  refine g_imul (pc := 3) C dX7_strokeDeed_3 ?_
  refine g_iload_n (pc := 4) C 1 dX7_strokeDeed_4 rfl rfl ?_
  refine g_iadd (pc := 5) C dX7_strokeDeed_5 ?_
  exact g_iret (pc := 6) C dX7_strokeDeed_6 ⟨_, rfl, ⟨rfl, h⟩⟩
set_option maxHeartbeats 4000000 in
set_option maxRecDepth 100000 in
theorem M_X8_stroke {l : Launch} {G : Gp} (hD : Dj shC G) {v1 : Int32} {v2 : Int32} {σ : St} {K : Int32 → St → Prop} (h : wp_X8_stroke v1 v2 σ K) : MC l shC G yX8_stroke cX8_stroke 4 (some .int) 6 [.ref (G.2.2 0), .int v1, .int v2] σ (RI K) := by
  unfold wp_X8_stroke at h
  refine MC.of (by decide) hD (Nat.le_of_ble_eq_true rfl) ?_
  intro p e s m args below meth c C
  replace C : Cx p (rmD 6) s m args meth c shC G cX8_stroke 4 6 RX8 (some .int) 0 0 := C
  show Go p l e (rmD 6) s m args below meth c shC G 4 0 0 (MQ below (Qw shC G (RI K)) args s 0 0 (Fr shC G)) 0 [(0, .ref (G.2.2 0)), (1, .int v1), (2, .int v2)] [] σ
  refine g_iload_n (pc := 0) C 2 dX8_stroke_0 rfl rfl ?_
  refine g_callSip (pc := 1) (As := [.int v2]) (rest := []) C (M_X8_isPull C.2.2.1  h) CyX8_isPull tw_432 tw_433 (by decide) rfl rfl (Nat.le_of_ble_eq_true rfl) dX8_stroke_1 (fun r1 h => ?_)
  refine g_if_ne (pc := 4) (tgt := 9) C dX8_stroke_4 (by decide) (fun c_ => ?_) (fun c_ => ?_)
  · replace h := ite_f h c_
    refine g_aload_n (pc := 9) C 0 dX8_stroke_9 rfl rfl ?_
    refine g_iload_n (pc := 10) C 1 dX8_stroke_10 rfl rfl ?_
    refine g_callVip (pc := 11) (As := [.int v1]) (rest := []) C rfl rfl rfl rfl (M_X8_refuseBell C.2.2.1  h) CyX8_refuseBell tw_435 tw_437 ts_7 (by decide) rfl rfl (Nat.le_of_ble_eq_true rfl) dX8_stroke_11 (fun r11 h => ?_)
    refine g_istore_n (pc := 14) (lv2 := [(3, .int r11), (0, .ref (G.2.2 0)), (1, .int v1), (2, .int v2)]) C dX8_stroke_14 rfl (by decide) rfl ?_
    refine g_iload_n (pc := 15) C 0 dX8_stroke_15 rfl rfl ?_
    refine g_if_eq (pc := 16) (tgt := 21) C dX8_stroke_16 (by decide) (fun c_ => ?_) (fun c_ => ?_)
    · replace h := ite_t h c_
      refine g_aload_n (pc := 21) C 1 dX8_stroke_21 rfl rfl ?_
      refine get_X8_3 (pc := 22) C rfl tw_197 dX8_stroke_22 ?_
      refine g_callVip (pc := 25) (As := []) (rest := []) C rfl rfl rfl rfl (M_X7_roomLeft C.2.2.1 rfl h) CyX7_roomLeft tw_439 tw_440 tw_441 (by decide) rfl rfl (Nat.le_of_ble_eq_true rfl) dX8_stroke_25 (fun r25 h => ?_)
      refine g_iconst (pc := 28) (v := 1) C dX8_stroke_28 ic_1 ?_
      refine g_icmp_ge (pc := 29) (tgt := 35) C dX8_stroke_29 (by decide) (fun c_ => ?_) (fun c_ => ?_)
      · replace h := ite_t h c_
        refine g_aload_n (pc := 35) C 1 dX8_stroke_35 rfl rfl ?_
        refine get_X8_3 (pc := 36) C rfl tw_197 dX8_stroke_36 ?_
        refine g_iload_n (pc := 39) C 2 dX8_stroke_39 rfl rfl ?_
        refine g_iload_n (pc := 40) C 3 dX8_stroke_40 rfl rfl ?_
        refine g_callSip (pc := 41) (As := [.int v1, .int v2]) (rest := [.ref (G.2.2 25)]) C (M_X7_strokeDeed C.2.2.1  h) CyX7_strokeDeed tw_443 tw_444 (by decide) rfl rfl (Nat.le_of_ble_eq_true rfl) dX8_stroke_41 (fun r41 h => ?_)
        refine g_callVv (pc := 44) (As := [.int r41]) (rest := []) C rfl rfl rfl rfl (M_X7_act C.2.2.1 rfl h) CyX7_act tw_446 tw_447 tw_448 (by decide) rfl rfl (Nat.le_of_ble_eq_true rfl) dX8_stroke_44 (fun t44 h => ?_)
        refine g_aload_n (pc := 47) C 1 dX8_stroke_47 rfl rfl ?_
        refine get_X8_3 (pc := 48) C rfl tw_197 dX8_stroke_48 ?_
        refine get_X7_0 (pc := 51) C rfl tw_72 dX8_stroke_51 ?_
        refine g_iload_n (pc := 54) C 2 dX8_stroke_54 rfl rfl ?_
        obtain ⟨g_, h⟩ := h
        have hs55_ : shC[(28 + v1.toNatClampNeg)]? = some (0, 0, 0) := sh7_e (k := 25) rfl g_
        refine g_aldB (pc := 55) C (sh7_0 rfl) g_ dX8_stroke_55 ?_
        refine get_X0_3 (pc := 56) C hs55_ tw_50 dX8_stroke_56 ?_
        exact g_iret (pc := 59) C dX8_stroke_59 ⟨_, rfl, h⟩
      · replace h := ite_f h c_
        refine g_bipush (pc := 32) (v := -2) C dX8_stroke_32 bp_m2 ?_
        exact g_iret (pc := 34) C dX8_stroke_34 ⟨_, rfl, h⟩
    · replace h := ite_f h c_
      refine g_iload_n (pc := 19) C 0 dX8_stroke_19 rfl rfl ?_
      exact g_iret (pc := 20) C dX8_stroke_20 ⟨_, rfl, h⟩
  · replace h := ite_t h c_
    refine g_iconst (pc := 7) (v := -1) C dX8_stroke_7 ic_m1 ?_
    exact g_iret (pc := 8) C dX8_stroke_8 ⟨_, rfl, h⟩
set_option maxHeartbeats 4000000 in
set_option maxRecDepth 100000 in
theorem M_X8_tear {l : Launch} {G : Gp} (hD : Dj shC G) {v1 : Int32} {σ : St} {K : Int32 → St → Prop} (h : wp_X8_tear v1 σ K) : MC l shC G yX8_tear cX8_tear 2 (some .int) 2 [.ref (G.2.2 0), .int v1] σ (RI K) := by
  unfold wp_X8_tear at h
  refine MC.of (by decide) hD (Nat.le_of_ble_eq_true rfl) ?_
  intro p e s m args below meth c C
  replace C : Cx p (rmD 2) s m args meth c shC G cX8_tear 2 2 RX8 (some .int) 0 0 := C
  show Go p l e (rmD 2) s m args below meth c shC G 2 0 0 (MQ below (Qw shC G (RI K)) args s 0 0 (Fr shC G)) 0 [(0, .ref (G.2.2 0)), (1, .int v1)] [] σ
  refine g_iload_n (pc := 0) C 1 dX8_tear_0 rfl rfl ?_
  refine g_callSip (pc := 1) (As := [.int v1]) (rest := []) C (M_X8_isRow C.2.2.1  h) CyX8_isRow tw_244 tw_245 (by decide) rfl rfl (Nat.le_of_ble_eq_true rfl) dX8_tear_1 (fun r1 h => ?_)
  refine g_if_ne (pc := 4) (tgt := 9) C dX8_tear_4 (by decide) (fun c_ => ?_) (fun c_ => ?_)
  · replace h := ite_f h c_
    refine g_aload_n (pc := 9) C 0 dX8_tear_9 rfl rfl ?_
    refine get_X8_0 (pc := 10) C rfl tw_194 dX8_tear_10 ?_
    refine g_iload_n (pc := 13) C 1 dX8_tear_13 rfl rfl ?_
    obtain ⟨g_, h⟩ := h
    have hs14_ : shC[(5 + 2 * v1.toNatClampNeg)]? = some (6, 40, 0) := shR5 g_
    refine g_aldR (pc := 14) C rfl g_ dX8_tear_14 ?_
    refine get_X6_1 (pc := 15) C hs14_ tw_183 dX8_tear_15 ?_
    refine g_if_ne (pc := 18) (tgt := 27) C dX8_tear_18 (by decide) (fun c_ => ?_) (fun c_ => ?_)
    · replace h := ite_f h c_
      refine g_aload_n (pc := 27) C 0 dX8_tear_27 rfl rfl ?_
      refine get_X8_0 (pc := 28) C rfl tw_194 dX8_tear_28 ?_
      refine g_iload_n (pc := 31) C 1 dX8_tear_31 rfl rfl ?_
      obtain ⟨g_, h⟩ := h
      have hs32_ : shC[(5 + 2 * v1.toNatClampNeg)]? = some (6, 40, 0) := shR5 g_
      refine g_aldR (pc := 32) C rfl g_ dX8_tear_32 ?_
      refine g_iconst (pc := 33) (v := 0) C dX8_tear_33 ic_0 ?_
      refine put_X6_1 (pc := 34) C hs32_ (by first | exact Or.inl rfl | exact Or.inr rfl) tw_183 dX8_tear_34 ?_
      refine g_aload_n (pc := 37) C 0 dX8_tear_37 rfl rfl ?_
      refine get_X8_0 (pc := 38) C rfl tw_194 dX8_tear_38 ?_
      refine g_iload_n (pc := 41) C 1 dX8_tear_41 rfl rfl ?_
      obtain ⟨g_, h⟩ := h
      have hs42_ : shC[(5 + 2 * v1.toNatClampNeg)]? = some (6, 40, 0) := shR5 g_
      refine g_aldR (pc := 42) C rfl g_ dX8_tear_42 ?_
      refine g_iconst (pc := 43) (v := 0) C dX8_tear_43 ic_0 ?_
      refine put_X6_2 (pc := 44) C hs42_ tw_186 dX8_tear_44 ?_
      refine g_iconst (pc := 47) (v := 1) C dX8_tear_47 ic_1 ?_
      exact g_iret (pc := 48) C dX8_tear_48 ⟨_, rfl, h⟩
    · replace h := ite_t h c_
      refine g_aload_n (pc := 21) C 0 dX8_tear_21 rfl rfl ?_
      refine g_iconst (pc := 22) (v := 1) C dX8_tear_22 ic_1 ?_
      refine g_callVi (pc := 23) (As := [.int 1]) (rest := []) C rfl rfl rfl rfl (M_X8_find C.2.2.1  h) CyX8_find tw_251 tw_253 ts_1 (by decide) rfl rfl (Nat.le_of_ble_eq_true rfl) dX8_tear_23 (fun r23 t23 h => ?_)
      exact g_iret (pc := 26) C dX8_tear_26 ⟨_, rfl, h⟩
  · replace h := ite_t h c_
    refine g_iconst (pc := 7) (v := -1) C dX8_tear_7 ic_m1 ?_
    exact g_iret (pc := 8) C dX8_tear_8 ⟨_, rfl, h⟩
set_option maxHeartbeats 4000000 in
set_option maxRecDepth 100000 in
theorem k_X8_text_24 {w0 : Int32} {σ : St} {K : Int32 → St → Prop} (C : Cx p R s m args meth c shC G cX8_text 3 5 RX8 (some .int) 0 0) (h : J_X8_text_24 w0 σ K) : Go p l e R s m args below meth c shC G 3 0 0 (MQ below (Qw shC G (RI K)) args s 0 0 (Fr shC G)) 24 [] [.int w0] σ := by
  unfold J_X8_text_24 at h
  exact g_iret (pc := 24) C dX8_text_24 ⟨_, rfl, h⟩
set_option maxHeartbeats 4000000 in
set_option maxRecDepth 100000 in
theorem M_X8_text {l : Launch} {G : Gp} (hD : Dj shC G) {v1 : Int32} {v2 : Int32} {σ : St} {K : Int32 → St → Prop} (h : wp_X8_text v1 v2 σ K) : MC l shC G yX8_text cX8_text 3 (some .int) 5 [.ref (G.2.2 0), .int v1, .int v2] σ (RI K) := by
  unfold wp_X8_text at h
  refine MC.of (by decide) hD (Nat.le_of_ble_eq_true rfl) ?_
  intro p e s m args below meth c C
  replace C : Cx p (rmD 5) s m args meth c shC G cX8_text 3 5 RX8 (some .int) 0 0 := C
  show Go p l e (rmD 5) s m args below meth c shC G 3 0 0 (MQ below (Qw shC G (RI K)) args s 0 0 (Fr shC G)) 0 [(0, .ref (G.2.2 0)), (1, .int v1), (2, .int v2)] [] σ
  refine g_iload_n (pc := 0) C 1 dX8_text_0 rfl rfl ?_
  refine g_callSip (pc := 1) (As := [.int v1]) (rest := []) C (M_X8_isText C.2.2.1  h) CyX8_isText tw_307 tw_308 (by decide) rfl rfl (Nat.le_of_ble_eq_true rfl) dX8_text_1 (fun r1 h => ?_)
  refine g_if_eq (pc := 4) (tgt := 23) C dX8_text_4 (by decide) (fun c_ => ?_) (fun c_ => ?_)
  · replace h := ite_t h c_
    refine g_iconst (pc := 23) (v := -1) C dX8_text_23 ic_m1 ?_
    refine g_lv [] (lv2 := []) rfl ?_
    exact k_X8_text_24 C  h
  · replace h := ite_f h c_
    refine g_aload_n (pc := 7) C 0 dX8_text_7 rfl rfl ?_
    refine g_aload_n (pc := 8) C 0 dX8_text_8 rfl rfl ?_
    refine get_X8_1 (pc := 9) C rfl tw_195 dX8_text_9 ?_
    refine g_iload_n (pc := 12) C 1 dX8_text_12 rfl rfl ?_
    obtain ⟨g_, h⟩ := h
    have hs13_ : shC[(17 + 2 * v1.toNatClampNeg)]? = some (6, 60, 0) := shR17 g_
    refine g_aldR (pc := 13) C rfl g_ dX8_text_13 ?_
    refine g_iload_n (pc := 14) C 2 dX8_text_14 rfl rfl ?_
    refine g_bipush (pc := 15) (v := 32) C dX8_text_15 bp_32 ?_
    refine g_callVi (pc := 17) (As := [.ref (G.2.2 (17 + 2 * v1.toNatClampNeg)), .int v2, .int 32]) (rest := []) C rfl rfl rfl rfl (M_X8_anew C.2.2.1 hs13_ h) CyX8_anew tw_247 tw_249 ts_0 (by decide) rfl rfl (Nat.le_of_ble_eq_true rfl) dX8_text_17 (fun r17 t17 h => ?_)
    refine g_goto (pc := 20) (tgt := 24) C dX8_text_20 (by decide) ?_
    refine g_lv [] (lv2 := []) rfl ?_
    exact k_X8_text_24 C  h
set_option maxHeartbeats 4000000 in
set_option maxRecDepth 100000 in
theorem k_X8_tower_58 {v2 : Int32} {σ : St} {K : Int32 → St → Prop} (C : Cx p R s m args meth c shC G cX8_tower 3 7 RX8 (some .int) 0 0) (h : L_X8_tower_58 K v2 σ) : Go p l e R s m args below meth c shC G 3 0 0 (MQ below (Qw shC G (RI K)) args s 0 0 (Fr shC G)) 58 [(0, .ref (G.2.2 0)), (2, .int v2)] [] σ := by
  obtain ⟨n_, h⟩ := h
  induction n_ generalizing v2 σ with
  | zero => exact h.elim
  | succ n_ ih =>
    replace h : B_X8_tower_58 K (it2 (B_X8_tower_58 K) n_) v2 σ := h
    unfold B_X8_tower_58 at h
    refine g_iload_n (pc := 58) C 1 dX8_tower_58 rfl rfl ?_
    refine g_iconst (pc := 59) (v := 3) C dX8_tower_59 ic_3 ?_
    refine g_icmp_ge (pc := 60) (tgt := 78) C dX8_tower_60 (by decide) (fun c_ => ?_) (fun c_ => ?_)
    · replace h := ite_t h c_
      refine g_aload_n (pc := 78) C 0 dX8_tower_78 rfl rfl ?_
      refine get_X8_3 (pc := 79) C rfl tw_197 dX8_tower_79 ?_
      refine get_X7_2 (pc := 82) C rfl tw_76 dX8_tower_82 ?_
      exact g_iret (pc := 85) C dX8_tower_85 ⟨_, rfl, h⟩
    · replace h := ite_f h c_
      refine g_aload_n (pc := 63) C 0 dX8_tower_63 rfl rfl ?_
      refine get_X8_2 (pc := 64) C rfl tw_196 dX8_tower_64 ?_
      refine g_iload_n (pc := 67) C 1 dX8_tower_67 rfl rfl ?_
      obtain ⟨g_, h⟩ := h
      have hs68_ : shC[(43 + 9 * v2.toNatClampNeg)]? = some (7, 0, 0) := shT g_
      refine g_aldT (pc := 68) C rfl g_ dX8_tower_68 ?_
      refine g_callVv (pc := 69) (As := []) (rest := []) C hs68_ rfl rfl rfl (M_X7_clear C.2.2.1 hs68_ h) CyX7_clear tw_322 tw_323 tw_324 (by decide) rfl rfl (Nat.le_of_ble_eq_true rfl) dX8_tower_69 (fun t69 h => ?_)
      refine g_iinc (pc := 72) (lv2 := [(2, .int (v2 + 1)), (0, .ref (G.2.2 0))]) C 1 dX8_tower_72 ic_1 rfl (by decide) rfl ?_
      refine g_goto (pc := 75) (tgt := 58) C dX8_tower_75 (by decide) ?_
      refine g_lv [1, 0] (lv2 := [(0, .ref (G.2.2 0)), (2, .int (v2 + 1))]) rfl ?_
      exact ih h
set_option maxHeartbeats 4000000 in
set_option maxRecDepth 100000 in
theorem M_X8_tower {l : Launch} {G : Gp} (hD : Dj shC G) {v1 : Int32} {σ : St} {K : Int32 → St → Prop} (h : wp_X8_tower v1 σ K) : MC l shC G yX8_tower cX8_tower 3 (some .int) 7 [.ref (G.2.2 0), .int v1] σ (RI K) := by
  unfold wp_X8_tower at h
  refine MC.of (by decide) hD (Nat.le_of_ble_eq_true rfl) ?_
  intro p e s m args below meth c C
  replace C : Cx p (rmD 7) s m args meth c shC G cX8_tower 3 7 RX8 (some .int) 0 0 := C
  show Go p l e (rmD 7) s m args below meth c shC G 3 0 0 (MQ below (Qw shC G (RI K)) args s 0 0 (Fr shC G)) 0 [(0, .ref (G.2.2 0)), (1, .int v1)] [] σ
  refine g_iload_n (pc := 0) C 1 dX8_tower_0 rfl rfl ?_
  refine g_callSip (pc := 1) (As := [.int v1]) (rest := []) C (M_X8_isText C.2.2.1  h) CyX8_isText tw_307 tw_308 (by decide) rfl rfl (Nat.le_of_ble_eq_true rfl) dX8_tower_1 (fun r1 h => ?_)
  refine g_if_ne (pc := 4) (tgt := 9) C dX8_tower_4 (by decide) (fun c_ => ?_) (fun c_ => ?_)
  · replace h := ite_f h c_
    refine g_aload_n (pc := 9) C 0 dX8_tower_9 rfl rfl ?_
    refine get_X8_1 (pc := 10) C rfl tw_195 dX8_tower_10 ?_
    refine g_iload_n (pc := 13) C 1 dX8_tower_13 rfl rfl ?_
    obtain ⟨g_, h⟩ := h
    have hs14_ : shC[(17 + 2 * v1.toNatClampNeg)]? = some (6, 60, 0) := shR17 g_
    refine g_aldR (pc := 14) C rfl g_ dX8_tower_14 ?_
    refine get_X6_1 (pc := 15) C hs14_ tw_183 dX8_tower_15 ?_
    refine g_if_ne (pc := 18) (tgt := 27) C dX8_tower_18 (by decide) (fun c_ => ?_) (fun c_ => ?_)
    · replace h := ite_f h c_
      refine g_aload_n (pc := 27) C 0 dX8_tower_27 rfl rfl ?_
      refine g_aload_n (pc := 28) C 0 dX8_tower_28 rfl rfl ?_
      refine get_X8_1 (pc := 29) C rfl tw_195 dX8_tower_29 ?_
      refine g_iload_n (pc := 32) C 1 dX8_tower_32 rfl rfl ?_
      obtain ⟨g_, h⟩ := h
      have hs33_ : shC[(17 + 2 * v1.toNatClampNeg)]? = some (6, 60, 0) := shR17 g_
      refine g_aldR (pc := 33) C rfl g_ dX8_tower_33 ?_
      refine g_callVi (pc := 34) (As := [.ref (G.2.2 (17 + 2 * v1.toNatClampNeg))]) (rest := []) C rfl rfl rfl rfl (M_X8_scan C.2.2.1 hs33_ h) CyX8_scan tw_318 tw_320 ts_3 (by decide) rfl rfl (Nat.le_of_ble_eq_true rfl) dX8_tower_34 (fun r34 t34 h => ?_)
      refine g_bipush (pc := 37) (v := -9) C dX8_tower_37 bp_m9 ?_
      refine g_icmp_eq (pc := 39) (tgt := 45) C dX8_tower_39 (by decide) (fun c_ => ?_) (fun c_ => ?_)
      · replace h := ite_t h c_
        refine g_aload_n (pc := 45) C 0 dX8_tower_45 rfl rfl ?_
        refine get_X8_3 (pc := 46) C rfl tw_197 dX8_tower_46 ?_
        refine g_aload_n (pc := 49) C 0 dX8_tower_49 rfl rfl ?_
        refine get_X8_4 (pc := 50) C rfl tw_198 dX8_tower_50 ?_
        refine g_callVv (pc := 53) (As := [.ref (G.2.2 34)]) (rest := []) C rfl rfl rfl rfl (M_X7_become C.2.2.1 rfl rfl h) CyX7_become tw_368 tw_369 tw_370 (by decide) rfl rfl (Nat.le_of_ble_eq_true rfl) dX8_tower_53 (fun t53 h => ?_)
        refine g_iconst (pc := 56) (v := 0) C dX8_tower_56 ic_0 ?_
        refine g_istore_n (pc := 57) (lv2 := [(2, .int 0), (0, .ref (G.2.2 0)), (1, .int v1)]) C dX8_tower_57 rfl (by decide) rfl ?_
        refine g_lv [1, 0] (lv2 := [(0, .ref (G.2.2 0)), (2, .int 0)]) rfl ?_
        exact k_X8_tower_58 C  h
      · replace h := ite_f h c_
        refine g_bipush (pc := 42) (v := -4) C dX8_tower_42 bp_m4 ?_
        exact g_iret (pc := 44) C dX8_tower_44 ⟨_, rfl, h⟩
    · replace h := ite_t h c_
      refine g_aload_n (pc := 21) C 0 dX8_tower_21 rfl rfl ?_
      refine g_iconst (pc := 22) (v := 1) C dX8_tower_22 ic_1 ?_
      refine g_callVi (pc := 23) (As := [.int 1]) (rest := []) C rfl rfl rfl rfl (M_X8_find C.2.2.1  h) CyX8_find tw_251 tw_253 ts_1 (by decide) rfl rfl (Nat.le_of_ble_eq_true rfl) dX8_tower_23 (fun r23 t23 h => ?_)
      exact g_iret (pc := 26) C dX8_tower_26 ⟨_, rfl, h⟩
  · replace h := ite_t h c_
    refine g_iconst (pc := 7) (v := -1) C dX8_tower_7 ic_m1 ?_
    exact g_iret (pc := 8) C dX8_tower_8 ⟨_, rfl, h⟩
set_option maxHeartbeats 4000000 in
set_option maxRecDepth 100000 in
theorem k_X7_rewindTo_43 {k0 : Nat} {v2 : Int32} {σ : St} {K : St → Prop} (C : Cx p R s m args meth c shC G cX7_rewindTo 3 5 RX7 none 0 0) (hk0 : shC[k0]? = some (7, 0, 0)) (h : L_X7_rewindTo_43 k0 K v2 σ) : Go p l e R s m args below meth c shC G 3 0 0 (MQ below (Qw shC G (RV K)) args s 0 0 (Fr shC G)) 43 [(0, .ref (G.2.2 k0)), (2, .int v2)] [] σ := by
  obtain ⟨n_, h⟩ := h
  induction n_ generalizing v2 σ with
  | zero => exact h.elim
  | succ n_ ih =>
    replace h : B_X7_rewindTo_43 k0 K (it2 (B_X7_rewindTo_43 k0 K) n_) v2 σ := h
    unfold B_X7_rewindTo_43 at h
    refine g_iload_n (pc := 43) C 1 dX7_rewindTo_43 rfl rfl ?_
    refine g_aload_n (pc := 44) C 0 dX7_rewindTo_44 rfl rfl ?_
    refine get_X7_4 (pc := 45) C hk0 tw_79 dX7_rewindTo_45 ?_
    refine g_icmp_ge (pc := 48) (tgt := 67) C dX7_rewindTo_48 (by decide) (fun c_ => ?_) (fun c_ => ?_)
    · replace h := ite_t h c_
      exact g_vret (pc := 67) C dX7_rewindTo_67 ⟨rfl, h⟩
    · replace h := ite_f h c_
      refine g_aload_n (pc := 51) C 0 dX7_rewindTo_51 rfl rfl ?_
      refine g_aload_n (pc := 52) C 0 dX7_rewindTo_52 rfl rfl ?_
      refine get_X7_1 (pc := 53) C hk0 tw_73 dX7_rewindTo_53 ?_
      refine g_iload_n (pc := 56) C 1 dX7_rewindTo_56 rfl rfl ?_
      obtain ⟨g_, h⟩ := h
      refine g_iald (pc := 57) C (sh7_1 hk0) g_ dX7_rewindTo_57 ?_
      refine g_callVv (pc := 58) (As := [.int (σ.1 (k0 + 2) v2.toNatClampNeg)]) (rest := []) C hk0 rfl rfl rfl (M_X7_perform C.2.2.1 hk0 h) CyX7_perform tw_450 tw_452 ts_8 (by decide) rfl rfl (Nat.le_of_ble_eq_true rfl) dX7_rewindTo_58 (fun t58 h => ?_)
      refine g_iinc (pc := 61) (lv2 := [(2, .int (v2 + 1)), (0, .ref (G.2.2 k0))]) C 1 dX7_rewindTo_61 ic_1 rfl (by decide) rfl ?_
      refine g_goto (pc := 64) (tgt := 43) C dX7_rewindTo_64 (by decide) ?_
      refine g_lv [1, 0] (lv2 := [(0, .ref (G.2.2 k0)), (2, .int (v2 + 1))]) rfl ?_
      exact ih h
set_option maxHeartbeats 4000000 in
set_option maxRecDepth 100000 in
theorem k_X7_rewindTo_2 {k0 : Nat} {v1 : Int32} {v2 : Int32} {σ : St} {K : St → Prop} (C : Cx p R s m args meth c shC G cX7_rewindTo 3 5 RX7 none 0 0) (hk0 : shC[k0]? = some (7, 0, 0)) (h : L_X7_rewindTo_2 k0 v1 K v2 σ) : Go p l e R s m args below meth c shC G 3 0 0 (MQ below (Qw shC G (RV K)) args s 0 0 (Fr shC G)) 2 [(0, .ref (G.2.2 k0)), (1, .int v1), (2, .int v2)] [] σ := by
  obtain ⟨n_, h⟩ := h
  induction n_ generalizing v2 σ with
  | zero => exact h.elim
  | succ n_ ih =>
    replace h : B_X7_rewindTo_2 k0 v1 K (it2 (B_X7_rewindTo_2 k0 v1 K) n_) v2 σ := h
    unfold B_X7_rewindTo_2 at h
    refine g_iload_n (pc := 2) C 2 dX7_rewindTo_2 rfl rfl ?_
    refine g_aload_n (pc := 3) C 0 dX7_rewindTo_3 rfl rfl ?_
    refine get_X7_2 (pc := 4) C hk0 tw_75 dX7_rewindTo_4 ?_
    refine g_icmp_ge (pc := 7) (tgt := 25) C dX7_rewindTo_7 (by decide) (fun c_ => ?_) (fun c_ => ?_)
    · replace h := ite_t h c_
      refine g_aload_n (pc := 25) C 0 dX7_rewindTo_25 rfl rfl ?_
      refine g_iconst (pc := 26) (v := 0) C dX7_rewindTo_26 ic_0 ?_
      refine g_iload_n (pc := 27) C 1 dX7_rewindTo_27 rfl rfl ?_
      refine g_aload_n (pc := 28) C 0 dX7_rewindTo_28 rfl rfl ?_
      refine get_X7_4 (pc := 29) C hk0 tw_79 dX7_rewindTo_29 ?_
      refine g_min (pc := 32) C dX7_rewindTo_32 tw_515 tw_260 tw_10 tw_261 (by decide) (Nat.le_of_ble_eq_true rfl) ?_
      refine g_max (pc := 35) C dX7_rewindTo_35 tw_516 tw_177 tw_10 tw_178 (by decide) (Nat.le_of_ble_eq_true rfl) ?_
      refine put_X7_4 (pc := 38) C hk0 tw_79 dX7_rewindTo_38 ?_
      refine g_iconst (pc := 41) (v := 0) C dX7_rewindTo_41 ic_0 ?_
      refine g_istore_n (pc := 42) (lv2 := [(2, .int 0), (0, .ref (G.2.2 k0)), (1, .int v1)]) C dX7_rewindTo_42 rfl (by decide) rfl ?_
      refine g_lv [1, 0] (lv2 := [(0, .ref (G.2.2 k0)), (2, .int 0)]) rfl ?_
      exact k_X7_rewindTo_43 C hk0 h
    · replace h := ite_f h c_
      refine g_aload_n (pc := 10) C 0 dX7_rewindTo_10 rfl rfl ?_
      refine get_X7_0 (pc := 11) C hk0 tw_70 dX7_rewindTo_11 ?_
      refine g_iload_n (pc := 14) C 2 dX7_rewindTo_14 rfl rfl ?_
      obtain ⟨g_, h⟩ := h
      have hs15_ : shC[((k0 + 3) + v2.toNatClampNeg)]? = some (0, 0, 0) := sh7_e (k := k0) hk0 g_
      refine g_aldB (pc := 15) C (sh7_0 hk0) g_ dX7_rewindTo_15 ?_
      refine g_callVv (pc := 16) (As := []) (rest := []) C hs15_ rfl rfl rfl (M_X0_rewind C.2.2.1 hs15_ h) CyX0_rewind tw_514 tw_361 tw_362 (by decide) rfl rfl (Nat.le_of_ble_eq_true rfl) dX7_rewindTo_16 (fun t16 h => ?_)
      refine g_iinc (pc := 19) (lv2 := [(2, .int (v2 + 1)), (0, .ref (G.2.2 k0)), (1, .int v1)]) C 2 dX7_rewindTo_19 ic_1 rfl (by decide) rfl ?_
      refine g_goto (pc := 22) (tgt := 2) C dX7_rewindTo_22 (by decide) ?_
      refine g_lv [1, 2, 0] (lv2 := [(0, .ref (G.2.2 k0)), (1, .int v1), (2, .int (v2 + 1))]) rfl ?_
      exact ih h
set_option maxHeartbeats 4000000 in
set_option maxRecDepth 100000 in
theorem M_X7_rewindTo {l : Launch} {G : Gp} (hD : Dj shC G) {k0 : Nat} {v1 : Int32} {σ : St} {K : St → Prop} (hk0 : shC[k0]? = some (7, 0, 0)) (h : wp_X7_rewindTo k0 v1 σ K) : MC l shC G yX7_rewindTo cX7_rewindTo 3 none 5 [.ref (G.2.2 k0), .int v1] σ (RV K) := by
  unfold wp_X7_rewindTo at h
  refine MC.of (by decide) hD (Nat.le_of_ble_eq_true rfl) ?_
  intro p e s m args below meth c C
  replace C : Cx p (rmD 5) s m args meth c shC G cX7_rewindTo 3 5 RX7 none 0 0 := C
  show Go p l e (rmD 5) s m args below meth c shC G 3 0 0 (MQ below (Qw shC G (RV K)) args s 0 0 (Fr shC G)) 0 [(0, .ref (G.2.2 k0)), (1, .int v1)] [] σ
  refine g_iconst (pc := 0) (v := 0) C dX7_rewindTo_0 ic_0 ?_
  refine g_istore_n (pc := 1) (lv2 := [(2, .int 0), (0, .ref (G.2.2 k0)), (1, .int v1)]) C dX7_rewindTo_1 rfl (by decide) rfl ?_
  refine g_lv [1, 2, 0] (lv2 := [(0, .ref (G.2.2 k0)), (1, .int v1), (2, .int 0)]) rfl ?_
  exact k_X7_rewindTo_2 C hk0 h
set_option maxHeartbeats 4000000 in
set_option maxRecDepth 100000 in
theorem k_X8_undo_15 {σ : St} {K : Int32 → St → Prop} (C : Cx p R s m args meth c shC G cX8_undo 3 6 RX8 (some .int) 0 0) (h : J_X8_undo_15 σ K) : Go p l e R s m args below meth c shC G 3 0 0 (MQ below (Qw shC G (RI K)) args s 0 0 (Fr shC G)) 15 [] [] σ := by
  unfold J_X8_undo_15 at h
  refine g_iconst (pc := 15) (v := -1) C dX8_undo_15 ic_m1 ?_
  exact g_iret (pc := 16) C dX8_undo_16 ⟨_, rfl, h⟩
set_option maxHeartbeats 4000000 in
set_option maxRecDepth 100000 in
theorem M_X8_undo {l : Launch} {G : Gp} (hD : Dj shC G) {v1 : Int32} {σ : St} {K : Int32 → St → Prop} (h : wp_X8_undo v1 σ K) : MC l shC G yX8_undo cX8_undo 3 (some .int) 6 [.ref (G.2.2 0), .int v1] σ (RI K) := by
  unfold wp_X8_undo at h
  refine MC.of (by decide) hD (Nat.le_of_ble_eq_true rfl) ?_
  intro p e s m args below meth c C
  replace C : Cx p (rmD 6) s m args meth c shC G cX8_undo 3 6 RX8 (some .int) 0 0 := C
  show Go p l e (rmD 6) s m args below meth c shC G 3 0 0 (MQ below (Qw shC G (RI K)) args s 0 0 (Fr shC G)) 0 [(0, .ref (G.2.2 0)), (1, .int v1)] [] σ
  refine g_iload_n (pc := 0) C 1 dX8_undo_0 rfl rfl ?_
  refine g_if_lt (pc := 1) (tgt := 15) C dX8_undo_1 (by decide) (fun c_ => ?_) (fun c_ => ?_)
  · replace h := ite_t h c_
    refine g_lv [] (lv2 := []) rfl ?_
    exact k_X8_undo_15 C  h
  · replace h := ite_f h c_
    refine g_iload_n (pc := 4) C 1 dX8_undo_4 rfl rfl ?_
    refine g_aload_n (pc := 5) C 0 dX8_undo_5 rfl rfl ?_
    refine get_X8_3 (pc := 6) C rfl tw_197 dX8_undo_6 ?_
    refine get_X7_4 (pc := 9) C rfl tw_80 dX8_undo_9 ?_
    refine g_icmp_le (pc := 12) (tgt := 17) C dX8_undo_12 (by decide) (fun c_ => ?_) (fun c_ => ?_)
    · replace h := ite_t h c_
      refine g_aload_n (pc := 17) C 0 dX8_undo_17 rfl rfl ?_
      refine get_X8_3 (pc := 18) C rfl tw_197 dX8_undo_18 ?_
      refine get_X7_4 (pc := 21) C rfl tw_80 dX8_undo_21 ?_
      refine g_iload_n (pc := 24) C 1 dX8_undo_24 rfl rfl ?_
      refine g_isub (pc := 25) C dX8_undo_25 ?_
      refine g_istore_n (pc := 26) (lv2 := [(2, .int ((σ.1 25 4) - v1)), (0, .ref (G.2.2 0)), (1, .int v1)]) C dX8_undo_26 rfl (by decide) rfl ?_
      refine g_aload_n (pc := 27) C 1 dX8_undo_27 rfl rfl ?_
      refine get_X8_3 (pc := 28) C rfl tw_197 dX8_undo_28 ?_
      refine g_iload_n (pc := 31) C 2 dX8_undo_31 rfl rfl ?_
      refine g_callVv (pc := 32) (As := [.int v1]) (rest := []) C rfl rfl rfl rfl (M_X7_rewindTo C.2.2.1 rfl h) CyX7_rewindTo tw_510 tw_511 tw_512 (by decide) rfl rfl (Nat.le_of_ble_eq_true rfl) dX8_undo_32 (fun t32 h => ?_)
      refine g_iload_n (pc := 35) C 0 dX8_undo_35 rfl rfl ?_
      exact g_iret (pc := 36) C dX8_undo_36 ⟨_, rfl, h⟩
    · replace h := ite_f h c_
      refine g_lv [] (lv2 := []) rfl ?_
      exact k_X8_undo_15 C  h
set_option maxHeartbeats 4000000 in
set_option maxRecDepth 100000 in
theorem M_X8_upper {l : Launch} {G : Gp} (hD : Dj shC G) {σ : St} {K : Int64 → Prop} (h : wp_X8_upper σ K) : MC l shC G yX8_upper cX8_upper 1 (some .long) 1 [.ref (G.2.2 0)] σ (RJ (fun r t => t = σ ∧ K r)) := by
  unfold wp_X8_upper at h
  refine MC.of (by decide) hD (Nat.le_of_ble_eq_true rfl) ?_
  intro p e s m args below meth c C
  replace C : Cx p (rmD 1) s m args meth c shC G cX8_upper 1 1 RX8 (some .long) 0 0 := C
  show Go p l e (rmD 1) s m args below meth c shC G 1 0 0 (MQ below (Qw shC G (RJ (fun r t => t = σ ∧ K r))) args s 0 0 (Fr shC G)) 0 [(0, .ref (G.2.2 0))] [] σ
  refine g_aload_n (pc := 0) C 0 dX8_upper_0 rfl rfl ?_
  refine get_X8_13 (pc := 1) C rfl tw_207 dX8_upper_1 ?_
  exact g_lret (pc := 4) C dX8_upper_4 ⟨_, rfl, ⟨rfl, h⟩⟩
set_option maxHeartbeats 4000000 in
set_option maxRecDepth 100000 in
theorem k_X8_ways_10 {σ : St} {K : Int32 → St → Prop} (C : Cx p R s m args meth c shC G cX8_ways 7 4 RX8 (some .int) 0 0) (h : J_X8_ways_10 σ K) : Go p l e R s m args below meth c shC G 7 0 0 (MQ below (Qw shC G (RI K)) args s 0 0 (Fr shC G)) 10 [] [] σ := by
  unfold J_X8_ways_10 at h
  refine g_iconst (pc := 10) (v := -1) C dX8_ways_10 ic_m1 ?_
  exact g_iret (pc := 11) C dX8_ways_11 ⟨_, rfl, h⟩
set_option maxHeartbeats 4000000 in
set_option maxRecDepth 100000 in
theorem k_X8_ways_59 {v2 : Int32} {k4 : Nat} {v5 : Int32} {v6 : Int32} {σ : St} {K : Int32 → St → Prop} {Φ50 : Int32 → St → Prop} (C : Cx p R s m args meth c shC G cX8_ways 7 4 RX8 (some .int) 0 0) (hk4 : shC[k4]? = some (0, 0, 0)) (hΦ50 : ∀ (v5' : Int32) (σ' : St), Φ50 v5' σ' → Go p l e R s m args below meth c shC G 7 0 0 (MQ below (Qw shC G (RI K)) args s 0 0 (Fr shC G)) 50 [(0, .ref (G.2.2 0)), (2, .int v2), (4, .ref (G.2.2 k4)), (5, .int (v5'))] [] σ') (h : L_X8_ways_59 v2 k4 v5 K Φ50 v6 σ) : Go p l e R s m args below meth c shC G 7 0 0 (MQ below (Qw shC G (RI K)) args s 0 0 (Fr shC G)) 59 [(0, .ref (G.2.2 0)), (2, .int v2), (4, .ref (G.2.2 k4)), (5, .int v5), (6, .int v6)] [] σ := by
  obtain ⟨n_, h⟩ := h
  induction n_ generalizing v6 σ with
  | zero => exact h.elim
  | succ n_ ih =>
    replace h : B_X8_ways_59 v2 k4 v5 K Φ50 (it2 (B_X8_ways_59 v2 k4 v5 K Φ50) n_) v6 σ := h
    unfold B_X8_ways_59 at h
    refine g_iload (pc := 59) C 4 dX8_ways_59 rfl ?_
    refine g_bipush (pc := 61) (v := 7) C dX8_ways_61 bp_7 ?_
    refine g_icmp_ge (pc := 63) (tgt := 87) C dX8_ways_63 (by decide) (fun c_ => ?_) (fun c_ => ?_)
    · replace h := ite_t h c_
      refine g_aload_n (pc := 87) C 0 dX8_ways_87 rfl rfl ?_
      refine get_X8_8 (pc := 88) C rfl tw_202 dX8_ways_88 ?_
      refine g_callVv (pc := 91) (As := []) (rest := []) C rfl rfl rfl rfl (M_X2_turn C.2.2.1  h) CyX2_turn tw_579 tw_580 tw_581 (by decide) rfl rfl (Nat.le_of_ble_eq_true rfl) dX8_ways_91 (fun t91 h => ?_)
      refine g_iinc (pc := 94) (lv2 := [(5, .int (v5 + 1)), (0, .ref (G.2.2 0)), (2, .int v2), (4, .ref (G.2.2 k4)), (6, .int v6)]) C 3 dX8_ways_94 ic_1 rfl (by decide) rfl ?_
      refine g_goto (pc := 97) (tgt := 50) C dX8_ways_97 (by decide) ?_
      refine g_lv [1, 2, 3, 0] (lv2 := [(0, .ref (G.2.2 0)), (2, .int v2), (4, .ref (G.2.2 k4)), (5, .int (v5 + 1))]) rfl ?_
      exact hΦ50 _ _ h
    · replace h := ite_f h c_
      refine g_aload_n (pc := 66) C 0 dX8_ways_66 rfl rfl ?_
      refine get_X8_8 (pc := 67) C rfl tw_202 dX8_ways_67 ?_
      refine g_aload (pc := 70) C 2 dX8_ways_70 rfl ?_
      refine get_X0_0 (pc := 72) C hk4 tw_42 dX8_ways_72 ?_
      refine g_iload (pc := 75) C 4 dX8_ways_75 rfl ?_
      refine g_lconst (pc := 77) (v := 1) C dX8_ways_77 lc_1 ?_
      refine g_callVv (pc := 78) (As := [.int (σ.1 k4 0), .int v6, .long (1 : Int64)]) (rest := []) C rfl rfl rfl rfl (M_X2_spread C.2.2.1  h) CyX2_spread tw_574 tw_575 tw_576 (by decide) rfl rfl (Nat.le_of_ble_eq_true rfl) dX8_ways_78 (fun t78 h => ?_)
      refine g_iinc (pc := 81) (lv2 := [(6, .int (v6 + 1)), (0, .ref (G.2.2 0)), (2, .int v2), (4, .ref (G.2.2 k4)), (5, .int v5)]) C 4 dX8_ways_81 ic_1 rfl (by decide) rfl ?_
      refine g_goto (pc := 84) (tgt := 59) C dX8_ways_84 (by decide) ?_
      refine g_lv [1, 2, 3, 4, 0] (lv2 := [(0, .ref (G.2.2 0)), (2, .int v2), (4, .ref (G.2.2 k4)), (5, .int v5), (6, .int (v6 + 1))]) rfl ?_
      exact ih h
set_option maxHeartbeats 4000000 in
set_option maxRecDepth 100000 in
theorem k_X8_ways_50 {v2 : Int32} {k4 : Nat} {v5 : Int32} {σ : St} {K : Int32 → St → Prop} (C : Cx p R s m args meth c shC G cX8_ways 7 4 RX8 (some .int) 0 0) (hk4 : shC[k4]? = some (0, 0, 0)) (h : L_X8_ways_50 v2 k4 K v5 σ) : Go p l e R s m args below meth c shC G 7 0 0 (MQ below (Qw shC G (RI K)) args s 0 0 (Fr shC G)) 50 [(0, .ref (G.2.2 0)), (2, .int v2), (4, .ref (G.2.2 k4)), (5, .int v5)] [] σ := by
  obtain ⟨n_, h⟩ := h
  induction n_ generalizing v5 σ with
  | zero => exact h.elim
  | succ n_ ih =>
    replace h : B_X8_ways_50 v2 k4 K (it2 (B_X8_ways_50 v2 k4 K) n_) v5 σ := h
    unfold B_X8_ways_50 at h
    refine g_iload (pc := 50) C 3 dX8_ways_50 rfl ?_
    refine g_iload_n (pc := 52) C 1 dX8_ways_52 rfl rfl ?_
    refine g_icmp_ge (pc := 53) (tgt := 100) C dX8_ways_53 (by decide) (fun c_ => ?_) (fun c_ => ?_)
    · replace h := ite_t h c_
      refine g_aload_n (pc := 100) C 0 dX8_ways_100 rfl rfl ?_
      refine g_aload_n (pc := 101) C 0 dX8_ways_101 rfl rfl ?_
      refine get_X8_8 (pc := 102) C rfl tw_202 dX8_ways_102 ?_
      refine get_X2_0 (pc := 105) C rfl tw_148 dX8_ways_105 ?_
      refine g_bipush (pc := 108) (v := 20) C dX8_ways_108 bp_20 ?_
      obtain ⟨g_, h⟩ := h
      refine g_lald (pc := 110) C rfl g_ dX8_ways_110 ?_
      refine g_lconst (pc := 111) (v := 1) C dX8_ways_111 lc_1 ?_
      refine g_callVi (pc := 112) (As := [.long (σ.2 80 (20 : Int32).toNatClampNeg), .long (1 : Int64)]) (rest := []) C rfl rfl rfl rfl (M_X8_tellParts C.2.2.1  h) CyX8_tellParts tw_584 tw_586 ts_13 (by decide) rfl rfl (Nat.le_of_ble_eq_true rfl) dX8_ways_112 (fun r112 t112 h => ?_)
      exact g_iret (pc := 115) C dX8_ways_115 ⟨_, rfl, h⟩
    · replace h := ite_f h c_
      refine g_iconst (pc := 56) (v := 0) C dX8_ways_56 ic_0 ?_
      refine g_istore (pc := 57) (lv2 := [(6, .int 0), (0, .ref (G.2.2 0)), (2, .int v2), (4, .ref (G.2.2 k4)), (5, .int v5)]) C dX8_ways_57 (by decide) rfl ?_
      refine g_lv [1, 2, 3, 4, 0] (lv2 := [(0, .ref (G.2.2 0)), (2, .int v2), (4, .ref (G.2.2 k4)), (5, .int v5), (6, .int 0)]) rfl ?_
      exact k_X8_ways_59 C hk4 (fun _ _ h_ => ih h_) h
set_option maxHeartbeats 4000000 in
set_option maxRecDepth 100000 in
theorem M_X8_ways {l : Launch} {G : Gp} (hD : Dj shC G) {v1 : Int32} {v2 : Int32} {σ : St} {K : Int32 → St → Prop} (h : wp_X8_ways v1 v2 σ K) : MC l shC G yX8_ways cX8_ways 7 (some .int) 4 [.ref (G.2.2 0), .int v1, .int v2] σ (RI K) := by
  unfold wp_X8_ways at h
  refine MC.of (by decide) hD (Nat.le_of_ble_eq_true rfl) ?_
  intro p e s m args below meth c C
  replace C : Cx p (rmD 4) s m args meth c shC G cX8_ways 7 4 RX8 (some .int) 0 0 := C
  show Go p l e (rmD 4) s m args below meth c shC G 7 0 0 (MQ below (Qw shC G (RI K)) args s 0 0 (Fr shC G)) 0 [(0, .ref (G.2.2 0)), (1, .int v1), (2, .int v2)] [] σ
  refine g_iload_n (pc := 0) C 2 dX8_ways_0 rfl rfl ?_
  refine g_if_lt (pc := 1) (tgt := 10) C dX8_ways_1 (by decide) (fun c_ => ?_) (fun c_ => ?_)
  · replace h := ite_t h c_
    refine g_lv [] (lv2 := []) rfl ?_
    exact k_X8_ways_10 C  h
  · replace h := ite_f h c_
    refine g_iload_n (pc := 4) C 2 dX8_ways_4 rfl rfl ?_
    refine g_bipush (pc := 5) (v := 12) C dX8_ways_5 bp_12 ?_
    refine g_icmp_le (pc := 7) (tgt := 12) C dX8_ways_7 (by decide) (fun c_ => ?_) (fun c_ => ?_)
    · replace h := ite_t h c_
      refine g_aload_n (pc := 12) C 0 dX8_ways_12 rfl rfl ?_
      refine g_iload_n (pc := 13) C 1 dX8_ways_13 rfl rfl ?_
      refine g_callVip (pc := 14) (As := [.int v1]) (rest := []) C rfl rfl rfl rfl (M_X8_refuseBell C.2.2.1  h) CyX8_refuseBell tw_435 tw_437 ts_7 (by decide) rfl rfl (Nat.le_of_ble_eq_true rfl) dX8_ways_14 (fun r14 h => ?_)
      refine g_istore_n (pc := 17) (lv2 := [(3, .int r14), (0, .ref (G.2.2 0)), (1, .int v1), (2, .int v2)]) C dX8_ways_17 rfl (by decide) rfl ?_
      refine g_iload_n (pc := 18) C 0 dX8_ways_18 rfl rfl ?_
      refine g_if_eq (pc := 19) (tgt := 24) C dX8_ways_19 (by decide) (fun c_ => ?_) (fun c_ => ?_)
      · replace h := ite_t h c_
        refine g_aload_n (pc := 24) C 1 dX8_ways_24 rfl rfl ?_
        refine get_X8_3 (pc := 25) C rfl tw_197 dX8_ways_25 ?_
        refine get_X7_0 (pc := 28) C rfl tw_72 dX8_ways_28 ?_
        refine g_iload_n (pc := 31) C 2 dX8_ways_31 rfl rfl ?_
        obtain ⟨g_, h⟩ := h
        have hs32_ : shC[(28 + v1.toNatClampNeg)]? = some (0, 0, 0) := sh7_e (k := 25) rfl g_
        refine g_aldB (pc := 32) C (sh7_0 rfl) g_ dX8_ways_32 ?_
        refine g_astore (pc := 33) (lv2 := [(4, .ref (G.2.2 (28 + v1.toNatClampNeg))), (3, .int r14), (0, .ref (G.2.2 0)), (1, .int v1), (2, .int v2)]) C dX8_ways_33 (by decide) rfl ?_
        refine g_aload_n (pc := 35) C 2 dX8_ways_35 rfl rfl ?_
        refine get_X8_8 (pc := 36) C rfl tw_202 dX8_ways_36 ?_
        refine g_aload (pc := 39) C 0 dX8_ways_39 rfl ?_
        refine get_X0_3 (pc := 41) C hs32_ tw_50 dX8_ways_41 ?_
        refine g_callVv (pc := 44) (As := [.int (σ.1 (28 + v1.toNatClampNeg) 3)]) (rest := []) C rfl rfl rfl rfl (M_X2_begin C.2.2.1  h) CyX2_begin tw_567 tw_568 tw_569 (by decide) rfl rfl (Nat.le_of_ble_eq_true rfl) dX8_ways_44 (fun t44 h => ?_)
        refine g_iconst (pc := 47) (v := 0) C dX8_ways_47 ic_0 ?_
        refine g_istore (pc := 48) (lv2 := [(5, .int 0), (4, .ref (G.2.2 (28 + v1.toNatClampNeg))), (3, .int r14), (0, .ref (G.2.2 0)), (1, .int v1), (2, .int v2)]) C dX8_ways_48 (by decide) rfl ?_
        refine g_lv [3, 5, 1, 0] (lv2 := [(0, .ref (G.2.2 0)), (2, .int v2), (4, .ref (G.2.2 (28 + v1.toNatClampNeg))), (5, .int 0)]) rfl ?_
        exact k_X8_ways_50 C hs32_ h
      · replace h := ite_f h c_
        refine g_iload_n (pc := 22) C 0 dX8_ways_22 rfl rfl ?_
        exact g_iret (pc := 23) C dX8_ways_23 ⟨_, rfl, h⟩
    · replace h := ite_f h c_
      refine g_lv [] (lv2 := []) rfl ?_
      exact k_X8_ways_10 C  h
set_option maxHeartbeats 4000000 in
set_option maxRecDepth 100000 in
theorem k_X9_isHeavy_15 {w0 : Int32} {σ : St} {K : Int32 → Prop} (C : Cx p R s m args meth c shM G cX9_isHeavy 1 1 RX9 (some .boolean) 0 0) (h : J_X9_isHeavy_15 w0 K) : Go p l e R s m args below meth c shM G 1 0 0 (MQ below (Qw shM G (RI (fun r t => t = σ ∧ K r))) args s 0 0 (Fr shM G)) 15 [] [.int w0] σ := by
  unfold J_X9_isHeavy_15 at h
  obtain ⟨g_, h⟩ := h
  exact g_zret (pc := 15) C g_ dX9_isHeavy_15 ⟨_, rfl, ⟨rfl, h⟩⟩
set_option maxHeartbeats 4000000 in
set_option maxRecDepth 100000 in
theorem k_X9_isHeavy_10 {σ : St} {K : Int32 → Prop} (C : Cx p R s m args meth c shM G cX9_isHeavy 1 1 RX9 (some .boolean) 0 0) (h : J_X9_isHeavy_10 K) : Go p l e R s m args below meth c shM G 1 0 0 (MQ below (Qw shM G (RI (fun r t => t = σ ∧ K r))) args s 0 0 (Fr shM G)) 10 [] [] σ := by
  unfold J_X9_isHeavy_10 at h
  refine g_iconst (pc := 10) (v := 1) C dX9_isHeavy_10 ic_1 ?_
  refine g_goto (pc := 11) (tgt := 15) C dX9_isHeavy_11 (by decide) ?_
  refine g_lv [] (lv2 := []) rfl ?_
  exact k_X9_isHeavy_15 C  h
set_option maxHeartbeats 4000000 in
set_option maxRecDepth 100000 in
theorem M_X9_isHeavy {l : Launch} {G : Gp} (hD : Dj shM G) {v0 : Int32} {σ : St} {K : Int32 → Prop} (h : wp_X9_isHeavy v0 K) : MC l shM G yX9_isHeavy cX9_isHeavy 1 (some .boolean) 1 [.int v0] σ (RI (fun r t => t = σ ∧ K r)) := by
  unfold wp_X9_isHeavy at h
  refine MC.of (by decide) hD (Nat.le_of_ble_eq_true rfl) ?_
  intro p e s m args below meth c C
  replace C : Cx p (rmD 1) s m args meth c shM G cX9_isHeavy 1 1 RX9 (some .boolean) 0 0 := C
  show Go p l e (rmD 1) s m args below meth c shM G 1 0 0 (MQ below (Qw shM G (RI (fun r t => t = σ ∧ K r))) args s 0 0 (Fr shM G)) 0 [(0, .int v0)] [] σ
  refine g_iload_n (pc := 0) C 0 dX9_isHeavy_0 rfl rfl ?_
  refine g_iconst (pc := 1) (v := 1) C dX9_isHeavy_1 ic_1 ?_
  refine g_icmp_eq (pc := 2) (tgt := 10) C dX9_isHeavy_2 (by decide) (fun c_ => ?_) (fun c_ => ?_)
  · replace h := ite_t h c_
    refine g_lv [] (lv2 := []) rfl ?_
    exact k_X9_isHeavy_10 C  h
  · replace h := ite_f h c_
    refine g_iload_n (pc := 5) C 0 dX9_isHeavy_5 rfl rfl ?_
    refine g_iconst (pc := 6) (v := 4) C dX9_isHeavy_6 ic_4 ?_
    refine g_icmp_ne (pc := 7) (tgt := 14) C dX9_isHeavy_7 (by decide) (fun c_ => ?_) (fun c_ => ?_)
    · replace h := ite_f h c_
      refine g_iconst (pc := 14) (v := 0) C dX9_isHeavy_14 ic_0 ?_
      refine g_lv [] (lv2 := []) rfl ?_
      exact k_X9_isHeavy_15 C  h
    · replace h := ite_t h c_
      refine g_lv [] (lv2 := []) rfl ?_
      exact k_X9_isHeavy_10 C  h
set_option maxHeartbeats 4000000 in
set_option maxRecDepth 100000 in
theorem k_X9_isQuick_15 {w0 : Int32} {σ : St} {K : Int32 → Prop} (C : Cx p R s m args meth c shM G cX9_isQuick 1 1 RX9 (some .boolean) 0 0) (h : J_X9_isQuick_15 w0 K) : Go p l e R s m args below meth c shM G 1 0 0 (MQ below (Qw shM G (RI (fun r t => t = σ ∧ K r))) args s 0 0 (Fr shM G)) 15 [] [.int w0] σ := by
  unfold J_X9_isQuick_15 at h
  obtain ⟨g_, h⟩ := h
  exact g_zret (pc := 15) C g_ dX9_isQuick_15 ⟨_, rfl, ⟨rfl, h⟩⟩
set_option maxHeartbeats 4000000 in
set_option maxRecDepth 100000 in
theorem k_X9_isQuick_10 {σ : St} {K : Int32 → Prop} (C : Cx p R s m args meth c shM G cX9_isQuick 1 1 RX9 (some .boolean) 0 0) (h : J_X9_isQuick_10 K) : Go p l e R s m args below meth c shM G 1 0 0 (MQ below (Qw shM G (RI (fun r t => t = σ ∧ K r))) args s 0 0 (Fr shM G)) 10 [] [] σ := by
  unfold J_X9_isQuick_10 at h
  refine g_iconst (pc := 10) (v := 1) C dX9_isQuick_10 ic_1 ?_
  refine g_goto (pc := 11) (tgt := 15) C dX9_isQuick_11 (by decide) ?_
  refine g_lv [] (lv2 := []) rfl ?_
  exact k_X9_isQuick_15 C  h
set_option maxHeartbeats 4000000 in
set_option maxRecDepth 100000 in
theorem M_X9_isQuick {l : Launch} {G : Gp} (hD : Dj shM G) {v0 : Int32} {σ : St} {K : Int32 → Prop} (h : wp_X9_isQuick v0 K) : MC l shM G yX9_isQuick cX9_isQuick 1 (some .boolean) 1 [.int v0] σ (RI (fun r t => t = σ ∧ K r)) := by
  unfold wp_X9_isQuick at h
  refine MC.of (by decide) hD (Nat.le_of_ble_eq_true rfl) ?_
  intro p e s m args below meth c C
  replace C : Cx p (rmD 1) s m args meth c shM G cX9_isQuick 1 1 RX9 (some .boolean) 0 0 := C
  show Go p l e (rmD 1) s m args below meth c shM G 1 0 0 (MQ below (Qw shM G (RI (fun r t => t = σ ∧ K r))) args s 0 0 (Fr shM G)) 0 [(0, .int v0)] [] σ
  refine g_iload_n (pc := 0) C 0 dX9_isQuick_0 rfl rfl ?_
  refine g_iconst (pc := 1) (v := 2) C dX9_isQuick_1 ic_2 ?_
  refine g_icmp_eq (pc := 2) (tgt := 10) C dX9_isQuick_2 (by decide) (fun c_ => ?_) (fun c_ => ?_)
  · replace h := ite_t h c_
    refine g_lv [] (lv2 := []) rfl ?_
    exact k_X9_isQuick_10 C  h
  · replace h := ite_f h c_
    refine g_iload_n (pc := 5) C 0 dX9_isQuick_5 rfl rfl ?_
    refine g_iconst (pc := 6) (v := 5) C dX9_isQuick_6 ic_5 ?_
    refine g_icmp_ne (pc := 7) (tgt := 14) C dX9_isQuick_7 (by decide) (fun c_ => ?_) (fun c_ => ?_)
    · replace h := ite_f h c_
      refine g_iconst (pc := 14) (v := 0) C dX9_isQuick_14 ic_0 ?_
      refine g_lv [] (lv2 := []) rfl ?_
      exact k_X9_isQuick_15 C  h
    · replace h := ite_t h c_
      refine g_lv [] (lv2 := []) rfl ?_
      exact k_X9_isQuick_10 C  h
set_option maxHeartbeats 4000000 in
set_option maxRecDepth 100000 in
theorem k_X9_after_60 {w0 : Int32} {σ : St} {K : Int32 → Prop} (C : Cx p R s m args meth c shM G cX9_after 4 2 RX9 (some .int) 0 0) (h : J_X9_after_60 w0 K) : Go p l e R s m args below meth c shM G 4 0 0 (MQ below (Qw shM G (RI (fun r t => t = σ ∧ K r))) args s 0 0 (Fr shM G)) 60 [] [.int w0] σ := by
  unfold J_X9_after_60 at h
  exact g_iret (pc := 60) C dX9_after_60 ⟨_, rfl, ⟨rfl, h⟩⟩
set_option maxHeartbeats 4000000 in
set_option maxRecDepth 100000 in
theorem k_X9_after_28 {w0 : Int32} {w1 : Int32} {σ : St} {K : Int32 → Prop} (C : Cx p R s m args meth c shM G cX9_after 4 2 RX9 (some .int) 0 0) (h : J_X9_after_28 w0 w1 K) : Go p l e R s m args below meth c shM G 4 0 0 (MQ below (Qw shM G (RI (fun r t => t = σ ∧ K r))) args s 0 0 (Fr shM G)) 28 [] [.int w1, .int w0] σ := by
  unfold J_X9_after_28 at h
  refine g_isub (pc := 28) C dX9_after_28 ?_
  refine g_istore_n (pc := 29) (lv2 := [(3, .int (w0 - w1))]) C dX9_after_29 rfl (by decide) rfl ?_
  refine g_iload_n (pc := 30) C 0 dX9_after_30 rfl rfl ?_
  refine g_if_ge (pc := 31) (tgt := 38) C dX9_after_31 (by decide) (fun c_ => ?_) (fun c_ => ?_)
  · replace h := ite_t h c_
    refine g_iload_n (pc := 38) C 0 dX9_after_38 rfl rfl ?_
    refine g_bipush (pc := 39) (v := 21) C dX9_after_39 bp_21 ?_
    refine g_icmp_le (pc := 41) (tgt := 48) C dX9_after_41 (by decide) (fun c_ => ?_) (fun c_ => ?_)
    · replace h := ite_t h c_
      refine g_iload_n (pc := 48) C 0 dX9_after_48 rfl rfl ?_
      refine g_bipush (pc := 49) (v := 20) C dX9_after_49 bp_20 ?_
      refine g_icmp_le (pc := 51) (tgt := 59) C dX9_after_51 (by decide) (fun c_ => ?_) (fun c_ => ?_)
      · replace h := ite_t h c_
        refine g_iload_n (pc := 59) C 0 dX9_after_59 rfl rfl ?_
        refine g_lv [] (lv2 := []) rfl ?_
        exact k_X9_after_60 C  h
      · replace h := ite_f h c_
        refine g_bipush (pc := 54) (v := 20) C dX9_after_54 bp_20 ?_
        refine g_goto (pc := 56) (tgt := 60) C dX9_after_56 (by decide) ?_
        refine g_lv [] (lv2 := []) rfl ?_
        exact k_X9_after_60 C  h
    · replace h := ite_f h c_
      refine g_iconst (pc := 44) (v := -1) C dX9_after_44 ic_m1 ?_
      refine g_goto (pc := 45) (tgt := 60) C dX9_after_45 (by decide) ?_
      refine g_lv [] (lv2 := []) rfl ?_
      exact k_X9_after_60 C  h
  · replace h := ite_f h c_
    refine g_iconst (pc := 34) (v := 0) C dX9_after_34 ic_0 ?_
    refine g_goto (pc := 35) (tgt := 60) C dX9_after_35 (by decide) ?_
    refine g_lv [] (lv2 := []) rfl ?_
    exact k_X9_after_60 C  h
set_option maxHeartbeats 4000000 in
set_option maxRecDepth 100000 in
theorem k_X9_after_15 {v0 : Int32} {w0 : Int32} {w1 : Int32} {σ : St} {K : Int32 → Prop} (C : Cx p R s m args meth c shM G cX9_after 4 2 RX9 (some .int) 0 0) (h : J_X9_after_15 v0 w0 w1 K) : Go p l e R s m args below meth c shM G 4 0 0 (MQ below (Qw shM G (RI (fun r t => t = σ ∧ K r))) args s 0 0 (Fr shM G)) 15 [(0, .int v0)] [.int w1, .int w0] σ := by
  unfold J_X9_after_15 at h
  refine g_iadd (pc := 15) C dX9_after_15 ?_
  refine g_iload_n (pc := 16) C 0 dX9_after_16 rfl rfl ?_
  refine g_callSip (pc := 17) (As := [.int v0]) (rest := [.int (w0 + w1)]) C (M_X9_isQuick C.2.2.1  h) CyX9_isQuick tw_1067 tw_1068 (by decide) rfl rfl (Nat.le_of_ble_eq_true rfl) dX9_after_17 (fun r17 h => ?_)
  refine g_if_eq (pc := 20) (tgt := 27) C dX9_after_20 (by decide) (fun c_ => ?_) (fun c_ => ?_)
  · replace h := ite_t h c_
    refine g_iconst (pc := 27) (v := 1) C dX9_after_27 ic_1 ?_
    refine g_lv [] (lv2 := []) rfl ?_
    exact k_X9_after_28 C  h
  · replace h := ite_f h c_
    refine g_iconst (pc := 23) (v := 0) C dX9_after_23 ic_0 ?_
    refine g_goto (pc := 24) (tgt := 28) C dX9_after_24 (by decide) ?_
    refine g_lv [] (lv2 := []) rfl ?_
    exact k_X9_after_28 C  h
set_option maxHeartbeats 4000000 in
set_option maxRecDepth 100000 in
theorem M_X9_after {l : Launch} {G : Gp} (hD : Dj shM G) {v0 : Int32} {v1 : Int32} {v2 : Int32} {σ : St} {K : Int32 → Prop} (h : wp_X9_after v0 v1 v2 K) : MC l shM G yX9_after cX9_after 4 (some .int) 2 [.int v0, .int v1, .int v2] σ (RI (fun r t => t = σ ∧ K r)) := by
  unfold wp_X9_after at h
  refine MC.of (by decide) hD (Nat.le_of_ble_eq_true rfl) ?_
  intro p e s m args below meth c C
  replace C : Cx p (rmD 2) s m args meth c shM G cX9_after 4 2 RX9 (some .int) 0 0 := C
  show Go p l e (rmD 2) s m args below meth c shM G 4 0 0 (MQ below (Qw shM G (RI (fun r t => t = σ ∧ K r))) args s 0 0 (Fr shM G)) 0 [(0, .int v0), (1, .int v1), (2, .int v2)] [] σ
  refine g_iload_n (pc := 0) C 1 dX9_after_0 rfl rfl ?_
  refine g_iload_n (pc := 1) C 0 dX9_after_1 rfl rfl ?_
  refine g_callSip (pc := 2) (As := [.int v0]) (rest := [.int v1]) C (M_X9_isHeavy C.2.2.1  h) CyX9_isHeavy tw_1064 tw_1065 (by decide) rfl rfl (Nat.le_of_ble_eq_true rfl) dX9_after_2 (fun r2 h => ?_)
  refine g_if_eq (pc := 5) (tgt := 14) C dX9_after_5 (by decide) (fun c_ => ?_) (fun c_ => ?_)
  · replace h := ite_t h c_
    refine g_iload_n (pc := 14) C 2 dX9_after_14 rfl rfl ?_
    refine g_lv [0] (lv2 := [(0, .int v0)]) rfl ?_
    exact k_X9_after_15 C  h
  · replace h := ite_f h c_
    refine g_iload_n (pc := 8) C 2 dX9_after_8 rfl rfl ?_
    refine g_iconst (pc := 9) (v := 2) C dX9_after_9 ic_2 ?_
    refine g_idiv (pc := 10) C dX9_after_10 (by decide) ?_
    refine g_goto (pc := 11) (tgt := 15) C dX9_after_11 (by decide) ?_
    refine g_lv [0] (lv2 := [(0, .int v0)]) rfl ?_
    exact k_X9_after_15 C  h
set_option maxHeartbeats 4000000 in
set_option maxRecDepth 100000 in
theorem M_X9_found {l : Launch} {G : Gp} (hD : Dj shM G) {v1 : Int32} {σ : St} {K : Int32 → St → Prop} (h : wp_X9_found v1 σ K) : MC l shM G yX9_found cX9_found 2 (some .int) 1 [.ref (G.2.2 0), .int v1] σ (RI K) := by
  unfold wp_X9_found at h
  refine MC.of (by decide) hD (Nat.le_of_ble_eq_true rfl) ?_
  intro p e s m args below meth c C
  replace C : Cx p (rmD 1) s m args meth c shM G cX9_found 2 1 RX9 (some .int) 0 0 := C
  show Go p l e (rmD 1) s m args below meth c shM G 2 0 0 (MQ below (Qw shM G (RI K)) args s 0 0 (Fr shM G)) 0 [(0, .ref (G.2.2 0)), (1, .int v1)] [] σ
  refine g_aload_n (pc := 0) C 0 dX9_found_0 rfl rfl ?_
  refine g_iload_n (pc := 1) C 1 dX9_found_1 rfl rfl ?_
  refine put_X9_8 (pc := 2) C rfl tw_870 dX9_found_2 ?_
  refine g_aload_n (pc := 5) C 0 dX9_found_5 rfl rfl ?_
  refine get_X9_9 (pc := 6) C rfl tw_871 dX9_found_6 ?_
  refine g_iload_n (pc := 9) C 1 dX9_found_9 rfl rfl ?_
  refine g_dup2 (pc := 10) C dX9_found_10 rfl rfl ?_
  obtain ⟨g_, h⟩ := h
  refine g_iald (pc := 11) C rfl g_ dX9_found_11 ?_
  refine g_iconst (pc := 12) (v := 1) C dX9_found_12 ic_1 ?_
  refine g_iadd (pc := 13) C dX9_found_13 ?_
  obtain ⟨g_, h⟩ := h
  refine g_iast (pc := 14) C rfl g_ dX9_found_14 ?_
  refine g_bipush (pc := 15) (v := -3) C dX9_found_15 bp_m3 ?_
  exact g_iret (pc := 17) C dX9_found_17 ⟨_, rfl, h⟩
set_option maxHeartbeats 4000000 in
set_option maxRecDepth 100000 in
theorem k_X9_in_18 {w0 : Int32} {σ : St} {K : Int32 → Prop} (C : Cx p R s m args meth c shM G cX9_in 6 1 RX9 (some .boolean) 0 0) (h : J_X9_in_18 w0 K) : Go p l e R s m args below meth c shM G 6 0 0 (MQ below (Qw shM G (RI (fun r t => t = σ ∧ K r))) args s 0 0 (Fr shM G)) 18 [] [.int w0] σ := by
  unfold J_X9_in_18 at h
  obtain ⟨g_, h⟩ := h
  exact g_zret (pc := 18) C g_ dX9_in_18 ⟨_, rfl, ⟨rfl, h⟩⟩
set_option maxHeartbeats 4000000 in
set_option maxRecDepth 100000 in
theorem k_X9_in_17 {σ : St} {K : Int32 → Prop} (C : Cx p R s m args meth c shM G cX9_in 6 1 RX9 (some .boolean) 0 0) (h : J_X9_in_17 K) : Go p l e R s m args below meth c shM G 6 0 0 (MQ below (Qw shM G (RI (fun r t => t = σ ∧ K r))) args s 0 0 (Fr shM G)) 17 [] [] σ := by
  unfold J_X9_in_17 at h
  refine g_iconst (pc := 17) (v := 0) C dX9_in_17 ic_0 ?_
  refine g_lv [] (lv2 := []) rfl ?_
  exact k_X9_in_18 C  h
set_option maxHeartbeats 4000000 in
set_option maxRecDepth 100000 in
theorem M_X9_in {l : Launch} {G : Gp} (hD : Dj shM G) {v0 : Int64} {v2 : Int64} {v4 : Int64} {σ : St} {K : Int32 → Prop} (h : wp_X9_in v0 v2 v4 K) : MC l shM G yX9_in cX9_in 6 (some .boolean) 1 [.long v0, .long v2, .long v4] σ (RI (fun r t => t = σ ∧ K r)) := by
  unfold wp_X9_in at h
  refine MC.of (by decide) hD (Nat.le_of_ble_eq_true rfl) ?_
  intro p e s m args below meth c C
  replace C : Cx p (rmD 1) s m args meth c shM G cX9_in 6 1 RX9 (some .boolean) 0 0 := C
  show Go p l e (rmD 1) s m args below meth c shM G 6 0 0 (MQ below (Qw shM G (RI (fun r t => t = σ ∧ K r))) args s 0 0 (Fr shM G)) 0 [(0, .long v0), (2, .long v2), (4, .long v4)] [] σ
  refine g_lload_n (pc := 0) C 0 dX9_in_0 rfl rfl ?_
  refine g_lload_n (pc := 1) C 1 dX9_in_1 rfl rfl ?_
  refine g_lcmp (pc := 2) C dX9_in_2 ?_
  refine g_if_lt (pc := 3) (tgt := 17) C dX9_in_3 (by decide) (fun c_ => ?_) (fun c_ => ?_)
  · replace h := ite_t h c_
    refine g_lv [] (lv2 := []) rfl ?_
    exact k_X9_in_17 C  h
  · replace h := ite_f h c_
    refine g_lload_n (pc := 6) C 0 dX9_in_6 rfl rfl ?_
    refine g_lload (pc := 7) C 2 dX9_in_7 rfl ?_
    refine g_lcmp (pc := 9) C dX9_in_9 ?_
    refine g_if_gt (pc := 10) (tgt := 17) C dX9_in_10 (by decide) (fun c_ => ?_) (fun c_ => ?_)
    · replace h := ite_t h c_
      refine g_lv [] (lv2 := []) rfl ?_
      exact k_X9_in_17 C  h
    · replace h := ite_f h c_
      refine g_iconst (pc := 13) (v := 1) C dX9_in_13 ic_1 ?_
      refine g_goto (pc := 14) (tgt := 18) C dX9_in_14 (by decide) ?_
      refine g_lv [] (lv2 := []) rfl ?_
      exact k_X9_in_18 C  h
set_option maxHeartbeats 4000000 in
set_option maxRecDepth 100000 in
theorem M_X9_isPull {l : Launch} {G : Gp} (hD : Dj shM G) {v0 : Int32} {σ : St} {K : Int32 → Prop} (h : wp_X9_isPull v0 K) : MC l shM G yX9_isPull cX9_isPull 1 (some .boolean) 2 [.int v0] σ (RI (fun r t => t = σ ∧ K r)) := by
  unfold wp_X9_isPull at h
  refine MC.of (by decide) hD (Nat.le_of_ble_eq_true rfl) ?_
  intro p e s m args below meth c C
  replace C : Cx p (rmD 2) s m args meth c shM G cX9_isPull 1 2 RX9 (some .boolean) 0 0 := C
  show Go p l e (rmD 2) s m args below meth c shM G 1 0 0 (MQ below (Qw shM G (RI (fun r t => t = σ ∧ K r))) args s 0 0 (Fr shM G)) 0 [(0, .int v0)] [] σ
  refine g_iload_n (pc := 0) C 0 dX9_isPull_0 rfl rfl ?_
  refine g_i2l (pc := 1) C dX9_isPull_1 ?_
  refine g_lconst (pc := 2) (v := 0) C dX9_isPull_2 lc_0 ?_
  refine g_ldc2 (pc := 3) (v := 6) C dX9_isPull_3 tw_1088 ?_
  refine g_callSip (pc := 6) (As := [.long v0.toInt64, .long (0 : Int64), .long (6 : Int64)]) (rest := []) C (M_X9_in C.2.2.1  h) CyX9_in tw_955 tw_956 (by decide) rfl rfl (Nat.le_of_ble_eq_true rfl) dX9_isPull_6 (fun r6 h => ?_)
  obtain ⟨g_, h⟩ := h
  exact g_zret (pc := 9) C g_ dX9_isPull_9 ⟨_, rfl, ⟨rfl, h⟩⟩
set_option maxHeartbeats 4000000 in
set_option maxRecDepth 100000 in
theorem M_X9_isRow {l : Launch} {G : Gp} (hD : Dj shM G) {v0 : Int32} {σ : St} {K : Int32 → Prop} (h : wp_X9_isRow v0 K) : MC l shM G yX9_isRow cX9_isRow 1 (some .boolean) 2 [.int v0] σ (RI (fun r t => t = σ ∧ K r)) := by
  unfold wp_X9_isRow at h
  refine MC.of (by decide) hD (Nat.le_of_ble_eq_true rfl) ?_
  intro p e s m args below meth c C
  replace C : Cx p (rmD 2) s m args meth c shM G cX9_isRow 1 2 RX9 (some .boolean) 0 0 := C
  show Go p l e (rmD 2) s m args below meth c shM G 1 0 0 (MQ below (Qw shM G (RI (fun r t => t = σ ∧ K r))) args s 0 0 (Fr shM G)) 0 [(0, .int v0)] [] σ
  refine g_iload_n (pc := 0) C 0 dX9_isRow_0 rfl rfl ?_
  refine g_i2l (pc := 1) C dX9_isRow_1 ?_
  refine g_lconst (pc := 2) (v := 0) C dX9_isRow_2 lc_0 ?_
  refine g_ldc2 (pc := 3) (v := 5) C dX9_isRow_3 tw_954 ?_
  refine g_callSip (pc := 6) (As := [.long v0.toInt64, .long (0 : Int64), .long (5 : Int64)]) (rest := []) C (M_X9_in C.2.2.1  h) CyX9_in tw_955 tw_956 (by decide) rfl rfl (Nat.le_of_ble_eq_true rfl) dX9_isRow_6 (fun r6 h => ?_)
  obtain ⟨g_, h⟩ := h
  exact g_zret (pc := 9) C g_ dX9_isRow_9 ⟨_, rfl, ⟨rfl, h⟩⟩
set_option maxHeartbeats 4000000 in
set_option maxRecDepth 100000 in
theorem k_X9_against_59 {v1 : Int32} {v2 : Int32} {σ : St} {K : Int32 → St → Prop} (C : Cx p R s m args meth c shM G cX9_against 3 3 RX9 (some .int) 0 0) (h : L_X9_against_59 v1 σ K v2) : Go p l e R s m args below meth c shM G 3 0 0 (MQ below (Qw shM G (RI K)) args s 0 0 (Fr shM G)) 59 [(0, .ref (G.2.2 0)), (1, .int v1), (2, .int v2)] [] σ := by
  obtain ⟨n_, h⟩ := h
  induction n_ generalizing v2 with
  | zero => exact h.elim
  | succ n_ ih =>
    replace h : B_X9_against_59 v1 σ K (it1 (B_X9_against_59 v1 σ K) n_) v2 := h
    unfold B_X9_against_59 at h
    refine g_iload_n (pc := 59) C 2 dX9_against_59 rfl rfl ?_
    refine g_aload_n (pc := 60) C 0 dX9_against_60 rfl rfl ?_
    refine get_X9_0 (pc := 61) C rfl tw_862 dX9_against_61 ?_
    refine g_iconst (pc := 64) (v := 0) C dX9_against_64 ic_0 ?_
    obtain ⟨g_, h⟩ := h
    refine g_iald (pc := 65) C rfl g_ dX9_against_65 ?_
    refine g_icmp_ge (pc := 66) (tgt := 98) C dX9_against_66 (by decide) (fun c_ => ?_) (fun c_ => ?_)
    · replace h := ite_t h c_
      refine g_iconst (pc := 98) (v := 0) C dX9_against_98 ic_0 ?_
      exact g_iret (pc := 99) C dX9_against_99 ⟨_, rfl, h⟩
    · replace h := ite_f h c_
      refine g_aload_n (pc := 69) C 0 dX9_against_69 rfl rfl ?_
      refine get_X9_3 (pc := 70) C rfl tw_865 dX9_against_70 ?_
      refine g_bipush (pc := 73) (v := 40) C dX9_against_73 bp_40 ?_
      refine g_iload_n (pc := 75) C 1 dX9_against_75 rfl rfl ?_
      refine g_imul (pc := 76) C dX9_against_76 ?_
      refine g_iload_n (pc := 77) C 2 dX9_against_77 rfl rfl ?_
      refine g_iadd (pc := 78) C dX9_against_78 ?_
      obtain ⟨g_, h⟩ := h
      refine g_iald (pc := 79) C rfl g_ dX9_against_79 ?_
      refine g_callSip (pc := 80) (As := [.int (σ.1 3 ((40 * v1) + v2).toNatClampNeg)]) (rest := []) C (M_X9_isPull C.2.2.1  h) CyX9_isPull tw_1085 tw_1086 (by decide) rfl rfl (Nat.le_of_ble_eq_true rfl) dX9_against_80 (fun r80 h => ?_)
      refine g_if_ne (pc := 83) (tgt := 92) C dX9_against_83 (by decide) (fun c_ => ?_) (fun c_ => ?_)
      · replace h := ite_f h c_
        refine g_iinc (pc := 92) (lv2 := [(2, .int (v2 + 1)), (0, .ref (G.2.2 0)), (1, .int v1)]) C 2 dX9_against_92 ic_1 rfl (by decide) rfl ?_
        refine g_goto (pc := 95) (tgt := 59) C dX9_against_95 (by decide) ?_
        refine g_lv [1, 2, 0] (lv2 := [(0, .ref (G.2.2 0)), (1, .int v1), (2, .int (v2 + 1))]) rfl ?_
        exact ih h
      · replace h := ite_t h c_
        refine g_aload_n (pc := 86) C 0 dX9_against_86 rfl rfl ?_
        refine g_iconst (pc := 87) (v := 3) C dX9_against_87 ic_3 ?_
        refine g_callVi (pc := 88) (As := [.int 3]) (rest := []) C rfl rfl rfl rfl (M_X9_found C.2.2.1  h) CyX9_found tw_958 tw_960 ts_25 (by decide) rfl rfl (Nat.le_of_ble_eq_true rfl) dX9_against_88 (fun r88 t88 h => ?_)
        exact g_iret (pc := 91) C dX9_against_91 ⟨_, rfl, h⟩
set_option maxHeartbeats 4000000 in
set_option maxRecDepth 100000 in
theorem M_X9_against {l : Launch} {G : Gp} (hD : Dj shM G) {v1 : Int32} {σ : St} {K : Int32 → St → Prop} (h : wp_X9_against v1 σ K) : MC l shM G yX9_against cX9_against 3 (some .int) 3 [.ref (G.2.2 0), .int v1] σ (RI K) := by
  unfold wp_X9_against at h
  refine MC.of (by decide) hD (Nat.le_of_ble_eq_true rfl) ?_
  intro p e s m args below meth c C
  replace C : Cx p (rmD 3) s m args meth c shM G cX9_against 3 3 RX9 (some .int) 0 0 := C
  show Go p l e (rmD 3) s m args below meth c shM G 3 0 0 (MQ below (Qw shM G (RI K)) args s 0 0 (Fr shM G)) 0 [(0, .ref (G.2.2 0)), (1, .int v1)] [] σ
  refine g_iload_n (pc := 0) C 1 dX9_against_0 rfl rfl ?_
  refine g_callSip (pc := 1) (As := [.int v1]) (rest := []) C (M_X9_isRow C.2.2.1  h) CyX9_isRow tw_951 tw_952 (by decide) rfl rfl (Nat.le_of_ble_eq_true rfl) dX9_against_1 (fun r1 h => ?_)
  refine g_if_ne (pc := 4) (tgt := 9) C dX9_against_4 (by decide) (fun c_ => ?_) (fun c_ => ?_)
  · replace h := ite_f h c_
    refine g_aload_n (pc := 9) C 0 dX9_against_9 rfl rfl ?_
    refine get_X9_0 (pc := 10) C rfl tw_862 dX9_against_10 ?_
    refine g_iconst (pc := 13) (v := 0) C dX9_against_13 ic_0 ?_
    obtain ⟨g_, h⟩ := h
    refine g_iald (pc := 14) C rfl g_ dX9_against_14 ?_
    refine g_if_ne (pc := 15) (tgt := 21) C dX9_against_15 (by decide) (fun c_ => ?_) (fun c_ => ?_)
    · replace h := ite_f h c_
      refine g_aload_n (pc := 21) C 0 dX9_against_21 rfl rfl ?_
      refine get_X9_4 (pc := 22) C rfl tw_866 dX9_against_22 ?_
      refine g_iload_n (pc := 25) C 1 dX9_against_25 rfl rfl ?_
      obtain ⟨g_, h⟩ := h
      refine g_iald (pc := 26) C rfl g_ dX9_against_26 ?_
      refine g_if_ge (pc := 27) (tgt := 36) C dX9_against_27 (by decide) (fun c_ => ?_) (fun c_ => ?_)
      · replace h := ite_t h c_
        refine g_aload_n (pc := 36) C 0 dX9_against_36 rfl rfl ?_
        refine get_X9_4 (pc := 37) C rfl tw_866 dX9_against_37 ?_
        refine g_iload_n (pc := 40) C 1 dX9_against_40 rfl rfl ?_
        obtain ⟨g_, h⟩ := h
        refine g_iald (pc := 41) C rfl g_ dX9_against_41 ?_
        refine g_aload_n (pc := 42) C 0 dX9_against_42 rfl rfl ?_
        refine get_X9_0 (pc := 43) C rfl tw_862 dX9_against_43 ?_
        refine g_iconst (pc := 46) (v := 0) C dX9_against_46 ic_0 ?_
        obtain ⟨g_, h⟩ := h
        refine g_iald (pc := 47) C rfl g_ dX9_against_47 ?_
        refine g_icmp_eq (pc := 48) (tgt := 57) C dX9_against_48 (by decide) (fun c_ => ?_) (fun c_ => ?_)
        · replace h := ite_t h c_
          refine g_iconst (pc := 57) (v := 0) C dX9_against_57 ic_0 ?_
          refine g_istore_n (pc := 58) (lv2 := [(2, .int 0), (0, .ref (G.2.2 0)), (1, .int v1)]) C dX9_against_58 rfl (by decide) rfl ?_
          refine g_lv [1, 2, 0] (lv2 := [(0, .ref (G.2.2 0)), (1, .int v1), (2, .int 0)]) rfl ?_
          exact k_X9_against_59 C  h
        · replace h := ite_f h c_
          refine g_aload_n (pc := 51) C 0 dX9_against_51 rfl rfl ?_
          refine g_iconst (pc := 52) (v := 5) C dX9_against_52 ic_5 ?_
          refine g_callVi (pc := 53) (As := [.int 5]) (rest := []) C rfl rfl rfl rfl (M_X9_found C.2.2.1  h) CyX9_found tw_958 tw_960 ts_25 (by decide) rfl rfl (Nat.le_of_ble_eq_true rfl) dX9_against_53 (fun r53 t53 h => ?_)
          exact g_iret (pc := 56) C dX9_against_56 ⟨_, rfl, h⟩
      · replace h := ite_f h c_
        refine g_aload_n (pc := 30) C 0 dX9_against_30 rfl rfl ?_
        refine g_iconst (pc := 31) (v := 1) C dX9_against_31 ic_1 ?_
        refine g_callVi (pc := 32) (As := [.int 1]) (rest := []) C rfl rfl rfl rfl (M_X9_found C.2.2.1  h) CyX9_found tw_958 tw_960 ts_25 (by decide) rfl rfl (Nat.le_of_ble_eq_true rfl) dX9_against_32 (fun r32 t32 h => ?_)
        exact g_iret (pc := 35) C dX9_against_35 ⟨_, rfl, h⟩
    · replace h := ite_t h c_
      refine g_bipush (pc := 18) (v := -4) C dX9_against_18 bp_m4 ?_
      exact g_iret (pc := 20) C dX9_against_20 ⟨_, rfl, h⟩
  · replace h := ite_t h c_
    refine g_iconst (pc := 7) (v := -1) C dX9_against_7 ic_m1 ?_
    exact g_iret (pc := 8) C dX9_against_8 ⟨_, rfl, h⟩
set_option maxHeartbeats 4000000 in
set_option maxRecDepth 100000 in
theorem M_X9_isBell {l : Launch} {G : Gp} (hD : Dj shM G) {v1 : Int32} {σ : St} {K : Int32 → Prop} (h : wp_X9_isBell v1 σ K) : MC l shM G yX9_isBell cX9_isBell 2 (some .boolean) 2 [.ref (G.2.2 0), .int v1] σ (RI (fun r t => t = σ ∧ K r)) := by
  unfold wp_X9_isBell at h
  refine MC.of (by decide) hD (Nat.le_of_ble_eq_true rfl) ?_
  intro p e s m args below meth c C
  replace C : Cx p (rmD 2) s m args meth c shM G cX9_isBell 2 2 RX9 (some .boolean) 0 0 := C
  show Go p l e (rmD 2) s m args below meth c shM G 2 0 0 (MQ below (Qw shM G (RI (fun r t => t = σ ∧ K r))) args s 0 0 (Fr shM G)) 0 [(0, .ref (G.2.2 0)), (1, .int v1)] [] σ
  refine g_iload_n (pc := 0) C 1 dX9_isBell_0 rfl rfl ?_
  refine g_i2l (pc := 1) C dX9_isBell_1 ?_
  refine g_lconst (pc := 2) (v := 0) C dX9_isBell_2 lc_0 ?_
  refine g_aload_n (pc := 3) C 0 dX9_isBell_3 rfl rfl ?_
  refine get_X9_0 (pc := 4) C rfl tw_862 dX9_isBell_4 ?_
  refine g_iconst (pc := 7) (v := 0) C dX9_isBell_7 ic_0 ?_
  obtain ⟨g_, h⟩ := h
  refine g_iald (pc := 8) C rfl g_ dX9_isBell_8 ?_
  refine g_iconst (pc := 9) (v := 1) C dX9_isBell_9 ic_1 ?_
  refine g_isub (pc := 10) C dX9_isBell_10 ?_
  refine g_i2l (pc := 11) C dX9_isBell_11 ?_
  refine g_callSip (pc := 12) (As := [.long v1.toInt64, .long (0 : Int64), .long (((σ.1 1 (0 : Int32).toNatClampNeg) - 1).toInt64)]) (rest := []) C (M_X9_in C.2.2.1  h) CyX9_in tw_955 tw_956 (by decide) rfl rfl (Nat.le_of_ble_eq_true rfl) dX9_isBell_12 (fun r12 h => ?_)
  obtain ⟨g_, h⟩ := h
  exact g_zret (pc := 15) C g_ dX9_isBell_15 ⟨_, rfl, ⟨rfl, h⟩⟩
set_option maxHeartbeats 4000000 in
set_option maxRecDepth 100000 in
theorem k_X9_isOver_18 {w0 : Int32} {σ : St} {K : Int32 → Prop} (C : Cx p R s m args meth c shM G cX9_isOver 2 1 RX9 (some .boolean) 0 0) (h : J_X9_isOver_18 w0 σ K) : Go p l e R s m args below meth c shM G 2 0 0 (MQ below (Qw shM G (RI (fun r t => t = σ ∧ K r))) args s 0 0 (Fr shM G)) 18 [] [.int w0] σ := by
  unfold J_X9_isOver_18 at h
  obtain ⟨g_, h⟩ := h
  exact g_zret (pc := 18) C g_ dX9_isOver_18 ⟨_, rfl, ⟨rfl, h⟩⟩
set_option maxHeartbeats 4000000 in
set_option maxRecDepth 100000 in
theorem M_X9_isOver {l : Launch} {G : Gp} (hD : Dj shM G) {v1 : Int32} {σ : St} {K : Int32 → Prop} (h : wp_X9_isOver v1 σ K) : MC l shM G yX9_isOver cX9_isOver 2 (some .boolean) 1 [.ref (G.2.2 0), .int v1] σ (RI (fun r t => t = σ ∧ K r)) := by
  unfold wp_X9_isOver at h
  refine MC.of (by decide) hD (Nat.le_of_ble_eq_true rfl) ?_
  intro p e s m args below meth c C
  replace C : Cx p (rmD 1) s m args meth c shM G cX9_isOver 2 1 RX9 (some .boolean) 0 0 := C
  show Go p l e (rmD 1) s m args below meth c shM G 2 0 0 (MQ below (Qw shM G (RI (fun r t => t = σ ∧ K r))) args s 0 0 (Fr shM G)) 0 [(0, .ref (G.2.2 0)), (1, .int v1)] [] σ
  refine g_aload_n (pc := 0) C 0 dX9_isOver_0 rfl rfl ?_
  refine get_X9_0 (pc := 1) C rfl tw_862 dX9_isOver_1 ?_
  refine g_bipush (pc := 4) (v := 20) C dX9_isOver_4 bp_20 ?_
  refine g_iload_n (pc := 6) C 1 dX9_isOver_6 rfl rfl ?_
  refine g_iadd (pc := 7) C dX9_isOver_7 ?_
  obtain ⟨g_, h⟩ := h
  refine g_iald (pc := 8) C rfl g_ dX9_isOver_8 ?_
  refine g_iconst (pc := 9) (v := 1) C dX9_isOver_9 ic_1 ?_
  refine g_icmp_ne (pc := 10) (tgt := 17) C dX9_isOver_10 (by decide) (fun c_ => ?_) (fun c_ => ?_)
  · replace h := ite_f h c_
    refine g_iconst (pc := 17) (v := 0) C dX9_isOver_17 ic_0 ?_
    refine g_lv [] (lv2 := []) rfl ?_
    exact k_X9_isOver_18 C  h
  · replace h := ite_t h c_
    refine g_iconst (pc := 13) (v := 1) C dX9_isOver_13 ic_1 ?_
    refine g_goto (pc := 14) (tgt := 18) C dX9_isOver_14 (by decide) ?_
    refine g_lv [] (lv2 := []) rfl ?_
    exact k_X9_isOver_18 C  h
set_option maxHeartbeats 4000000 in
set_option maxRecDepth 100000 in
theorem k_X9_againstPairs_15 {σ : St} {K : Int32 → St → Prop} (C : Cx p R s m args meth c shM G cX9_againstPairs 4 3 RX9 (some .int) 0 0) (h : J_X9_againstPairs_15 σ K) : Go p l e R s m args below meth c shM G 4 0 0 (MQ below (Qw shM G (RI K)) args s 0 0 (Fr shM G)) 15 [] [] σ := by
  unfold J_X9_againstPairs_15 at h
  refine g_iconst (pc := 15) (v := -1) C dX9_againstPairs_15 ic_m1 ?_
  exact g_iret (pc := 16) C dX9_againstPairs_16 ⟨_, rfl, h⟩
set_option maxHeartbeats 4000000 in
set_option maxRecDepth 100000 in
theorem k_X9_againstPairs_62 {v2 : Int32} {v3 : Int32} {σ : St} {K : Int32 → St → Prop} (C : Cx p R s m args meth c shM G cX9_againstPairs 4 3 RX9 (some .int) 0 0) (h : L_X9_againstPairs_62 v2 σ K v3) : Go p l e R s m args below meth c shM G 4 0 0 (MQ below (Qw shM G (RI K)) args s 0 0 (Fr shM G)) 62 [(0, .ref (G.2.2 0)), (2, .int v2), (3, .int v3)] [] σ := by
  obtain ⟨n_, h⟩ := h
  induction n_ generalizing v3 with
  | zero => exact h.elim
  | succ n_ ih =>
    replace h : B_X9_againstPairs_62 v2 σ K (it1 (B_X9_againstPairs_62 v2 σ K) n_) v3 := h
    unfold B_X9_againstPairs_62 at h
    refine g_iload_n (pc := 62) C 2 dX9_againstPairs_62 rfl rfl ?_
    refine g_aload_n (pc := 63) C 0 dX9_againstPairs_63 rfl rfl ?_
    refine get_X9_4 (pc := 64) C rfl tw_866 dX9_againstPairs_64 ?_
    refine g_iload_n (pc := 67) C 1 dX9_againstPairs_67 rfl rfl ?_
    obtain ⟨g_, h⟩ := h
    refine g_iald (pc := 68) C rfl g_ dX9_againstPairs_68 ?_
    refine g_icmp_ge (pc := 69) (tgt := 101) C dX9_againstPairs_69 (by decide) (fun c_ => ?_) (fun c_ => ?_)
    · replace h := ite_t h c_
      refine g_iconst (pc := 101) (v := 0) C dX9_againstPairs_101 ic_0 ?_
      exact g_iret (pc := 102) C dX9_againstPairs_102 ⟨_, rfl, h⟩
    · replace h := ite_f h c_
      refine g_aload_n (pc := 72) C 0 dX9_againstPairs_72 rfl rfl ?_
      refine get_X9_3 (pc := 73) C rfl tw_865 dX9_againstPairs_73 ?_
      refine g_bipush (pc := 76) (v := 40) C dX9_againstPairs_76 bp_40 ?_
      refine g_iload_n (pc := 78) C 1 dX9_againstPairs_78 rfl rfl ?_
      refine g_imul (pc := 79) C dX9_againstPairs_79 ?_
      refine g_iload_n (pc := 80) C 2 dX9_againstPairs_80 rfl rfl ?_
      refine g_iadd (pc := 81) C dX9_againstPairs_81 ?_
      obtain ⟨g_, h⟩ := h
      refine g_iald (pc := 82) C rfl g_ dX9_againstPairs_82 ?_
      refine g_callSip (pc := 83) (As := [.int (σ.1 3 ((40 * v2) + v3).toNatClampNeg)]) (rest := []) C (M_X9_isPull C.2.2.1  h) CyX9_isPull tw_1085 tw_1086 (by decide) rfl rfl (Nat.le_of_ble_eq_true rfl) dX9_againstPairs_83 (fun r83 h => ?_)
      refine g_if_ne (pc := 86) (tgt := 95) C dX9_againstPairs_86 (by decide) (fun c_ => ?_) (fun c_ => ?_)
      · replace h := ite_f h c_
        refine g_iinc (pc := 95) (lv2 := [(3, .int (v3 + 2)), (0, .ref (G.2.2 0)), (2, .int v2)]) C 2 dX9_againstPairs_95 ic_2 rfl (by decide) rfl ?_
        refine g_goto (pc := 98) (tgt := 62) C dX9_againstPairs_98 (by decide) ?_
        refine g_lv [1, 2, 0] (lv2 := [(0, .ref (G.2.2 0)), (2, .int v2), (3, .int (v3 + 2))]) rfl ?_
        exact ih h
      · replace h := ite_t h c_
        refine g_aload_n (pc := 89) C 0 dX9_againstPairs_89 rfl rfl ?_
        refine g_iconst (pc := 90) (v := 3) C dX9_againstPairs_90 ic_3 ?_
        refine g_callVi (pc := 91) (As := [.int 3]) (rest := []) C rfl rfl rfl rfl (M_X9_found C.2.2.1  h) CyX9_found tw_958 tw_960 ts_25 (by decide) rfl rfl (Nat.le_of_ble_eq_true rfl) dX9_againstPairs_91 (fun r91 t91 h => ?_)
        exact g_iret (pc := 94) C dX9_againstPairs_94 ⟨_, rfl, h⟩
set_option maxHeartbeats 4000000 in
set_option maxRecDepth 100000 in
theorem M_X9_againstPairs {l : Launch} {G : Gp} (hD : Dj shM G) {v1 : Int32} {v2 : Int32} {σ : St} {K : Int32 → St → Prop} (h : wp_X9_againstPairs v1 v2 σ K) : MC l shM G yX9_againstPairs cX9_againstPairs 4 (some .int) 3 [.ref (G.2.2 0), .int v1, .int v2] σ (RI K) := by
  unfold wp_X9_againstPairs at h
  refine MC.of (by decide) hD (Nat.le_of_ble_eq_true rfl) ?_
  intro p e s m args below meth c C
  replace C : Cx p (rmD 3) s m args meth c shM G cX9_againstPairs 4 3 RX9 (some .int) 0 0 := C
  show Go p l e (rmD 3) s m args below meth c shM G 4 0 0 (MQ below (Qw shM G (RI K)) args s 0 0 (Fr shM G)) 0 [(0, .ref (G.2.2 0)), (1, .int v1), (2, .int v2)] [] σ
  refine g_aload_n (pc := 0) C 0 dX9_againstPairs_0 rfl rfl ?_
  refine g_iload_n (pc := 1) C 1 dX9_againstPairs_1 rfl rfl ?_
  refine g_callVip (pc := 2) (As := [.int v1]) (rest := []) C rfl rfl rfl rfl (M_X9_isBell C.2.2.1  h) CyX9_isBell tw_1045 tw_1047 ts_34 (by decide) rfl rfl (Nat.le_of_ble_eq_true rfl) dX9_againstPairs_2 (fun r2 h => ?_)
  refine g_if_eq (pc := 5) (tgt := 15) C dX9_againstPairs_5 (by decide) (fun c_ => ?_) (fun c_ => ?_)
  · replace h := ite_t h c_
    refine g_lv [] (lv2 := []) rfl ?_
    exact k_X9_againstPairs_15 C  h
  · replace h := ite_f h c_
    refine g_iload_n (pc := 8) C 2 dX9_againstPairs_8 rfl rfl ?_
    refine g_callSip (pc := 9) (As := [.int v2]) (rest := []) C (M_X9_isRow C.2.2.1  h) CyX9_isRow tw_951 tw_952 (by decide) rfl rfl (Nat.le_of_ble_eq_true rfl) dX9_againstPairs_9 (fun r9 h => ?_)
    refine g_if_ne (pc := 12) (tgt := 17) C dX9_againstPairs_12 (by decide) (fun c_ => ?_) (fun c_ => ?_)
    · replace h := ite_f h c_
      refine g_aload_n (pc := 17) C 0 dX9_againstPairs_17 rfl rfl ?_
      refine g_iload_n (pc := 18) C 1 dX9_againstPairs_18 rfl rfl ?_
      refine g_callVip (pc := 19) (As := [.int v1]) (rest := []) C rfl rfl rfl rfl (M_X9_isOver C.2.2.1  h) CyX9_isOver tw_1089 tw_1091 ts_38 (by decide) rfl rfl (Nat.le_of_ble_eq_true rfl) dX9_againstPairs_19 (fun r19 h => ?_)
      refine g_if_eq (pc := 22) (tgt := 28) C dX9_againstPairs_22 (by decide) (fun c_ => ?_) (fun c_ => ?_)
      · replace h := ite_t h c_
        refine g_aload_n (pc := 28) C 0 dX9_againstPairs_28 rfl rfl ?_
        refine get_X9_4 (pc := 29) C rfl tw_866 dX9_againstPairs_29 ?_
        refine g_iload_n (pc := 32) C 2 dX9_againstPairs_32 rfl rfl ?_
        obtain ⟨g_, h⟩ := h
        refine g_iald (pc := 33) C rfl g_ dX9_againstPairs_33 ?_
        refine g_if_ge (pc := 34) (tgt := 43) C dX9_againstPairs_34 (by decide) (fun c_ => ?_) (fun c_ => ?_)
        · replace h := ite_t h c_
          refine g_aload_n (pc := 43) C 0 dX9_againstPairs_43 rfl rfl ?_
          refine get_X9_4 (pc := 44) C rfl tw_866 dX9_againstPairs_44 ?_
          refine g_iload_n (pc := 47) C 2 dX9_againstPairs_47 rfl rfl ?_
          obtain ⟨g_, h⟩ := h
          refine g_iald (pc := 48) C rfl g_ dX9_againstPairs_48 ?_
          refine g_iconst (pc := 49) (v := 2) C dX9_againstPairs_49 ic_2 ?_
          refine g_irem (pc := 50) C dX9_againstPairs_50 (by decide) ?_
          refine g_if_eq (pc := 51) (tgt := 60) C dX9_againstPairs_51 (by decide) (fun c_ => ?_) (fun c_ => ?_)
          · replace h := ite_t h c_
            refine g_iconst (pc := 60) (v := 0) C dX9_againstPairs_60 ic_0 ?_
            refine g_istore_n (pc := 61) (lv2 := [(3, .int 0), (0, .ref (G.2.2 0)), (1, .int v1), (2, .int v2)]) C dX9_againstPairs_61 rfl (by decide) rfl ?_
            refine g_lv [1, 3, 0] (lv2 := [(0, .ref (G.2.2 0)), (2, .int v2), (3, .int 0)]) rfl ?_
            exact k_X9_againstPairs_62 C  h
          · replace h := ite_f h c_
            refine g_aload_n (pc := 54) C 0 dX9_againstPairs_54 rfl rfl ?_
            refine g_iconst (pc := 55) (v := 5) C dX9_againstPairs_55 ic_5 ?_
            refine g_callVi (pc := 56) (As := [.int 5]) (rest := []) C rfl rfl rfl rfl (M_X9_found C.2.2.1  h) CyX9_found tw_958 tw_960 ts_25 (by decide) rfl rfl (Nat.le_of_ble_eq_true rfl) dX9_againstPairs_56 (fun r56 t56 h => ?_)
            exact g_iret (pc := 59) C dX9_againstPairs_59 ⟨_, rfl, h⟩
        · replace h := ite_f h c_
          refine g_aload_n (pc := 37) C 0 dX9_againstPairs_37 rfl rfl ?_
          refine g_iconst (pc := 38) (v := 1) C dX9_againstPairs_38 ic_1 ?_
          refine g_callVi (pc := 39) (As := [.int 1]) (rest := []) C rfl rfl rfl rfl (M_X9_found C.2.2.1  h) CyX9_found tw_958 tw_960 ts_25 (by decide) rfl rfl (Nat.le_of_ble_eq_true rfl) dX9_againstPairs_39 (fun r39 t39 h => ?_)
          exact g_iret (pc := 42) C dX9_againstPairs_42 ⟨_, rfl, h⟩
      · replace h := ite_f h c_
        refine g_bipush (pc := 25) (v := -4) C dX9_againstPairs_25 bp_m4 ?_
        exact g_iret (pc := 27) C dX9_againstPairs_27 ⟨_, rfl, h⟩
    · replace h := ite_t h c_
      refine g_lv [] (lv2 := []) rfl ?_
      exact k_X9_againstPairs_15 C  h
set_option maxHeartbeats 4000000 in
set_option maxRecDepth 100000 in
theorem k_X9_againstSlips_40 {σ : St} {K : Int32 → Prop} (C : Cx p R s m args meth c shM G cX9_againstSlips 5 3 RX9 (some .int) 0 0) (h : J_X9_againstSlips_40 σ K) : Go p l e R s m args below meth c shM G 5 0 0 (MQ below (Qw shM G (RI (fun r t => t = σ ∧ K r))) args s 0 0 (Fr shM G)) 40 [] [] σ := by
  unfold J_X9_againstSlips_40 at h
  refine g_iconst (pc := 40) (v := -1) C dX9_againstSlips_40 ic_m1 ?_
  exact g_iret (pc := 41) C dX9_againstSlips_41 ⟨_, rfl, ⟨rfl, h⟩⟩
set_option maxHeartbeats 4000000 in
set_option maxRecDepth 100000 in
theorem k_X9_againstSlips_56 {w0 : Int32} {σ : St} {K : Int32 → Prop} (C : Cx p R s m args meth c shM G cX9_againstSlips 5 3 RX9 (some .int) 0 0) (h : J_X9_againstSlips_56 w0 σ K) : Go p l e R s m args below meth c shM G 5 0 0 (MQ below (Qw shM G (RI (fun r t => t = σ ∧ K r))) args s 0 0 (Fr shM G)) 56 [] [.int w0] σ := by
  unfold J_X9_againstSlips_56 at h
  exact g_iret (pc := 56) C dX9_againstSlips_56 ⟨_, rfl, ⟨rfl, h⟩⟩
set_option maxHeartbeats 4000000 in
set_option maxRecDepth 100000 in
theorem M_X9_againstSlips {l : Launch} {G : Gp} (hD : Dj shM G) {v1 : Int32} {v2 : Int32} {v3 : Int32} {v4 : Int32} {σ : St} {K : Int32 → Prop} (h : wp_X9_againstSlips v1 v2 v3 v4 σ K) : MC l shM G yX9_againstSlips cX9_againstSlips 5 (some .int) 3 [.ref (G.2.2 0), .int v1, .int v2, .int v3, .int v4] σ (RI (fun r t => t = σ ∧ K r)) := by
  unfold wp_X9_againstSlips at h
  refine MC.of (by decide) hD (Nat.le_of_ble_eq_true rfl) ?_
  intro p e s m args below meth c C
  replace C : Cx p (rmD 3) s m args meth c shM G cX9_againstSlips 5 3 RX9 (some .int) 0 0 := C
  show Go p l e (rmD 3) s m args below meth c shM G 5 0 0 (MQ below (Qw shM G (RI (fun r t => t = σ ∧ K r))) args s 0 0 (Fr shM G)) 0 [(0, .ref (G.2.2 0)), (1, .int v1), (2, .int v2), (3, .int v3), (4, .int v4)] [] σ
  refine g_aload_n (pc := 0) C 0 dX9_againstSlips_0 rfl rfl ?_
  refine g_iload_n (pc := 1) C 1 dX9_againstSlips_1 rfl rfl ?_
  refine g_callVip (pc := 2) (As := [.int v1]) (rest := []) C rfl rfl rfl rfl (M_X9_isBell C.2.2.1  h) CyX9_isBell tw_1045 tw_1047 ts_34 (by decide) rfl rfl (Nat.le_of_ble_eq_true rfl) dX9_againstSlips_2 (fun r2 h => ?_)
  refine g_if_eq (pc := 5) (tgt := 40) C dX9_againstSlips_5 (by decide) (fun c_ => ?_) (fun c_ => ?_)
  · replace h := ite_t h c_
    refine g_lv [] (lv2 := []) rfl ?_
    exact k_X9_againstSlips_40 C  h
  · replace h := ite_f h c_
    refine g_iload_n (pc := 8) C 2 dX9_againstSlips_8 rfl rfl ?_
    refine g_callSip (pc := 9) (As := [.int v2]) (rest := []) C (M_X9_isPull C.2.2.1  h) CyX9_isPull tw_1085 tw_1086 (by decide) rfl rfl (Nat.le_of_ble_eq_true rfl) dX9_againstSlips_9 (fun r9 h => ?_)
    refine g_if_eq (pc := 12) (tgt := 40) C dX9_againstSlips_12 (by decide) (fun c_ => ?_) (fun c_ => ?_)
    · replace h := ite_t h c_
      refine g_lv [] (lv2 := []) rfl ?_
      exact k_X9_againstSlips_40 C  h
    · replace h := ite_f h c_
      refine g_iload_n (pc := 15) C 3 dX9_againstSlips_15 rfl rfl ?_
      refine g_i2l (pc := 16) C dX9_againstSlips_16 ?_
      refine g_lconst (pc := 17) (v := 0) C dX9_againstSlips_17 lc_0 ?_
      refine g_ldc2 (pc := 18) (v := 8) C dX9_againstSlips_18 tw_1281 ?_
      refine g_callSip (pc := 21) (As := [.long v3.toInt64, .long (0 : Int64), .long (8 : Int64)]) (rest := []) C (M_X9_in C.2.2.1  h) CyX9_in tw_955 tw_956 (by decide) rfl rfl (Nat.le_of_ble_eq_true rfl) dX9_againstSlips_21 (fun r21 h => ?_)
      refine g_if_eq (pc := 24) (tgt := 40) C dX9_againstSlips_24 (by decide) (fun c_ => ?_) (fun c_ => ?_)
      · replace h := ite_t h c_
        refine g_lv [] (lv2 := []) rfl ?_
        exact k_X9_againstSlips_40 C  h
      · replace h := ite_f h c_
        refine g_iload (pc := 27) C 4 dX9_againstSlips_27 rfl ?_
        refine g_i2l (pc := 29) C dX9_againstSlips_29 ?_
        refine g_lconst (pc := 30) (v := 0) C dX9_againstSlips_30 lc_0 ?_
        refine g_ldc2 (pc := 31) (v := 12) C dX9_againstSlips_31 tw_1158 ?_
        refine g_callSip (pc := 34) (As := [.long v4.toInt64, .long (0 : Int64), .long (12 : Int64)]) (rest := []) C (M_X9_in C.2.2.1  h) CyX9_in tw_955 tw_956 (by decide) rfl rfl (Nat.le_of_ble_eq_true rfl) dX9_againstSlips_34 (fun r34 h => ?_)
        refine g_if_ne (pc := 37) (tgt := 42) C dX9_againstSlips_37 (by decide) (fun c_ => ?_) (fun c_ => ?_)
        · replace h := ite_f h c_
          refine g_aload_n (pc := 42) C 0 dX9_againstSlips_42 rfl rfl ?_
          refine g_iload_n (pc := 43) C 1 dX9_againstSlips_43 rfl rfl ?_
          refine g_callVip (pc := 44) (As := [.int v1]) (rest := []) C rfl rfl rfl rfl (M_X9_isOver C.2.2.1  h) CyX9_isOver tw_1089 tw_1091 ts_38 (by decide) rfl rfl (Nat.le_of_ble_eq_true rfl) dX9_againstSlips_44 (fun r44 h => ?_)
          refine g_if_eq (pc := 47) (tgt := 55) C dX9_againstSlips_47 (by decide) (fun c_ => ?_) (fun c_ => ?_)
          · replace h := ite_t h c_
            refine g_iconst (pc := 55) (v := 0) C dX9_againstSlips_55 ic_0 ?_
            refine g_lv [] (lv2 := []) rfl ?_
            exact k_X9_againstSlips_56 C  h
          · replace h := ite_f h c_
            refine g_bipush (pc := 50) (v := -4) C dX9_againstSlips_50 bp_m4 ?_
            refine g_goto (pc := 52) (tgt := 56) C dX9_againstSlips_52 (by decide) ?_
            refine g_lv [] (lv2 := []) rfl ?_
            exact k_X9_againstSlips_56 C  h
        · replace h := ite_t h c_
          refine g_lv [] (lv2 := []) rfl ?_
          exact k_X9_againstSlips_40 C  h
set_option maxHeartbeats 4000000 in
set_option maxRecDepth 100000 in
theorem k_X9_anew_9 {v1 : Int32} {v3 : Int32} {σ : St} {K : St → Prop} (C : Cx p R s m args meth c shM G cX9_anew 4 1 RX9 none 0 0) (h : L_X9_anew_9 v1 K v3 σ) : Go p l e R s m args below meth c shM G 4 0 0 (MQ below (Qw shM G (RV K)) args s 0 0 (Fr shM G)) 9 [(0, .ref (G.2.2 0)), (1, .int v1), (3, .int v3)] [] σ := by
  obtain ⟨n_, h⟩ := h
  induction n_ generalizing v3 σ with
  | zero => exact h.elim
  | succ n_ ih =>
    replace h : B_X9_anew_9 v1 K (it2 (B_X9_anew_9 v1 K) n_) v3 σ := h
    unfold B_X9_anew_9 at h
    refine g_iload_n (pc := 9) C 2 dX9_anew_9 rfl rfl ?_
    refine g_bipush (pc := 10) (v := 40) C dX9_anew_10 bp_40 ?_
    refine g_icmp_ge (pc := 12) (tgt := 33) C dX9_anew_12 (by decide) (fun c_ => ?_) (fun c_ => ?_)
    · replace h := ite_t h c_
      exact g_vret (pc := 33) C dX9_anew_33 ⟨rfl, h⟩
    · replace h := ite_f h c_
      refine g_aload_n (pc := 15) C 0 dX9_anew_15 rfl rfl ?_
      refine get_X9_3 (pc := 16) C rfl tw_865 dX9_anew_16 ?_
      refine g_bipush (pc := 19) (v := 40) C dX9_anew_19 bp_40 ?_
      refine g_iload_n (pc := 21) C 1 dX9_anew_21 rfl rfl ?_
      refine g_imul (pc := 22) C dX9_anew_22 ?_
      refine g_iload_n (pc := 23) C 2 dX9_anew_23 rfl rfl ?_
      refine g_iadd (pc := 24) C dX9_anew_24 ?_
      refine g_iconst (pc := 25) (v := 0) C dX9_anew_25 ic_0 ?_
      obtain ⟨g_, h⟩ := h
      refine g_iast (pc := 26) C rfl g_ dX9_anew_26 ?_
      refine g_iinc (pc := 27) (lv2 := [(3, .int (v3 + 1)), (0, .ref (G.2.2 0)), (1, .int v1)]) C 2 dX9_anew_27 ic_1 rfl (by decide) rfl ?_
      refine g_goto (pc := 30) (tgt := 9) C dX9_anew_30 (by decide) ?_
      refine g_lv [1, 2, 0] (lv2 := [(0, .ref (G.2.2 0)), (1, .int v1), (3, .int (v3 + 1))]) rfl ?_
      exact ih h
set_option maxHeartbeats 4000000 in
set_option maxRecDepth 100000 in
theorem M_X9_anew {l : Launch} {G : Gp} (hD : Dj shM G) {v1 : Int32} {v2 : Int32} {σ : St} {K : St → Prop} (h : wp_X9_anew v1 v2 σ K) : MC l shM G yX9_anew cX9_anew 4 none 1 [.ref (G.2.2 0), .int v1, .int v2] σ (RV K) := by
  unfold wp_X9_anew at h
  refine MC.of (by decide) hD (Nat.le_of_ble_eq_true rfl) ?_
  intro p e s m args below meth c C
  replace C : Cx p (rmD 1) s m args meth c shM G cX9_anew 4 1 RX9 none 0 0 := C
  show Go p l e (rmD 1) s m args below meth c shM G 4 0 0 (MQ below (Qw shM G (RV K)) args s 0 0 (Fr shM G)) 0 [(0, .ref (G.2.2 0)), (1, .int v1), (2, .int v2)] [] σ
  refine g_aload_n (pc := 0) C 0 dX9_anew_0 rfl rfl ?_
  refine get_X9_4 (pc := 1) C rfl tw_866 dX9_anew_1 ?_
  refine g_iload_n (pc := 4) C 1 dX9_anew_4 rfl rfl ?_
  refine g_iload_n (pc := 5) C 2 dX9_anew_5 rfl rfl ?_
  obtain ⟨g_, h⟩ := h
  refine g_iast (pc := 6) C rfl g_ dX9_anew_6 ?_
  refine g_iconst (pc := 7) (v := 0) C dX9_anew_7 ic_0 ?_
  refine g_istore_n (pc := 8) (lv2 := [(3, .int 0), (0, .ref (G.2.2 0)), (1, .int v1), (2, .int v2)]) C dX9_anew_8 rfl (by decide) rfl ?_
  refine g_lv [1, 2, 0] (lv2 := [(0, .ref (G.2.2 0)), (1, .int v1), (3, .int 0)]) rfl ?_
  exact k_X9_anew_9 C  h
set_option maxHeartbeats 4000000 in
set_option maxRecDepth 100000 in
theorem k_X9_arms_40 {σ : St} {K : Int32 → St → Prop} (C : Cx p R s m args meth c shM G cX9_arms 12 3 RX9 (some .int) 0 0) (h : J_X9_arms_40 σ K) : Go p l e R s m args below meth c shM G 12 0 0 (MQ below (Qw shM G (RI K)) args s 0 0 (Fr shM G)) 40 [] [] σ := by
  unfold J_X9_arms_40 at h
  refine g_iconst (pc := 40) (v := -1) C dX9_arms_40 ic_m1 ?_
  exact g_iret (pc := 41) C dX9_arms_41 ⟨_, rfl, h⟩
set_option maxHeartbeats 4000000 in
set_option maxRecDepth 100000 in
theorem k_X9_arms_315 {v2 : Int32} {v4 : Int32} {v5 : Int32} {v6 : Int32} {v7 : Int32} {v8 : Int32} {v9 : Int32} {σ : St} {K : Int32 → St → Prop} {Φ252 : Int32 → Int32 → St → Prop} {Φ271 : Int32 → Int32 → Prop} (C : Cx p R s m args meth c shM G cX9_arms 12 3 RX9 (some .int) 0 0) (hΦ252 : ∀ (v6' : Int32) (v8' : Int32) (σ' : St), Φ252 v6' v8' σ' → Go p l e R s m args below meth c shM G 12 0 0 (MQ below (Qw shM G (RI K)) args s 0 0 (Fr shM G)) 252 [(0, .ref (G.2.2 0)), (2, .int v2), (4, .int v4), (5, .int v5), (6, .int (v6')), (7, .int v7), (8, .int (v8'))] [] σ') (hΦ271 : ∀ (v9' : Int32) (v10' : Int32), Φ271 v9' v10' → Go p l e R s m args below meth c shM G 12 0 0 (MQ below (Qw shM G (RI K)) args s 0 0 (Fr shM G)) 271 [(0, .ref (G.2.2 0)), (2, .int v2), (4, .int v4), (5, .int v5), (6, .int v6), (7, .int v7), (8, .int v8), (9, .int (v9')), (10, .int (v10'))] [] σ) (h : J_X9_arms_315 v2 v4 v5 v6 v7 v8 v9 σ K Φ252 Φ271) : Go p l e R s m args below meth c shM G 12 0 0 (MQ below (Qw shM G (RI K)) args s 0 0 (Fr shM G)) 315 [(0, .ref (G.2.2 0)), (2, .int v2), (4, .int v4), (5, .int v5), (6, .int v6), (7, .int v7), (8, .int v8), (9, .int v9)] [] σ := by
  unfold J_X9_arms_315 at h
  refine g_iinc (pc := 315) (lv2 := [(9, .int (v9 + 1)), (0, .ref (G.2.2 0)), (2, .int v2), (4, .int v4), (5, .int v5), (6, .int v6), (7, .int v7), (8, .int v8)]) C 7 dX9_arms_315 ic_1 rfl (by decide) rfl ?_
  refine g_iload (pc := 318) C 4 dX9_arms_318 rfl ?_
  refine g_iload (pc := 320) C 5 dX9_arms_320 rfl ?_
  refine g_iload (pc := 322) C 0 dX9_arms_322 rfl ?_
  refine g_callSip (pc := 324) (As := [.int v5, .int v6, .int (v9 + 1)]) (rest := []) C (M_X9_after C.2.2.1  h) CyX9_after tw_1061 tw_1062 (by decide) rfl rfl (Nat.le_of_ble_eq_true rfl) dX9_arms_324 (fun r324 h => ?_)
  refine g_istore (pc := 327) (lv2 := [(10, .int r324), (9, .int (v9 + 1)), (0, .ref (G.2.2 0)), (2, .int v2), (4, .int v4), (5, .int v5), (6, .int v6), (7, .int v7), (8, .int v8)]) C dX9_arms_327 (by decide) rfl ?_
  refine g_goto (pc := 329) (tgt := 271) C dX9_arms_329 (by decide) ?_
  refine g_lv [2, 3, 4, 5, 6, 7, 8, 1, 0] (lv2 := [(0, .ref (G.2.2 0)), (2, .int v2), (4, .int v4), (5, .int v5), (6, .int v6), (7, .int v7), (8, .int v8), (9, .int (v9 + 1)), (10, .int r324)]) rfl ?_
  exact hΦ271 _ _ h
set_option maxHeartbeats 4000000 in
set_option maxRecDepth 100000 in
theorem k_X9_arms_271 {v2 : Int32} {v4 : Int32} {v5 : Int32} {v6 : Int32} {v7 : Int32} {v8 : Int32} {v9 : Int32} {v10 : Int32} {σ : St} {K : Int32 → St → Prop} {Φ252 : Int32 → Int32 → St → Prop} (C : Cx p R s m args meth c shM G cX9_arms 12 3 RX9 (some .int) 0 0) (hΦ252 : ∀ (v6' : Int32) (v8' : Int32) (σ' : St), Φ252 v6' v8' σ' → Go p l e R s m args below meth c shM G 12 0 0 (MQ below (Qw shM G (RI K)) args s 0 0 (Fr shM G)) 252 [(0, .ref (G.2.2 0)), (2, .int v2), (4, .int v4), (5, .int v5), (6, .int (v6')), (7, .int v7), (8, .int (v8'))] [] σ') (h : L_X9_arms_271 v2 v4 v5 v6 v7 v8 σ K Φ252 v9 v10) : Go p l e R s m args below meth c shM G 12 0 0 (MQ below (Qw shM G (RI K)) args s 0 0 (Fr shM G)) 271 [(0, .ref (G.2.2 0)), (2, .int v2), (4, .int v4), (5, .int v5), (6, .int v6), (7, .int v7), (8, .int v8), (9, .int v9), (10, .int v10)] [] σ := by
  obtain ⟨n_, h⟩ := h
  induction n_ generalizing v9 v10 with
  | zero => exact h.elim
  | succ n_ ih =>
    replace h : B_X9_arms_271 v2 v4 v5 v6 v7 v8 σ K Φ252 (it2 (B_X9_arms_271 v2 v4 v5 v6 v7 v8 σ K Φ252) n_) v9 v10 := h
    unfold B_X9_arms_271 at h
    refine g_iload (pc := 271) C 8 dX9_arms_271 rfl ?_
    refine g_iconst (pc := 273) (v := -1) C dX9_arms_273 ic_m1 ?_
    refine g_icmp_eq (pc := 274) (tgt := 315) C dX9_arms_274 (by decide) (fun c_ => ?_) (fun c_ => ?_)
    · replace h := ite_t h c_
      refine g_lv [0, 1, 2, 3, 4, 5, 6, 7] (lv2 := [(0, .ref (G.2.2 0)), (2, .int v2), (4, .int v4), (5, .int v5), (6, .int v6), (7, .int v7), (8, .int v8), (9, .int v9)]) rfl ?_
      exact k_X9_arms_315 C hΦ252 (fun _ _ h_ => ih h_) h
    · replace h := ite_f h c_
      refine g_iload (pc := 277) C 7 dX9_arms_277 rfl ?_
      refine g_aload_n (pc := 279) C 0 dX9_arms_279 rfl rfl ?_
      refine get_X9_20 (pc := 280) C rfl tw_882 dX9_arms_280 ?_
      refine g_bipush (pc := 283) (v := 21) C dX9_arms_283 bp_21 ?_
      refine g_iload_n (pc := 285) C 1 dX9_arms_285 rfl rfl ?_
      refine g_iload (pc := 286) C 6 dX9_arms_286 rfl ?_
      refine g_isub (pc := 288) C dX9_arms_288 ?_
      refine g_iconst (pc := 289) (v := 1) C dX9_arms_289 ic_1 ?_
      refine g_isub (pc := 290) C dX9_arms_290 ?_
      refine g_imul (pc := 291) C dX9_arms_291 ?_
      refine g_iload (pc := 292) C 8 dX9_arms_292 rfl ?_
      refine g_iadd (pc := 294) C dX9_arms_294 ?_
      obtain ⟨g_, h⟩ := h
      refine g_iald (pc := 295) C rfl g_ dX9_arms_295 ?_
      refine g_iadd (pc := 296) C dX9_arms_296 ?_
      refine g_aload_n (pc := 297) C 0 dX9_arms_297 rfl rfl ?_
      refine get_X9_20 (pc := 298) C rfl tw_882 dX9_arms_298 ?_
      refine g_bipush (pc := 301) (v := 21) C dX9_arms_301 bp_21 ?_
      refine g_iload_n (pc := 303) C 1 dX9_arms_303 rfl rfl ?_
      refine g_iload (pc := 304) C 6 dX9_arms_304 rfl ?_
      refine g_isub (pc := 306) C dX9_arms_306 ?_
      refine g_imul (pc := 307) C dX9_arms_307 ?_
      refine g_iload (pc := 308) C 4 dX9_arms_308 rfl ?_
      refine g_iadd (pc := 310) C dX9_arms_310 ?_
      obtain ⟨g_, h⟩ := h
      refine g_iald (pc := 311) C rfl g_ dX9_arms_311 ?_
      refine g_icmp_eq (pc := 312) (tgt := 332) C dX9_arms_312 (by decide) (fun c_ => ?_) (fun c_ => ?_)
      · replace h := ite_t h c_
        refine g_aload_n (pc := 332) C 0 dX9_arms_332 rfl rfl ?_
        refine get_X9_3 (pc := 333) C rfl tw_865 dX9_arms_333 ?_
        refine g_bipush (pc := 336) (v := 40) C dX9_arms_336 bp_40 ?_
        refine g_iload (pc := 338) C 2 dX9_arms_338 rfl ?_
        refine g_imul (pc := 340) C dX9_arms_340 ?_
        refine g_iload (pc := 341) C 6 dX9_arms_341 rfl ?_
        refine g_iadd (pc := 343) C dX9_arms_343 ?_
        refine g_iload (pc := 344) C 7 dX9_arms_344 rfl ?_
        obtain ⟨g_, h⟩ := h
        refine g_iast (pc := 346) C rfl g_ dX9_arms_346 ?_
        refine g_iload (pc := 347) C 8 dX9_arms_347 rfl ?_
        refine g_istore (pc := 349) (lv2 := [(6, .int v10), (0, .ref (G.2.2 0)), (2, .int v2), (4, .int v4), (5, .int v5), (7, .int v7), (8, .int v8), (9, .int v9), (10, .int v10)]) C dX9_arms_349 (by decide) rfl ?_
        refine g_iinc (pc := 351) (lv2 := [(8, .int (v8 + 1)), (6, .int v10), (0, .ref (G.2.2 0)), (2, .int v2), (4, .int v4), (5, .int v5), (7, .int v7), (9, .int v9), (10, .int v10)]) C 6 dX9_arms_351 ic_1 rfl (by decide) rfl ?_
        refine g_goto (pc := 354) (tgt := 252) C dX9_arms_354 (by decide) ?_
        refine g_lv [2, 3, 4, 5, 1, 6, 0] (lv2 := [(0, .ref (G.2.2 0)), (2, .int v2), (4, .int v4), (5, .int v5), (6, .int v10), (7, .int v7), (8, .int (v8 + 1))]) rfl ?_
        exact hΦ252 _ _ _ h
      · replace h := ite_f h c_
        refine g_lv [0, 1, 2, 3, 4, 5, 6, 7] (lv2 := [(0, .ref (G.2.2 0)), (2, .int v2), (4, .int v4), (5, .int v5), (6, .int v6), (7, .int v7), (8, .int v8), (9, .int v9)]) rfl ?_
        exact k_X9_arms_315 C hΦ252 (fun _ _ h_ => ih h_) h
set_option maxHeartbeats 4000000 in
set_option maxRecDepth 100000 in
theorem k_X9_arms_252 {v2 : Int32} {v4 : Int32} {v5 : Int32} {v6 : Int32} {v7 : Int32} {v8 : Int32} {σ : St} {K : Int32 → St → Prop} (C : Cx p R s m args meth c shM G cX9_arms 12 3 RX9 (some .int) 0 0) (h : L_X9_arms_252 v2 v4 v5 v7 K v6 v8 σ) : Go p l e R s m args below meth c shM G 12 0 0 (MQ below (Qw shM G (RI K)) args s 0 0 (Fr shM G)) 252 [(0, .ref (G.2.2 0)), (2, .int v2), (4, .int v4), (5, .int v5), (6, .int v6), (7, .int v7), (8, .int v8)] [] σ := by
  obtain ⟨n_, h⟩ := h
  induction n_ generalizing v6 v8 σ with
  | zero => exact h.elim
  | succ n_ ih =>
    replace h : B_X9_arms_252 v2 v4 v5 v7 K (it3 (B_X9_arms_252 v2 v4 v5 v7 K) n_) v6 v8 σ := h
    unfold B_X9_arms_252 at h
    refine g_iload (pc := 252) C 6 dX9_arms_252 rfl ?_
    refine g_iload_n (pc := 254) C 1 dX9_arms_254 rfl rfl ?_
    refine g_icmp_ge (pc := 255) (tgt := 357) C dX9_arms_255 (by decide) (fun c_ => ?_) (fun c_ => ?_)
    · replace h := ite_t h c_
      refine g_iload (pc := 357) C 5 dX9_arms_357 rfl ?_
      exact g_iret (pc := 359) C dX9_arms_359 ⟨_, rfl, h⟩
    · replace h := ite_f h c_
      refine g_iconst (pc := 258) (v := 0) C dX9_arms_258 ic_0 ?_
      refine g_istore (pc := 259) (lv2 := [(9, .int 0), (0, .ref (G.2.2 0)), (2, .int v2), (4, .int v4), (5, .int v5), (6, .int v6), (7, .int v7), (8, .int v8)]) C dX9_arms_259 (by decide) rfl ?_
      refine g_iload (pc := 261) C 4 dX9_arms_261 rfl ?_
      refine g_iload (pc := 263) C 5 dX9_arms_263 rfl ?_
      refine g_iconst (pc := 265) (v := 0) C dX9_arms_265 ic_0 ?_
      refine g_callSip (pc := 266) (As := [.int v5, .int v6, .int 0]) (rest := []) C (M_X9_after C.2.2.1  h) CyX9_after tw_1061 tw_1062 (by decide) rfl rfl (Nat.le_of_ble_eq_true rfl) dX9_arms_266 (fun r266 h => ?_)
      refine g_istore (pc := 269) (lv2 := [(10, .int r266), (9, .int 0), (0, .ref (G.2.2 0)), (2, .int v2), (4, .int v4), (5, .int v5), (6, .int v6), (7, .int v7), (8, .int v8)]) C dX9_arms_269 (by decide) rfl ?_
      refine g_lv [2, 3, 4, 5, 6, 7, 8, 1, 0] (lv2 := [(0, .ref (G.2.2 0)), (2, .int v2), (4, .int v4), (5, .int v5), (6, .int v6), (7, .int v7), (8, .int v8), (9, .int 0), (10, .int r266)]) rfl ?_
      exact k_X9_arms_271 C (fun _ _ _ h_ => ih h_) h
set_option maxHeartbeats 4000000 in
set_option maxRecDepth 100000 in
theorem k_X9_arms_180 {v1 : Int32} {v2 : Int32} {v3 : Int32} {v4 : Int32} {v5 : Int32} {v6 : Int32} {v7 : Int32} {v8 : Int32} {σ : St} {K : Int32 → St → Prop} {Φ66 : Int32 → St → Prop} {Φ75 : Int32 → St → Prop} (C : Cx p R s m args meth c shM G cX9_arms 12 3 RX9 (some .int) 0 0) (hΦ66 : ∀ (v6' : Int32) (σ' : St), Φ66 v6' σ' → Go p l e R s m args below meth c shM G 12 0 0 (MQ below (Qw shM G (RI K)) args s 0 0 (Fr shM G)) 66 [(0, .ref (G.2.2 0)), (1, .int v1), (2, .int v2), (3, .int v3), (4, .int v4), (5, .int v5), (6, .int (v6'))] [] σ') (hΦ75 : ∀ (v7' : Int32) (σ' : St), Φ75 v7' σ' → Go p l e R s m args below meth c shM G 12 0 0 (MQ below (Qw shM G (RI K)) args s 0 0 (Fr shM G)) 75 [(0, .ref (G.2.2 0)), (1, .int v1), (2, .int v2), (3, .int v3), (4, .int v4), (5, .int v5), (6, .int v6), (7, .int (v7'))] [] σ') (h : J_X9_arms_180 v1 v2 v3 v4 v5 v6 v7 v8 σ K Φ66 Φ75) : Go p l e R s m args below meth c shM G 12 0 0 (MQ below (Qw shM G (RI K)) args s 0 0 (Fr shM G)) 180 [(0, .ref (G.2.2 0)), (1, .int v1), (2, .int v2), (3, .int v3), (4, .int v4), (5, .int v5), (6, .int v6), (7, .int v7), (8, .int v8)] [] σ := by
  unfold J_X9_arms_180 at h
  refine g_aload_n (pc := 180) C 0 dX9_arms_180 rfl rfl ?_
  refine get_X9_20 (pc := 181) C rfl tw_882 dX9_arms_181 ?_
  refine g_bipush (pc := 184) (v := 21) C dX9_arms_184 bp_21 ?_
  refine g_iload (pc := 186) C 6 dX9_arms_186 rfl ?_
  refine g_imul (pc := 188) C dX9_arms_188 ?_
  refine g_iload (pc := 189) C 7 dX9_arms_189 rfl ?_
  refine g_iadd (pc := 191) C dX9_arms_191 ?_
  refine g_iload (pc := 192) C 8 dX9_arms_192 rfl ?_
  obtain ⟨g_, h⟩ := h
  refine g_iast (pc := 194) C rfl g_ dX9_arms_194 ?_
  refine g_iinc (pc := 195) (lv2 := [(7, .int (v7 + 1)), (0, .ref (G.2.2 0)), (1, .int v1), (2, .int v2), (3, .int v3), (4, .int v4), (5, .int v5), (6, .int v6), (8, .int v8)]) C 7 dX9_arms_195 ic_1 rfl (by decide) rfl ?_
  refine g_goto (pc := 198) (tgt := 75) C dX9_arms_198 (by decide) ?_
  refine g_lv [1, 2, 3, 4, 5, 6, 7, 0] (lv2 := [(0, .ref (G.2.2 0)), (1, .int v1), (2, .int v2), (3, .int v3), (4, .int v4), (5, .int v5), (6, .int v6), (7, .int (v7 + 1))]) rfl ?_
  exact hΦ75 _ _ h
set_option maxHeartbeats 4000000 in
set_option maxRecDepth 100000 in
theorem k_X9_arms_172 {v1 : Int32} {v2 : Int32} {v3 : Int32} {v4 : Int32} {v5 : Int32} {v6 : Int32} {v7 : Int32} {v9 : Int32} {w0 : Int32} {σ : St} {K : Int32 → St → Prop} {Φ66 : Int32 → St → Prop} {Φ75 : Int32 → St → Prop} {Φ104 : Int32 → Int32 → Prop} (C : Cx p R s m args meth c shM G cX9_arms 12 3 RX9 (some .int) 0 0) (hΦ66 : ∀ (v6' : Int32) (σ' : St), Φ66 v6' σ' → Go p l e R s m args below meth c shM G 12 0 0 (MQ below (Qw shM G (RI K)) args s 0 0 (Fr shM G)) 66 [(0, .ref (G.2.2 0)), (1, .int v1), (2, .int v2), (3, .int v3), (4, .int v4), (5, .int v5), (6, .int (v6'))] [] σ') (hΦ75 : ∀ (v7' : Int32) (σ' : St), Φ75 v7' σ' → Go p l e R s m args below meth c shM G 12 0 0 (MQ below (Qw shM G (RI K)) args s 0 0 (Fr shM G)) 75 [(0, .ref (G.2.2 0)), (1, .int v1), (2, .int v2), (3, .int v3), (4, .int v4), (5, .int v5), (6, .int v6), (7, .int (v7'))] [] σ') (hΦ104 : ∀ (v8' : Int32) (v9' : Int32), Φ104 v8' v9' → Go p l e R s m args below meth c shM G 12 0 0 (MQ below (Qw shM G (RI K)) args s 0 0 (Fr shM G)) 104 [(0, .ref (G.2.2 0)), (1, .int v1), (2, .int v2), (3, .int v3), (4, .int v4), (5, .int v5), (6, .int v6), (7, .int v7), (8, .int (v8')), (9, .int (v9'))] [] σ) (h : J_X9_arms_172 v1 v2 v3 v4 v5 v6 v7 v9 w0 σ K Φ66 Φ75 Φ104) : Go p l e R s m args below meth c shM G 12 0 0 (MQ below (Qw shM G (RI K)) args s 0 0 (Fr shM G)) 172 [(0, .ref (G.2.2 0)), (1, .int v1), (2, .int v2), (3, .int v3), (4, .int v4), (5, .int v5), (6, .int v6), (7, .int v7), (9, .int v9)] [.int w0] σ := by
  unfold J_X9_arms_172 at h
  refine g_istore (pc := 172) (lv2 := [(8, .int w0), (0, .ref (G.2.2 0)), (1, .int v1), (2, .int v2), (3, .int v3), (4, .int v4), (5, .int v5), (6, .int v6), (7, .int v7), (9, .int v9)]) C dX9_arms_172 (by decide) rfl ?_
  refine g_iinc (pc := 174) (lv2 := [(9, .int (v9 + 1)), (8, .int w0), (0, .ref (G.2.2 0)), (1, .int v1), (2, .int v2), (3, .int v3), (4, .int v4), (5, .int v5), (6, .int v6), (7, .int v7)]) C 9 dX9_arms_174 ic_1 rfl (by decide) rfl ?_
  refine g_goto (pc := 177) (tgt := 104) C dX9_arms_177 (by decide) ?_
  refine g_lv [2, 3, 4, 5, 6, 7, 8, 9, 1, 0] (lv2 := [(0, .ref (G.2.2 0)), (1, .int v1), (2, .int v2), (3, .int v3), (4, .int v4), (5, .int v5), (6, .int v6), (7, .int v7), (8, .int w0), (9, .int (v9 + 1))]) rfl ?_
  exact hΦ104 _ _ h
set_option maxHeartbeats 4000000 in
set_option maxRecDepth 100000 in
theorem k_X9_arms_156 {v1 : Int32} {v2 : Int32} {v3 : Int32} {v4 : Int32} {v5 : Int32} {v6 : Int32} {v7 : Int32} {v8 : Int32} {v9 : Int32} {w0 : Int32} {σ : St} {K : Int32 → St → Prop} {Φ66 : Int32 → St → Prop} {Φ75 : Int32 → St → Prop} {Φ104 : Int32 → Int32 → Prop} (C : Cx p R s m args meth c shM G cX9_arms 12 3 RX9 (some .int) 0 0) (hΦ66 : ∀ (v6' : Int32) (σ' : St), Φ66 v6' σ' → Go p l e R s m args below meth c shM G 12 0 0 (MQ below (Qw shM G (RI K)) args s 0 0 (Fr shM G)) 66 [(0, .ref (G.2.2 0)), (1, .int v1), (2, .int v2), (3, .int v3), (4, .int v4), (5, .int v5), (6, .int (v6'))] [] σ') (hΦ75 : ∀ (v7' : Int32) (σ' : St), Φ75 v7' σ' → Go p l e R s m args below meth c shM G 12 0 0 (MQ below (Qw shM G (RI K)) args s 0 0 (Fr shM G)) 75 [(0, .ref (G.2.2 0)), (1, .int v1), (2, .int v2), (3, .int v3), (4, .int v4), (5, .int v5), (6, .int v6), (7, .int (v7'))] [] σ') (hΦ104 : ∀ (v8' : Int32) (v9' : Int32), Φ104 v8' v9' → Go p l e R s m args below meth c shM G 12 0 0 (MQ below (Qw shM G (RI K)) args s 0 0 (Fr shM G)) 104 [(0, .ref (G.2.2 0)), (1, .int v1), (2, .int v2), (3, .int v3), (4, .int v4), (5, .int v5), (6, .int v6), (7, .int v7), (8, .int (v8')), (9, .int (v9'))] [] σ) (h : J_X9_arms_156 v1 v2 v3 v4 v5 v6 v7 v8 v9 w0 σ K Φ66 Φ75 Φ104) : Go p l e R s m args below meth c shM G 12 0 0 (MQ below (Qw shM G (RI K)) args s 0 0 (Fr shM G)) 156 [(0, .ref (G.2.2 0)), (1, .int v1), (2, .int v2), (3, .int v3), (4, .int v4), (5, .int v5), (6, .int v6), (7, .int v7), (8, .int v8), (9, .int v9)] [.int w0] σ := by
  unfold J_X9_arms_156 at h
  refine g_istore (pc := 156) (lv2 := [(11, .int w0), (0, .ref (G.2.2 0)), (1, .int v1), (2, .int v2), (3, .int v3), (4, .int v4), (5, .int v5), (6, .int v6), (7, .int v7), (8, .int v8), (9, .int v9)]) C dX9_arms_156 (by decide) rfl ?_
  refine g_iload (pc := 158) C 0 dX9_arms_158 rfl ?_
  refine g_iload (pc := 160) C 9 dX9_arms_160 rfl ?_
  refine g_icmp_ge (pc := 162) (tgt := 170) C dX9_arms_162 (by decide) (fun c_ => ?_) (fun c_ => ?_)
  · replace h := ite_t h c_
    refine g_iload (pc := 170) C 9 dX9_arms_170 rfl ?_
    refine g_lv [1, 2, 3, 4, 5, 6, 7, 8, 10] (lv2 := [(0, .ref (G.2.2 0)), (1, .int v1), (2, .int v2), (3, .int v3), (4, .int v4), (5, .int v5), (6, .int v6), (7, .int v7), (9, .int v9)]) rfl ?_
    exact k_X9_arms_172 C hΦ66 hΦ75 hΦ104 h
  · replace h := ite_f h c_
    refine g_iload (pc := 165) C 0 dX9_arms_165 rfl ?_
    refine g_goto (pc := 167) (tgt := 172) C dX9_arms_167 (by decide) ?_
    refine g_lv [1, 2, 3, 4, 5, 6, 7, 8, 10] (lv2 := [(0, .ref (G.2.2 0)), (1, .int v1), (2, .int v2), (3, .int v3), (4, .int v4), (5, .int v5), (6, .int v6), (7, .int v7), (9, .int v9)]) rfl ?_
    exact k_X9_arms_172 C hΦ66 hΦ75 hΦ104 h
set_option maxHeartbeats 4000000 in
set_option maxRecDepth 100000 in
theorem k_X9_arms_104 {v1 : Int32} {v2 : Int32} {v3 : Int32} {v4 : Int32} {v5 : Int32} {v6 : Int32} {v7 : Int32} {v8 : Int32} {v9 : Int32} {σ : St} {K : Int32 → St → Prop} {Φ66 : Int32 → St → Prop} {Φ75 : Int32 → St → Prop} (C : Cx p R s m args meth c shM G cX9_arms 12 3 RX9 (some .int) 0 0) (hΦ66 : ∀ (v6' : Int32) (σ' : St), Φ66 v6' σ' → Go p l e R s m args below meth c shM G 12 0 0 (MQ below (Qw shM G (RI K)) args s 0 0 (Fr shM G)) 66 [(0, .ref (G.2.2 0)), (1, .int v1), (2, .int v2), (3, .int v3), (4, .int v4), (5, .int v5), (6, .int (v6'))] [] σ') (hΦ75 : ∀ (v7' : Int32) (σ' : St), Φ75 v7' σ' → Go p l e R s m args below meth c shM G 12 0 0 (MQ below (Qw shM G (RI K)) args s 0 0 (Fr shM G)) 75 [(0, .ref (G.2.2 0)), (1, .int v1), (2, .int v2), (3, .int v3), (4, .int v4), (5, .int v5), (6, .int v6), (7, .int (v7'))] [] σ') (h : L_X9_arms_104 v1 v2 v3 v4 v5 v6 v7 σ K Φ66 Φ75 v8 v9) : Go p l e R s m args below meth c shM G 12 0 0 (MQ below (Qw shM G (RI K)) args s 0 0 (Fr shM G)) 104 [(0, .ref (G.2.2 0)), (1, .int v1), (2, .int v2), (3, .int v3), (4, .int v4), (5, .int v5), (6, .int v6), (7, .int v7), (8, .int v8), (9, .int v9)] [] σ := by
  obtain ⟨n_, h⟩ := h
  induction n_ generalizing v8 v9 with
  | zero => exact h.elim
  | succ n_ ih =>
    replace h : B_X9_arms_104 v1 v2 v3 v4 v5 v6 v7 σ K Φ66 Φ75 (it2 (B_X9_arms_104 v1 v2 v3 v4 v5 v6 v7 σ K Φ66 Φ75) n_) v8 v9 := h
    unfold B_X9_arms_104 at h
    refine g_iload (pc := 104) C 9 dX9_arms_104 rfl ?_
    refine g_bipush (pc := 106) (v := 7) C dX9_arms_106 bp_7 ?_
    refine g_icmp_ge (pc := 108) (tgt := 180) C dX9_arms_108 (by decide) (fun c_ => ?_) (fun c_ => ?_)
    · replace h := ite_t h c_
      refine g_lv [0, 1, 2, 3, 4, 5, 6, 7, 8] (lv2 := [(0, .ref (G.2.2 0)), (1, .int v1), (2, .int v2), (3, .int v3), (4, .int v4), (5, .int v5), (6, .int v6), (7, .int v7), (8, .int v8)]) rfl ?_
      exact k_X9_arms_180 C hΦ66 hΦ75 h
    · replace h := ite_f h c_
      refine g_iload (pc := 111) C 6 dX9_arms_111 rfl ?_
      refine g_if_le (pc := 113) (tgt := 180) C dX9_arms_113 (by decide) (fun c_ => ?_) (fun c_ => ?_)
      · replace h := ite_t h c_
        refine g_lv [0, 1, 2, 3, 4, 5, 6, 7, 8] (lv2 := [(0, .ref (G.2.2 0)), (1, .int v1), (2, .int v2), (3, .int v3), (4, .int v4), (5, .int v5), (6, .int v6), (7, .int v7), (8, .int v8)]) rfl ?_
        exact k_X9_arms_180 C hΦ66 hΦ75 h
      · replace h := ite_f h c_
        refine g_iload (pc := 116) C 5 dX9_arms_116 rfl ?_
        refine g_iload (pc := 118) C 7 dX9_arms_118 rfl ?_
        refine g_iload (pc := 120) C 9 dX9_arms_120 rfl ?_
        refine g_callSip (pc := 122) (As := [.int v5, .int v7, .int v9]) (rest := []) C (M_X9_after C.2.2.1  h) CyX9_after tw_1061 tw_1062 (by decide) rfl rfl (Nat.le_of_ble_eq_true rfl) dX9_arms_122 (fun r122 h => ?_)
        refine g_istore (pc := 125) (lv2 := [(10, .int r122), (0, .ref (G.2.2 0)), (1, .int v1), (2, .int v2), (3, .int v3), (4, .int v4), (5, .int v5), (6, .int v6), (7, .int v7), (8, .int v8), (9, .int v9)]) C dX9_arms_125 (by decide) rfl ?_
        refine g_iload (pc := 127) C 0 dX9_arms_127 rfl ?_
        refine g_iconst (pc := 129) (v := -1) C dX9_arms_129 ic_m1 ?_
        refine g_icmp_ne (pc := 130) (tgt := 138) C dX9_arms_130 (by decide) (fun c_ => ?_) (fun c_ => ?_)
        · replace h := ite_f h c_
          refine g_iload (pc := 138) C 10 dX9_arms_138 rfl ?_
          refine g_aload_n (pc := 140) C 1 dX9_arms_140 rfl rfl ?_
          refine get_X9_20 (pc := 141) C rfl tw_882 dX9_arms_141 ?_
          refine g_bipush (pc := 144) (v := 21) C dX9_arms_144 bp_21 ?_
          refine g_iload (pc := 146) C 7 dX9_arms_146 rfl ?_
          refine g_iconst (pc := 148) (v := 1) C dX9_arms_148 ic_1 ?_
          refine g_isub (pc := 149) C dX9_arms_149 ?_
          refine g_imul (pc := 150) C dX9_arms_150 ?_
          refine g_iload (pc := 151) C 0 dX9_arms_151 rfl ?_
          refine g_iadd (pc := 153) C dX9_arms_153 ?_
          obtain ⟨g_, h⟩ := h
          refine g_iald (pc := 154) C rfl g_ dX9_arms_154 ?_
          refine g_iadd (pc := 155) C dX9_arms_155 ?_
          refine g_lv [1, 2, 3, 4, 5, 6, 7, 8, 9, 10] (lv2 := [(0, .ref (G.2.2 0)), (1, .int v1), (2, .int v2), (3, .int v3), (4, .int v4), (5, .int v5), (6, .int v6), (7, .int v7), (8, .int v8), (9, .int v9)]) rfl ?_
          exact k_X9_arms_156 C hΦ66 hΦ75 (fun _ _ h_ => ih h_) h
        · replace h := ite_t h c_
          refine g_ldc (pc := 133) (v := 1000000) C dX9_arms_133 tw_1164 ?_
          refine g_goto (pc := 135) (tgt := 156) C dX9_arms_135 (by decide) ?_
          refine g_lv [1, 2, 3, 4, 5, 6, 7, 8, 9, 10] (lv2 := [(0, .ref (G.2.2 0)), (1, .int v1), (2, .int v2), (3, .int v3), (4, .int v4), (5, .int v5), (6, .int v6), (7, .int v7), (8, .int v8), (9, .int v9)]) rfl ?_
          exact k_X9_arms_156 C hΦ66 hΦ75 (fun _ _ h_ => ih h_) h
set_option maxHeartbeats 4000000 in
set_option maxRecDepth 100000 in
theorem k_X9_arms_99 {v1 : Int32} {v2 : Int32} {v3 : Int32} {v4 : Int32} {v5 : Int32} {v6 : Int32} {v7 : Int32} {w0 : Int32} {σ : St} {K : Int32 → St → Prop} {Φ66 : Int32 → St → Prop} {Φ75 : Int32 → St → Prop} (C : Cx p R s m args meth c shM G cX9_arms 12 3 RX9 (some .int) 0 0) (hΦ66 : ∀ (v6' : Int32) (σ' : St), Φ66 v6' σ' → Go p l e R s m args below meth c shM G 12 0 0 (MQ below (Qw shM G (RI K)) args s 0 0 (Fr shM G)) 66 [(0, .ref (G.2.2 0)), (1, .int v1), (2, .int v2), (3, .int v3), (4, .int v4), (5, .int v5), (6, .int (v6'))] [] σ') (hΦ75 : ∀ (v7' : Int32) (σ' : St), Φ75 v7' σ' → Go p l e R s m args below meth c shM G 12 0 0 (MQ below (Qw shM G (RI K)) args s 0 0 (Fr shM G)) 75 [(0, .ref (G.2.2 0)), (1, .int v1), (2, .int v2), (3, .int v3), (4, .int v4), (5, .int v5), (6, .int v6), (7, .int (v7'))] [] σ') (h : J_X9_arms_99 v1 v2 v3 v4 v5 v6 v7 w0 σ K Φ66 Φ75) : Go p l e R s m args below meth c shM G 12 0 0 (MQ below (Qw shM G (RI K)) args s 0 0 (Fr shM G)) 99 [(0, .ref (G.2.2 0)), (1, .int v1), (2, .int v2), (3, .int v3), (4, .int v4), (5, .int v5), (6, .int v6), (7, .int v7)] [.int w0] σ := by
  unfold J_X9_arms_99 at h
  refine g_istore (pc := 99) (lv2 := [(8, .int w0), (0, .ref (G.2.2 0)), (1, .int v1), (2, .int v2), (3, .int v3), (4, .int v4), (5, .int v5), (6, .int v6), (7, .int v7)]) C dX9_arms_99 (by decide) rfl ?_
  refine g_iconst (pc := 101) (v := 0) C dX9_arms_101 ic_0 ?_
  refine g_istore (pc := 102) (lv2 := [(9, .int 0), (8, .int w0), (0, .ref (G.2.2 0)), (1, .int v1), (2, .int v2), (3, .int v3), (4, .int v4), (5, .int v5), (6, .int v6), (7, .int v7)]) C dX9_arms_102 (by decide) rfl ?_
  refine g_lv [2, 3, 4, 5, 6, 7, 8, 9, 1, 0] (lv2 := [(0, .ref (G.2.2 0)), (1, .int v1), (2, .int v2), (3, .int v3), (4, .int v4), (5, .int v5), (6, .int v6), (7, .int v7), (8, .int w0), (9, .int 0)]) rfl ?_
  exact k_X9_arms_104 C hΦ66 hΦ75 h
set_option maxHeartbeats 4000000 in
set_option maxRecDepth 100000 in
theorem k_X9_arms_97 {v1 : Int32} {v2 : Int32} {v3 : Int32} {v4 : Int32} {v5 : Int32} {v6 : Int32} {v7 : Int32} {σ : St} {K : Int32 → St → Prop} {Φ66 : Int32 → St → Prop} {Φ75 : Int32 → St → Prop} (C : Cx p R s m args meth c shM G cX9_arms 12 3 RX9 (some .int) 0 0) (hΦ66 : ∀ (v6' : Int32) (σ' : St), Φ66 v6' σ' → Go p l e R s m args below meth c shM G 12 0 0 (MQ below (Qw shM G (RI K)) args s 0 0 (Fr shM G)) 66 [(0, .ref (G.2.2 0)), (1, .int v1), (2, .int v2), (3, .int v3), (4, .int v4), (5, .int v5), (6, .int (v6'))] [] σ') (hΦ75 : ∀ (v7' : Int32) (σ' : St), Φ75 v7' σ' → Go p l e R s m args below meth c shM G 12 0 0 (MQ below (Qw shM G (RI K)) args s 0 0 (Fr shM G)) 75 [(0, .ref (G.2.2 0)), (1, .int v1), (2, .int v2), (3, .int v3), (4, .int v4), (5, .int v5), (6, .int v6), (7, .int (v7'))] [] σ') (h : J_X9_arms_97 v1 v2 v3 v4 v5 v6 v7 σ K Φ66 Φ75) : Go p l e R s m args below meth c shM G 12 0 0 (MQ below (Qw shM G (RI K)) args s 0 0 (Fr shM G)) 97 [(0, .ref (G.2.2 0)), (1, .int v1), (2, .int v2), (3, .int v3), (4, .int v4), (5, .int v5), (6, .int v6), (7, .int v7)] [] σ := by
  unfold J_X9_arms_97 at h
  refine g_ldc (pc := 97) (v := 1000000) C dX9_arms_97 tw_1164 ?_
  refine g_lv [0, 1, 2, 3, 4, 5, 6, 7] (lv2 := [(0, .ref (G.2.2 0)), (1, .int v1), (2, .int v2), (3, .int v3), (4, .int v4), (5, .int v5), (6, .int v6), (7, .int v7)]) rfl ?_
  exact k_X9_arms_99 C hΦ66 hΦ75 h
set_option maxHeartbeats 4000000 in
set_option maxRecDepth 100000 in
theorem k_X9_arms_75 {v1 : Int32} {v2 : Int32} {v3 : Int32} {v4 : Int32} {v5 : Int32} {v6 : Int32} {v7 : Int32} {σ : St} {K : Int32 → St → Prop} {Φ66 : Int32 → St → Prop} (C : Cx p R s m args meth c shM G cX9_arms 12 3 RX9 (some .int) 0 0) (hΦ66 : ∀ (v6' : Int32) (σ' : St), Φ66 v6' σ' → Go p l e R s m args below meth c shM G 12 0 0 (MQ below (Qw shM G (RI K)) args s 0 0 (Fr shM G)) 66 [(0, .ref (G.2.2 0)), (1, .int v1), (2, .int v2), (3, .int v3), (4, .int v4), (5, .int v5), (6, .int (v6'))] [] σ') (h : L_X9_arms_75 v1 v2 v3 v4 v5 v6 K Φ66 v7 σ) : Go p l e R s m args below meth c shM G 12 0 0 (MQ below (Qw shM G (RI K)) args s 0 0 (Fr shM G)) 75 [(0, .ref (G.2.2 0)), (1, .int v1), (2, .int v2), (3, .int v3), (4, .int v4), (5, .int v5), (6, .int v6), (7, .int v7)] [] σ := by
  obtain ⟨n_, h⟩ := h
  induction n_ generalizing v7 σ with
  | zero => exact h.elim
  | succ n_ ih =>
    replace h : B_X9_arms_75 v1 v2 v3 v4 v5 v6 K Φ66 (it2 (B_X9_arms_75 v1 v2 v3 v4 v5 v6 K Φ66) n_) v7 σ := h
    unfold B_X9_arms_75 at h
    refine g_iload (pc := 75) C 7 dX9_arms_75 rfl ?_
    refine g_bipush (pc := 77) (v := 20) C dX9_arms_77 bp_20 ?_
    refine g_icmp_gt (pc := 79) (tgt := 201) C dX9_arms_79 (by decide) (fun c_ => ?_) (fun c_ => ?_)
    · replace h := ite_t h c_
      refine g_iinc (pc := 201) (lv2 := [(6, .int (v6 + 1)), (0, .ref (G.2.2 0)), (1, .int v1), (2, .int v2), (3, .int v3), (4, .int v4), (5, .int v5), (7, .int v7)]) C 6 dX9_arms_201 ic_1 rfl (by decide) rfl ?_
      refine g_goto (pc := 204) (tgt := 66) C dX9_arms_204 (by decide) ?_
      refine g_lv [1, 2, 3, 4, 5, 6, 0] (lv2 := [(0, .ref (G.2.2 0)), (1, .int v1), (2, .int v2), (3, .int v3), (4, .int v4), (5, .int v5), (6, .int (v6 + 1))]) rfl ?_
      exact hΦ66 _ _ h
    · replace h := ite_f h c_
      refine g_iload (pc := 82) C 6 dX9_arms_82 rfl ?_
      refine g_if_ne (pc := 84) (tgt := 97) C dX9_arms_84 (by decide) (fun c_ => ?_) (fun c_ => ?_)
      · replace h := ite_f h c_
        refine g_lv [0, 1, 2, 3, 4, 5, 6, 7] (lv2 := [(0, .ref (G.2.2 0)), (1, .int v1), (2, .int v2), (3, .int v3), (4, .int v4), (5, .int v5), (6, .int v6), (7, .int v7)]) rfl ?_
        exact k_X9_arms_97 C hΦ66 (fun _ _ h_ => ih h_) h
      · replace h := ite_t h c_
        refine g_iload (pc := 87) C 7 dX9_arms_87 rfl ?_
        refine g_iload_n (pc := 89) C 3 dX9_arms_89 rfl rfl ?_
        refine g_icmp_ne (pc := 90) (tgt := 97) C dX9_arms_90 (by decide) (fun c_ => ?_) (fun c_ => ?_)
        · replace h := ite_f h c_
          refine g_lv [0, 1, 2, 3, 4, 5, 6, 7] (lv2 := [(0, .ref (G.2.2 0)), (1, .int v1), (2, .int v2), (3, .int v3), (4, .int v4), (5, .int v5), (6, .int v6), (7, .int v7)]) rfl ?_
          exact k_X9_arms_97 C hΦ66 (fun _ _ h_ => ih h_) h
        · replace h := ite_t h c_
          refine g_iconst (pc := 93) (v := 0) C dX9_arms_93 ic_0 ?_
          refine g_goto (pc := 94) (tgt := 99) C dX9_arms_94 (by decide) ?_
          refine g_lv [0, 1, 2, 3, 4, 5, 6, 7] (lv2 := [(0, .ref (G.2.2 0)), (1, .int v1), (2, .int v2), (3, .int v3), (4, .int v4), (5, .int v5), (6, .int v6), (7, .int v7)]) rfl ?_
          exact k_X9_arms_99 C hΦ66 (fun _ _ h_ => ih h_) h
set_option maxHeartbeats 4000000 in
set_option maxRecDepth 100000 in
theorem k_X9_arms_66 {v1 : Int32} {v2 : Int32} {v3 : Int32} {v4 : Int32} {v5 : Int32} {v6 : Int32} {σ : St} {K : Int32 → St → Prop} (C : Cx p R s m args meth c shM G cX9_arms 12 3 RX9 (some .int) 0 0) (h : L_X9_arms_66 v1 v2 v3 v4 v5 K v6 σ) : Go p l e R s m args below meth c shM G 12 0 0 (MQ below (Qw shM G (RI K)) args s 0 0 (Fr shM G)) 66 [(0, .ref (G.2.2 0)), (1, .int v1), (2, .int v2), (3, .int v3), (4, .int v4), (5, .int v5), (6, .int v6)] [] σ := by
  obtain ⟨n_, h⟩ := h
  induction n_ generalizing v6 σ with
  | zero => exact h.elim
  | succ n_ ih =>
    replace h : B_X9_arms_66 v1 v2 v3 v4 v5 K (it2 (B_X9_arms_66 v1 v2 v3 v4 v5 K) n_) v6 σ := h
    unfold B_X9_arms_66 at h
    refine g_iload (pc := 66) C 6 dX9_arms_66 rfl ?_
    refine g_iload_n (pc := 68) C 2 dX9_arms_68 rfl rfl ?_
    refine g_icmp_gt (pc := 69) (tgt := 207) C dX9_arms_69 (by decide) (fun c_ => ?_) (fun c_ => ?_)
    · replace h := ite_t h c_
      refine g_aload_n (pc := 207) C 0 dX9_arms_207 rfl rfl ?_
      refine get_X9_0 (pc := 208) C rfl tw_862 dX9_arms_208 ?_
      refine g_bipush (pc := 211) (v := 14) C dX9_arms_211 bp_14 ?_
      refine g_iload_n (pc := 213) C 1 dX9_arms_213 rfl rfl ?_
      refine g_iadd (pc := 214) C dX9_arms_214 ?_
      obtain ⟨g_, h⟩ := h
      refine g_iald (pc := 215) C rfl g_ dX9_arms_215 ?_
      refine g_istore (pc := 216) (lv2 := [(6, .int (σ.1 1 (14 + v1).toNatClampNeg)), (0, .ref (G.2.2 0)), (1, .int v1), (2, .int v2), (3, .int v3), (4, .int v4), (5, .int v5)]) C dX9_arms_216 (by decide) rfl ?_
      refine g_aload_n (pc := 218) C 1 dX9_arms_218 rfl rfl ?_
      refine get_X9_20 (pc := 219) C rfl tw_882 dX9_arms_219 ?_
      refine g_bipush (pc := 222) (v := 21) C dX9_arms_222 bp_21 ?_
      refine g_iload_n (pc := 224) C 3 dX9_arms_224 rfl rfl ?_
      refine g_imul (pc := 225) C dX9_arms_225 ?_
      refine g_iload (pc := 226) C 0 dX9_arms_226 rfl ?_
      refine g_iadd (pc := 228) C dX9_arms_228 ?_
      obtain ⟨g_, h⟩ := h
      refine g_iald (pc := 229) C rfl g_ dX9_arms_229 ?_
      refine g_istore (pc := 230) (lv2 := [(7, .int (σ.1 13 ((21 * v2) + (σ.1 1 (14 + v1).toNatClampNeg)).toNatClampNeg)), (6, .int (σ.1 1 (14 + v1).toNatClampNeg)), (0, .ref (G.2.2 0)), (1, .int v1), (2, .int v2), (3, .int v3), (4, .int v4), (5, .int v5)]) C dX9_arms_230 (by decide) rfl ?_
      refine g_iload (pc := 232) C 0 dX9_arms_232 rfl ?_
      refine g_ldc (pc := 234) (v := 1000000) C dX9_arms_234 tw_1164 ?_
      refine g_icmp_lt (pc := 236) (tgt := 242) C dX9_arms_236 (by decide) (fun c_ => ?_) (fun c_ => ?_)
      · replace h := ite_t h c_
        refine g_aload_n (pc := 242) C 2 dX9_arms_242 rfl rfl ?_
        refine g_iload (pc := 243) C 6 dX9_arms_243 rfl ?_
        refine g_iload_n (pc := 245) C 4 dX9_arms_245 rfl rfl ?_
        refine g_callVv (pc := 246) (As := [.int v4, .int v2]) (rest := []) C rfl rfl rfl rfl (M_X9_anew C.2.2.1  h) CyX9_anew tw_962 tw_964 ts_26 (by decide) rfl rfl (Nat.le_of_ble_eq_true rfl) dX9_arms_246 (fun t246 h => ?_)
        refine g_iconst (pc := 249) (v := 0) C dX9_arms_249 ic_0 ?_
        refine g_istore (pc := 250) (lv2 := [(8, .int 0), (7, .int (σ.1 13 ((21 * v2) + (σ.1 1 (14 + v1).toNatClampNeg)).toNatClampNeg)), (6, .int (σ.1 1 (14 + v1).toNatClampNeg)), (0, .ref (G.2.2 0)), (1, .int v1), (2, .int v2), (3, .int v3), (4, .int v4), (5, .int v5)]) C dX9_arms_250 (by decide) rfl ?_
        refine g_lv [3, 5, 7, 8, 2, 1, 0] (lv2 := [(0, .ref (G.2.2 0)), (2, .int v2), (4, .int v4), (5, .int v5), (6, .int (σ.1 1 (14 + v1).toNatClampNeg)), (7, .int (σ.1 13 ((21 * v2) + (σ.1 1 (14 + v1).toNatClampNeg)).toNatClampNeg)), (8, .int 0)]) rfl ?_
        exact k_X9_arms_252 C  h
      · replace h := ite_f h c_
        refine g_bipush (pc := 239) (v := -9) C dX9_arms_239 bp_m9 ?_
        exact g_iret (pc := 241) C dX9_arms_241 ⟨_, rfl, h⟩
    · replace h := ite_f h c_
      refine g_iconst (pc := 72) (v := 0) C dX9_arms_72 ic_0 ?_
      refine g_istore (pc := 73) (lv2 := [(7, .int 0), (0, .ref (G.2.2 0)), (1, .int v1), (2, .int v2), (3, .int v3), (4, .int v4), (5, .int v5), (6, .int v6)]) C dX9_arms_73 (by decide) rfl ?_
      refine g_lv [1, 2, 3, 4, 5, 6, 7, 0] (lv2 := [(0, .ref (G.2.2 0)), (1, .int v1), (2, .int v2), (3, .int v3), (4, .int v4), (5, .int v5), (6, .int v6), (7, .int 0)]) rfl ?_
      exact k_X9_arms_75 C (fun _ _ h_ => ih h_) h
set_option maxHeartbeats 4000000 in
set_option maxRecDepth 100000 in
theorem M_X9_arms {l : Launch} {G : Gp} (hD : Dj shM G) {v1 : Int32} {v2 : Int32} {v3 : Int32} {v4 : Int32} {σ : St} {K : Int32 → St → Prop} (h : wp_X9_arms v1 v2 v3 v4 σ K) : MC l shM G yX9_arms cX9_arms 12 (some .int) 3 [.ref (G.2.2 0), .int v1, .int v2, .int v3, .int v4] σ (RI K) := by
  unfold wp_X9_arms at h
  refine MC.of (by decide) hD (Nat.le_of_ble_eq_true rfl) ?_
  intro p e s m args below meth c C
  replace C : Cx p (rmD 3) s m args meth c shM G cX9_arms 12 3 RX9 (some .int) 0 0 := C
  show Go p l e (rmD 3) s m args below meth c shM G 12 0 0 (MQ below (Qw shM G (RI K)) args s 0 0 (Fr shM G)) 0 [(0, .ref (G.2.2 0)), (1, .int v1), (2, .int v2), (3, .int v3), (4, .int v4)] [] σ
  refine g_aload_n (pc := 0) C 0 dX9_arms_0 rfl rfl ?_
  refine g_iload_n (pc := 1) C 1 dX9_arms_1 rfl rfl ?_
  refine g_callVip (pc := 2) (As := [.int v1]) (rest := []) C rfl rfl rfl rfl (M_X9_isBell C.2.2.1  h) CyX9_isBell tw_1045 tw_1047 ts_34 (by decide) rfl rfl (Nat.le_of_ble_eq_true rfl) dX9_arms_2 (fun r2 h => ?_)
  refine g_if_eq (pc := 5) (tgt := 40) C dX9_arms_5 (by decide) (fun c_ => ?_) (fun c_ => ?_)
  · replace h := ite_t h c_
    refine g_lv [] (lv2 := []) rfl ?_
    exact k_X9_arms_40 C  h
  · replace h := ite_f h c_
    refine g_iload_n (pc := 8) C 2 dX9_arms_8 rfl rfl ?_
    refine g_i2l (pc := 9) C dX9_arms_9 ?_
    refine g_lconst (pc := 10) (v := 0) C dX9_arms_10 lc_0 ?_
    refine g_ldc2 (pc := 11) (v := 12) C dX9_arms_11 tw_1158 ?_
    refine g_callSip (pc := 14) (As := [.long v2.toInt64, .long (0 : Int64), .long (12 : Int64)]) (rest := []) C (M_X9_in C.2.2.1  h) CyX9_in tw_955 tw_956 (by decide) rfl rfl (Nat.le_of_ble_eq_true rfl) dX9_arms_14 (fun r14 h => ?_)
    refine g_if_eq (pc := 17) (tgt := 40) C dX9_arms_17 (by decide) (fun c_ => ?_) (fun c_ => ?_)
    · replace h := ite_t h c_
      refine g_lv [] (lv2 := []) rfl ?_
      exact k_X9_arms_40 C  h
    · replace h := ite_f h c_
      refine g_iload_n (pc := 20) C 3 dX9_arms_20 rfl rfl ?_
      refine g_i2l (pc := 21) C dX9_arms_21 ?_
      refine g_lconst (pc := 22) (v := 0) C dX9_arms_22 lc_0 ?_
      refine g_ldc2 (pc := 23) (v := 20) C dX9_arms_23 tw_1163 ?_
      refine g_callSip (pc := 26) (As := [.long v3.toInt64, .long (0 : Int64), .long (20 : Int64)]) (rest := []) C (M_X9_in C.2.2.1  h) CyX9_in tw_955 tw_956 (by decide) rfl rfl (Nat.le_of_ble_eq_true rfl) dX9_arms_26 (fun r26 h => ?_)
      refine g_if_eq (pc := 29) (tgt := 40) C dX9_arms_29 (by decide) (fun c_ => ?_) (fun c_ => ?_)
      · replace h := ite_t h c_
        refine g_lv [] (lv2 := []) rfl ?_
        exact k_X9_arms_40 C  h
      · replace h := ite_f h c_
        refine g_iload (pc := 32) C 4 dX9_arms_32 rfl ?_
        refine g_callSip (pc := 34) (As := [.int v4]) (rest := []) C (M_X9_isRow C.2.2.1  h) CyX9_isRow tw_951 tw_952 (by decide) rfl rfl (Nat.le_of_ble_eq_true rfl) dX9_arms_34 (fun r34 h => ?_)
        refine g_if_ne (pc := 37) (tgt := 42) C dX9_arms_37 (by decide) (fun c_ => ?_) (fun c_ => ?_)
        · replace h := ite_f h c_
          refine g_aload_n (pc := 42) C 0 dX9_arms_42 rfl rfl ?_
          refine g_iload_n (pc := 43) C 1 dX9_arms_43 rfl rfl ?_
          refine g_callVip (pc := 44) (As := [.int v1]) (rest := []) C rfl rfl rfl rfl (M_X9_isOver C.2.2.1  h) CyX9_isOver tw_1089 tw_1091 ts_38 (by decide) rfl rfl (Nat.le_of_ble_eq_true rfl) dX9_arms_44 (fun r44 h => ?_)
          refine g_if_eq (pc := 47) (tgt := 53) C dX9_arms_47 (by decide) (fun c_ => ?_) (fun c_ => ?_)
          · replace h := ite_t h c_
            refine g_aload_n (pc := 53) C 0 dX9_arms_53 rfl rfl ?_
            refine get_X9_0 (pc := 54) C rfl tw_862 dX9_arms_54 ?_
            refine g_iconst (pc := 57) (v := 2) C dX9_arms_57 ic_2 ?_
            refine g_iload_n (pc := 58) C 1 dX9_arms_58 rfl rfl ?_
            refine g_iadd (pc := 59) C dX9_arms_59 ?_
            obtain ⟨g_, h⟩ := h
            refine g_iald (pc := 60) C rfl g_ dX9_arms_60 ?_
            refine g_istore (pc := 61) (lv2 := [(5, .int (σ.1 1 (2 + v1).toNatClampNeg)), (0, .ref (G.2.2 0)), (1, .int v1), (2, .int v2), (3, .int v3), (4, .int v4)]) C dX9_arms_61 (by decide) rfl ?_
            refine g_iconst (pc := 63) (v := 0) C dX9_arms_63 ic_0 ?_
            refine g_istore (pc := 64) (lv2 := [(6, .int 0), (5, .int (σ.1 1 (2 + v1).toNatClampNeg)), (0, .ref (G.2.2 0)), (1, .int v1), (2, .int v2), (3, .int v3), (4, .int v4)]) C dX9_arms_64 (by decide) rfl ?_
            refine g_lv [2, 3, 4, 5, 6, 1, 0] (lv2 := [(0, .ref (G.2.2 0)), (1, .int v1), (2, .int v2), (3, .int v3), (4, .int v4), (5, .int (σ.1 1 (2 + v1).toNatClampNeg)), (6, .int 0)]) rfl ?_
            exact k_X9_arms_66 C  h
          · replace h := ite_f h c_
            refine g_bipush (pc := 50) (v := -4) C dX9_arms_50 bp_m4 ?_
            exact g_iret (pc := 52) C dX9_arms_52 ⟨_, rfl, h⟩
        · replace h := ite_t h c_
          refine g_lv [] (lv2 := []) rfl ?_
          exact k_X9_arms_40 C  h
set_option maxHeartbeats 4000000 in
set_option maxRecDepth 100000 in
theorem M_X9_asked {l : Launch} {G : Gp} (hD : Dj shM G) {σ : St} {K : Int32 → Prop} (h : wp_X9_asked σ K) : MC l shM G yX9_asked cX9_asked 1 (some .int) 1 [.ref (G.2.2 0)] σ (RI (fun r t => t = σ ∧ K r)) := by
  unfold wp_X9_asked at h
  refine MC.of (by decide) hD (Nat.le_of_ble_eq_true rfl) ?_
  intro p e s m args below meth c C
  replace C : Cx p (rmD 1) s m args meth c shM G cX9_asked 1 1 RX9 (some .int) 0 0 := C
  show Go p l e (rmD 1) s m args below meth c shM G 1 0 0 (MQ below (Qw shM G (RI (fun r t => t = σ ∧ K r))) args s 0 0 (Fr shM G)) 0 [(0, .ref (G.2.2 0))] [] σ
  refine g_aload_n (pc := 0) C 0 dX9_asked_0 rfl rfl ?_
  refine get_X9_10 (pc := 1) C rfl tw_872 dX9_asked_1 ?_
  exact g_iret (pc := 4) C dX9_asked_4 ⟨_, rfl, ⟨rfl, h⟩⟩
set_option maxHeartbeats 4000000 in
set_option maxRecDepth 100000 in
theorem M_X9_tells {l : Launch} {G : Gp} (hD : Dj shM G) {v1 : Int32} {v2 : Int32} {σ : St} {K : Int32 → St → Prop} (h : wp_X9_tells v1 v2 σ K) : MC l shM G yX9_tells cX9_tells 3 (some .int) 1 [.ref (G.2.2 0), .int v1, .int v2] σ (RI K) := by
  unfold wp_X9_tells at h
  refine MC.of (by decide) hD (Nat.le_of_ble_eq_true rfl) ?_
  intro p e s m args below meth c C
  replace C : Cx p (rmD 1) s m args meth c shM G cX9_tells 3 1 RX9 (some .int) 0 0 := C
  show Go p l e (rmD 1) s m args below meth c shM G 3 0 0 (MQ below (Qw shM G (RI K)) args s 0 0 (Fr shM G)) 0 [(0, .ref (G.2.2 0)), (1, .int v1), (2, .int v2)] [] σ
  refine g_aload_n (pc := 0) C 0 dX9_tells_0 rfl rfl ?_
  refine g_iload_n (pc := 1) C 1 dX9_tells_1 rfl rfl ?_
  refine put_X9_10 (pc := 2) C rfl tw_872 dX9_tells_2 ?_
  refine g_iload_n (pc := 5) C 2 dX9_tells_5 rfl rfl ?_
  exact g_iret (pc := 6) C dX9_tells_6 ⟨_, rfl, h⟩
set_option maxHeartbeats 4000000 in
set_option maxRecDepth 100000 in
theorem k_X9_at_66 {w0 : Int32} {σ : St} {K : Int32 → St → Prop} (C : Cx p R s m args meth c shM G cX9_at 3 3 RX9 (some .int) 0 0) (h : J_X9_at_66 w0 σ K) : Go p l e R s m args below meth c shM G 3 0 0 (MQ below (Qw shM G (RI K)) args s 0 0 (Fr shM G)) 66 [] [.int w0] σ := by
  unfold J_X9_at_66 at h
  exact g_iret (pc := 66) C dX9_at_66 ⟨_, rfl, h⟩
set_option maxHeartbeats 4000000 in
set_option maxRecDepth 100000 in
theorem M_X9_at {l : Launch} {G : Gp} (hD : Dj shM G) {v1 : Int32} {v2 : Int32} {σ : St} {K : Int32 → St → Prop} (h : wp_X9_at v1 v2 σ K) : MC l shM G yX9_at cX9_at 3 (some .int) 3 [.ref (G.2.2 0), .int v1, .int v2] σ (RI K) := by
  unfold wp_X9_at at h
  refine MC.of (by decide) hD (Nat.le_of_ble_eq_true rfl) ?_
  intro p e s m args below meth c C
  replace C : Cx p (rmD 3) s m args meth c shM G cX9_at 3 3 RX9 (some .int) 0 0 := C
  show Go p l e (rmD 3) s m args below meth c shM G 3 0 0 (MQ below (Qw shM G (RI K)) args s 0 0 (Fr shM G)) 0 [(0, .ref (G.2.2 0)), (1, .int v1), (2, .int v2)] [] σ
  refine g_iload_n (pc := 0) C 1 dX9_at_0 rfl rfl ?_
  refine g_callSip (pc := 1) (As := [.int v1]) (rest := []) C (M_X9_isRow C.2.2.1  h) CyX9_isRow tw_951 tw_952 (by decide) rfl rfl (Nat.le_of_ble_eq_true rfl) dX9_at_1 (fun r1 h => ?_)
  refine g_if_ne (pc := 4) (tgt := 9) C dX9_at_4 (by decide) (fun c_ => ?_) (fun c_ => ?_)
  · replace h := ite_f h c_
    refine g_aload_n (pc := 9) C 0 dX9_at_9 rfl rfl ?_
    refine get_X9_4 (pc := 10) C rfl tw_866 dX9_at_10 ?_
    refine g_iload_n (pc := 13) C 1 dX9_at_13 rfl rfl ?_
    obtain ⟨g_, h⟩ := h
    refine g_iald (pc := 14) C rfl g_ dX9_at_14 ?_
    refine g_if_ge (pc := 15) (tgt := 24) C dX9_at_15 (by decide) (fun c_ => ?_) (fun c_ => ?_)
    · replace h := ite_t h c_
      refine g_iload_n (pc := 24) C 2 dX9_at_24 rfl rfl ?_
      refine g_i2l (pc := 25) C dX9_at_25 ?_
      refine g_lconst (pc := 26) (v := 0) C dX9_at_26 lc_0 ?_
      refine g_aload_n (pc := 27) C 0 dX9_at_27 rfl rfl ?_
      refine get_X9_4 (pc := 28) C rfl tw_866 dX9_at_28 ?_
      refine g_iload_n (pc := 31) C 1 dX9_at_31 rfl rfl ?_
      obtain ⟨g_, h⟩ := h
      refine g_iald (pc := 32) C rfl g_ dX9_at_32 ?_
      refine g_iconst (pc := 33) (v := 1) C dX9_at_33 ic_1 ?_
      refine g_isub (pc := 34) C dX9_at_34 ?_
      refine g_i2l (pc := 35) C dX9_at_35 ?_
      refine g_callSip (pc := 36) (As := [.long v2.toInt64, .long (0 : Int64), .long (((σ.1 4 v1.toNatClampNeg) - 1).toInt64)]) (rest := []) C (M_X9_in C.2.2.1  h) CyX9_in tw_955 tw_956 (by decide) rfl rfl (Nat.le_of_ble_eq_true rfl) dX9_at_36 (fun r36 h => ?_)
      refine g_if_eq (pc := 39) (tgt := 61) C dX9_at_39 (by decide) (fun c_ => ?_) (fun c_ => ?_)
      · replace h := ite_t h c_
        refine g_aload_n (pc := 61) C 0 dX9_at_61 rfl rfl ?_
        refine g_iconst (pc := 62) (v := 2) C dX9_at_62 ic_2 ?_
        refine g_callVi (pc := 63) (As := [.int 2]) (rest := []) C rfl rfl rfl rfl (M_X9_found C.2.2.1  h) CyX9_found tw_958 tw_960 ts_25 (by decide) rfl rfl (Nat.le_of_ble_eq_true rfl) dX9_at_63 (fun r63 t63 h => ?_)
        refine g_lv [] (lv2 := []) rfl ?_
        exact k_X9_at_66 C  h
      · replace h := ite_f h c_
        refine g_aload_n (pc := 42) C 0 dX9_at_42 rfl rfl ?_
        refine g_aload_n (pc := 43) C 0 dX9_at_43 rfl rfl ?_
        refine get_X9_3 (pc := 44) C rfl tw_865 dX9_at_44 ?_
        refine g_bipush (pc := 47) (v := 40) C dX9_at_47 bp_40 ?_
        refine g_iload_n (pc := 49) C 1 dX9_at_49 rfl rfl ?_
        refine g_imul (pc := 50) C dX9_at_50 ?_
        refine g_iload_n (pc := 51) C 2 dX9_at_51 rfl rfl ?_
        refine g_iadd (pc := 52) C dX9_at_52 ?_
        obtain ⟨g_, h⟩ := h
        refine g_iald (pc := 53) C rfl g_ dX9_at_53 ?_
        refine g_iconst (pc := 54) (v := 1) C dX9_at_54 ic_1 ?_
        refine g_callVi (pc := 55) (As := [.int (σ.1 3 ((40 * v1) + v2).toNatClampNeg), .int 1]) (rest := []) C rfl rfl rfl rfl (M_X9_tells C.2.2.1  h) CyX9_tells tw_974 tw_976 ts_27 (by decide) rfl rfl (Nat.le_of_ble_eq_true rfl) dX9_at_55 (fun r55 t55 h => ?_)
        refine g_goto (pc := 58) (tgt := 66) C dX9_at_58 (by decide) ?_
        refine g_lv [] (lv2 := []) rfl ?_
        exact k_X9_at_66 C  h
    · replace h := ite_f h c_
      refine g_aload_n (pc := 18) C 0 dX9_at_18 rfl rfl ?_
      refine g_iconst (pc := 19) (v := 1) C dX9_at_19 ic_1 ?_
      refine g_callVi (pc := 20) (As := [.int 1]) (rest := []) C rfl rfl rfl rfl (M_X9_found C.2.2.1  h) CyX9_found tw_958 tw_960 ts_25 (by decide) rfl rfl (Nat.le_of_ble_eq_true rfl) dX9_at_20 (fun r20 t20 h => ?_)
      exact g_iret (pc := 23) C dX9_at_23 ⟨_, rfl, h⟩
  · replace h := ite_t h c_
    refine g_iconst (pc := 7) (v := -1) C dX9_at_7 ic_m1 ?_
    exact g_iret (pc := 8) C dX9_at_8 ⟨_, rfl, h⟩
set_option maxHeartbeats 4000000 in
set_option maxRecDepth 100000 in
theorem k_X9_back_77 {w0 : Int32} {σ : St} {K : Int32 → Prop} (C : Cx p R s m args meth c shM G cX9_back 4 3 RX9 (some .int) 0 0) (h : J_X9_back_77 w0 σ K) : Go p l e R s m args below meth c shM G 4 0 0 (MQ below (Qw shM G (RI (fun r t => t = σ ∧ K r))) args s 0 0 (Fr shM G)) 77 [] [.int w0] σ := by
  unfold J_X9_back_77 at h
  exact g_iret (pc := 77) C dX9_back_77 ⟨_, rfl, ⟨rfl, h⟩⟩
set_option maxHeartbeats 4000000 in
set_option maxRecDepth 100000 in
theorem k_X9_back_65 {v3 : Int32} {σ : St} {K : Int32 → Prop} (C : Cx p R s m args meth c shM G cX9_back 4 3 RX9 (some .int) 0 0) (h : J_X9_back_65 v3 σ K) : Go p l e R s m args below meth c shM G 4 0 0 (MQ below (Qw shM G (RI (fun r t => t = σ ∧ K r))) args s 0 0 (Fr shM G)) 65 [(3, .int v3)] [] σ := by
  unfold J_X9_back_65 at h
  refine g_iload_n (pc := 65) C 0 dX9_back_65 rfl rfl ?_
  refine g_bipush (pc := 66) (v := 30) C dX9_back_66 bp_30 ?_
  refine g_icmp_le (pc := 68) (tgt := 76) C dX9_back_68 (by decide) (fun c_ => ?_) (fun c_ => ?_)
  · replace h := ite_t h c_
    refine g_iload_n (pc := 76) C 0 dX9_back_76 rfl rfl ?_
    refine g_lv [] (lv2 := []) rfl ?_
    exact k_X9_back_77 C  h
  · replace h := ite_f h c_
    refine g_bipush (pc := 71) (v := -9) C dX9_back_71 bp_m9 ?_
    refine g_goto (pc := 73) (tgt := 77) C dX9_back_73 (by decide) ?_
    refine g_lv [] (lv2 := []) rfl ?_
    exact k_X9_back_77 C  h
set_option maxHeartbeats 4000000 in
set_option maxRecDepth 100000 in
theorem k_X9_back_33 {v1 : Int32} {v2 : Int32} {v3 : Int32} {σ : St} {K : Int32 → Prop} (C : Cx p R s m args meth c shM G cX9_back 4 3 RX9 (some .int) 0 0) (h : L_X9_back_33 v1 σ K v2 v3) : Go p l e R s m args below meth c shM G 4 0 0 (MQ below (Qw shM G (RI (fun r t => t = σ ∧ K r))) args s 0 0 (Fr shM G)) 33 [(0, .ref (G.2.2 0)), (1, .int v1), (2, .int v2), (3, .int v3)] [] σ := by
  obtain ⟨n_, h⟩ := h
  induction n_ generalizing v2 v3 with
  | zero => exact h.elim
  | succ n_ ih =>
    replace h : B_X9_back_33 v1 σ K (it2 (B_X9_back_33 v1 σ K) n_) v2 v3 := h
    unfold B_X9_back_33 at h
    refine g_iload_n (pc := 33) C 2 dX9_back_33 rfl rfl ?_
    refine g_iconst (pc := 34) (v := 5) C dX9_back_34 ic_5 ?_
    refine g_icmp_ge (pc := 35) (tgt := 65) C dX9_back_35 (by decide) (fun c_ => ?_) (fun c_ => ?_)
    · replace h := ite_t h c_
      refine g_lv [3] (lv2 := [(3, .int v3)]) rfl ?_
      exact k_X9_back_65 C  h
    · replace h := ite_f h c_
      refine g_iload_n (pc := 38) C 3 dX9_back_38 rfl rfl ?_
      refine g_bipush (pc := 39) (v := 30) C dX9_back_39 bp_30 ?_
      refine g_icmp_gt (pc := 41) (tgt := 65) C dX9_back_41 (by decide) (fun c_ => ?_) (fun c_ => ?_)
      · replace h := ite_t h c_
        refine g_lv [3] (lv2 := [(3, .int v3)]) rfl ?_
        exact k_X9_back_65 C  h
      · replace h := ite_f h c_
        refine g_aload_n (pc := 44) C 0 dX9_back_44 rfl rfl ?_
        refine get_X9_0 (pc := 45) C rfl tw_862 dX9_back_45 ?_
        refine g_iconst (pc := 48) (v := 2) C dX9_back_48 ic_2 ?_
        refine g_iload_n (pc := 49) C 1 dX9_back_49 rfl rfl ?_
        refine g_iadd (pc := 50) C dX9_back_50 ?_
        obtain ⟨g_, h⟩ := h
        refine g_iald (pc := 51) C rfl g_ dX9_back_51 ?_
        refine g_iload_n (pc := 52) C 2 dX9_back_52 rfl rfl ?_
        refine g_bipush (pc := 53) (v := 6) C dX9_back_53 bp_6 ?_
        refine g_callSip (pc := 55) (As := [.int (σ.1 1 (2 + v1).toNatClampNeg), .int v2, .int 6]) (rest := []) C (M_X9_after C.2.2.1  h) CyX9_after tw_1061 tw_1062 (by decide) rfl rfl (Nat.le_of_ble_eq_true rfl) dX9_back_55 (fun r55 h => ?_)
        refine g_istore_n (pc := 58) (lv2 := [(2, .int r55), (0, .ref (G.2.2 0)), (1, .int v1), (3, .int v3)]) C dX9_back_58 rfl (by decide) rfl ?_
        refine g_iinc (pc := 59) (lv2 := [(3, .int (v3 + 1)), (2, .int r55), (0, .ref (G.2.2 0)), (1, .int v1)]) C 3 dX9_back_59 ic_1 rfl (by decide) rfl ?_
        refine g_goto (pc := 62) (tgt := 33) C dX9_back_62 (by decide) ?_
        refine g_lv [2, 3, 1, 0] (lv2 := [(0, .ref (G.2.2 0)), (1, .int v1), (2, .int r55), (3, .int (v3 + 1))]) rfl ?_
        exact ih h
set_option maxHeartbeats 4000000 in
set_option maxRecDepth 100000 in
theorem M_X9_back {l : Launch} {G : Gp} (hD : Dj shM G) {v1 : Int32} {σ : St} {K : Int32 → Prop} (h : wp_X9_back v1 σ K) : MC l shM G yX9_back cX9_back 4 (some .int) 3 [.ref (G.2.2 0), .int v1] σ (RI (fun r t => t = σ ∧ K r)) := by
  unfold wp_X9_back at h
  refine MC.of (by decide) hD (Nat.le_of_ble_eq_true rfl) ?_
  intro p e s m args below meth c C
  replace C : Cx p (rmD 3) s m args meth c shM G cX9_back 4 3 RX9 (some .int) 0 0 := C
  show Go p l e (rmD 3) s m args below meth c shM G 4 0 0 (MQ below (Qw shM G (RI (fun r t => t = σ ∧ K r))) args s 0 0 (Fr shM G)) 0 [(0, .ref (G.2.2 0)), (1, .int v1)] [] σ
  refine g_aload_n (pc := 0) C 0 dX9_back_0 rfl rfl ?_
  refine g_iload_n (pc := 1) C 1 dX9_back_1 rfl rfl ?_
  refine g_callVip (pc := 2) (As := [.int v1]) (rest := []) C rfl rfl rfl rfl (M_X9_isBell C.2.2.1  h) CyX9_isBell tw_1045 tw_1047 ts_34 (by decide) rfl rfl (Nat.le_of_ble_eq_true rfl) dX9_back_2 (fun r2 h => ?_)
  refine g_if_ne (pc := 5) (tgt := 10) C dX9_back_5 (by decide) (fun c_ => ?_) (fun c_ => ?_)
  · replace h := ite_f h c_
    refine g_aload_n (pc := 10) C 0 dX9_back_10 rfl rfl ?_
    refine g_iload_n (pc := 11) C 1 dX9_back_11 rfl rfl ?_
    refine g_callVip (pc := 12) (As := [.int v1]) (rest := []) C rfl rfl rfl rfl (M_X9_isOver C.2.2.1  h) CyX9_isOver tw_1089 tw_1091 ts_38 (by decide) rfl rfl (Nat.le_of_ble_eq_true rfl) dX9_back_12 (fun r12 h => ?_)
    refine g_if_eq (pc := 15) (tgt := 21) C dX9_back_15 (by decide) (fun c_ => ?_) (fun c_ => ?_)
    · replace h := ite_t h c_
      refine g_aload_n (pc := 21) C 0 dX9_back_21 rfl rfl ?_
      refine get_X9_0 (pc := 22) C rfl tw_862 dX9_back_22 ?_
      refine g_bipush (pc := 25) (v := 14) C dX9_back_25 bp_14 ?_
      refine g_iload_n (pc := 27) C 1 dX9_back_27 rfl rfl ?_
      refine g_iadd (pc := 28) C dX9_back_28 ?_
      obtain ⟨g_, h⟩ := h
      refine g_iald (pc := 29) C rfl g_ dX9_back_29 ?_
      refine g_istore_n (pc := 30) (lv2 := [(2, .int (σ.1 1 (14 + v1).toNatClampNeg)), (0, .ref (G.2.2 0)), (1, .int v1)]) C dX9_back_30 rfl (by decide) rfl ?_
      refine g_iconst (pc := 31) (v := 0) C dX9_back_31 ic_0 ?_
      refine g_istore_n (pc := 32) (lv2 := [(3, .int 0), (2, .int (σ.1 1 (14 + v1).toNatClampNeg)), (0, .ref (G.2.2 0)), (1, .int v1)]) C dX9_back_32 rfl (by decide) rfl ?_
      refine g_lv [2, 3, 1, 0] (lv2 := [(0, .ref (G.2.2 0)), (1, .int v1), (2, .int (σ.1 1 (14 + v1).toNatClampNeg)), (3, .int 0)]) rfl ?_
      exact k_X9_back_33 C  h
    · replace h := ite_f h c_
      refine g_bipush (pc := 18) (v := -4) C dX9_back_18 bp_m4 ?_
      exact g_iret (pc := 20) C dX9_back_20 ⟨_, rfl, ⟨rfl, h⟩⟩
  · replace h := ite_t h c_
    refine g_iconst (pc := 8) (v := -1) C dX9_back_8 ic_m1 ?_
    exact g_iret (pc := 9) C dX9_back_9 ⟨_, rfl, ⟨rfl, h⟩⟩
set_option maxHeartbeats 4000000 in
set_option maxRecDepth 100000 in
theorem k_X9_begins_2 {v1 : Int32} {σ : St} {K : St → Prop} (C : Cx p R s m args meth c shM G cX9_begins 2 1 RX9 none 0 0) (h : L_X9_begins_2 K v1 σ) : Go p l e R s m args below meth c shM G 2 0 0 (MQ below (Qw shM G (RV K)) args s 0 0 (Fr shM G)) 2 [(0, .ref (G.2.2 0)), (1, .int v1)] [] σ := by
  obtain ⟨n_, h⟩ := h
  induction n_ generalizing v1 σ with
  | zero => exact h.elim
  | succ n_ ih =>
    replace h : B_X9_begins_2 K (it2 (B_X9_begins_2 K) n_) v1 σ := h
    unfold B_X9_begins_2 at h
    refine g_iload_n (pc := 2) C 1 dX9_begins_2 rfl rfl ?_
    refine g_bipush (pc := 3) (v := 6) C dX9_begins_3 bp_6 ?_
    refine g_icmp_ge (pc := 5) (tgt := 21) C dX9_begins_5 (by decide) (fun c_ => ?_) (fun c_ => ?_)
    · replace h := ite_t h c_
      exact g_vret (pc := 21) C dX9_begins_21 ⟨rfl, h⟩
    · replace h := ite_f h c_
      refine g_aload_n (pc := 8) C 0 dX9_begins_8 rfl rfl ?_
      refine get_X9_14 (pc := 9) C rfl tw_876 dX9_begins_9 ?_
      refine g_iload_n (pc := 12) C 1 dX9_begins_12 rfl rfl ?_
      refine g_iconst (pc := 13) (v := 0) C dX9_begins_13 ic_0 ?_
      obtain ⟨g_, h⟩ := h
      refine g_iast (pc := 14) C rfl g_ dX9_begins_14 ?_
      refine g_iinc (pc := 15) (lv2 := [(1, .int (v1 + 1)), (0, .ref (G.2.2 0))]) C 1 dX9_begins_15 ic_1 rfl (by decide) rfl ?_
      refine g_goto (pc := 18) (tgt := 2) C dX9_begins_18 (by decide) ?_
      refine g_lv [1, 0] (lv2 := [(0, .ref (G.2.2 0)), (1, .int (v1 + 1))]) rfl ?_
      exact ih h
set_option maxHeartbeats 4000000 in
set_option maxRecDepth 100000 in
theorem M_X9_begins {l : Launch} {G : Gp} (hD : Dj shM G) {σ : St} {K : St → Prop} (h : wp_X9_begins σ K) : MC l shM G yX9_begins cX9_begins 2 none 1 [.ref (G.2.2 0)] σ (RV K) := by
  unfold wp_X9_begins at h
  refine MC.of (by decide) hD (Nat.le_of_ble_eq_true rfl) ?_
  intro p e s m args below meth c C
  replace C : Cx p (rmD 1) s m args meth c shM G cX9_begins 2 1 RX9 none 0 0 := C
  show Go p l e (rmD 1) s m args below meth c shM G 2 0 0 (MQ below (Qw shM G (RV K)) args s 0 0 (Fr shM G)) 0 [(0, .ref (G.2.2 0))] [] σ
  refine g_iconst (pc := 0) (v := 0) C dX9_begins_0 ic_0 ?_
  refine g_istore_n (pc := 1) (lv2 := [(1, .int 0), (0, .ref (G.2.2 0))]) C dX9_begins_1 rfl (by decide) rfl ?_
  refine g_lv [1, 0] (lv2 := [(0, .ref (G.2.2 0)), (1, .int 0)]) rfl ?_
  exact k_X9_begins_2 C  h
set_option maxHeartbeats 4000000 in
set_option maxRecDepth 100000 in
theorem k_X9_bellTells_94 {w0 : Int32} {σ : St} {K : Int32 → Prop} (C : Cx p R s m args meth c shM G cX9_bellTells 3 1 RX9 (some .int) 0 0) (h : J_X9_bellTells_94 w0 σ K) : Go p l e R s m args below meth c shM G 3 0 0 (MQ below (Qw shM G (RI (fun r t => t = σ ∧ K r))) args s 0 0 (Fr shM G)) 94 [] [.int w0] σ := by
  unfold J_X9_bellTells_94 at h
  exact g_iret (pc := 94) C dX9_bellTells_94 ⟨_, rfl, ⟨rfl, h⟩⟩
set_option maxHeartbeats 4000000 in
set_option maxRecDepth 100000 in
theorem M_X9_bellTells {l : Launch} {G : Gp} (hD : Dj shM G) {v1 : Int32} {v2 : Int32} {σ : St} {K : Int32 → Prop} (h : wp_X9_bellTells v1 v2 σ K) : MC l shM G yX9_bellTells cX9_bellTells 3 (some .int) 1 [.ref (G.2.2 0), .int v1, .int v2] σ (RI (fun r t => t = σ ∧ K r)) := by
  unfold wp_X9_bellTells at h
  refine MC.of (by decide) hD (Nat.le_of_ble_eq_true rfl) ?_
  intro p e s m args below meth c C
  replace C : Cx p (rmD 1) s m args meth c shM G cX9_bellTells 3 1 RX9 (some .int) 0 0 := C
  show Go p l e (rmD 1) s m args below meth c shM G 3 0 0 (MQ below (Qw shM G (RI (fun r t => t = σ ∧ K r))) args s 0 0 (Fr shM G)) 0 [(0, .ref (G.2.2 0)), (1, .int v1), (2, .int v2)] [] σ
  refine g_iload_n (pc := 0) C 2 dX9_bellTells_0 rfl rfl ?_
  by_cases c0_ : v2 = 0
  · replace h := ite_t h c0_
    refine g_tabIn (pc := 1) (tgt := 36) (v := 0) C dX9_bellTells_1 (by rw [c0_]; rfl) (by decide) (by decide) rfl (by decide) ?_
    refine g_aload_n (pc := 36) C 0 dX9_bellTells_36 rfl rfl ?_
    refine get_X9_0 (pc := 37) C rfl tw_862 dX9_bellTells_37 ?_
    refine g_iconst (pc := 40) (v := 2) C dX9_bellTells_40 ic_2 ?_
    refine g_iload_n (pc := 41) C 1 dX9_bellTells_41 rfl rfl ?_
    refine g_iadd (pc := 42) C dX9_bellTells_42 ?_
    obtain ⟨g_, h⟩ := h
    refine g_iald (pc := 43) C rfl g_ dX9_bellTells_43 ?_
    exact g_iret (pc := 44) C dX9_bellTells_44 ⟨_, rfl, ⟨rfl, h⟩⟩
  replace h := ite_f h c0_
  by_cases c1_ : v2 = 1
  · replace h := ite_t h c1_
    refine g_tabIn (pc := 1) (tgt := 45) (v := 1) C dX9_bellTells_1 (by rw [c1_]; rfl) (by decide) (by decide) rfl (by decide) ?_
    refine g_aload_n (pc := 45) C 0 dX9_bellTells_45 rfl rfl ?_
    refine get_X9_0 (pc := 46) C rfl tw_862 dX9_bellTells_46 ?_
    refine g_bipush (pc := 49) (v := 8) C dX9_bellTells_49 bp_8 ?_
    refine g_iload_n (pc := 51) C 1 dX9_bellTells_51 rfl rfl ?_
    refine g_iadd (pc := 52) C dX9_bellTells_52 ?_
    obtain ⟨g_, h⟩ := h
    refine g_iald (pc := 53) C rfl g_ dX9_bellTells_53 ?_
    exact g_iret (pc := 54) C dX9_bellTells_54 ⟨_, rfl, ⟨rfl, h⟩⟩
  replace h := ite_f h c1_
  by_cases c2_ : v2 = 2
  · replace h := ite_t h c2_
    refine g_tabIn (pc := 1) (tgt := 55) (v := 2) C dX9_bellTells_1 (by rw [c2_]; rfl) (by decide) (by decide) rfl (by decide) ?_
    refine g_aload_n (pc := 55) C 0 dX9_bellTells_55 rfl rfl ?_
    refine get_X9_0 (pc := 56) C rfl tw_862 dX9_bellTells_56 ?_
    refine g_bipush (pc := 59) (v := 14) C dX9_bellTells_59 bp_14 ?_
    refine g_iload_n (pc := 61) C 1 dX9_bellTells_61 rfl rfl ?_
    refine g_iadd (pc := 62) C dX9_bellTells_62 ?_
    obtain ⟨g_, h⟩ := h
    refine g_iald (pc := 63) C rfl g_ dX9_bellTells_63 ?_
    exact g_iret (pc := 64) C dX9_bellTells_64 ⟨_, rfl, ⟨rfl, h⟩⟩
  replace h := ite_f h c2_
  by_cases c3_ : v2 = 3
  · replace h := ite_t h c3_
    refine g_tabIn (pc := 1) (tgt := 65) (v := 3) C dX9_bellTells_1 (by rw [c3_]; rfl) (by decide) (by decide) rfl (by decide) ?_
    refine g_aload_n (pc := 65) C 0 dX9_bellTells_65 rfl rfl ?_
    refine get_X9_0 (pc := 66) C rfl tw_862 dX9_bellTells_66 ?_
    refine g_bipush (pc := 69) (v := 20) C dX9_bellTells_69 bp_20 ?_
    refine g_iload_n (pc := 71) C 1 dX9_bellTells_71 rfl rfl ?_
    refine g_iadd (pc := 72) C dX9_bellTells_72 ?_
    obtain ⟨g_, h⟩ := h
    refine g_iald (pc := 73) C rfl g_ dX9_bellTells_73 ?_
    exact g_iret (pc := 74) C dX9_bellTells_74 ⟨_, rfl, ⟨rfl, h⟩⟩
  replace h := ite_f h c3_
  by_cases c4_ : v2 = 4
  · replace h := ite_t h c4_
    refine g_tabIn (pc := 1) (tgt := 75) (v := 4) C dX9_bellTells_1 (by rw [c4_]; rfl) (by decide) (by decide) rfl (by decide) ?_
    refine g_aload_n (pc := 75) C 0 dX9_bellTells_75 rfl rfl ?_
    refine get_X9_0 (pc := 76) C rfl tw_862 dX9_bellTells_76 ?_
    refine g_bipush (pc := 79) (v := 14) C dX9_bellTells_79 bp_14 ?_
    refine g_iload_n (pc := 81) C 1 dX9_bellTells_81 rfl rfl ?_
    refine g_iadd (pc := 82) C dX9_bellTells_82 ?_
    obtain ⟨g_, h⟩ := h
    refine g_iald (pc := 83) C rfl g_ dX9_bellTells_83 ?_
    refine g_bipush (pc := 84) (v := 20) C dX9_bellTells_84 bp_20 ?_
    refine g_icmp_ne (pc := 86) (tgt := 93) C dX9_bellTells_86 (by decide) (fun c_ => ?_) (fun c_ => ?_)
    · replace h := ite_f h c_
      refine g_iconst (pc := 93) (v := 0) C dX9_bellTells_93 ic_0 ?_
      refine g_lv [] (lv2 := []) rfl ?_
      exact k_X9_bellTells_94 C  h
    · replace h := ite_t h c_
      refine g_iconst (pc := 89) (v := 1) C dX9_bellTells_89 ic_1 ?_
      refine g_goto (pc := 90) (tgt := 94) C dX9_bellTells_90 (by decide) ?_
      refine g_lv [] (lv2 := []) rfl ?_
      exact k_X9_bellTells_94 C  h
  replace h := ite_f h c4_
  refine g_tabOut (pc := 1) (tgt := 95) C dX9_bellTells_1 (by have e0_ := lv_neT c0_ (a := 0) (by decide); have e1_ := lv_neT c1_ (a := 1) (by decide); have e2_ := lv_neT c2_ (a := 2) (by decide); have e3_ := lv_neT c3_ (a := 3) (by decide); have e4_ := lv_neT c4_ (a := 4) (by decide); omega) (by decide) ?_
  refine g_aload_n (pc := 95) C 0 dX9_bellTells_95 rfl rfl ?_
  refine get_X9_0 (pc := 96) C rfl tw_862 dX9_bellTells_96 ?_
  refine g_bipush (pc := 99) (v := 26) C dX9_bellTells_99 bp_26 ?_
  refine g_iload_n (pc := 101) C 1 dX9_bellTells_101 rfl rfl ?_
  refine g_iadd (pc := 102) C dX9_bellTells_102 ?_
  obtain ⟨g_, h⟩ := h
  refine g_iald (pc := 103) C rfl g_ dX9_bellTells_103 ?_
  exact g_iret (pc := 104) C dX9_bellTells_104 ⟨_, rfl, ⟨rfl, h⟩⟩
set_option maxHeartbeats 4000000 in
set_option maxRecDepth 100000 in
theorem k_X9_bell_20 {σ : St} {K : Int32 → St → Prop} (C : Cx p R s m args meth c shM G cX9_bell 3 3 RX9 (some .int) 0 0) (h : J_X9_bell_20 σ K) : Go p l e R s m args below meth c shM G 3 0 0 (MQ below (Qw shM G (RI K)) args s 0 0 (Fr shM G)) 20 [] [] σ := by
  unfold J_X9_bell_20 at h
  refine g_iconst (pc := 20) (v := -1) C dX9_bell_20 ic_m1 ?_
  exact g_iret (pc := 21) C dX9_bell_21 ⟨_, rfl, h⟩
set_option maxHeartbeats 4000000 in
set_option maxRecDepth 100000 in
theorem M_X9_bell {l : Launch} {G : Gp} (hD : Dj shM G) {v1 : Int32} {v2 : Int32} {σ : St} {K : Int32 → St → Prop} (h : wp_X9_bell v1 v2 σ K) : MC l shM G yX9_bell cX9_bell 3 (some .int) 3 [.ref (G.2.2 0), .int v1, .int v2] σ (RI K) := by
  unfold wp_X9_bell at h
  refine MC.of (by decide) hD (Nat.le_of_ble_eq_true rfl) ?_
  intro p e s m args below meth c C
  replace C : Cx p (rmD 3) s m args meth c shM G cX9_bell 3 3 RX9 (some .int) 0 0 := C
  show Go p l e (rmD 3) s m args below meth c shM G 3 0 0 (MQ below (Qw shM G (RI K)) args s 0 0 (Fr shM G)) 0 [(0, .ref (G.2.2 0)), (1, .int v1), (2, .int v2)] [] σ
  refine g_aload_n (pc := 0) C 0 dX9_bell_0 rfl rfl ?_
  refine g_iload_n (pc := 1) C 1 dX9_bell_1 rfl rfl ?_
  refine g_callVip (pc := 2) (As := [.int v1]) (rest := []) C rfl rfl rfl rfl (M_X9_isBell C.2.2.1  h) CyX9_isBell tw_1045 tw_1047 ts_34 (by decide) rfl rfl (Nat.le_of_ble_eq_true rfl) dX9_bell_2 (fun r2 h => ?_)
  refine g_if_eq (pc := 5) (tgt := 20) C dX9_bell_5 (by decide) (fun c_ => ?_) (fun c_ => ?_)
  · replace h := ite_t h c_
    refine g_lv [] (lv2 := []) rfl ?_
    exact k_X9_bell_20 C  h
  · replace h := ite_f h c_
    refine g_iload_n (pc := 8) C 2 dX9_bell_8 rfl rfl ?_
    refine g_i2l (pc := 9) C dX9_bell_9 ?_
    refine g_lconst (pc := 10) (v := 0) C dX9_bell_10 lc_0 ?_
    refine g_ldc2 (pc := 11) (v := 5) C dX9_bell_11 tw_954 ?_
    refine g_callSip (pc := 14) (As := [.long v2.toInt64, .long (0 : Int64), .long (5 : Int64)]) (rest := []) C (M_X9_in C.2.2.1  h) CyX9_in tw_955 tw_956 (by decide) rfl rfl (Nat.le_of_ble_eq_true rfl) dX9_bell_14 (fun r14 h => ?_)
    refine g_if_ne (pc := 17) (tgt := 22) C dX9_bell_17 (by decide) (fun c_ => ?_) (fun c_ => ?_)
    · replace h := ite_f h c_
      refine g_aload_n (pc := 22) C 0 dX9_bell_22 rfl rfl ?_
      refine g_aload_n (pc := 23) C 0 dX9_bell_23 rfl rfl ?_
      refine g_iload_n (pc := 24) C 1 dX9_bell_24 rfl rfl ?_
      refine g_iload_n (pc := 25) C 2 dX9_bell_25 rfl rfl ?_
      refine g_callVip (pc := 26) (As := [.int v1, .int v2]) (rest := [.ref (G.2.2 0)]) C rfl rfl rfl rfl (M_X9_bellTells C.2.2.1  h) CyX9_bellTells tw_1049 tw_1051 ts_35 (by decide) rfl rfl (Nat.le_of_ble_eq_true rfl) dX9_bell_26 (fun r26 h => ?_)
      refine g_iconst (pc := 29) (v := 1) C dX9_bell_29 ic_1 ?_
      refine g_callVi (pc := 30) (As := [.int r26, .int 1]) (rest := []) C rfl rfl rfl rfl (M_X9_tells C.2.2.1  h) CyX9_tells tw_974 tw_976 ts_27 (by decide) rfl rfl (Nat.le_of_ble_eq_true rfl) dX9_bell_30 (fun r30 t30 h => ?_)
      exact g_iret (pc := 33) C dX9_bell_33 ⟨_, rfl, h⟩
    · replace h := ite_t h c_
      refine g_lv [] (lv2 := []) rfl ?_
      exact k_X9_bell_20 C  h
set_option maxHeartbeats 4000000 in
set_option maxRecDepth 100000 in
theorem k_X9_byteAt_27 {w0 : Int32} {σ : St} {K : Int32 → Prop} (C : Cx p R s m args meth c shM G cX9_byteAt 3 1 RX9 (some .int) 0 0) (h : J_X9_byteAt_27 w0 σ K) : Go p l e R s m args below meth c shM G 3 0 0 (MQ below (Qw shM G (RI (fun r t => t = σ ∧ K r))) args s 0 0 (Fr shM G)) 27 [] [.int w0] σ := by
  unfold J_X9_byteAt_27 at h
  exact g_iret (pc := 27) C dX9_byteAt_27 ⟨_, rfl, ⟨rfl, h⟩⟩
set_option maxHeartbeats 4000000 in
set_option maxRecDepth 100000 in
theorem M_X9_byteAt {l : Launch} {G : Gp} (hD : Dj shM G) {v1 : Int32} {v2 : Int32} {σ : St} {K : Int32 → Prop} (h : wp_X9_byteAt v1 v2 σ K) : MC l shM G yX9_byteAt cX9_byteAt 3 (some .int) 1 [.ref (G.2.2 0), .int v1, .int v2] σ (RI (fun r t => t = σ ∧ K r)) := by
  unfold wp_X9_byteAt at h
  refine MC.of (by decide) hD (Nat.le_of_ble_eq_true rfl) ?_
  intro p e s m args below meth c C
  replace C : Cx p (rmD 1) s m args meth c shM G cX9_byteAt 3 1 RX9 (some .int) 0 0 := C
  show Go p l e (rmD 1) s m args below meth c shM G 3 0 0 (MQ below (Qw shM G (RI (fun r t => t = σ ∧ K r))) args s 0 0 (Fr shM G)) 0 [(0, .ref (G.2.2 0)), (1, .int v1), (2, .int v2)] [] σ
  refine g_iload_n (pc := 0) C 2 dX9_byteAt_0 rfl rfl ?_
  refine g_aload_n (pc := 1) C 0 dX9_byteAt_1 rfl rfl ?_
  refine get_X9_6 (pc := 2) C rfl tw_868 dX9_byteAt_2 ?_
  refine g_iload_n (pc := 5) C 1 dX9_byteAt_5 rfl rfl ?_
  obtain ⟨g_, h⟩ := h
  refine g_iald (pc := 6) C rfl g_ dX9_byteAt_6 ?_
  refine g_icmp_ge (pc := 7) (tgt := 24) C dX9_byteAt_7 (by decide) (fun c_ => ?_) (fun c_ => ?_)
  · replace h := ite_t h c_
    refine g_sipush (pc := 24) (v := -1000) C dX9_byteAt_24 sp_m1000 ?_
    refine g_lv [] (lv2 := []) rfl ?_
    exact k_X9_byteAt_27 C  h
  · replace h := ite_f h c_
    refine g_aload_n (pc := 10) C 0 dX9_byteAt_10 rfl rfl ?_
    refine get_X9_5 (pc := 11) C rfl tw_867 dX9_byteAt_11 ?_
    refine g_bipush (pc := 14) (v := 60) C dX9_byteAt_14 bp_60 ?_
    refine g_iload_n (pc := 16) C 1 dX9_byteAt_16 rfl rfl ?_
    refine g_imul (pc := 17) C dX9_byteAt_17 ?_
    refine g_iload_n (pc := 18) C 2 dX9_byteAt_18 rfl rfl ?_
    refine g_iadd (pc := 19) C dX9_byteAt_19 ?_
    obtain ⟨g_, h⟩ := h
    refine g_iald (pc := 20) C rfl g_ dX9_byteAt_20 ?_
    refine g_goto (pc := 21) (tgt := 27) C dX9_byteAt_21 (by decide) ?_
    refine g_lv [] (lv2 := []) rfl ?_
    exact k_X9_byteAt_27 C  h
set_option maxHeartbeats 4000000 in
set_option maxRecDepth 100000 in
theorem k_X9_blanks_0 {v1 : Int32} {σ : St} {K : St → Prop} (C : Cx p R s m args meth c shM G cX9_blanks 2 2 RX9 none 0 0) (h : L_X9_blanks_0 v1 K σ) : Go p l e R s m args below meth c shM G 2 0 0 (MQ below (Qw shM G (RV K)) args s 0 0 (Fr shM G)) 0 [(0, .ref (G.2.2 0)), (1, .int v1)] [] σ := by
  obtain ⟨n_, h⟩ := h
  induction n_ generalizing σ with
  | zero => exact h.elim
  | succ n_ ih =>
    replace h : B_X9_blanks_0 v1 K (it1 (B_X9_blanks_0 v1 K) n_) σ := h
    unfold B_X9_blanks_0 at h
    refine g_aload_n (pc := 0) C 0 dX9_blanks_0 rfl rfl ?_
    refine g_iload_n (pc := 1) C 1 dX9_blanks_1 rfl rfl ?_
    refine g_aload_n (pc := 2) C 0 dX9_blanks_2 rfl rfl ?_
    refine get_X9_13 (pc := 3) C rfl tw_875 dX9_blanks_3 ?_
    refine g_callVip (pc := 6) (As := [.int v1, .int (σ.1 0 13)]) (rest := []) C rfl rfl rfl rfl (M_X9_byteAt C.2.2.1  h) CyX9_byteAt tw_1018 tw_1020 ts_30 (by decide) rfl rfl (Nat.le_of_ble_eq_true rfl) dX9_blanks_6 (fun r6 h => ?_)
    refine g_bipush (pc := 9) (v := 32) C dX9_blanks_9 bp_32 ?_
    refine g_icmp_ne (pc := 11) (tgt := 27) C dX9_blanks_11 (by decide) (fun c_ => ?_) (fun c_ => ?_)
    · replace h := ite_f h c_
      exact g_vret (pc := 27) C dX9_blanks_27 ⟨rfl, h⟩
    · replace h := ite_t h c_
      refine g_aload_n (pc := 14) C 0 dX9_blanks_14 rfl rfl ?_
      refine g_dup (pc := 15) C dX9_blanks_15 rfl ?_
      refine get_X9_13 (pc := 16) C rfl tw_875 dX9_blanks_16 ?_
      refine g_iconst (pc := 19) (v := 1) C dX9_blanks_19 ic_1 ?_
      refine g_iadd (pc := 20) C dX9_blanks_20 ?_
      refine put_X9_13 (pc := 21) C rfl tw_875 dX9_blanks_21 ?_
      refine g_goto (pc := 24) (tgt := 0) C dX9_blanks_24 (by decide) ?_
      refine g_lv [0, 1] (lv2 := [(0, .ref (G.2.2 0)), (1, .int v1)]) rfl ?_
      exact ih h
set_option maxHeartbeats 4000000 in
set_option maxRecDepth 100000 in
theorem M_X9_blanks {l : Launch} {G : Gp} (hD : Dj shM G) {v1 : Int32} {σ : St} {K : St → Prop} (h : wp_X9_blanks v1 σ K) : MC l shM G yX9_blanks cX9_blanks 2 none 2 [.ref (G.2.2 0), .int v1] σ (RV K) := by
  unfold wp_X9_blanks at h
  refine MC.of (by decide) hD (Nat.le_of_ble_eq_true rfl) ?_
  intro p e s m args below meth c C
  replace C : Cx p (rmD 2) s m args meth c shM G cX9_blanks 2 2 RX9 none 0 0 := C
  show Go p l e (rmD 2) s m args below meth c shM G 2 0 0 (MQ below (Qw shM G (RV K)) args s 0 0 (Fr shM G)) 0 [(0, .ref (G.2.2 0)), (1, .int v1)] [] σ
  refine g_lv [0, 1] (lv2 := [(0, .ref (G.2.2 0)), (1, .int v1)]) rfl ?_
  exact k_X9_blanks_0 C  h
set_option maxHeartbeats 4000000 in
set_option maxRecDepth 100000 in
theorem k_X9_broke_15 {σ : St} {K : Int32 → St → Prop} (C : Cx p R s m args meth c shM G cX9_broke 5 3 RX9 (some .int) 0 0) (h : J_X9_broke_15 σ K) : Go p l e R s m args below meth c shM G 5 0 0 (MQ below (Qw shM G (RI K)) args s 0 0 (Fr shM G)) 15 [] [] σ := by
  unfold J_X9_broke_15 at h
  refine g_iconst (pc := 15) (v := -1) C dX9_broke_15 ic_m1 ?_
  exact g_iret (pc := 16) C dX9_broke_16 ⟨_, rfl, h⟩
set_option maxHeartbeats 4000000 in
set_option maxRecDepth 100000 in
theorem k_X9_broke_97 {v1 : Int32} {v2 : Int32} {v3 : Int32} {v4 : Int32} {σ : St} {K : Int32 → St → Prop} (C : Cx p R s m args meth c shM G cX9_broke 5 3 RX9 (some .int) 0 0) (h : L_X9_broke_97 v1 v2 σ K v3 v4) : Go p l e R s m args below meth c shM G 5 0 0 (MQ below (Qw shM G (RI K)) args s 0 0 (Fr shM G)) 97 [(0, .ref (G.2.2 0)), (1, .int v1), (2, .int v2), (3, .int v3), (4, .int v4)] [] σ := by
  obtain ⟨n_, h⟩ := h
  induction n_ generalizing v3 v4 with
  | zero => exact h.elim
  | succ n_ ih =>
    replace h : B_X9_broke_97 v1 v2 σ K (it2 (B_X9_broke_97 v1 v2 σ K) n_) v3 v4 := h
    unfold B_X9_broke_97 at h
    refine g_iload (pc := 97) C 4 dX9_broke_97 rfl ?_
    refine g_aload_n (pc := 99) C 0 dX9_broke_99 rfl rfl ?_
    refine get_X9_4 (pc := 100) C rfl tw_866 dX9_broke_100 ?_
    refine g_iload_n (pc := 103) C 2 dX9_broke_103 rfl rfl ?_
    obtain ⟨g_, h⟩ := h
    refine g_iald (pc := 104) C rfl g_ dX9_broke_104 ?_
    refine g_icmp_ge (pc := 105) (tgt := 155) C dX9_broke_105 (by decide) (fun c_ => ?_) (fun c_ => ?_)
    · replace h := ite_t h c_
      refine g_bipush (pc := 155) (v := -9) C dX9_broke_155 bp_m9 ?_
      exact g_iret (pc := 157) C dX9_broke_157 ⟨_, rfl, h⟩
    · replace h := ite_f h c_
      refine g_aload_n (pc := 108) C 0 dX9_broke_108 rfl rfl ?_
      refine get_X9_0 (pc := 109) C rfl tw_862 dX9_broke_109 ?_
      refine g_iconst (pc := 112) (v := 2) C dX9_broke_112 ic_2 ?_
      refine g_iload_n (pc := 113) C 1 dX9_broke_113 rfl rfl ?_
      refine g_iadd (pc := 114) C dX9_broke_114 ?_
      obtain ⟨g_, h⟩ := h
      refine g_iald (pc := 115) C rfl g_ dX9_broke_115 ?_
      refine g_iload_n (pc := 116) C 3 dX9_broke_116 rfl rfl ?_
      refine g_aload_n (pc := 117) C 0 dX9_broke_117 rfl rfl ?_
      refine get_X9_3 (pc := 118) C rfl tw_865 dX9_broke_118 ?_
      refine g_bipush (pc := 121) (v := 40) C dX9_broke_121 bp_40 ?_
      refine g_iload_n (pc := 123) C 2 dX9_broke_123 rfl rfl ?_
      refine g_imul (pc := 124) C dX9_broke_124 ?_
      refine g_iload (pc := 125) C 4 dX9_broke_125 rfl ?_
      refine g_iadd (pc := 127) C dX9_broke_127 ?_
      obtain ⟨g_, h⟩ := h
      refine g_iald (pc := 128) C rfl g_ dX9_broke_128 ?_
      refine g_callSip (pc := 129) (As := [.int (σ.1 1 (2 + v1).toNatClampNeg), .int v3, .int (σ.1 3 ((40 * v2) + v4).toNatClampNeg)]) (rest := []) C (M_X9_after C.2.2.1  h) CyX9_after tw_1061 tw_1062 (by decide) rfl rfl (Nat.le_of_ble_eq_true rfl) dX9_broke_129 (fun r129 h => ?_)
      refine g_istore_n (pc := 132) (lv2 := [(3, .int r129), (0, .ref (G.2.2 0)), (1, .int v1), (2, .int v2), (4, .int v4)]) C dX9_broke_132 rfl (by decide) rfl ?_
      refine g_iload_n (pc := 133) C 0 dX9_broke_133 rfl rfl ?_
      refine g_iconst (pc := 134) (v := -1) C dX9_broke_134 ic_m1 ?_
      refine g_icmp_ne (pc := 135) (tgt := 149) C dX9_broke_135 (by decide) (fun c_ => ?_) (fun c_ => ?_)
      · replace h := ite_f h c_
        refine g_iinc (pc := 149) (lv2 := [(4, .int (v4 + 1)), (3, .int r129), (0, .ref (G.2.2 0)), (1, .int v1), (2, .int v2)]) C 4 dX9_broke_149 ic_1 rfl (by decide) rfl ?_
        refine g_goto (pc := 152) (tgt := 97) C dX9_broke_152 (by decide) ?_
        refine g_lv [2, 3, 4, 1, 0] (lv2 := [(0, .ref (G.2.2 0)), (1, .int v1), (2, .int v2), (3, .int r129), (4, .int (v4 + 1))]) rfl ?_
        exact ih h
      · replace h := ite_t h c_
        refine g_aload_n (pc := 138) C 1 dX9_broke_138 rfl rfl ?_
        refine g_iload (pc := 139) C 4 dX9_broke_139 rfl ?_
        refine g_iconst (pc := 141) (v := 2) C dX9_broke_141 ic_2 ?_
        refine g_irem (pc := 142) C dX9_broke_142 (by decide) ?_
        refine g_iload (pc := 143) C 4 dX9_broke_143 rfl ?_
        refine g_callVi (pc := 145) (As := [.int (irm v4 2), .int v4]) (rest := []) C rfl rfl rfl rfl (M_X9_tells C.2.2.1  h) CyX9_tells tw_974 tw_976 ts_27 (by decide) rfl rfl (Nat.le_of_ble_eq_true rfl) dX9_broke_145 (fun r145 t145 h => ?_)
        exact g_iret (pc := 148) C dX9_broke_148 ⟨_, rfl, h⟩
set_option maxHeartbeats 4000000 in
set_option maxRecDepth 100000 in
theorem k_X9_broke_45 {v1 : Int32} {v2 : Int32} {v3 : Int32} {σ : St} {K : Int32 → St → Prop} (C : Cx p R s m args meth c shM G cX9_broke 5 3 RX9 (some .int) 0 0) (h : L_X9_broke_45 v1 v2 σ K v3) : Go p l e R s m args below meth c shM G 5 0 0 (MQ below (Qw shM G (RI K)) args s 0 0 (Fr shM G)) 45 [(0, .ref (G.2.2 0)), (1, .int v1), (2, .int v2), (3, .int v3)] [] σ := by
  obtain ⟨n_, h⟩ := h
  induction n_ generalizing v3 with
  | zero => exact h.elim
  | succ n_ ih =>
    replace h : B_X9_broke_45 v1 v2 σ K (it1 (B_X9_broke_45 v1 v2 σ K) n_) v3 := h
    unfold B_X9_broke_45 at h
    refine g_iload_n (pc := 45) C 3 dX9_broke_45 rfl rfl ?_
    refine g_aload_n (pc := 46) C 0 dX9_broke_46 rfl rfl ?_
    refine get_X9_4 (pc := 47) C rfl tw_866 dX9_broke_47 ?_
    refine g_iload_n (pc := 50) C 2 dX9_broke_50 rfl rfl ?_
    obtain ⟨g_, h⟩ := h
    refine g_iald (pc := 51) C rfl g_ dX9_broke_51 ?_
    refine g_icmp_ge (pc := 52) (tgt := 84) C dX9_broke_52 (by decide) (fun c_ => ?_) (fun c_ => ?_)
    · replace h := ite_t h c_
      refine g_aload_n (pc := 84) C 0 dX9_broke_84 rfl rfl ?_
      refine get_X9_0 (pc := 85) C rfl tw_862 dX9_broke_85 ?_
      refine g_bipush (pc := 88) (v := 14) C dX9_broke_88 bp_14 ?_
      refine g_iload_n (pc := 90) C 1 dX9_broke_90 rfl rfl ?_
      refine g_iadd (pc := 91) C dX9_broke_91 ?_
      obtain ⟨g_, h⟩ := h
      refine g_iald (pc := 92) C rfl g_ dX9_broke_92 ?_
      refine g_istore_n (pc := 93) (lv2 := [(3, .int (σ.1 1 (14 + v1).toNatClampNeg)), (0, .ref (G.2.2 0)), (1, .int v1), (2, .int v2)]) C dX9_broke_93 rfl (by decide) rfl ?_
      refine g_iconst (pc := 94) (v := 0) C dX9_broke_94 ic_0 ?_
      refine g_istore (pc := 95) (lv2 := [(4, .int 0), (3, .int (σ.1 1 (14 + v1).toNatClampNeg)), (0, .ref (G.2.2 0)), (1, .int v1), (2, .int v2)]) C dX9_broke_95 (by decide) rfl ?_
      refine g_lv [2, 3, 4, 1, 0] (lv2 := [(0, .ref (G.2.2 0)), (1, .int v1), (2, .int v2), (3, .int (σ.1 1 (14 + v1).toNatClampNeg)), (4, .int 0)]) rfl ?_
      exact k_X9_broke_97 C  h
    · replace h := ite_f h c_
      refine g_aload_n (pc := 55) C 0 dX9_broke_55 rfl rfl ?_
      refine get_X9_3 (pc := 56) C rfl tw_865 dX9_broke_56 ?_
      refine g_bipush (pc := 59) (v := 40) C dX9_broke_59 bp_40 ?_
      refine g_iload_n (pc := 61) C 2 dX9_broke_61 rfl rfl ?_
      refine g_imul (pc := 62) C dX9_broke_62 ?_
      refine g_iload_n (pc := 63) C 3 dX9_broke_63 rfl rfl ?_
      refine g_iadd (pc := 64) C dX9_broke_64 ?_
      obtain ⟨g_, h⟩ := h
      refine g_iald (pc := 65) C rfl g_ dX9_broke_65 ?_
      refine g_callSip (pc := 66) (As := [.int (σ.1 3 ((40 * v2) + v3).toNatClampNeg)]) (rest := []) C (M_X9_isPull C.2.2.1  h) CyX9_isPull tw_1085 tw_1086 (by decide) rfl rfl (Nat.le_of_ble_eq_true rfl) dX9_broke_66 (fun r66 h => ?_)
      refine g_if_ne (pc := 69) (tgt := 78) C dX9_broke_69 (by decide) (fun c_ => ?_) (fun c_ => ?_)
      · replace h := ite_f h c_
        refine g_iinc (pc := 78) (lv2 := [(3, .int (v3 + 1)), (0, .ref (G.2.2 0)), (1, .int v1), (2, .int v2)]) C 3 dX9_broke_78 ic_1 rfl (by decide) rfl ?_
        refine g_goto (pc := 81) (tgt := 45) C dX9_broke_81 (by decide) ?_
        refine g_lv [1, 2, 3, 0] (lv2 := [(0, .ref (G.2.2 0)), (1, .int v1), (2, .int v2), (3, .int (v3 + 1))]) rfl ?_
        exact ih h
      · replace h := ite_t h c_
        refine g_aload_n (pc := 72) C 0 dX9_broke_72 rfl rfl ?_
        refine g_iconst (pc := 73) (v := 3) C dX9_broke_73 ic_3 ?_
        refine g_callVi (pc := 74) (As := [.int 3]) (rest := []) C rfl rfl rfl rfl (M_X9_found C.2.2.1  h) CyX9_found tw_958 tw_960 ts_25 (by decide) rfl rfl (Nat.le_of_ble_eq_true rfl) dX9_broke_74 (fun r74 t74 h => ?_)
        exact g_iret (pc := 77) C dX9_broke_77 ⟨_, rfl, h⟩
set_option maxHeartbeats 4000000 in
set_option maxRecDepth 100000 in
theorem M_X9_broke {l : Launch} {G : Gp} (hD : Dj shM G) {v1 : Int32} {v2 : Int32} {σ : St} {K : Int32 → St → Prop} (h : wp_X9_broke v1 v2 σ K) : MC l shM G yX9_broke cX9_broke 5 (some .int) 3 [.ref (G.2.2 0), .int v1, .int v2] σ (RI K) := by
  unfold wp_X9_broke at h
  refine MC.of (by decide) hD (Nat.le_of_ble_eq_true rfl) ?_
  intro p e s m args below meth c C
  replace C : Cx p (rmD 3) s m args meth c shM G cX9_broke 5 3 RX9 (some .int) 0 0 := C
  show Go p l e (rmD 3) s m args below meth c shM G 5 0 0 (MQ below (Qw shM G (RI K)) args s 0 0 (Fr shM G)) 0 [(0, .ref (G.2.2 0)), (1, .int v1), (2, .int v2)] [] σ
  refine g_aload_n (pc := 0) C 0 dX9_broke_0 rfl rfl ?_
  refine g_iload_n (pc := 1) C 1 dX9_broke_1 rfl rfl ?_
  refine g_callVip (pc := 2) (As := [.int v1]) (rest := []) C rfl rfl rfl rfl (M_X9_isBell C.2.2.1  h) CyX9_isBell tw_1045 tw_1047 ts_34 (by decide) rfl rfl (Nat.le_of_ble_eq_true rfl) dX9_broke_2 (fun r2 h => ?_)
  refine g_if_eq (pc := 5) (tgt := 15) C dX9_broke_5 (by decide) (fun c_ => ?_) (fun c_ => ?_)
  · replace h := ite_t h c_
    refine g_lv [] (lv2 := []) rfl ?_
    exact k_X9_broke_15 C  h
  · replace h := ite_f h c_
    refine g_iload_n (pc := 8) C 2 dX9_broke_8 rfl rfl ?_
    refine g_callSip (pc := 9) (As := [.int v2]) (rest := []) C (M_X9_isRow C.2.2.1  h) CyX9_isRow tw_951 tw_952 (by decide) rfl rfl (Nat.le_of_ble_eq_true rfl) dX9_broke_9 (fun r9 h => ?_)
    refine g_if_ne (pc := 12) (tgt := 17) C dX9_broke_12 (by decide) (fun c_ => ?_) (fun c_ => ?_)
    · replace h := ite_f h c_
      refine g_aload_n (pc := 17) C 0 dX9_broke_17 rfl rfl ?_
      refine g_iload_n (pc := 18) C 1 dX9_broke_18 rfl rfl ?_
      refine g_callVip (pc := 19) (As := [.int v1]) (rest := []) C rfl rfl rfl rfl (M_X9_isOver C.2.2.1  h) CyX9_isOver tw_1089 tw_1091 ts_38 (by decide) rfl rfl (Nat.le_of_ble_eq_true rfl) dX9_broke_19 (fun r19 h => ?_)
      refine g_if_eq (pc := 22) (tgt := 28) C dX9_broke_22 (by decide) (fun c_ => ?_) (fun c_ => ?_)
      · replace h := ite_t h c_
        refine g_aload_n (pc := 28) C 0 dX9_broke_28 rfl rfl ?_
        refine get_X9_4 (pc := 29) C rfl tw_866 dX9_broke_29 ?_
        refine g_iload_n (pc := 32) C 2 dX9_broke_32 rfl rfl ?_
        obtain ⟨g_, h⟩ := h
        refine g_iald (pc := 33) C rfl g_ dX9_broke_33 ?_
        refine g_if_ge (pc := 34) (tgt := 43) C dX9_broke_34 (by decide) (fun c_ => ?_) (fun c_ => ?_)
        · replace h := ite_t h c_
          refine g_iconst (pc := 43) (v := 0) C dX9_broke_43 ic_0 ?_
          refine g_istore_n (pc := 44) (lv2 := [(3, .int 0), (0, .ref (G.2.2 0)), (1, .int v1), (2, .int v2)]) C dX9_broke_44 rfl (by decide) rfl ?_
          refine g_lv [1, 2, 3, 0] (lv2 := [(0, .ref (G.2.2 0)), (1, .int v1), (2, .int v2), (3, .int 0)]) rfl ?_
          exact k_X9_broke_45 C  h
        · replace h := ite_f h c_
          refine g_aload_n (pc := 37) C 0 dX9_broke_37 rfl rfl ?_
          refine g_iconst (pc := 38) (v := 1) C dX9_broke_38 ic_1 ?_
          refine g_callVi (pc := 39) (As := [.int 1]) (rest := []) C rfl rfl rfl rfl (M_X9_found C.2.2.1  h) CyX9_found tw_958 tw_960 ts_25 (by decide) rfl rfl (Nat.le_of_ble_eq_true rfl) dX9_broke_39 (fun r39 t39 h => ?_)
          exact g_iret (pc := 42) C dX9_broke_42 ⟨_, rfl, h⟩
      · replace h := ite_f h c_
        refine g_bipush (pc := 25) (v := -4) C dX9_broke_25 bp_m4 ?_
        exact g_iret (pc := 27) C dX9_broke_27 ⟨_, rfl, h⟩
    · replace h := ite_t h c_
      refine g_lv [] (lv2 := []) rfl ?_
      exact k_X9_broke_15 C  h
end MM

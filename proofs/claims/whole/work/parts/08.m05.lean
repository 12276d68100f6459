section MM
variable {p : Program} {l : Launch} {e : Env} {R : Room} {s : State} {m : MethodId} {args : Array Value} {below : List Frame} {meth : Method} {c : Code} {G : Gp}
set_option maxHeartbeats 4000000 in
set_option maxRecDepth 100000 in
theorem k_X9_faultOf_119 {v1 : Int32} {σ : St} {K : Int32 → St → Prop} {Φ95 : St → Prop} (C : Cx p R s m args meth c shM G cX9_faultOf 3 4 RX9 (some .int) 0 0) (hΦ95 : ∀ (σ' : St), Φ95 σ' → Go p l e R s m args below meth c shM G 3 0 0 (MQ below (Qw shM G (RI K)) args s 0 0 (Fr shM G)) 95 [(0, .ref (G.2.2 0)), (1, .int v1)] [] σ') (h : J_X9_faultOf_119 v1 σ K Φ95) : Go p l e R s m args below meth c shM G 3 0 0 (MQ below (Qw shM G (RI K)) args s 0 0 (Fr shM G)) 119 [(0, .ref (G.2.2 0)), (1, .int v1)] [] σ := by
  unfold J_X9_faultOf_119 at h
  refine g_aload_n (pc := 119) C 0 dX9_faultOf_119 rfl rfl ?_
  refine g_iload_n (pc := 120) C 1 dX9_faultOf_120 rfl rfl ?_
  refine g_callVi (pc := 121) (As := [.int v1]) (rest := []) C rfl rfl rfl rfl (M_X9_takesBell C.2.2.1  h) CyX9_takesBell tw_1026 tw_1028 ts_32 (by decide) rfl rfl (Nat.le_of_ble_eq_true rfl) dX9_faultOf_121 (fun r121 t121 h => ?_)
  refine g_if_ne (pc := 124) (tgt := 132) C dX9_faultOf_124 (by decide) (fun c_ => ?_) (fun c_ => ?_)
  · replace h := ite_f h c_
    refine g_aload_n (pc := 132) C 0 dX9_faultOf_132 rfl rfl ?_
    refine g_iload_n (pc := 133) C 1 dX9_faultOf_133 rfl rfl ?_
    refine g_callVv (pc := 134) (As := [.int v1]) (rest := []) C rfl rfl rfl rfl (M_X9_blanks C.2.2.1  h) CyX9_blanks tw_1014 tw_1016 ts_29 (by decide) rfl rfl (Nat.le_of_ble_eq_true rfl) dX9_faultOf_134 (fun t134 h => ?_)
    refine g_goto (pc := 137) (tgt := 95) C dX9_faultOf_137 (by decide) ?_
    refine g_lv [0, 1] (lv2 := [(0, .ref (G.2.2 0)), (1, .int v1)]) rfl ?_
    exact hΦ95 _ h
  · replace h := ite_t h c_
    refine g_aload_n (pc := 127) C 0 dX9_faultOf_127 rfl rfl ?_
    refine get_X9_13 (pc := 128) C rfl tw_875 dX9_faultOf_128 ?_
    exact g_iret (pc := 131) C dX9_faultOf_131 ⟨_, rfl, h⟩
set_option maxHeartbeats 4000000 in
set_option maxRecDepth 100000 in
theorem k_X9_faultOf_95 {v1 : Int32} {σ : St} {K : Int32 → St → Prop} (C : Cx p R s m args meth c shM G cX9_faultOf 3 4 RX9 (some .int) 0 0) (h : L_X9_faultOf_95 v1 K σ) : Go p l e R s m args below meth c shM G 3 0 0 (MQ below (Qw shM G (RI K)) args s 0 0 (Fr shM G)) 95 [(0, .ref (G.2.2 0)), (1, .int v1)] [] σ := by
  obtain ⟨n_, h⟩ := h
  induction n_ generalizing σ with
  | zero => exact h.elim
  | succ n_ ih =>
    replace h : B_X9_faultOf_95 v1 K (it1 (B_X9_faultOf_95 v1 K) n_) σ := h
    unfold B_X9_faultOf_95 at h
    refine g_aload_n (pc := 95) C 0 dX9_faultOf_95 rfl rfl ?_
    refine get_X9_13 (pc := 96) C rfl tw_875 dX9_faultOf_96 ?_
    refine g_aload_n (pc := 99) C 0 dX9_faultOf_99 rfl rfl ?_
    refine get_X9_6 (pc := 100) C rfl tw_868 dX9_faultOf_100 ?_
    refine g_iload_n (pc := 103) C 1 dX9_faultOf_103 rfl rfl ?_
    obtain ⟨g_, h⟩ := h
    refine g_iald (pc := 104) C rfl g_ dX9_faultOf_104 ?_
    refine g_icmp_lt (pc := 105) (tgt := 119) C dX9_faultOf_105 (by decide) (fun c_ => ?_) (fun c_ => ?_)
    · replace h := ite_t h c_
      refine g_lv [0, 1] (lv2 := [(0, .ref (G.2.2 0)), (1, .int v1)]) rfl ?_
      exact k_X9_faultOf_119 C (fun _ h_ => ih h_) h
    · replace h := ite_f h c_
      refine g_aload_n (pc := 108) C 0 dX9_faultOf_108 rfl rfl ?_
      refine get_X9_0 (pc := 109) C rfl tw_862 dX9_faultOf_109 ?_
      refine g_sipush (pc := 112) (v := 5248) C dX9_faultOf_112 sp_5248 ?_
      obtain ⟨g_, h⟩ := h
      refine g_iald (pc := 115) C rfl g_ dX9_faultOf_115 ?_
      refine g_if_ne (pc := 116) (tgt := 140) C dX9_faultOf_116 (by decide) (fun c_ => ?_) (fun c_ => ?_)
      · replace h := ite_f h c_
        refine g_bipush (pc := 140) (v := -9) C dX9_faultOf_140 bp_m9 ?_
        exact g_iret (pc := 142) C dX9_faultOf_142 ⟨_, rfl, h⟩
      · replace h := ite_t h c_
        refine g_lv [0, 1] (lv2 := [(0, .ref (G.2.2 0)), (1, .int v1)]) rfl ?_
        exact k_X9_faultOf_119 C (fun _ h_ => ih h_) h
set_option maxHeartbeats 4000000 in
set_option maxRecDepth 100000 in
theorem k_X9_faultOf_2 {v1 : Int32} {v2 : Int32} {σ : St} {K : Int32 → St → Prop} (C : Cx p R s m args meth c shM G cX9_faultOf 3 4 RX9 (some .int) 0 0) (h : L_X9_faultOf_2 v1 K v2 σ) : Go p l e R s m args below meth c shM G 3 0 0 (MQ below (Qw shM G (RI K)) args s 0 0 (Fr shM G)) 2 [(0, .ref (G.2.2 0)), (1, .int v1), (2, .int v2)] [] σ := by
  obtain ⟨n_, h⟩ := h
  induction n_ generalizing v2 σ with
  | zero => exact h.elim
  | succ n_ ih =>
    replace h : B_X9_faultOf_2 v1 K (it2 (B_X9_faultOf_2 v1 K) n_) v2 σ := h
    unfold B_X9_faultOf_2 at h
    refine g_iload_n (pc := 2) C 2 dX9_faultOf_2 rfl rfl ?_
    refine g_bipush (pc := 3) (v := 32) C dX9_faultOf_3 bp_32 ?_
    refine g_icmp_ge (pc := 5) (tgt := 25) C dX9_faultOf_5 (by decide) (fun c_ => ?_) (fun c_ => ?_)
    · replace h := ite_t h c_
      refine g_aload_n (pc := 25) C 0 dX9_faultOf_25 rfl rfl ?_
      refine g_iconst (pc := 26) (v := 0) C dX9_faultOf_26 ic_0 ?_
      refine put_X9_13 (pc := 27) C rfl tw_875 dX9_faultOf_27 ?_
      refine g_aload_n (pc := 30) C 0 dX9_faultOf_30 rfl rfl ?_
      refine g_iload_n (pc := 31) C 1 dX9_faultOf_31 rfl rfl ?_
      refine g_callVv (pc := 32) (As := [.int v1]) (rest := []) C rfl rfl rfl rfl (M_X9_blanks C.2.2.1  h) CyX9_blanks tw_1014 tw_1016 ts_29 (by decide) rfl rfl (Nat.le_of_ble_eq_true rfl) dX9_faultOf_32 (fun t32 h => ?_)
      refine g_aload_n (pc := 35) C 0 dX9_faultOf_35 rfl rfl ?_
      refine g_iload_n (pc := 36) C 1 dX9_faultOf_36 rfl rfl ?_
      refine g_aload_n (pc := 37) C 0 dX9_faultOf_37 rfl rfl ?_
      refine get_X9_13 (pc := 38) C rfl tw_875 dX9_faultOf_38 ?_
      refine g_callVip (pc := 41) (As := [.int v1, .int (t32.1 0 13)]) (rest := []) C rfl rfl rfl rfl (M_X9_byteAt C.2.2.1  h) CyX9_byteAt tw_1018 tw_1020 ts_30 (by decide) rfl rfl (Nat.le_of_ble_eq_true rfl) dX9_faultOf_41 (fun r41 h => ?_)
      refine g_bipush (pc := 44) (v := 100) C dX9_faultOf_44 bp_100 ?_
      refine g_icmp_eq (pc := 46) (tgt := 54) C dX9_faultOf_46 (by decide) (fun c_ => ?_) (fun c_ => ?_)
      · replace h := ite_t h c_
        refine g_aload_n (pc := 54) C 0 dX9_faultOf_54 rfl rfl ?_
        refine g_dup (pc := 55) C dX9_faultOf_55 rfl ?_
        refine get_X9_13 (pc := 56) C rfl tw_875 dX9_faultOf_56 ?_
        refine g_iconst (pc := 59) (v := 1) C dX9_faultOf_59 ic_1 ?_
        refine g_iadd (pc := 60) C dX9_faultOf_60 ?_
        refine put_X9_13 (pc := 61) C rfl tw_875 dX9_faultOf_61 ?_
        refine g_aload_n (pc := 64) C 0 dX9_faultOf_64 rfl rfl ?_
        refine g_iload_n (pc := 65) C 1 dX9_faultOf_65 rfl rfl ?_
        refine g_iconst (pc := 66) (v := 0) C dX9_faultOf_66 ic_0 ?_
        refine g_iconst (pc := 67) (v := 3) C dX9_faultOf_67 ic_3 ?_
        refine g_callVi (pc := 68) (As := [.int v1, .int 0, .int 3]) (rest := []) C rfl rfl rfl rfl (M_X9_figure C.2.2.1  h) CyX9_figure tw_1022 tw_1024 ts_31 (by decide) rfl rfl (Nat.le_of_ble_eq_true rfl) dX9_faultOf_68 (fun r68 t68 h => ?_)
        refine g_istore_n (pc := 71) (lv2 := [(2, .int r68), (0, .ref (G.2.2 0)), (1, .int v1)]) C dX9_faultOf_71 rfl (by decide) rfl ?_
        refine g_iload_n (pc := 72) C 0 dX9_faultOf_72 rfl rfl ?_
        refine g_if_ge (pc := 73) (tgt := 81) C dX9_faultOf_73 (by decide) (fun c_ => ?_) (fun c_ => ?_)
        · replace h := ite_t h c_
          refine g_aload_n (pc := 81) C 1 dX9_faultOf_81 rfl rfl ?_
          refine get_X9_0 (pc := 82) C rfl tw_862 dX9_faultOf_82 ?_
          refine g_sipush (pc := 85) (v := 5249) C dX9_faultOf_85 sp_5249 ?_
          refine g_iload_n (pc := 88) C 0 dX9_faultOf_88 rfl rfl ?_
          obtain ⟨g_, h⟩ := h
          refine g_iast (pc := 89) C rfl g_ dX9_faultOf_89 ?_
          refine g_aload_n (pc := 90) C 1 dX9_faultOf_90 rfl rfl ?_
          refine g_iload_n (pc := 91) C 2 dX9_faultOf_91 rfl rfl ?_
          refine g_callVv (pc := 92) (As := [.int v1]) (rest := []) C rfl rfl rfl rfl (M_X9_blanks C.2.2.1  h) CyX9_blanks tw_1014 tw_1016 ts_29 (by decide) rfl rfl (Nat.le_of_ble_eq_true rfl) dX9_faultOf_92 (fun t92 h => ?_)
          refine g_lv [1, 2] (lv2 := [(0, .ref (G.2.2 0)), (1, .int v1)]) rfl ?_
          exact k_X9_faultOf_95 C  h
        · replace h := ite_f h c_
          refine g_aload_n (pc := 76) C 1 dX9_faultOf_76 rfl rfl ?_
          refine get_X9_13 (pc := 77) C rfl tw_875 dX9_faultOf_77 ?_
          exact g_iret (pc := 80) C dX9_faultOf_80 ⟨_, rfl, h⟩
      · replace h := ite_f h c_
        refine g_aload_n (pc := 49) C 0 dX9_faultOf_49 rfl rfl ?_
        refine get_X9_13 (pc := 50) C rfl tw_875 dX9_faultOf_50 ?_
        exact g_iret (pc := 53) C dX9_faultOf_53 ⟨_, rfl, h⟩
    · replace h := ite_f h c_
      refine g_aload_n (pc := 8) C 0 dX9_faultOf_8 rfl rfl ?_
      refine get_X9_0 (pc := 9) C rfl tw_862 dX9_faultOf_9 ?_
      refine g_sipush (pc := 12) (v := 5248) C dX9_faultOf_12 sp_5248 ?_
      refine g_iload_n (pc := 15) C 2 dX9_faultOf_15 rfl rfl ?_
      refine g_iadd (pc := 16) C dX9_faultOf_16 ?_
      refine g_iconst (pc := 17) (v := 0) C dX9_faultOf_17 ic_0 ?_
      obtain ⟨g_, h⟩ := h
      refine g_iast (pc := 18) C rfl g_ dX9_faultOf_18 ?_
      refine g_iinc (pc := 19) (lv2 := [(2, .int (v2 + 1)), (0, .ref (G.2.2 0)), (1, .int v1)]) C 2 dX9_faultOf_19 ic_1 rfl (by decide) rfl ?_
      refine g_goto (pc := 22) (tgt := 2) C dX9_faultOf_22 (by decide) ?_
      refine g_lv [1, 2, 0] (lv2 := [(0, .ref (G.2.2 0)), (1, .int v1), (2, .int (v2 + 1))]) rfl ?_
      exact ih h
set_option maxHeartbeats 4000000 in
set_option maxRecDepth 100000 in
theorem M_X9_faultOf {l : Launch} {G : Gp} (hD : Dj shM G) {v1 : Int32} {σ : St} {K : Int32 → St → Prop} (h : wp_X9_faultOf v1 σ K) : MC l shM G yX9_faultOf cX9_faultOf 3 (some .int) 4 [.ref (G.2.2 0), .int v1] σ (RI K) := by
  unfold wp_X9_faultOf at h
  refine MC.of (by decide) hD (Nat.le_of_ble_eq_true rfl) ?_
  intro p e s m args below meth c C
  replace C : Cx p (rmD 4) s m args meth c shM G cX9_faultOf 3 4 RX9 (some .int) 0 0 := C
  show Go p l e (rmD 4) s m args below meth c shM G 3 0 0 (MQ below (Qw shM G (RI K)) args s 0 0 (Fr shM G)) 0 [(0, .ref (G.2.2 0)), (1, .int v1)] [] σ
  refine g_iconst (pc := 0) (v := 0) C dX9_faultOf_0 ic_0 ?_
  refine g_istore_n (pc := 1) (lv2 := [(2, .int 0), (0, .ref (G.2.2 0)), (1, .int v1)]) C dX9_faultOf_1 rfl (by decide) rfl ?_
  refine g_lv [1, 2, 0] (lv2 := [(0, .ref (G.2.2 0)), (1, .int v1), (2, .int 0)]) rfl ?_
  exact k_X9_faultOf_2 C  h
set_option maxHeartbeats 4000000 in
set_option maxRecDepth 100000 in
theorem M_X9_isText {l : Launch} {G : Gp} (hD : Dj shM G) {v0 : Int32} {σ : St} {K : Int32 → Prop} (h : wp_X9_isText v0 K) : MC l shM G yX9_isText cX9_isText 1 (some .boolean) 2 [.int v0] σ (RI (fun r t => t = σ ∧ K r)) := by
  unfold wp_X9_isText at h
  refine MC.of (by decide) hD (Nat.le_of_ble_eq_true rfl) ?_
  intro p e s m args below meth c C
  replace C : Cx p (rmD 2) s m args meth c shM G cX9_isText 1 2 RX9 (some .boolean) 0 0 := C
  show Go p l e (rmD 2) s m args below meth c shM G 1 0 0 (MQ below (Qw shM G (RI (fun r t => t = σ ∧ K r))) args s 0 0 (Fr shM G)) 0 [(0, .int v0)] [] σ
  refine g_iload_n (pc := 0) C 0 dX9_isText_0 rfl rfl ?_
  refine g_i2l (pc := 1) C dX9_isText_1 ?_
  refine g_lconst (pc := 2) (v := 0) C dX9_isText_2 lc_0 ?_
  refine g_ldc2 (pc := 3) (v := 3) C dX9_isText_3 tw_1001 ?_
  refine g_callSip (pc := 6) (As := [.long v0.toInt64, .long (0 : Int64), .long (3 : Int64)]) (rest := []) C (M_X9_in C.2.2.1  h) CyX9_in tw_955 tw_956 (by decide) rfl rfl (Nat.le_of_ble_eq_true rfl) dX9_isText_6 (fun r6 h => ?_)
  obtain ⟨g_, h⟩ := h
  exact g_zret (pc := 9) C g_ dX9_isText_9 ⟨_, rfl, ⟨rfl, h⟩⟩
set_option maxHeartbeats 4000000 in
set_option maxRecDepth 100000 in
theorem k_X9_fault_31 {w0 : Int32} {σ : St} {K : Int32 → St → Prop} (C : Cx p R s m args meth c shM G cX9_fault 2 5 RX9 (some .int) 0 0) (h : J_X9_fault_31 w0 σ K) : Go p l e R s m args below meth c shM G 2 0 0 (MQ below (Qw shM G (RI K)) args s 0 0 (Fr shM G)) 31 [] [.int w0] σ := by
  unfold J_X9_fault_31 at h
  exact g_iret (pc := 31) C dX9_fault_31 ⟨_, rfl, h⟩
set_option maxHeartbeats 4000000 in
set_option maxRecDepth 100000 in
theorem M_X9_fault {l : Launch} {G : Gp} (hD : Dj shM G) {v1 : Int32} {σ : St} {K : Int32 → St → Prop} (h : wp_X9_fault v1 σ K) : MC l shM G yX9_fault cX9_fault 2 (some .int) 5 [.ref (G.2.2 0), .int v1] σ (RI K) := by
  unfold wp_X9_fault at h
  refine MC.of (by decide) hD (Nat.le_of_ble_eq_true rfl) ?_
  intro p e s m args below meth c C
  replace C : Cx p (rmD 5) s m args meth c shM G cX9_fault 2 5 RX9 (some .int) 0 0 := C
  show Go p l e (rmD 5) s m args below meth c shM G 2 0 0 (MQ below (Qw shM G (RI K)) args s 0 0 (Fr shM G)) 0 [(0, .ref (G.2.2 0)), (1, .int v1)] [] σ
  refine g_iload_n (pc := 0) C 1 dX9_fault_0 rfl rfl ?_
  refine g_callSip (pc := 1) (As := [.int v1]) (rest := []) C (M_X9_isText C.2.2.1  h) CyX9_isText tw_998 tw_999 (by decide) rfl rfl (Nat.le_of_ble_eq_true rfl) dX9_fault_1 (fun r1 h => ?_)
  refine g_if_ne (pc := 4) (tgt := 9) C dX9_fault_4 (by decide) (fun c_ => ?_) (fun c_ => ?_)
  · replace h := ite_f h c_
    refine g_aload_n (pc := 9) C 0 dX9_fault_9 rfl rfl ?_
    refine get_X9_6 (pc := 10) C rfl tw_868 dX9_fault_10 ?_
    refine g_iload_n (pc := 13) C 1 dX9_fault_13 rfl rfl ?_
    obtain ⟨g_, h⟩ := h
    refine g_iald (pc := 14) C rfl g_ dX9_fault_14 ?_
    refine g_if_ge (pc := 15) (tgt := 26) C dX9_fault_15 (by decide) (fun c_ => ?_) (fun c_ => ?_)
    · replace h := ite_t h c_
      refine g_aload_n (pc := 26) C 0 dX9_fault_26 rfl rfl ?_
      refine g_iload_n (pc := 27) C 1 dX9_fault_27 rfl rfl ?_
      refine g_callVi (pc := 28) (As := [.int v1]) (rest := []) C rfl rfl rfl rfl (M_X9_faultOf C.2.2.1  h) CyX9_faultOf tw_1010 tw_1012 ts_28 (by decide) rfl rfl (Nat.le_of_ble_eq_true rfl) dX9_fault_28 (fun r28 t28 h => ?_)
      refine g_lv [] (lv2 := []) rfl ?_
      exact k_X9_fault_31 C  h
    · replace h := ite_f h c_
      refine g_aload_n (pc := 18) C 0 dX9_fault_18 rfl rfl ?_
      refine g_iconst (pc := 19) (v := 1) C dX9_fault_19 ic_1 ?_
      refine g_callVi (pc := 20) (As := [.int 1]) (rest := []) C rfl rfl rfl rfl (M_X9_found C.2.2.1  h) CyX9_found tw_958 tw_960 ts_25 (by decide) rfl rfl (Nat.le_of_ble_eq_true rfl) dX9_fault_20 (fun r20 t20 h => ?_)
      refine g_goto (pc := 23) (tgt := 31) C dX9_fault_23 (by decide) ?_
      refine g_lv [] (lv2 := []) rfl ?_
      exact k_X9_fault_31 C  h
  · replace h := ite_t h c_
    refine g_iconst (pc := 7) (v := -1) C dX9_fault_7 ic_m1 ?_
    exact g_iret (pc := 8) C dX9_fault_8 ⟨_, rfl, h⟩
set_option maxHeartbeats 4000000 in
set_option maxRecDepth 100000 in
theorem M_X9_finding {l : Launch} {G : Gp} (hD : Dj shM G) {σ : St} {K : Int32 → Prop} (h : wp_X9_finding σ K) : MC l shM G yX9_finding cX9_finding 1 (some .int) 1 [.ref (G.2.2 0)] σ (RI (fun r t => t = σ ∧ K r)) := by
  unfold wp_X9_finding at h
  refine MC.of (by decide) hD (Nat.le_of_ble_eq_true rfl) ?_
  intro p e s m args below meth c C
  replace C : Cx p (rmD 1) s m args meth c shM G cX9_finding 1 1 RX9 (some .int) 0 0 := C
  show Go p l e (rmD 1) s m args below meth c shM G 1 0 0 (MQ below (Qw shM G (RI (fun r t => t = σ ∧ K r))) args s 0 0 (Fr shM G)) 0 [(0, .ref (G.2.2 0))] [] σ
  refine g_aload_n (pc := 0) C 0 dX9_finding_0 rfl rfl ?_
  refine get_X9_8 (pc := 1) C rfl tw_870 dX9_finding_1 ?_
  exact g_iret (pc := 4) C dX9_finding_4 ⟨_, rfl, ⟨rfl, h⟩⟩
set_option maxHeartbeats 4000000 in
set_option maxRecDepth 100000 in
theorem k_X9_findings_22 {w0 : Int32} {σ : St} {K : Int32 → Prop} (C : Cx p R s m args meth c shM G cX9_findings 2 2 RX9 (some .int) 0 0) (h : J_X9_findings_22 w0 σ K) : Go p l e R s m args below meth c shM G 2 0 0 (MQ below (Qw shM G (RI (fun r t => t = σ ∧ K r))) args s 0 0 (Fr shM G)) 22 [] [.int w0] σ := by
  unfold J_X9_findings_22 at h
  exact g_iret (pc := 22) C dX9_findings_22 ⟨_, rfl, ⟨rfl, h⟩⟩
set_option maxHeartbeats 4000000 in
set_option maxRecDepth 100000 in
theorem M_X9_findings {l : Launch} {G : Gp} (hD : Dj shM G) {v1 : Int32} {σ : St} {K : Int32 → Prop} (h : wp_X9_findings v1 σ K) : MC l shM G yX9_findings cX9_findings 2 (some .int) 2 [.ref (G.2.2 0), .int v1] σ (RI (fun r t => t = σ ∧ K r)) := by
  unfold wp_X9_findings at h
  refine MC.of (by decide) hD (Nat.le_of_ble_eq_true rfl) ?_
  intro p e s m args below meth c C
  replace C : Cx p (rmD 2) s m args meth c shM G cX9_findings 2 2 RX9 (some .int) 0 0 := C
  show Go p l e (rmD 2) s m args below meth c shM G 2 0 0 (MQ below (Qw shM G (RI (fun r t => t = σ ∧ K r))) args s 0 0 (Fr shM G)) 0 [(0, .ref (G.2.2 0)), (1, .int v1)] [] σ
  refine g_iload_n (pc := 0) C 1 dX9_findings_0 rfl rfl ?_
  refine g_i2l (pc := 1) C dX9_findings_1 ?_
  refine g_lconst (pc := 2) (v := 1) C dX9_findings_2 lc_1 ?_
  refine g_ldc2 (pc := 3) (v := 5) C dX9_findings_3 tw_954 ?_
  refine g_callSip (pc := 6) (As := [.long v1.toInt64, .long (1 : Int64), .long (5 : Int64)]) (rest := []) C (M_X9_in C.2.2.1  h) CyX9_in tw_955 tw_956 (by decide) rfl rfl (Nat.le_of_ble_eq_true rfl) dX9_findings_6 (fun r6 h => ?_)
  refine g_if_eq (pc := 9) (tgt := 21) C dX9_findings_9 (by decide) (fun c_ => ?_) (fun c_ => ?_)
  · replace h := ite_t h c_
    refine g_iconst (pc := 21) (v := -1) C dX9_findings_21 ic_m1 ?_
    refine g_lv [] (lv2 := []) rfl ?_
    exact k_X9_findings_22 C  h
  · replace h := ite_f h c_
    refine g_aload_n (pc := 12) C 0 dX9_findings_12 rfl rfl ?_
    refine get_X9_9 (pc := 13) C rfl tw_871 dX9_findings_13 ?_
    refine g_iload_n (pc := 16) C 1 dX9_findings_16 rfl rfl ?_
    obtain ⟨g_, h⟩ := h
    refine g_iald (pc := 17) C rfl g_ dX9_findings_17 ?_
    refine g_goto (pc := 18) (tgt := 22) C dX9_findings_18 (by decide) ?_
    refine g_lv [] (lv2 := []) rfl ?_
    exact k_X9_findings_22 C  h
set_option maxHeartbeats 4000000 in
set_option maxRecDepth 100000 in
theorem k_X9_layGame_177 {v1 : Int32} {v2 : Int32} {v3 : Int32} {v4 : Int32} {v6 : Int32} {σ : St} {K : St → Prop} {Φ2 : Int32 → St → Prop} {Φ12 : Int32 → St → Prop} (C : Cx p R s m args meth c shM G cX9_layGame 10 3 RX9 none 0 0) (hΦ2 : ∀ (v3' : Int32) (σ' : St), Φ2 v3' σ' → Go p l e R s m args below meth c shM G 10 0 0 (MQ below (Qw shM G (RV K)) args s 0 0 (Fr shM G)) 2 [(0, .ref (G.2.2 0)), (1, .int v1), (2, .int v2), (3, .int (v3'))] [] σ') (hΦ12 : ∀ (v4' : Int32) (σ' : St), Φ12 v4' σ' → Go p l e R s m args below meth c shM G 10 0 0 (MQ below (Qw shM G (RV K)) args s 0 0 (Fr shM G)) 12 [(0, .ref (G.2.2 0)), (1, .int v1), (2, .int v2), (3, .int v3), (4, .int (v4'))] [] σ') (h : J_X9_layGame_177 v1 v2 v3 v4 v6 σ K Φ2 Φ12) : Go p l e R s m args below meth c shM G 10 0 0 (MQ below (Qw shM G (RV K)) args s 0 0 (Fr shM G)) 177 [(0, .ref (G.2.2 0)), (1, .int v1), (2, .int v2), (3, .int v3), (4, .int v4), (6, .int v6)] [] σ := by
  unfold J_X9_layGame_177 at h
  refine g_aload_n (pc := 177) C 0 dX9_layGame_177 rfl rfl ?_
  refine get_X9_24 (pc := 178) C rfl tw_886 dX9_layGame_178 ?_
  refine g_bipush (pc := 181) (v := 21) C dX9_layGame_181 bp_21 ?_
  refine g_iload_n (pc := 183) C 3 dX9_layGame_183 rfl rfl ?_
  refine g_imul (pc := 184) C dX9_layGame_184 ?_
  refine g_iload (pc := 185) C 4 dX9_layGame_185 rfl ?_
  refine g_iadd (pc := 187) C dX9_layGame_187 ?_
  refine g_iload (pc := 188) C 5 dX9_layGame_188 rfl ?_
  obtain ⟨g_, h⟩ := h
  refine g_zast (pc := 190) C rfl g_ dX9_layGame_190 ?_
  refine g_iinc (pc := 191) (lv2 := [(4, .int (v4 + 1)), (0, .ref (G.2.2 0)), (1, .int v1), (2, .int v2), (3, .int v3), (6, .int v6)]) C 4 dX9_layGame_191 ic_1 rfl (by decide) rfl ?_
  refine g_goto (pc := 194) (tgt := 12) C dX9_layGame_194 (by decide) ?_
  refine g_lv [1, 2, 3, 4, 0] (lv2 := [(0, .ref (G.2.2 0)), (1, .int v1), (2, .int v2), (3, .int v3), (4, .int (v4 + 1))]) rfl ?_
  exact hΦ12 _ _ h
set_option maxHeartbeats 4000000 in
set_option maxRecDepth 100000 in
theorem k_X9_layGame_169 {v1 : Int32} {v2 : Int32} {v3 : Int32} {v4 : Int32} {v5 : Int32} {v7 : Int32} {w0 : Int32} {σ : St} {K : St → Prop} {Φ2 : Int32 → St → Prop} {Φ12 : Int32 → St → Prop} {Φ66 : Int32 → Int32 → Prop} (C : Cx p R s m args meth c shM G cX9_layGame 10 3 RX9 none 0 0) (hΦ2 : ∀ (v3' : Int32) (σ' : St), Φ2 v3' σ' → Go p l e R s m args below meth c shM G 10 0 0 (MQ below (Qw shM G (RV K)) args s 0 0 (Fr shM G)) 2 [(0, .ref (G.2.2 0)), (1, .int v1), (2, .int v2), (3, .int (v3'))] [] σ') (hΦ12 : ∀ (v4' : Int32) (σ' : St), Φ12 v4' σ' → Go p l e R s m args below meth c shM G 10 0 0 (MQ below (Qw shM G (RV K)) args s 0 0 (Fr shM G)) 12 [(0, .ref (G.2.2 0)), (1, .int v1), (2, .int v2), (3, .int v3), (4, .int (v4'))] [] σ') (hΦ66 : ∀ (v6' : Int32) (v7' : Int32), Φ66 v6' v7' → Go p l e R s m args below meth c shM G 10 0 0 (MQ below (Qw shM G (RV K)) args s 0 0 (Fr shM G)) 66 [(0, .ref (G.2.2 0)), (1, .int v1), (2, .int v2), (3, .int v3), (4, .int v4), (5, .int v5), (6, .int (v6')), (7, .int (v7'))] [] σ) (h : J_X9_layGame_169 v1 v2 v3 v4 v5 v7 w0 σ K Φ2 Φ12 Φ66) : Go p l e R s m args below meth c shM G 10 0 0 (MQ below (Qw shM G (RV K)) args s 0 0 (Fr shM G)) 169 [(0, .ref (G.2.2 0)), (1, .int v1), (2, .int v2), (3, .int v3), (4, .int v4), (5, .int v5), (7, .int v7)] [.int w0] σ := by
  unfold J_X9_layGame_169 at h
  refine g_istore (pc := 169) (lv2 := [(6, .int w0), (0, .ref (G.2.2 0)), (1, .int v1), (2, .int v2), (3, .int v3), (4, .int v4), (5, .int v5), (7, .int v7)]) C dX9_layGame_169 (by decide) rfl ?_
  refine g_iinc (pc := 171) (lv2 := [(7, .int (v7 + 1)), (6, .int w0), (0, .ref (G.2.2 0)), (1, .int v1), (2, .int v2), (3, .int v3), (4, .int v4), (5, .int v5)]) C 7 dX9_layGame_171 ic_1 rfl (by decide) rfl ?_
  refine g_goto (pc := 174) (tgt := 66) C dX9_layGame_174 (by decide) ?_
  refine g_lv [2, 3, 4, 5, 6, 7, 1, 0] (lv2 := [(0, .ref (G.2.2 0)), (1, .int v1), (2, .int v2), (3, .int v3), (4, .int v4), (5, .int v5), (6, .int w0), (7, .int (v7 + 1))]) rfl ?_
  exact hΦ66 _ _ h
set_option maxHeartbeats 4000000 in
set_option maxRecDepth 100000 in
theorem k_X9_layGame_168 {v1 : Int32} {v2 : Int32} {v3 : Int32} {v4 : Int32} {v5 : Int32} {v7 : Int32} {σ : St} {K : St → Prop} {Φ2 : Int32 → St → Prop} {Φ12 : Int32 → St → Prop} {Φ66 : Int32 → Int32 → Prop} (C : Cx p R s m args meth c shM G cX9_layGame 10 3 RX9 none 0 0) (hΦ2 : ∀ (v3' : Int32) (σ' : St), Φ2 v3' σ' → Go p l e R s m args below meth c shM G 10 0 0 (MQ below (Qw shM G (RV K)) args s 0 0 (Fr shM G)) 2 [(0, .ref (G.2.2 0)), (1, .int v1), (2, .int v2), (3, .int (v3'))] [] σ') (hΦ12 : ∀ (v4' : Int32) (σ' : St), Φ12 v4' σ' → Go p l e R s m args below meth c shM G 10 0 0 (MQ below (Qw shM G (RV K)) args s 0 0 (Fr shM G)) 12 [(0, .ref (G.2.2 0)), (1, .int v1), (2, .int v2), (3, .int v3), (4, .int (v4'))] [] σ') (hΦ66 : ∀ (v6' : Int32) (v7' : Int32), Φ66 v6' v7' → Go p l e R s m args below meth c shM G 10 0 0 (MQ below (Qw shM G (RV K)) args s 0 0 (Fr shM G)) 66 [(0, .ref (G.2.2 0)), (1, .int v1), (2, .int v2), (3, .int v3), (4, .int v4), (5, .int v5), (6, .int (v6')), (7, .int (v7'))] [] σ) (h : J_X9_layGame_168 v1 v2 v3 v4 v5 v7 σ K Φ2 Φ12 Φ66) : Go p l e R s m args below meth c shM G 10 0 0 (MQ below (Qw shM G (RV K)) args s 0 0 (Fr shM G)) 168 [(0, .ref (G.2.2 0)), (1, .int v1), (2, .int v2), (3, .int v3), (4, .int v4), (5, .int v5), (7, .int v7)] [] σ := by
  unfold J_X9_layGame_168 at h
  refine g_iconst (pc := 168) (v := 0) C dX9_layGame_168 ic_0 ?_
  refine g_lv [0, 1, 2, 3, 4, 5, 6] (lv2 := [(0, .ref (G.2.2 0)), (1, .int v1), (2, .int v2), (3, .int v3), (4, .int v4), (5, .int v5), (7, .int v7)]) rfl ?_
  exact k_X9_layGame_169 C hΦ2 hΦ12 hΦ66 h
set_option maxHeartbeats 4000000 in
set_option maxRecDepth 100000 in
theorem k_X9_layGame_146 {v1 : Int32} {v2 : Int32} {v3 : Int32} {v4 : Int32} {v5 : Int32} {v7 : Int32} {σ : St} {K : St → Prop} {Φ2 : Int32 → St → Prop} {Φ12 : Int32 → St → Prop} {Φ66 : Int32 → Int32 → Prop} (C : Cx p R s m args meth c shM G cX9_layGame 10 3 RX9 none 0 0) (hΦ2 : ∀ (v3' : Int32) (σ' : St), Φ2 v3' σ' → Go p l e R s m args below meth c shM G 10 0 0 (MQ below (Qw shM G (RV K)) args s 0 0 (Fr shM G)) 2 [(0, .ref (G.2.2 0)), (1, .int v1), (2, .int v2), (3, .int (v3'))] [] σ') (hΦ12 : ∀ (v4' : Int32) (σ' : St), Φ12 v4' σ' → Go p l e R s m args below meth c shM G 10 0 0 (MQ below (Qw shM G (RV K)) args s 0 0 (Fr shM G)) 12 [(0, .ref (G.2.2 0)), (1, .int v1), (2, .int v2), (3, .int v3), (4, .int (v4'))] [] σ') (hΦ66 : ∀ (v6' : Int32) (v7' : Int32), Φ66 v6' v7' → Go p l e R s m args below meth c shM G 10 0 0 (MQ below (Qw shM G (RV K)) args s 0 0 (Fr shM G)) 66 [(0, .ref (G.2.2 0)), (1, .int v1), (2, .int v2), (3, .int v3), (4, .int v4), (5, .int v5), (6, .int (v6')), (7, .int (v7'))] [] σ) (h : J_X9_layGame_146 v1 v2 v3 v4 v5 v7 σ K Φ2 Φ12 Φ66) : Go p l e R s m args below meth c shM G 10 0 0 (MQ below (Qw shM G (RV K)) args s 0 0 (Fr shM G)) 146 [(0, .ref (G.2.2 0)), (1, .int v1), (2, .int v2), (3, .int v3), (4, .int v4), (5, .int v5), (7, .int v7)] [] σ := by
  unfold J_X9_layGame_146 at h
  refine g_iconst (pc := 146) (v := 1) C dX9_layGame_146 ic_1 ?_
  refine g_goto (pc := 147) (tgt := 169) C dX9_layGame_147 (by decide) ?_
  refine g_lv [0, 1, 2, 3, 4, 5, 6] (lv2 := [(0, .ref (G.2.2 0)), (1, .int v1), (2, .int v2), (3, .int v3), (4, .int v4), (5, .int v5), (7, .int v7)]) rfl ?_
  exact k_X9_layGame_169 C hΦ2 hΦ12 hΦ66 h
set_option maxHeartbeats 4000000 in
set_option maxRecDepth 100000 in
theorem k_X9_layGame_129 {v1 : Int32} {v2 : Int32} {v3 : Int32} {v4 : Int32} {v5 : Int32} {v6 : Int32} {v7 : Int32} {w0 : Int32} {σ : St} {K : St → Prop} {Φ2 : Int32 → St → Prop} {Φ12 : Int32 → St → Prop} {Φ66 : Int32 → Int32 → Prop} (C : Cx p R s m args meth c shM G cX9_layGame 10 3 RX9 none 0 0) (hΦ2 : ∀ (v3' : Int32) (σ' : St), Φ2 v3' σ' → Go p l e R s m args below meth c shM G 10 0 0 (MQ below (Qw shM G (RV K)) args s 0 0 (Fr shM G)) 2 [(0, .ref (G.2.2 0)), (1, .int v1), (2, .int v2), (3, .int (v3'))] [] σ') (hΦ12 : ∀ (v4' : Int32) (σ' : St), Φ12 v4' σ' → Go p l e R s m args below meth c shM G 10 0 0 (MQ below (Qw shM G (RV K)) args s 0 0 (Fr shM G)) 12 [(0, .ref (G.2.2 0)), (1, .int v1), (2, .int v2), (3, .int v3), (4, .int (v4'))] [] σ') (hΦ66 : ∀ (v6' : Int32) (v7' : Int32), Φ66 v6' v7' → Go p l e R s m args below meth c shM G 10 0 0 (MQ below (Qw shM G (RV K)) args s 0 0 (Fr shM G)) 66 [(0, .ref (G.2.2 0)), (1, .int v1), (2, .int v2), (3, .int v3), (4, .int v4), (5, .int v5), (6, .int (v6')), (7, .int (v7'))] [] σ) (h : J_X9_layGame_129 v1 v2 v3 v4 v5 v6 v7 w0 σ K Φ2 Φ12 Φ66) : Go p l e R s m args below meth c shM G 10 0 0 (MQ below (Qw shM G (RV K)) args s 0 0 (Fr shM G)) 129 [(0, .ref (G.2.2 0)), (1, .int v1), (2, .int v2), (3, .int v3), (4, .int v4), (5, .int v5), (6, .int v6), (7, .int v7)] [.int w0] σ := by
  unfold J_X9_layGame_129 at h
  refine g_istore (pc := 129) (lv2 := [(9, .int w0), (0, .ref (G.2.2 0)), (1, .int v1), (2, .int v2), (3, .int v3), (4, .int v4), (5, .int v5), (6, .int v6), (7, .int v7)]) C dX9_layGame_129 (by decide) rfl ?_
  refine g_iload (pc := 131) C 6 dX9_layGame_131 rfl ?_
  refine g_if_eq (pc := 133) (tgt := 154) C dX9_layGame_133 (by decide) (fun c_ => ?_) (fun c_ => ?_)
  · replace h := ite_t h c_
    refine g_iload (pc := 154) C 7 dX9_layGame_154 rfl ?_
    refine g_if_eq (pc := 156) (tgt := 168) C dX9_layGame_156 (by decide) (fun c_ => ?_) (fun c_ => ?_)
    · replace h := ite_t h c_
      refine g_lv [1, 2, 3, 4, 5, 6, 8] (lv2 := [(0, .ref (G.2.2 0)), (1, .int v1), (2, .int v2), (3, .int v3), (4, .int v4), (5, .int v5), (7, .int v7)]) rfl ?_
      exact k_X9_layGame_168 C hΦ2 hΦ12 hΦ66 h
    · replace h := ite_f h c_
      refine g_iload (pc := 159) C 0 dX9_layGame_159 rfl ?_
      refine g_if_eq (pc := 161) (tgt := 168) C dX9_layGame_161 (by decide) (fun c_ => ?_) (fun c_ => ?_)
      · replace h := ite_t h c_
        refine g_lv [1, 2, 3, 4, 5, 6, 8] (lv2 := [(0, .ref (G.2.2 0)), (1, .int v1), (2, .int v2), (3, .int v3), (4, .int v4), (5, .int v5), (7, .int v7)]) rfl ?_
        exact k_X9_layGame_168 C hΦ2 hΦ12 hΦ66 h
      · replace h := ite_f h c_
        refine g_iconst (pc := 164) (v := 1) C dX9_layGame_164 ic_1 ?_
        refine g_goto (pc := 165) (tgt := 169) C dX9_layGame_165 (by decide) ?_
        refine g_lv [1, 2, 3, 4, 5, 6, 8] (lv2 := [(0, .ref (G.2.2 0)), (1, .int v1), (2, .int v2), (3, .int v3), (4, .int v4), (5, .int v5), (7, .int v7)]) rfl ?_
        exact k_X9_layGame_169 C hΦ2 hΦ12 hΦ66 h
  · replace h := ite_f h c_
    refine g_iload (pc := 136) C 7 dX9_layGame_136 rfl ?_
    refine g_if_ne (pc := 138) (tgt := 146) C dX9_layGame_138 (by decide) (fun c_ => ?_) (fun c_ => ?_)
    · replace h := ite_f h c_
      refine g_lv [1, 2, 3, 4, 5, 6, 8] (lv2 := [(0, .ref (G.2.2 0)), (1, .int v1), (2, .int v2), (3, .int v3), (4, .int v4), (5, .int v5), (7, .int v7)]) rfl ?_
      exact k_X9_layGame_146 C hΦ2 hΦ12 hΦ66 h
    · replace h := ite_t h c_
      refine g_iload (pc := 141) C 0 dX9_layGame_141 rfl ?_
      refine g_if_eq (pc := 143) (tgt := 150) C dX9_layGame_143 (by decide) (fun c_ => ?_) (fun c_ => ?_)
      · replace h := ite_t h c_
        refine g_iconst (pc := 150) (v := 0) C dX9_layGame_150 ic_0 ?_
        refine g_goto (pc := 151) (tgt := 169) C dX9_layGame_151 (by decide) ?_
        refine g_lv [1, 2, 3, 4, 5, 6, 8] (lv2 := [(0, .ref (G.2.2 0)), (1, .int v1), (2, .int v2), (3, .int v3), (4, .int v4), (5, .int v5), (7, .int v7)]) rfl ?_
        exact k_X9_layGame_169 C hΦ2 hΦ12 hΦ66 h
      · replace h := ite_f h c_
        refine g_lv [1, 2, 3, 4, 5, 6, 8] (lv2 := [(0, .ref (G.2.2 0)), (1, .int v1), (2, .int v2), (3, .int v3), (4, .int v4), (5, .int v5), (7, .int v7)]) rfl ?_
        exact k_X9_layGame_146 C hΦ2 hΦ12 hΦ66 h
set_option maxHeartbeats 4000000 in
set_option maxRecDepth 100000 in
theorem k_X9_layGame_79 {v1 : Int32} {v2 : Int32} {v3 : Int32} {v4 : Int32} {v5 : Int32} {v6 : Int32} {v7 : Int32} {w0 : Int32} {w1 : Int32} {σ : St} {K : St → Prop} {Φ2 : Int32 → St → Prop} {Φ12 : Int32 → St → Prop} {Φ66 : Int32 → Int32 → Prop} (C : Cx p R s m args meth c shM G cX9_layGame 10 3 RX9 none 0 0) (hΦ2 : ∀ (v3' : Int32) (σ' : St), Φ2 v3' σ' → Go p l e R s m args below meth c shM G 10 0 0 (MQ below (Qw shM G (RV K)) args s 0 0 (Fr shM G)) 2 [(0, .ref (G.2.2 0)), (1, .int v1), (2, .int v2), (3, .int (v3'))] [] σ') (hΦ12 : ∀ (v4' : Int32) (σ' : St), Φ12 v4' σ' → Go p l e R s m args below meth c shM G 10 0 0 (MQ below (Qw shM G (RV K)) args s 0 0 (Fr shM G)) 12 [(0, .ref (G.2.2 0)), (1, .int v1), (2, .int v2), (3, .int v3), (4, .int (v4'))] [] σ') (hΦ66 : ∀ (v6' : Int32) (v7' : Int32), Φ66 v6' v7' → Go p l e R s m args below meth c shM G 10 0 0 (MQ below (Qw shM G (RV K)) args s 0 0 (Fr shM G)) 66 [(0, .ref (G.2.2 0)), (1, .int v1), (2, .int v2), (3, .int v3), (4, .int v4), (5, .int v5), (6, .int (v6')), (7, .int (v7'))] [] σ) (h : J_X9_layGame_79 v1 v2 v3 v4 v5 v6 v7 w0 w1 σ K Φ2 Φ12 Φ66) : Go p l e R s m args below meth c shM G 10 0 0 (MQ below (Qw shM G (RV K)) args s 0 0 (Fr shM G)) 79 [(0, .ref (G.2.2 0)), (1, .int v1), (2, .int v2), (3, .int v3), (4, .int v4), (5, .int v5), (6, .int v6), (7, .int v7)] [.int w1, .int w0] σ := by
  unfold J_X9_layGame_79 at h
  refine g_icmp_ge (pc := 79) (tgt := 177) C dX9_layGame_79 (by decide) (fun c_ => ?_) (fun c_ => ?_)
  · replace h := ite_t h c_
    refine g_lv [0, 1, 2, 3, 4, 6] (lv2 := [(0, .ref (G.2.2 0)), (1, .int v1), (2, .int v2), (3, .int v3), (4, .int v4), (6, .int v6)]) rfl ?_
    exact k_X9_layGame_177 C hΦ2 hΦ12 h
  · replace h := ite_f h c_
    refine g_iload_n (pc := 82) C 3 dX9_layGame_82 rfl rfl ?_
    refine g_if_le (pc := 83) (tgt := 177) C dX9_layGame_83 (by decide) (fun c_ => ?_) (fun c_ => ?_)
    · replace h := ite_t h c_
      refine g_lv [0, 1, 2, 3, 4, 6] (lv2 := [(0, .ref (G.2.2 0)), (1, .int v1), (2, .int v2), (3, .int v3), (4, .int v4), (6, .int v6)]) rfl ?_
      exact k_X9_layGame_177 C hΦ2 hΦ12 h
    · replace h := ite_f h c_
      refine g_iload_n (pc := 86) C 1 dX9_layGame_86 rfl rfl ?_
      refine g_iload (pc := 87) C 4 dX9_layGame_87 rfl ?_
      refine g_iload (pc := 89) C 7 dX9_layGame_89 rfl ?_
      refine g_callSip (pc := 91) (As := [.int v1, .int v4, .int v7]) (rest := []) C (M_X9_after C.2.2.1  h) CyX9_after tw_1061 tw_1062 (by decide) rfl rfl (Nat.le_of_ble_eq_true rfl) dX9_layGame_91 (fun r91 h => ?_)
      refine g_istore (pc := 94) (lv2 := [(8, .int r91), (0, .ref (G.2.2 0)), (1, .int v1), (2, .int v2), (3, .int v3), (4, .int v4), (5, .int v5), (6, .int v6), (7, .int v7)]) C dX9_layGame_94 (by decide) rfl ?_
      refine g_iload (pc := 96) C 0 dX9_layGame_96 rfl ?_
      refine g_iconst (pc := 98) (v := -1) C dX9_layGame_98 ic_m1 ?_
      refine g_icmp_ne (pc := 99) (tgt := 115) C dX9_layGame_99 (by decide) (fun c_ => ?_) (fun c_ => ?_)
      · replace h := ite_f h c_
        refine g_aload_n (pc := 115) C 1 dX9_layGame_115 rfl rfl ?_
        refine get_X9_24 (pc := 116) C rfl tw_886 dX9_layGame_116 ?_
        refine g_bipush (pc := 119) (v := 21) C dX9_layGame_119 bp_21 ?_
        refine g_iload_n (pc := 121) C 4 dX9_layGame_121 rfl rfl ?_
        refine g_iconst (pc := 122) (v := 1) C dX9_layGame_122 ic_1 ?_
        refine g_isub (pc := 123) C dX9_layGame_123 ?_
        refine g_imul (pc := 124) C dX9_layGame_124 ?_
        refine g_iload (pc := 125) C 0 dX9_layGame_125 rfl ?_
        refine g_iadd (pc := 127) C dX9_layGame_127 ?_
        obtain ⟨g_, h⟩ := h
        refine g_zald (pc := 128) C rfl g_ dX9_layGame_128 ?_
        refine g_lv [1, 2, 3, 4, 5, 6, 7, 8] (lv2 := [(0, .ref (G.2.2 0)), (1, .int v1), (2, .int v2), (3, .int v3), (4, .int v4), (5, .int v5), (6, .int v6), (7, .int v7)]) rfl ?_
        exact k_X9_layGame_129 C hΦ2 hΦ12 hΦ66 h
      · replace h := ite_t h c_
        refine g_iload (pc := 102) C 6 dX9_layGame_102 rfl ?_
        refine g_if_ne (pc := 104) (tgt := 111) C dX9_layGame_104 (by decide) (fun c_ => ?_) (fun c_ => ?_)
        · replace h := ite_f h c_
          refine g_iconst (pc := 111) (v := 0) C dX9_layGame_111 ic_0 ?_
          refine g_goto (pc := 112) (tgt := 129) C dX9_layGame_112 (by decide) ?_
          refine g_lv [1, 2, 3, 4, 5, 6, 7, 8] (lv2 := [(0, .ref (G.2.2 0)), (1, .int v1), (2, .int v2), (3, .int v3), (4, .int v4), (5, .int v5), (6, .int v6), (7, .int v7)]) rfl ?_
          exact k_X9_layGame_129 C hΦ2 hΦ12 hΦ66 h
        · replace h := ite_t h c_
          refine g_iconst (pc := 107) (v := 1) C dX9_layGame_107 ic_1 ?_
          refine g_goto (pc := 108) (tgt := 129) C dX9_layGame_108 (by decide) ?_
          refine g_lv [1, 2, 3, 4, 5, 6, 7, 8] (lv2 := [(0, .ref (G.2.2 0)), (1, .int v1), (2, .int v2), (3, .int v3), (4, .int v4), (5, .int v5), (6, .int v6), (7, .int v7)]) rfl ?_
          exact k_X9_layGame_129 C hΦ2 hΦ12 hΦ66 h
set_option maxHeartbeats 4000000 in
set_option maxRecDepth 100000 in
theorem k_X9_layGame_66 {v1 : Int32} {v2 : Int32} {v3 : Int32} {v4 : Int32} {v5 : Int32} {v6 : Int32} {v7 : Int32} {σ : St} {K : St → Prop} {Φ2 : Int32 → St → Prop} {Φ12 : Int32 → St → Prop} (C : Cx p R s m args meth c shM G cX9_layGame 10 3 RX9 none 0 0) (hΦ2 : ∀ (v3' : Int32) (σ' : St), Φ2 v3' σ' → Go p l e R s m args below meth c shM G 10 0 0 (MQ below (Qw shM G (RV K)) args s 0 0 (Fr shM G)) 2 [(0, .ref (G.2.2 0)), (1, .int v1), (2, .int v2), (3, .int (v3'))] [] σ') (hΦ12 : ∀ (v4' : Int32) (σ' : St), Φ12 v4' σ' → Go p l e R s m args below meth c shM G 10 0 0 (MQ below (Qw shM G (RV K)) args s 0 0 (Fr shM G)) 12 [(0, .ref (G.2.2 0)), (1, .int v1), (2, .int v2), (3, .int v3), (4, .int (v4'))] [] σ') (h : L_X9_layGame_66 v1 v2 v3 v4 v5 σ K Φ2 Φ12 v6 v7) : Go p l e R s m args below meth c shM G 10 0 0 (MQ below (Qw shM G (RV K)) args s 0 0 (Fr shM G)) 66 [(0, .ref (G.2.2 0)), (1, .int v1), (2, .int v2), (3, .int v3), (4, .int v4), (5, .int v5), (6, .int v6), (7, .int v7)] [] σ := by
  obtain ⟨n_, h⟩ := h
  induction n_ generalizing v6 v7 with
  | zero => exact h.elim
  | succ n_ ih =>
    replace h : B_X9_layGame_66 v1 v2 v3 v4 v5 σ K Φ2 Φ12 (it2 (B_X9_layGame_66 v1 v2 v3 v4 v5 σ K Φ2 Φ12) n_) v6 v7 := h
    unfold B_X9_layGame_66 at h
    refine g_iload (pc := 66) C 7 dX9_layGame_66 rfl ?_
    refine g_iload (pc := 68) C 5 dX9_layGame_68 rfl ?_
    refine g_if_eq (pc := 70) (tgt := 78) C dX9_layGame_70 (by decide) (fun c_ => ?_) (fun c_ => ?_)
    · replace h := ite_t h c_
      refine g_iconst (pc := 78) (v := 4) C dX9_layGame_78 ic_4 ?_
      refine g_lv [0, 1, 2, 3, 4, 5, 6, 7] (lv2 := [(0, .ref (G.2.2 0)), (1, .int v1), (2, .int v2), (3, .int v3), (4, .int v4), (5, .int v5), (6, .int v6), (7, .int v7)]) rfl ?_
      exact k_X9_layGame_79 C hΦ2 hΦ12 (fun _ _ h_ => ih h_) h
    · replace h := ite_f h c_
      refine g_bipush (pc := 73) (v := 7) C dX9_layGame_73 bp_7 ?_
      refine g_goto (pc := 75) (tgt := 79) C dX9_layGame_75 (by decide) ?_
      refine g_lv [0, 1, 2, 3, 4, 5, 6, 7] (lv2 := [(0, .ref (G.2.2 0)), (1, .int v1), (2, .int v2), (3, .int v3), (4, .int v4), (5, .int v5), (6, .int v6), (7, .int v7)]) rfl ?_
      exact k_X9_layGame_79 C hΦ2 hΦ12 (fun _ _ h_ => ih h_) h
set_option maxHeartbeats 4000000 in
set_option maxRecDepth 100000 in
theorem k_X9_layGame_61 {v1 : Int32} {v2 : Int32} {v3 : Int32} {v4 : Int32} {v5 : Int32} {w0 : Int32} {σ : St} {K : St → Prop} {Φ2 : Int32 → St → Prop} {Φ12 : Int32 → St → Prop} (C : Cx p R s m args meth c shM G cX9_layGame 10 3 RX9 none 0 0) (hΦ2 : ∀ (v3' : Int32) (σ' : St), Φ2 v3' σ' → Go p l e R s m args below meth c shM G 10 0 0 (MQ below (Qw shM G (RV K)) args s 0 0 (Fr shM G)) 2 [(0, .ref (G.2.2 0)), (1, .int v1), (2, .int v2), (3, .int (v3'))] [] σ') (hΦ12 : ∀ (v4' : Int32) (σ' : St), Φ12 v4' σ' → Go p l e R s m args below meth c shM G 10 0 0 (MQ below (Qw shM G (RV K)) args s 0 0 (Fr shM G)) 12 [(0, .ref (G.2.2 0)), (1, .int v1), (2, .int v2), (3, .int v3), (4, .int (v4'))] [] σ') (h : J_X9_layGame_61 v1 v2 v3 v4 v5 w0 σ K Φ2 Φ12) : Go p l e R s m args below meth c shM G 10 0 0 (MQ below (Qw shM G (RV K)) args s 0 0 (Fr shM G)) 61 [(0, .ref (G.2.2 0)), (1, .int v1), (2, .int v2), (3, .int v3), (4, .int v4), (5, .int v5)] [.int w0] σ := by
  unfold J_X9_layGame_61 at h
  refine g_istore (pc := 61) (lv2 := [(6, .int w0), (0, .ref (G.2.2 0)), (1, .int v1), (2, .int v2), (3, .int v3), (4, .int v4), (5, .int v5)]) C dX9_layGame_61 (by decide) rfl ?_
  refine g_iconst (pc := 63) (v := 0) C dX9_layGame_63 ic_0 ?_
  refine g_istore (pc := 64) (lv2 := [(7, .int 0), (6, .int w0), (0, .ref (G.2.2 0)), (1, .int v1), (2, .int v2), (3, .int v3), (4, .int v4), (5, .int v5)]) C dX9_layGame_64 (by decide) rfl ?_
  refine g_lv [2, 3, 4, 5, 6, 7, 1, 0] (lv2 := [(0, .ref (G.2.2 0)), (1, .int v1), (2, .int v2), (3, .int v3), (4, .int v4), (5, .int v5), (6, .int w0), (7, .int 0)]) rfl ?_
  exact k_X9_layGame_66 C hΦ2 hΦ12 h
set_option maxHeartbeats 4000000 in
set_option maxRecDepth 100000 in
theorem k_X9_layGame_30 {v1 : Int32} {v2 : Int32} {v3 : Int32} {v4 : Int32} {w0 : Int32} {σ : St} {K : St → Prop} {Φ2 : Int32 → St → Prop} {Φ12 : Int32 → St → Prop} (C : Cx p R s m args meth c shM G cX9_layGame 10 3 RX9 none 0 0) (hΦ2 : ∀ (v3' : Int32) (σ' : St), Φ2 v3' σ' → Go p l e R s m args below meth c shM G 10 0 0 (MQ below (Qw shM G (RV K)) args s 0 0 (Fr shM G)) 2 [(0, .ref (G.2.2 0)), (1, .int v1), (2, .int v2), (3, .int (v3'))] [] σ') (hΦ12 : ∀ (v4' : Int32) (σ' : St), Φ12 v4' σ' → Go p l e R s m args below meth c shM G 10 0 0 (MQ below (Qw shM G (RV K)) args s 0 0 (Fr shM G)) 12 [(0, .ref (G.2.2 0)), (1, .int v1), (2, .int v2), (3, .int v3), (4, .int (v4'))] [] σ') (h : J_X9_layGame_30 v1 v2 v3 v4 w0 σ K Φ2 Φ12) : Go p l e R s m args below meth c shM G 10 0 0 (MQ below (Qw shM G (RV K)) args s 0 0 (Fr shM G)) 30 [(0, .ref (G.2.2 0)), (1, .int v1), (2, .int v2), (3, .int v3), (4, .int v4)] [.int w0] σ := by
  unfold J_X9_layGame_30 at h
  refine g_istore (pc := 30) (lv2 := [(5, .int w0), (0, .ref (G.2.2 0)), (1, .int v1), (2, .int v2), (3, .int v3), (4, .int v4)]) C dX9_layGame_30 (by decide) rfl ?_
  refine g_iload_n (pc := 32) C 4 dX9_layGame_32 rfl rfl ?_
  refine g_if_ne (pc := 33) (tgt := 51) C dX9_layGame_33 (by decide) (fun c_ => ?_) (fun c_ => ?_)
  · replace h := ite_f h c_
    refine g_iload (pc := 51) C 0 dX9_layGame_51 rfl ?_
    refine g_if_ne (pc := 53) (tgt := 60) C dX9_layGame_53 (by decide) (fun c_ => ?_) (fun c_ => ?_)
    · replace h := ite_f h c_
      refine g_iconst (pc := 60) (v := 0) C dX9_layGame_60 ic_0 ?_
      refine g_lv [1, 2, 3, 4, 5, 0] (lv2 := [(0, .ref (G.2.2 0)), (1, .int v1), (2, .int v2), (3, .int v3), (4, .int v4), (5, .int w0)]) rfl ?_
      exact k_X9_layGame_61 C hΦ2 hΦ12 h
    · replace h := ite_t h c_
      refine g_iconst (pc := 56) (v := 1) C dX9_layGame_56 ic_1 ?_
      refine g_goto (pc := 57) (tgt := 61) C dX9_layGame_57 (by decide) ?_
      refine g_lv [1, 2, 3, 4, 5, 0] (lv2 := [(0, .ref (G.2.2 0)), (1, .int v1), (2, .int v2), (3, .int v3), (4, .int v4), (5, .int w0)]) rfl ?_
      exact k_X9_layGame_61 C hΦ2 hΦ12 h
  · replace h := ite_t h c_
    refine g_iload (pc := 36) C 5 dX9_layGame_36 rfl ?_
    refine g_bipush (pc := 38) (v := 20) C dX9_layGame_38 bp_20 ?_
    refine g_icmp_ne (pc := 40) (tgt := 47) C dX9_layGame_40 (by decide) (fun c_ => ?_) (fun c_ => ?_)
    · replace h := ite_f h c_
      refine g_iconst (pc := 47) (v := 0) C dX9_layGame_47 ic_0 ?_
      refine g_goto (pc := 48) (tgt := 61) C dX9_layGame_48 (by decide) ?_
      refine g_lv [1, 2, 3, 4, 5, 0] (lv2 := [(0, .ref (G.2.2 0)), (1, .int v1), (2, .int v2), (3, .int v3), (4, .int v4), (5, .int w0)]) rfl ?_
      exact k_X9_layGame_61 C hΦ2 hΦ12 h
    · replace h := ite_t h c_
      refine g_iconst (pc := 43) (v := 1) C dX9_layGame_43 ic_1 ?_
      refine g_goto (pc := 44) (tgt := 61) C dX9_layGame_44 (by decide) ?_
      refine g_lv [1, 2, 3, 4, 5, 0] (lv2 := [(0, .ref (G.2.2 0)), (1, .int v1), (2, .int v2), (3, .int v3), (4, .int v4), (5, .int w0)]) rfl ?_
      exact k_X9_layGame_61 C hΦ2 hΦ12 h
set_option maxHeartbeats 4000000 in
set_option maxRecDepth 100000 in
theorem k_X9_layGame_12 {v1 : Int32} {v2 : Int32} {v3 : Int32} {v4 : Int32} {σ : St} {K : St → Prop} {Φ2 : Int32 → St → Prop} (C : Cx p R s m args meth c shM G cX9_layGame 10 3 RX9 none 0 0) (hΦ2 : ∀ (v3' : Int32) (σ' : St), Φ2 v3' σ' → Go p l e R s m args below meth c shM G 10 0 0 (MQ below (Qw shM G (RV K)) args s 0 0 (Fr shM G)) 2 [(0, .ref (G.2.2 0)), (1, .int v1), (2, .int v2), (3, .int (v3'))] [] σ') (h : L_X9_layGame_12 v1 v2 v3 K Φ2 v4 σ) : Go p l e R s m args below meth c shM G 10 0 0 (MQ below (Qw shM G (RV K)) args s 0 0 (Fr shM G)) 12 [(0, .ref (G.2.2 0)), (1, .int v1), (2, .int v2), (3, .int v3), (4, .int v4)] [] σ := by
  obtain ⟨n_, h⟩ := h
  induction n_ generalizing v4 σ with
  | zero => exact h.elim
  | succ n_ ih =>
    replace h : B_X9_layGame_12 v1 v2 v3 K Φ2 (it2 (B_X9_layGame_12 v1 v2 v3 K Φ2) n_) v4 σ := h
    unfold B_X9_layGame_12 at h
    refine g_iload (pc := 12) C 4 dX9_layGame_12 rfl ?_
    refine g_bipush (pc := 14) (v := 20) C dX9_layGame_14 bp_20 ?_
    refine g_icmp_gt (pc := 16) (tgt := 197) C dX9_layGame_16 (by decide) (fun c_ => ?_) (fun c_ => ?_)
    · replace h := ite_t h c_
      refine g_iinc (pc := 197) (lv2 := [(3, .int (v3 + 1)), (0, .ref (G.2.2 0)), (1, .int v1), (2, .int v2), (4, .int v4)]) C 3 dX9_layGame_197 ic_1 rfl (by decide) rfl ?_
      refine g_goto (pc := 200) (tgt := 2) C dX9_layGame_200 (by decide) ?_
      refine g_lv [1, 2, 3, 0] (lv2 := [(0, .ref (G.2.2 0)), (1, .int v1), (2, .int v2), (3, .int (v3 + 1))]) rfl ?_
      exact hΦ2 _ _ h
    · replace h := ite_f h c_
      refine g_iload_n (pc := 19) C 3 dX9_layGame_19 rfl rfl ?_
      refine g_iconst (pc := 20) (v := 2) C dX9_layGame_20 ic_2 ?_
      refine g_irem (pc := 21) C dX9_layGame_21 (by decide) ?_
      refine g_if_ne (pc := 22) (tgt := 29) C dX9_layGame_22 (by decide) (fun c_ => ?_) (fun c_ => ?_)
      · replace h := ite_f h c_
        refine g_iconst (pc := 29) (v := 0) C dX9_layGame_29 ic_0 ?_
        refine g_lv [0, 1, 2, 3, 4] (lv2 := [(0, .ref (G.2.2 0)), (1, .int v1), (2, .int v2), (3, .int v3), (4, .int v4)]) rfl ?_
        exact k_X9_layGame_30 C hΦ2 (fun _ _ h_ => ih h_) h
      · replace h := ite_t h c_
        refine g_iconst (pc := 25) (v := 1) C dX9_layGame_25 ic_1 ?_
        refine g_goto (pc := 26) (tgt := 30) C dX9_layGame_26 (by decide) ?_
        refine g_lv [0, 1, 2, 3, 4] (lv2 := [(0, .ref (G.2.2 0)), (1, .int v1), (2, .int v2), (3, .int v3), (4, .int v4)]) rfl ?_
        exact k_X9_layGame_30 C hΦ2 (fun _ _ h_ => ih h_) h
set_option maxHeartbeats 4000000 in
set_option maxRecDepth 100000 in
theorem k_X9_layGame_2 {v1 : Int32} {v2 : Int32} {v3 : Int32} {σ : St} {K : St → Prop} (C : Cx p R s m args meth c shM G cX9_layGame 10 3 RX9 none 0 0) (h : L_X9_layGame_2 v1 v2 K v3 σ) : Go p l e R s m args below meth c shM G 10 0 0 (MQ below (Qw shM G (RV K)) args s 0 0 (Fr shM G)) 2 [(0, .ref (G.2.2 0)), (1, .int v1), (2, .int v2), (3, .int v3)] [] σ := by
  obtain ⟨n_, h⟩ := h
  induction n_ generalizing v3 σ with
  | zero => exact h.elim
  | succ n_ ih =>
    replace h : B_X9_layGame_2 v1 v2 K (it2 (B_X9_layGame_2 v1 v2 K) n_) v3 σ := h
    unfold B_X9_layGame_2 at h
    refine g_iload_n (pc := 2) C 3 dX9_layGame_2 rfl rfl ?_
    refine g_iconst (pc := 3) (v := 2) C dX9_layGame_3 ic_2 ?_
    refine g_iload_n (pc := 4) C 2 dX9_layGame_4 rfl rfl ?_
    refine g_imul (pc := 5) C dX9_layGame_5 ?_
    refine g_icmp_gt (pc := 6) (tgt := 203) C dX9_layGame_6 (by decide) (fun c_ => ?_) (fun c_ => ?_)
    · replace h := ite_t h c_
      exact g_vret (pc := 203) C dX9_layGame_203 ⟨rfl, h⟩
    · replace h := ite_f h c_
      refine g_iconst (pc := 9) (v := 0) C dX9_layGame_9 ic_0 ?_
      refine g_istore (pc := 10) (lv2 := [(4, .int 0), (0, .ref (G.2.2 0)), (1, .int v1), (2, .int v2), (3, .int v3)]) C dX9_layGame_10 (by decide) rfl ?_
      refine g_lv [1, 2, 3, 4, 0] (lv2 := [(0, .ref (G.2.2 0)), (1, .int v1), (2, .int v2), (3, .int v3), (4, .int 0)]) rfl ?_
      exact k_X9_layGame_12 C (fun _ _ h_ => ih h_) h
set_option maxHeartbeats 4000000 in
set_option maxRecDepth 100000 in
theorem M_X9_layGame {l : Launch} {G : Gp} (hD : Dj shM G) {v1 : Int32} {v2 : Int32} {σ : St} {K : St → Prop} (h : wp_X9_layGame v1 v2 σ K) : MC l shM G yX9_layGame cX9_layGame 10 none 3 [.ref (G.2.2 0), .int v1, .int v2] σ (RV K) := by
  unfold wp_X9_layGame at h
  refine MC.of (by decide) hD (Nat.le_of_ble_eq_true rfl) ?_
  intro p e s m args below meth c C
  replace C : Cx p (rmD 3) s m args meth c shM G cX9_layGame 10 3 RX9 none 0 0 := C
  show Go p l e (rmD 3) s m args below meth c shM G 10 0 0 (MQ below (Qw shM G (RV K)) args s 0 0 (Fr shM G)) 0 [(0, .ref (G.2.2 0)), (1, .int v1), (2, .int v2)] [] σ
  refine g_iconst (pc := 0) (v := 0) C dX9_layGame_0 ic_0 ?_
  refine g_istore_n (pc := 1) (lv2 := [(3, .int 0), (0, .ref (G.2.2 0)), (1, .int v1), (2, .int v2)]) C dX9_layGame_1 rfl (by decide) rfl ?_
  refine g_lv [1, 2, 3, 0] (lv2 := [(0, .ref (G.2.2 0)), (1, .int v1), (2, .int v2), (3, .int 0)]) rfl ?_
  exact k_X9_layGame_2 C  h
set_option maxHeartbeats 4000000 in
set_option maxRecDepth 100000 in
theorem k_X9_first_20 {σ : St} {K : Int32 → St → Prop} (C : Cx p R s m args meth c shM G cX9_first 5 4 RX9 (some .int) 0 0) (h : J_X9_first_20 σ K) : Go p l e R s m args below meth c shM G 5 0 0 (MQ below (Qw shM G (RI K)) args s 0 0 (Fr shM G)) 20 [] [] σ := by
  unfold J_X9_first_20 at h
  refine g_iconst (pc := 20) (v := -1) C dX9_first_20 ic_m1 ?_
  exact g_iret (pc := 21) C dX9_first_21 ⟨_, rfl, h⟩
set_option maxHeartbeats 4000000 in
set_option maxRecDepth 100000 in
theorem k_X9_first_104 {v1 : Int32} {v2 : Int32} {v3 : Int32} {σ : St} {K : Int32 → St → Prop} {Φ48 : Int32 → Prop} (C : Cx p R s m args meth c shM G cX9_first 5 4 RX9 (some .int) 0 0) (hΦ48 : ∀ (v3' : Int32), Φ48 v3' → Go p l e R s m args below meth c shM G 5 0 0 (MQ below (Qw shM G (RI K)) args s 0 0 (Fr shM G)) 48 [(0, .ref (G.2.2 0)), (1, .int v1), (2, .int v2), (3, .int (v3'))] [] σ) (h : J_X9_first_104 v1 v2 v3 σ K Φ48) : Go p l e R s m args below meth c shM G 5 0 0 (MQ below (Qw shM G (RI K)) args s 0 0 (Fr shM G)) 104 [(0, .ref (G.2.2 0)), (1, .int v1), (2, .int v2), (3, .int v3)] [] σ := by
  unfold J_X9_first_104 at h
  refine g_iinc (pc := 104) (lv2 := [(3, .int (v3 + 1)), (0, .ref (G.2.2 0)), (1, .int v1), (2, .int v2)]) C 3 dX9_first_104 ic_1 rfl (by decide) rfl ?_
  refine g_goto (pc := 107) (tgt := 48) C dX9_first_107 (by decide) ?_
  refine g_lv [1, 2, 3, 0] (lv2 := [(0, .ref (G.2.2 0)), (1, .int v1), (2, .int v2), (3, .int (v3 + 1))]) rfl ?_
  exact hΦ48 _ h
set_option maxHeartbeats 4000000 in
set_option maxRecDepth 100000 in
theorem k_X9_first_48 {v1 : Int32} {v2 : Int32} {v3 : Int32} {σ : St} {K : Int32 → St → Prop} (C : Cx p R s m args meth c shM G cX9_first 5 4 RX9 (some .int) 0 0) (h : L_X9_first_48 v1 v2 σ K v3) : Go p l e R s m args below meth c shM G 5 0 0 (MQ below (Qw shM G (RI K)) args s 0 0 (Fr shM G)) 48 [(0, .ref (G.2.2 0)), (1, .int v1), (2, .int v2), (3, .int v3)] [] σ := by
  obtain ⟨n_, h⟩ := h
  induction n_ generalizing v3 with
  | zero => exact h.elim
  | succ n_ ih =>
    replace h : B_X9_first_48 v1 v2 σ K (it1 (B_X9_first_48 v1 v2 σ K) n_) v3 := h
    unfold B_X9_first_48 at h
    refine g_iload_n (pc := 48) C 3 dX9_first_48 rfl rfl ?_
    refine g_bipush (pc := 49) (v := 7) C dX9_first_49 bp_7 ?_
    refine g_icmp_ge (pc := 51) (tgt := 110) C dX9_first_51 (by decide) (fun c_ => ?_) (fun c_ => ?_)
    · replace h := ite_t h c_
      refine g_bipush (pc := 110) (v := -9) C dX9_first_110 bp_m9 ?_
      exact g_iret (pc := 112) C dX9_first_112 ⟨_, rfl, h⟩
    · replace h := ite_f h c_
      refine g_aload_n (pc := 54) C 0 dX9_first_54 rfl rfl ?_
      refine get_X9_0 (pc := 55) C rfl tw_862 dX9_first_55 ?_
      refine g_iconst (pc := 58) (v := 2) C dX9_first_58 ic_2 ?_
      refine g_iload_n (pc := 59) C 1 dX9_first_59 rfl rfl ?_
      refine g_iadd (pc := 60) C dX9_first_60 ?_
      obtain ⟨g_, h⟩ := h
      refine g_iald (pc := 61) C rfl g_ dX9_first_61 ?_
      refine g_aload_n (pc := 62) C 0 dX9_first_62 rfl rfl ?_
      refine get_X9_0 (pc := 63) C rfl tw_862 dX9_first_63 ?_
      refine g_bipush (pc := 66) (v := 14) C dX9_first_66 bp_14 ?_
      refine g_iload_n (pc := 68) C 1 dX9_first_68 rfl rfl ?_
      refine g_iadd (pc := 69) C dX9_first_69 ?_
      obtain ⟨g_, h⟩ := h
      refine g_iald (pc := 70) C rfl g_ dX9_first_70 ?_
      refine g_iload_n (pc := 71) C 3 dX9_first_71 rfl rfl ?_
      refine g_callSip (pc := 72) (As := [.int (σ.1 1 (2 + v1).toNatClampNeg), .int (σ.1 1 (14 + v1).toNatClampNeg), .int v3]) (rest := []) C (M_X9_after C.2.2.1  h) CyX9_after tw_1061 tw_1062 (by decide) rfl rfl (Nat.le_of_ble_eq_true rfl) dX9_first_72 (fun r72 h => ?_)
      refine g_istore (pc := 75) (lv2 := [(4, .int r72), (0, .ref (G.2.2 0)), (1, .int v1), (2, .int v2), (3, .int v3)]) C dX9_first_75 (by decide) rfl ?_
      refine g_iload (pc := 77) C 0 dX9_first_77 rfl ?_
      refine g_iconst (pc := 79) (v := -1) C dX9_first_79 ic_m1 ?_
      refine g_icmp_eq (pc := 80) (tgt := 104) C dX9_first_80 (by decide) (fun c_ => ?_) (fun c_ => ?_)
      · replace h := ite_t h c_
        refine g_lv [1, 2, 3, 4] (lv2 := [(0, .ref (G.2.2 0)), (1, .int v1), (2, .int v2), (3, .int v3)]) rfl ?_
        exact k_X9_first_104 C (fun _ h_ => ih h_) h
      · replace h := ite_f h c_
        refine g_aload_n (pc := 83) C 1 dX9_first_83 rfl rfl ?_
        refine get_X9_24 (pc := 84) C rfl tw_886 dX9_first_84 ?_
        refine g_bipush (pc := 87) (v := 21) C dX9_first_87 bp_21 ?_
        refine g_iconst (pc := 89) (v := 2) C dX9_first_89 ic_2 ?_
        refine g_iload_n (pc := 90) C 3 dX9_first_90 rfl rfl ?_
        refine g_imul (pc := 91) C dX9_first_91 ?_
        refine g_iconst (pc := 92) (v := 1) C dX9_first_92 ic_1 ?_
        refine g_isub (pc := 93) C dX9_first_93 ?_
        refine g_imul (pc := 94) C dX9_first_94 ?_
        refine g_iload (pc := 95) C 0 dX9_first_95 rfl ?_
        refine g_iadd (pc := 97) C dX9_first_97 ?_
        obtain ⟨g_, h⟩ := h
        refine g_zald (pc := 98) C rfl g_ dX9_first_98 ?_
        refine g_if_eq (pc := 99) (tgt := 104) C dX9_first_99 (by decide) (fun c_ => ?_) (fun c_ => ?_)
        · replace h := ite_t h c_
          refine g_lv [1, 2, 3, 4] (lv2 := [(0, .ref (G.2.2 0)), (1, .int v1), (2, .int v2), (3, .int v3)]) rfl ?_
          exact k_X9_first_104 C (fun _ h_ => ih h_) h
        · replace h := ite_f h c_
          refine g_iload_n (pc := 102) C 4 dX9_first_102 rfl rfl ?_
          exact g_iret (pc := 103) C dX9_first_103 ⟨_, rfl, h⟩
set_option maxHeartbeats 4000000 in
set_option maxRecDepth 100000 in
theorem M_X9_first {l : Launch} {G : Gp} (hD : Dj shM G) {v1 : Int32} {v2 : Int32} {σ : St} {K : Int32 → St → Prop} (h : wp_X9_first v1 v2 σ K) : MC l shM G yX9_first cX9_first 5 (some .int) 4 [.ref (G.2.2 0), .int v1, .int v2] σ (RI K) := by
  unfold wp_X9_first at h
  refine MC.of (by decide) hD (Nat.le_of_ble_eq_true rfl) ?_
  intro p e s m args below meth c C
  replace C : Cx p (rmD 4) s m args meth c shM G cX9_first 5 4 RX9 (some .int) 0 0 := C
  show Go p l e (rmD 4) s m args below meth c shM G 5 0 0 (MQ below (Qw shM G (RI K)) args s 0 0 (Fr shM G)) 0 [(0, .ref (G.2.2 0)), (1, .int v1), (2, .int v2)] [] σ
  refine g_aload_n (pc := 0) C 0 dX9_first_0 rfl rfl ?_
  refine g_iload_n (pc := 1) C 1 dX9_first_1 rfl rfl ?_
  refine g_callVip (pc := 2) (As := [.int v1]) (rest := []) C rfl rfl rfl rfl (M_X9_isBell C.2.2.1  h) CyX9_isBell tw_1045 tw_1047 ts_34 (by decide) rfl rfl (Nat.le_of_ble_eq_true rfl) dX9_first_2 (fun r2 h => ?_)
  refine g_if_eq (pc := 5) (tgt := 20) C dX9_first_5 (by decide) (fun c_ => ?_) (fun c_ => ?_)
  · replace h := ite_t h c_
    refine g_lv [] (lv2 := []) rfl ?_
    exact k_X9_first_20 C  h
  · replace h := ite_f h c_
    refine g_iload_n (pc := 8) C 2 dX9_first_8 rfl rfl ?_
    refine g_i2l (pc := 9) C dX9_first_9 ?_
    refine g_lconst (pc := 10) (v := 1) C dX9_first_10 lc_1 ?_
    refine g_ldc2 (pc := 11) (v := 3) C dX9_first_11 tw_1001 ?_
    refine g_callSip (pc := 14) (As := [.long v2.toInt64, .long (1 : Int64), .long (3 : Int64)]) (rest := []) C (M_X9_in C.2.2.1  h) CyX9_in tw_955 tw_956 (by decide) rfl rfl (Nat.le_of_ble_eq_true rfl) dX9_first_14 (fun r14 h => ?_)
    refine g_if_ne (pc := 17) (tgt := 22) C dX9_first_17 (by decide) (fun c_ => ?_) (fun c_ => ?_)
    · replace h := ite_f h c_
      refine g_aload_n (pc := 22) C 0 dX9_first_22 rfl rfl ?_
      refine g_iload_n (pc := 23) C 1 dX9_first_23 rfl rfl ?_
      refine g_callVip (pc := 24) (As := [.int v1]) (rest := []) C rfl rfl rfl rfl (M_X9_isOver C.2.2.1  h) CyX9_isOver tw_1089 tw_1091 ts_38 (by decide) rfl rfl (Nat.le_of_ble_eq_true rfl) dX9_first_24 (fun r24 h => ?_)
      refine g_if_eq (pc := 27) (tgt := 33) C dX9_first_27 (by decide) (fun c_ => ?_) (fun c_ => ?_)
      · replace h := ite_t h c_
        refine g_aload_n (pc := 33) C 0 dX9_first_33 rfl rfl ?_
        refine g_aload_n (pc := 34) C 0 dX9_first_34 rfl rfl ?_
        refine get_X9_0 (pc := 35) C rfl tw_862 dX9_first_35 ?_
        refine g_iconst (pc := 38) (v := 2) C dX9_first_38 ic_2 ?_
        refine g_iload_n (pc := 39) C 1 dX9_first_39 rfl rfl ?_
        refine g_iadd (pc := 40) C dX9_first_40 ?_
        obtain ⟨g_, h⟩ := h
        refine g_iald (pc := 41) C rfl g_ dX9_first_41 ?_
        refine g_iload_n (pc := 42) C 2 dX9_first_42 rfl rfl ?_
        refine g_callVv (pc := 43) (As := [.int (σ.1 1 (2 + v1).toNatClampNeg), .int v2]) (rest := []) C rfl rfl rfl rfl (M_X9_layGame C.2.2.1  h) CyX9_layGame tw_1241 tw_1243 ts_54 (by decide) rfl rfl (Nat.le_of_ble_eq_true rfl) dX9_first_43 (fun t43 h => ?_)
        refine g_iconst (pc := 46) (v := 0) C dX9_first_46 ic_0 ?_
        refine g_istore_n (pc := 47) (lv2 := [(3, .int 0), (0, .ref (G.2.2 0)), (1, .int v1), (2, .int v2)]) C dX9_first_47 rfl (by decide) rfl ?_
        refine g_lv [1, 2, 3, 0] (lv2 := [(0, .ref (G.2.2 0)), (1, .int v1), (2, .int v2), (3, .int 0)]) rfl ?_
        exact k_X9_first_48 C  h
      · replace h := ite_f h c_
        refine g_bipush (pc := 30) (v := -4) C dX9_first_30 bp_m4 ?_
        exact g_iret (pc := 32) C dX9_first_32 ⟨_, rfl, h⟩
    · replace h := ite_t h c_
      refine g_lv [] (lv2 := []) rfl ?_
      exact k_X9_first_20 C  h
set_option maxHeartbeats 4000000 in
set_option maxRecDepth 100000 in
theorem k_X9_game_20 {σ : St} {K : Int32 → St → Prop} (C : Cx p R s m args meth c shM G cX9_game 3 4 RX9 (some .int) 0 0) (h : J_X9_game_20 σ K) : Go p l e R s m args below meth c shM G 3 0 0 (MQ below (Qw shM G (RI K)) args s 0 0 (Fr shM G)) 20 [] [] σ := by
  unfold J_X9_game_20 at h
  refine g_iconst (pc := 20) (v := -1) C dX9_game_20 ic_m1 ?_
  exact g_iret (pc := 21) C dX9_game_21 ⟨_, rfl, h⟩
set_option maxHeartbeats 4000000 in
set_option maxRecDepth 100000 in
theorem k_X9_game_73 {w0 : Int32} {σ : St} {K : Int32 → St → Prop} (C : Cx p R s m args meth c shM G cX9_game 3 4 RX9 (some .int) 0 0) (h : J_X9_game_73 w0 σ K) : Go p l e R s m args below meth c shM G 3 0 0 (MQ below (Qw shM G (RI K)) args s 0 0 (Fr shM G)) 73 [] [.int w0] σ := by
  unfold J_X9_game_73 at h
  exact g_iret (pc := 73) C dX9_game_73 ⟨_, rfl, h⟩
set_option maxHeartbeats 4000000 in
set_option maxRecDepth 100000 in
theorem M_X9_game {l : Launch} {G : Gp} (hD : Dj shM G) {v1 : Int32} {v2 : Int32} {σ : St} {K : Int32 → St → Prop} (h : wp_X9_game v1 v2 σ K) : MC l shM G yX9_game cX9_game 3 (some .int) 4 [.ref (G.2.2 0), .int v1, .int v2] σ (RI K) := by
  unfold wp_X9_game at h
  refine MC.of (by decide) hD (Nat.le_of_ble_eq_true rfl) ?_
  intro p e s m args below meth c C
  replace C : Cx p (rmD 4) s m args meth c shM G cX9_game 3 4 RX9 (some .int) 0 0 := C
  show Go p l e (rmD 4) s m args below meth c shM G 3 0 0 (MQ below (Qw shM G (RI K)) args s 0 0 (Fr shM G)) 0 [(0, .ref (G.2.2 0)), (1, .int v1), (2, .int v2)] [] σ
  refine g_aload_n (pc := 0) C 0 dX9_game_0 rfl rfl ?_
  refine g_iload_n (pc := 1) C 1 dX9_game_1 rfl rfl ?_
  refine g_callVip (pc := 2) (As := [.int v1]) (rest := []) C rfl rfl rfl rfl (M_X9_isBell C.2.2.1  h) CyX9_isBell tw_1045 tw_1047 ts_34 (by decide) rfl rfl (Nat.le_of_ble_eq_true rfl) dX9_game_2 (fun r2 h => ?_)
  refine g_if_eq (pc := 5) (tgt := 20) C dX9_game_5 (by decide) (fun c_ => ?_) (fun c_ => ?_)
  · replace h := ite_t h c_
    refine g_lv [] (lv2 := []) rfl ?_
    exact k_X9_game_20 C  h
  · replace h := ite_f h c_
    refine g_iload_n (pc := 8) C 2 dX9_game_8 rfl rfl ?_
    refine g_i2l (pc := 9) C dX9_game_9 ?_
    refine g_lconst (pc := 10) (v := 0) C dX9_game_10 lc_0 ?_
    refine g_ldc2 (pc := 11) (v := 3) C dX9_game_11 tw_1001 ?_
    refine g_callSip (pc := 14) (As := [.long v2.toInt64, .long (0 : Int64), .long (3 : Int64)]) (rest := []) C (M_X9_in C.2.2.1  h) CyX9_in tw_955 tw_956 (by decide) rfl rfl (Nat.le_of_ble_eq_true rfl) dX9_game_14 (fun r14 h => ?_)
    refine g_if_ne (pc := 17) (tgt := 22) C dX9_game_17 (by decide) (fun c_ => ?_) (fun c_ => ?_)
    · replace h := ite_f h c_
      refine g_aload_n (pc := 22) C 0 dX9_game_22 rfl rfl ?_
      refine g_iload_n (pc := 23) C 1 dX9_game_23 rfl rfl ?_
      refine g_callVip (pc := 24) (As := [.int v1]) (rest := []) C rfl rfl rfl rfl (M_X9_isOver C.2.2.1  h) CyX9_isOver tw_1089 tw_1091 ts_38 (by decide) rfl rfl (Nat.le_of_ble_eq_true rfl) dX9_game_24 (fun r24 h => ?_)
      refine g_if_eq (pc := 27) (tgt := 33) C dX9_game_27 (by decide) (fun c_ => ?_) (fun c_ => ?_)
      · replace h := ite_t h c_
        refine g_aload_n (pc := 33) C 0 dX9_game_33 rfl rfl ?_
        refine g_aload_n (pc := 34) C 0 dX9_game_34 rfl rfl ?_
        refine get_X9_0 (pc := 35) C rfl tw_862 dX9_game_35 ?_
        refine g_iconst (pc := 38) (v := 2) C dX9_game_38 ic_2 ?_
        refine g_iload_n (pc := 39) C 1 dX9_game_39 rfl rfl ?_
        refine g_iadd (pc := 40) C dX9_game_40 ?_
        obtain ⟨g_, h⟩ := h
        refine g_iald (pc := 41) C rfl g_ dX9_game_41 ?_
        refine g_iload_n (pc := 42) C 2 dX9_game_42 rfl rfl ?_
        refine g_callVv (pc := 43) (As := [.int (σ.1 1 (2 + v1).toNatClampNeg), .int v2]) (rest := []) C rfl rfl rfl rfl (M_X9_layGame C.2.2.1  h) CyX9_layGame tw_1241 tw_1243 ts_54 (by decide) rfl rfl (Nat.le_of_ble_eq_true rfl) dX9_game_43 (fun t43 h => ?_)
        refine g_aload_n (pc := 46) C 0 dX9_game_46 rfl rfl ?_
        refine get_X9_24 (pc := 47) C rfl tw_886 dX9_game_47 ?_
        refine g_bipush (pc := 50) (v := 42) C dX9_game_50 bp_42 ?_
        refine g_iload_n (pc := 52) C 2 dX9_game_52 rfl rfl ?_
        refine g_imul (pc := 53) C dX9_game_53 ?_
        refine g_aload_n (pc := 54) C 0 dX9_game_54 rfl rfl ?_
        refine get_X9_0 (pc := 55) C rfl tw_862 dX9_game_55 ?_
        refine g_bipush (pc := 58) (v := 14) C dX9_game_58 bp_14 ?_
        refine g_iload_n (pc := 60) C 1 dX9_game_60 rfl rfl ?_
        refine g_iadd (pc := 61) C dX9_game_61 ?_
        obtain ⟨g_, h⟩ := h
        refine g_iald (pc := 62) C rfl g_ dX9_game_62 ?_
        refine g_iadd (pc := 63) C dX9_game_63 ?_
        obtain ⟨g_, h⟩ := h
        refine g_zald (pc := 64) C rfl g_ dX9_game_64 ?_
        refine g_if_eq (pc := 65) (tgt := 72) C dX9_game_65 (by decide) (fun c_ => ?_) (fun c_ => ?_)
        · replace h := ite_t h c_
          refine g_iconst (pc := 72) (v := 0) C dX9_game_72 ic_0 ?_
          refine g_lv [] (lv2 := []) rfl ?_
          exact k_X9_game_73 C  h
        · replace h := ite_f h c_
          refine g_iconst (pc := 68) (v := 1) C dX9_game_68 ic_1 ?_
          refine g_goto (pc := 69) (tgt := 73) C dX9_game_69 (by decide) ?_
          refine g_lv [] (lv2 := []) rfl ?_
          exact k_X9_game_73 C  h
      · replace h := ite_f h c_
        refine g_bipush (pc := 30) (v := -4) C dX9_game_30 bp_m4 ?_
        exact g_iret (pc := 32) C dX9_game_32 ⟨_, rfl, h⟩
    · replace h := ite_t h c_
      refine g_lv [] (lv2 := []) rfl ?_
      exact k_X9_game_20 C  h
set_option maxHeartbeats 4000000 in
set_option maxRecDepth 100000 in
theorem k_X9_heard_65 {w0 : Int32} {σ : St} {K : Int32 → St → Prop} (C : Cx p R s m args meth c shM G cX9_heard 4 5 RX9 (some .int) 0 0) (h : J_X9_heard_65 w0 σ K) : Go p l e R s m args below meth c shM G 4 0 0 (MQ below (Qw shM G (RI K)) args s 0 0 (Fr shM G)) 65 [] [.int w0] σ := by
  unfold J_X9_heard_65 at h
  exact g_iret (pc := 65) C dX9_heard_65 ⟨_, rfl, h⟩
set_option maxHeartbeats 4000000 in
set_option maxRecDepth 100000 in
theorem M_X9_heard {l : Launch} {G : Gp} (hD : Dj shM G) {v1 : Int32} {v2 : Int32} {σ : St} {K : Int32 → St → Prop} (h : wp_X9_heard v1 v2 σ K) : MC l shM G yX9_heard cX9_heard 4 (some .int) 5 [.ref (G.2.2 0), .int v1, .int v2] σ (RI K) := by
  unfold wp_X9_heard at h
  refine MC.of (by decide) hD (Nat.le_of_ble_eq_true rfl) ?_
  intro p e s m args below meth c C
  replace C : Cx p (rmD 5) s m args meth c shM G cX9_heard 4 5 RX9 (some .int) 0 0 := C
  show Go p l e (rmD 5) s m args below meth c shM G 4 0 0 (MQ below (Qw shM G (RI K)) args s 0 0 (Fr shM G)) 0 [(0, .ref (G.2.2 0)), (1, .int v1), (2, .int v2)] [] σ
  refine g_iload_n (pc := 0) C 2 dX9_heard_0 rfl rfl ?_
  refine g_i2l (pc := 1) C dX9_heard_1 ?_
  refine g_lconst (pc := 2) (v := 0) C dX9_heard_2 lc_0 ?_
  refine g_ldc2 (pc := 3) (v := 5) C dX9_heard_3 tw_954 ?_
  refine g_callSip (pc := 6) (As := [.long v2.toInt64, .long (0 : Int64), .long (5 : Int64)]) (rest := []) C (M_X9_in C.2.2.1  h) CyX9_in tw_955 tw_956 (by decide) rfl rfl (Nat.le_of_ble_eq_true rfl) dX9_heard_6 (fun r6 h => ?_)
  refine g_if_ne (pc := 9) (tgt := 14) C dX9_heard_9 (by decide) (fun c_ => ?_) (fun c_ => ?_)
  · replace h := ite_f h c_
    refine g_aload_n (pc := 14) C 0 dX9_heard_14 rfl rfl ?_
    refine g_iload_n (pc := 15) C 1 dX9_heard_15 rfl rfl ?_
    refine g_callVi (pc := 16) (As := [.int v1]) (rest := []) C rfl rfl rfl rfl (M_X9_against C.2.2.1  h) CyX9_against tw_1105 tw_1107 ts_41 (by decide) rfl rfl (Nat.le_of_ble_eq_true rfl) dX9_heard_16 (fun r16 t16 h => ?_)
    refine g_istore_n (pc := 19) (lv2 := [(3, .int r16), (0, .ref (G.2.2 0)), (1, .int v1), (2, .int v2)]) C dX9_heard_19 rfl (by decide) rfl ?_
    refine g_iload_n (pc := 20) C 0 dX9_heard_20 rfl rfl ?_
    refine g_if_ge (pc := 21) (tgt := 26) C dX9_heard_21 (by decide) (fun c_ => ?_) (fun c_ => ?_)
    · replace h := ite_t h c_
      refine g_aload_n (pc := 26) C 1 dX9_heard_26 rfl rfl ?_
      refine g_iload_n (pc := 27) C 2 dX9_heard_27 rfl rfl ?_
      refine g_callVv (pc := 28) (As := [.int v1]) (rest := []) C rfl rfl rfl rfl (M_X9_laysPulls C.2.2.1  h) CyX9_laysPulls tw_1109 tw_1111 ts_42 (by decide) rfl rfl (Nat.le_of_ble_eq_true rfl) dX9_heard_28 (fun t28 h => ?_)
      refine g_iload_n (pc := 31) C 3 dX9_heard_31 rfl rfl ?_
      refine g_aload_n (pc := 32) C 1 dX9_heard_32 rfl rfl ?_
      refine get_X9_18 (pc := 33) C rfl tw_880 dX9_heard_33 ?_
      refine g_icmp_ge (pc := 36) (tgt := 63) C dX9_heard_36 (by decide) (fun c_ => ?_) (fun c_ => ?_)
      · replace h := ite_t h c_
        refine g_bipush (pc := 63) (v := -9) C dX9_heard_63 bp_m9 ?_
        refine g_lv [] (lv2 := []) rfl ?_
        exact k_X9_heard_65 C  h
      · replace h := ite_f h c_
        refine g_aload_n (pc := 39) C 1 dX9_heard_39 rfl rfl ?_
        refine g_aload_n (pc := 40) C 1 dX9_heard_40 rfl rfl ?_
        refine get_X9_15 (pc := 41) C rfl tw_877 dX9_heard_41 ?_
        refine g_aload_n (pc := 44) C 1 dX9_heard_44 rfl rfl ?_
        refine get_X9_16 (pc := 45) C rfl tw_878 dX9_heard_45 ?_
        refine g_iload_n (pc := 48) C 3 dX9_heard_48 rfl rfl ?_
        obtain ⟨g_, h⟩ := h
        refine g_iald (pc := 49) C rfl g_ dX9_heard_49 ?_
        obtain ⟨g_, h⟩ := h
        refine g_iald (pc := 50) C rfl g_ dX9_heard_50 ?_
        refine g_aload_n (pc := 51) C 1 dX9_heard_51 rfl rfl ?_
        refine get_X9_16 (pc := 52) C rfl tw_878 dX9_heard_52 ?_
        refine g_iload_n (pc := 55) C 3 dX9_heard_55 rfl rfl ?_
        obtain ⟨g_, h⟩ := h
        refine g_iald (pc := 56) C rfl g_ dX9_heard_56 ?_
        refine g_callVi (pc := 57) (As := [.int (t28.1 10 (t28.1 11 v2.toNatClampNeg).toNatClampNeg), .int (t28.1 11 v2.toNatClampNeg)]) (rest := []) C rfl rfl rfl rfl (M_X9_tells C.2.2.1  h) CyX9_tells tw_974 tw_976 ts_27 (by decide) rfl rfl (Nat.le_of_ble_eq_true rfl) dX9_heard_57 (fun r57 t57 h => ?_)
        refine g_goto (pc := 60) (tgt := 65) C dX9_heard_60 (by decide) ?_
        refine g_lv [] (lv2 := []) rfl ?_
        exact k_X9_heard_65 C  h
    · replace h := ite_f h c_
      refine g_iload_n (pc := 24) C 0 dX9_heard_24 rfl rfl ?_
      exact g_iret (pc := 25) C dX9_heard_25 ⟨_, rfl, h⟩
  · replace h := ite_t h c_
    refine g_iconst (pc := 12) (v := -1) C dX9_heard_12 ic_m1 ?_
    exact g_iret (pc := 13) C dX9_heard_13 ⟨_, rfl, h⟩
set_option maxHeartbeats 4000000 in
set_option maxRecDepth 100000 in
theorem k_X9_heights_69 {v1 : Int32} {v2 : Int32} {v5 : Int32} {w0 : Int32} {w1 : Int32} {σ : St} {K : Int32 → St → Prop} {Φ19 : Int32 → Int32 → Prop} (C : Cx p R s m args meth c shM G cX9_heights 6 4 RX9 (some .int) 0 0) (hΦ19 : ∀ (v4' : Int32) (v5' : Int32), Φ19 v4' v5' → Go p l e R s m args below meth c shM G 6 0 0 (MQ below (Qw shM G (RI K)) args s 0 0 (Fr shM G)) 19 [(0, .ref (G.2.2 0)), (1, .int v1), (2, .int v2), (4, .int (v4')), (5, .int (v5'))] [] σ) (h : J_X9_heights_69 v1 v2 v5 w0 w1 σ K Φ19) : Go p l e R s m args below meth c shM G 6 0 0 (MQ below (Qw shM G (RI K)) args s 0 0 (Fr shM G)) 69 [(0, .ref (G.2.2 0)), (1, .int v1), (2, .int v2), (5, .int v5)] [.int w1, .int w0] σ := by
  unfold J_X9_heights_69 at h
  refine g_ior (pc := 69) C dX9_heights_69 ?_
  refine g_istore (pc := 70) (lv2 := [(4, .int (w0 ||| w1)), (0, .ref (G.2.2 0)), (1, .int v1), (2, .int v2), (5, .int v5)]) C dX9_heights_70 (by decide) rfl ?_
  refine g_iinc (pc := 72) (lv2 := [(5, .int (v5 + 1)), (4, .int (w0 ||| w1)), (0, .ref (G.2.2 0)), (1, .int v1), (2, .int v2)]) C 4 dX9_heights_72 ic_1 rfl (by decide) rfl ?_
  refine g_goto (pc := 75) (tgt := 19) C dX9_heights_75 (by decide) ?_
  refine g_lv [2, 3, 4, 1, 0] (lv2 := [(0, .ref (G.2.2 0)), (1, .int v1), (2, .int v2), (4, .int (w0 ||| w1)), (5, .int (v5 + 1))]) rfl ?_
  exact hΦ19 _ _ h
set_option maxHeartbeats 4000000 in
set_option maxRecDepth 100000 in
theorem k_X9_heights_19 {v1 : Int32} {v2 : Int32} {v4 : Int32} {v5 : Int32} {σ : St} {K : Int32 → St → Prop} (C : Cx p R s m args meth c shM G cX9_heights 6 4 RX9 (some .int) 0 0) (h : L_X9_heights_19 v1 v2 σ K v4 v5) : Go p l e R s m args below meth c shM G 6 0 0 (MQ below (Qw shM G (RI K)) args s 0 0 (Fr shM G)) 19 [(0, .ref (G.2.2 0)), (1, .int v1), (2, .int v2), (4, .int v4), (5, .int v5)] [] σ := by
  obtain ⟨n_, h⟩ := h
  induction n_ generalizing v4 v5 with
  | zero => exact h.elim
  | succ n_ ih =>
    replace h : B_X9_heights_19 v1 v2 σ K (it2 (B_X9_heights_19 v1 v2 σ K) n_) v4 v5 := h
    unfold B_X9_heights_19 at h
    refine g_iload (pc := 19) C 4 dX9_heights_19 rfl ?_
    refine g_bipush (pc := 21) (v := 20) C dX9_heights_21 bp_20 ?_
    refine g_icmp_gt (pc := 23) (tgt := 78) C dX9_heights_23 (by decide) (fun c_ => ?_) (fun c_ => ?_)
    · replace h := ite_t h c_
      refine g_iload (pc := 78) C 3 dX9_heights_78 rfl ?_
      exact g_iret (pc := 80) C dX9_heights_80 ⟨_, rfl, h⟩
    · replace h := ite_f h c_
      refine g_iload (pc := 26) C 3 dX9_heights_26 rfl ?_
      refine g_aload_n (pc := 28) C 0 dX9_heights_28 rfl rfl ?_
      refine g_iload_n (pc := 29) C 2 dX9_heights_29 rfl rfl ?_
      refine g_aload_n (pc := 30) C 0 dX9_heights_30 rfl rfl ?_
      refine get_X9_0 (pc := 31) C rfl tw_862 dX9_heights_31 ?_
      refine g_iconst (pc := 34) (v := 2) C dX9_heights_34 ic_2 ?_
      refine g_iload_n (pc := 35) C 1 dX9_heights_35 rfl rfl ?_
      refine g_iadd (pc := 36) C dX9_heights_36 ?_
      obtain ⟨g_, h⟩ := h
      refine g_iald (pc := 37) C rfl g_ dX9_heights_37 ?_
      refine g_aload_n (pc := 38) C 0 dX9_heights_38 rfl rfl ?_
      refine get_X9_0 (pc := 39) C rfl tw_862 dX9_heights_39 ?_
      refine g_bipush (pc := 42) (v := 8) C dX9_heights_42 bp_8 ?_
      refine g_iload_n (pc := 44) C 1 dX9_heights_44 rfl rfl ?_
      refine g_iadd (pc := 45) C dX9_heights_45 ?_
      obtain ⟨g_, h⟩ := h
      refine g_iald (pc := 46) C rfl g_ dX9_heights_46 ?_
      refine g_iload (pc := 47) C 4 dX9_heights_47 rfl ?_
      refine g_aload_n (pc := 49) C 0 dX9_heights_49 rfl rfl ?_
      refine get_X9_0 (pc := 50) C rfl tw_862 dX9_heights_50 ?_
      refine g_iconst (pc := 53) (v := 1) C dX9_heights_53 ic_1 ?_
      obtain ⟨g_, h⟩ := h
      refine g_iald (pc := 54) C rfl g_ dX9_heights_54 ?_
      refine g_callVip (pc := 55) (As := [.int v2, .int (σ.1 1 (2 + v1).toNatClampNeg), .int (σ.1 1 (8 + v1).toNatClampNeg), .int v5, .int (σ.1 1 (1 : Int32).toNatClampNeg)]) (rest := [.int v4]) C rfl rfl rfl rfl (M_X9_isSo C.2.2.1  h) CyX9_isSo tw_1257 tw_1259 ts_56 (by decide) rfl rfl (Nat.le_of_ble_eq_true rfl) dX9_heights_55 (fun r55 h => ?_)
      refine g_if_eq (pc := 58) (tgt := 68) C dX9_heights_58 (by decide) (fun c_ => ?_) (fun c_ => ?_)
      · replace h := ite_t h c_
        refine g_iconst (pc := 68) (v := 0) C dX9_heights_68 ic_0 ?_
        refine g_lv [0, 1, 2, 4] (lv2 := [(0, .ref (G.2.2 0)), (1, .int v1), (2, .int v2), (5, .int v5)]) rfl ?_
        exact k_X9_heights_69 C (fun _ _ h_ => ih h_) h
      · replace h := ite_f h c_
        refine g_iconst (pc := 61) (v := 1) C dX9_heights_61 ic_1 ?_
        refine g_iload (pc := 62) C 4 dX9_heights_62 rfl ?_
        refine g_ishl (pc := 64) C dX9_heights_64 ?_
        refine g_goto (pc := 65) (tgt := 69) C dX9_heights_65 (by decide) ?_
        refine g_lv [0, 1, 2, 4] (lv2 := [(0, .ref (G.2.2 0)), (1, .int v1), (2, .int v2), (5, .int v5)]) rfl ?_
        exact k_X9_heights_69 C (fun _ _ h_ => ih h_) h
set_option maxHeartbeats 4000000 in
set_option maxRecDepth 100000 in
theorem M_X9_heights {l : Launch} {G : Gp} (hD : Dj shM G) {v1 : Int32} {v2 : Int32} {σ : St} {K : Int32 → St → Prop} (h : wp_X9_heights v1 v2 σ K) : MC l shM G yX9_heights cX9_heights 6 (some .int) 4 [.ref (G.2.2 0), .int v1, .int v2] σ (RI K) := by
  unfold wp_X9_heights at h
  refine MC.of (by decide) hD (Nat.le_of_ble_eq_true rfl) ?_
  intro p e s m args below meth c C
  replace C : Cx p (rmD 4) s m args meth c shM G cX9_heights 6 4 RX9 (some .int) 0 0 := C
  show Go p l e (rmD 4) s m args below meth c shM G 6 0 0 (MQ below (Qw shM G (RI K)) args s 0 0 (Fr shM G)) 0 [(0, .ref (G.2.2 0)), (1, .int v1), (2, .int v2)] [] σ
  refine g_aload_n (pc := 0) C 0 dX9_heights_0 rfl rfl ?_
  refine g_iload_n (pc := 1) C 1 dX9_heights_1 rfl rfl ?_
  refine g_iload_n (pc := 2) C 2 dX9_heights_2 rfl rfl ?_
  refine g_callVi (pc := 3) (As := [.int v1, .int v2]) (rest := []) C rfl rfl rfl rfl (M_X9_againstPairs C.2.2.1  h) CyX9_againstPairs tw_1253 tw_1255 ts_55 (by decide) rfl rfl (Nat.le_of_ble_eq_true rfl) dX9_heights_3 (fun r3 t3 h => ?_)
  refine g_istore_n (pc := 6) (lv2 := [(3, .int r3), (0, .ref (G.2.2 0)), (1, .int v1), (2, .int v2)]) C dX9_heights_6 rfl (by decide) rfl ?_
  refine g_iload_n (pc := 7) C 0 dX9_heights_7 rfl rfl ?_
  refine g_if_ge (pc := 8) (tgt := 13) C dX9_heights_8 (by decide) (fun c_ => ?_) (fun c_ => ?_)
  · replace h := ite_t h c_
    refine g_iconst (pc := 13) (v := 0) C dX9_heights_13 ic_0 ?_
    refine g_istore (pc := 14) (lv2 := [(4, .int 0), (3, .int r3), (0, .ref (G.2.2 0)), (1, .int v1), (2, .int v2)]) C dX9_heights_14 (by decide) rfl ?_
    refine g_iconst (pc := 16) (v := 0) C dX9_heights_16 ic_0 ?_
    refine g_istore (pc := 17) (lv2 := [(5, .int 0), (4, .int 0), (3, .int r3), (0, .ref (G.2.2 0)), (1, .int v1), (2, .int v2)]) C dX9_heights_17 (by decide) rfl ?_
    refine g_lv [3, 4, 5, 1, 0] (lv2 := [(0, .ref (G.2.2 0)), (1, .int v1), (2, .int v2), (4, .int 0), (5, .int 0)]) rfl ?_
    exact k_X9_heights_19 C  h
  · replace h := ite_f h c_
    refine g_iload_n (pc := 11) C 0 dX9_heights_11 rfl rfl ?_
    exact g_iret (pc := 12) C dX9_heights_12 ⟨_, rfl, h⟩
set_option maxHeartbeats 4000000 in
set_option maxRecDepth 100000 in
theorem M_X9_strikesBy {l : Launch} {G : Gp} (hD : Dj shM G) {v1 : Int32} {v2 : Int32} {v3 : Int32} {σ : St} {K : Int32 → Prop} (h : wp_X9_strikesBy v1 v2 v3 σ K) : MC l shM G yX9_strikesBy cX9_strikesBy 5 (some .int) 3 [.ref (G.2.2 0), .int v1, .int v2, .int v3] σ (RI (fun r t => t = σ ∧ K r)) := by
  unfold wp_X9_strikesBy at h
  refine MC.of (by decide) hD (Nat.le_of_ble_eq_true rfl) ?_
  intro p e s m args below meth c C
  replace C : Cx p (rmD 3) s m args meth c shM G cX9_strikesBy 5 3 RX9 (some .int) 0 0 := C
  show Go p l e (rmD 3) s m args below meth c shM G 5 0 0 (MQ below (Qw shM G (RI (fun r t => t = σ ∧ K r))) args s 0 0 (Fr shM G)) 0 [(0, .ref (G.2.2 0)), (1, .int v1), (2, .int v2), (3, .int v3)] [] σ
  refine g_aload_n (pc := 0) C 0 dX9_strikesBy_0 rfl rfl ?_
  refine get_X9_0 (pc := 1) C rfl tw_862 dX9_strikesBy_1 ?_
  refine g_iconst (pc := 4) (v := 2) C dX9_strikesBy_4 ic_2 ?_
  refine g_iload_n (pc := 5) C 1 dX9_strikesBy_5 rfl rfl ?_
  refine g_iadd (pc := 6) C dX9_strikesBy_6 ?_
  obtain ⟨g_, h⟩ := h
  refine g_iald (pc := 7) C rfl g_ dX9_strikesBy_7 ?_
  refine g_iload_n (pc := 8) C 2 dX9_strikesBy_8 rfl rfl ?_
  refine g_iload_n (pc := 9) C 3 dX9_strikesBy_9 rfl rfl ?_
  refine g_callSip (pc := 10) (As := [.int (σ.1 1 (2 + v1).toNatClampNeg), .int v2, .int v3]) (rest := []) C (M_X9_after C.2.2.1  h) CyX9_after tw_1061 tw_1062 (by decide) rfl rfl (Nat.le_of_ble_eq_true rfl) dX9_strikesBy_10 (fun r10 h => ?_)
  refine g_istore (pc := 13) (lv2 := [(4, .int r10), (0, .ref (G.2.2 0)), (1, .int v1), (2, .int v2), (3, .int v3)]) C dX9_strikesBy_13 (by decide) rfl ?_
  refine g_aload_n (pc := 15) C 1 dX9_strikesBy_15 rfl rfl ?_
  refine get_X9_0 (pc := 16) C rfl tw_862 dX9_strikesBy_16 ?_
  refine g_iconst (pc := 19) (v := 2) C dX9_strikesBy_19 ic_2 ?_
  refine g_iload_n (pc := 20) C 2 dX9_strikesBy_20 rfl rfl ?_
  refine g_iadd (pc := 21) C dX9_strikesBy_21 ?_
  obtain ⟨g_, h⟩ := h
  refine g_iald (pc := 22) C rfl g_ dX9_strikesBy_22 ?_
  refine g_aload_n (pc := 23) C 1 dX9_strikesBy_23 rfl rfl ?_
  refine get_X9_0 (pc := 24) C rfl tw_862 dX9_strikesBy_24 ?_
  refine g_bipush (pc := 27) (v := 8) C dX9_strikesBy_27 bp_8 ?_
  refine g_iload_n (pc := 29) C 2 dX9_strikesBy_29 rfl rfl ?_
  refine g_iadd (pc := 30) C dX9_strikesBy_30 ?_
  obtain ⟨g_, h⟩ := h
  refine g_iald (pc := 31) C rfl g_ dX9_strikesBy_31 ?_
  refine g_iload (pc := 32) C 0 dX9_strikesBy_32 rfl ?_
  refine g_aload_n (pc := 34) C 1 dX9_strikesBy_34 rfl rfl ?_
  refine get_X9_0 (pc := 35) C rfl tw_862 dX9_strikesBy_35 ?_
  refine g_iconst (pc := 38) (v := 1) C dX9_strikesBy_38 ic_1 ?_
  obtain ⟨g_, h⟩ := h
  refine g_iald (pc := 39) C rfl g_ dX9_strikesBy_39 ?_
  refine g_callSip (pc := 40) (As := [.int (σ.1 1 (2 + v1).toNatClampNeg), .int (σ.1 1 (8 + v1).toNatClampNeg), .int r10, .int (σ.1 1 (1 : Int32).toNatClampNeg)]) (rest := []) C (M_X9_tenthsOf C.2.2.1  h) CyX9_tenthsOf tw_1074 tw_1075 (by decide) rfl rfl (Nat.le_of_ble_eq_true rfl) dX9_strikesBy_40 (fun r40 h => ?_)
  exact g_iret (pc := 43) C dX9_strikesBy_43 ⟨_, rfl, ⟨rfl, h⟩⟩
set_option maxHeartbeats 4000000 in
set_option maxRecDepth 100000 in
theorem k_X9_hold_20 {σ : St} {K : Int32 → St → Prop} (C : Cx p R s m args meth c shM G cX9_hold 8 4 RX9 (some .int) 0 0) (h : J_X9_hold_20 σ K) : Go p l e R s m args below meth c shM G 8 0 0 (MQ below (Qw shM G (RI K)) args s 0 0 (Fr shM G)) 20 [] [] σ := by
  unfold J_X9_hold_20 at h
  refine g_iconst (pc := 20) (v := -1) C dX9_hold_20 ic_m1 ?_
  exact g_iret (pc := 21) C dX9_hold_21 ⟨_, rfl, h⟩
set_option maxHeartbeats 4000000 in
set_option maxRecDepth 100000 in
theorem k_X9_hold_153 {w0 : Int32} {σ : St} {K : Int32 → St → Prop} (C : Cx p R s m args meth c shM G cX9_hold 8 4 RX9 (some .int) 0 0) (h : J_X9_hold_153 w0 σ K) : Go p l e R s m args below meth c shM G 8 0 0 (MQ below (Qw shM G (RI K)) args s 0 0 (Fr shM G)) 153 [] [.int w0] σ := by
  unfold J_X9_hold_153 at h
  exact g_iret (pc := 153) C dX9_hold_153 ⟨_, rfl, h⟩
set_option maxHeartbeats 4000000 in
set_option maxRecDepth 100000 in
theorem k_X9_hold_127 {v1 : Int32} {v2 : Int32} {v3 : Int32} {v5 : Int32} {w0 : Int32} {σ : St} {K : Int32 → St → Prop} {Φ43 : Int32 → Int32 → Int32 → Prop} (C : Cx p R s m args meth c shM G cX9_hold 8 4 RX9 (some .int) 0 0) (hΦ43 : ∀ (v3' : Int32) (v4' : Int32) (v5' : Int32), Φ43 v3' v4' v5' → Go p l e R s m args below meth c shM G 8 0 0 (MQ below (Qw shM G (RI K)) args s 0 0 (Fr shM G)) 43 [(0, .ref (G.2.2 0)), (1, .int v1), (2, .int v2), (3, .int (v3')), (4, .int (v4')), (5, .int (v5'))] [] σ) (h : J_X9_hold_127 v1 v2 v3 v5 w0 σ K Φ43) : Go p l e R s m args below meth c shM G 8 0 0 (MQ below (Qw shM G (RI K)) args s 0 0 (Fr shM G)) 127 [(0, .ref (G.2.2 0)), (1, .int v1), (2, .int v2), (3, .int v3), (5, .int v5)] [.int w0] σ := by
  unfold J_X9_hold_127 at h
  refine g_istore (pc := 127) (lv2 := [(4, .int w0), (0, .ref (G.2.2 0)), (1, .int v1), (2, .int v2), (3, .int v3), (5, .int v5)]) C dX9_hold_127 (by decide) rfl ?_
  refine g_iinc (pc := 129) (lv2 := [(5, .int (v5 + 1)), (4, .int w0), (0, .ref (G.2.2 0)), (1, .int v1), (2, .int v2), (3, .int v3)]) C 5 dX9_hold_129 ic_1 rfl (by decide) rfl ?_
  refine g_goto (pc := 132) (tgt := 43) C dX9_hold_132 (by decide) ?_
  refine g_lv [2, 3, 4, 5, 1, 0] (lv2 := [(0, .ref (G.2.2 0)), (1, .int v1), (2, .int v2), (3, .int v3), (4, .int w0), (5, .int (v5 + 1))]) rfl ?_
  exact hΦ43 _ _ _ h
set_option maxHeartbeats 4000000 in
set_option maxRecDepth 100000 in
theorem k_X9_hold_112 {v1 : Int32} {v2 : Int32} {v4 : Int32} {v5 : Int32} {v7 : Int32} {w0 : Int32} {σ : St} {K : Int32 → St → Prop} {Φ43 : Int32 → Int32 → Int32 → Prop} (C : Cx p R s m args meth c shM G cX9_hold 8 4 RX9 (some .int) 0 0) (hΦ43 : ∀ (v3' : Int32) (v4' : Int32) (v5' : Int32), Φ43 v3' v4' v5' → Go p l e R s m args below meth c shM G 8 0 0 (MQ below (Qw shM G (RI K)) args s 0 0 (Fr shM G)) 43 [(0, .ref (G.2.2 0)), (1, .int v1), (2, .int v2), (3, .int (v3')), (4, .int (v4')), (5, .int (v5'))] [] σ) (h : J_X9_hold_112 v1 v2 v4 v5 v7 w0 σ K Φ43) : Go p l e R s m args below meth c shM G 8 0 0 (MQ below (Qw shM G (RI K)) args s 0 0 (Fr shM G)) 112 [(0, .ref (G.2.2 0)), (1, .int v1), (2, .int v2), (4, .int v4), (5, .int v5), (7, .int v7)] [.int w0] σ := by
  unfold J_X9_hold_112 at h
  refine g_istore_n (pc := 112) (lv2 := [(3, .int w0), (0, .ref (G.2.2 0)), (1, .int v1), (2, .int v2), (4, .int v4), (5, .int v5), (7, .int v7)]) C dX9_hold_112 rfl (by decide) rfl ?_
  refine g_iload (pc := 113) C 6 dX9_hold_113 rfl ?_
  refine g_iload (pc := 115) C 4 dX9_hold_115 rfl ?_
  refine g_icmp_ge (pc := 117) (tgt := 125) C dX9_hold_117 (by decide) (fun c_ => ?_) (fun c_ => ?_)
  · replace h := ite_t h c_
    refine g_iload (pc := 125) C 4 dX9_hold_125 rfl ?_
    refine g_lv [1, 2, 3, 0, 5] (lv2 := [(0, .ref (G.2.2 0)), (1, .int v1), (2, .int v2), (3, .int w0), (5, .int v5)]) rfl ?_
    exact k_X9_hold_127 C hΦ43 h
  · replace h := ite_f h c_
    refine g_iload (pc := 120) C 6 dX9_hold_120 rfl ?_
    refine g_goto (pc := 122) (tgt := 127) C dX9_hold_122 (by decide) ?_
    refine g_lv [1, 2, 3, 0, 5] (lv2 := [(0, .ref (G.2.2 0)), (1, .int v1), (2, .int v2), (3, .int w0), (5, .int v5)]) rfl ?_
    exact k_X9_hold_127 C hΦ43 h
set_option maxHeartbeats 4000000 in
set_option maxRecDepth 100000 in
theorem k_X9_hold_97 {v1 : Int32} {v2 : Int32} {v3 : Int32} {v4 : Int32} {v5 : Int32} {w0 : Int32} {σ : St} {K : Int32 → St → Prop} {Φ43 : Int32 → Int32 → Int32 → Prop} (C : Cx p R s m args meth c shM G cX9_hold 8 4 RX9 (some .int) 0 0) (hΦ43 : ∀ (v3' : Int32) (v4' : Int32) (v5' : Int32), Φ43 v3' v4' v5' → Go p l e R s m args below meth c shM G 8 0 0 (MQ below (Qw shM G (RI K)) args s 0 0 (Fr shM G)) 43 [(0, .ref (G.2.2 0)), (1, .int v1), (2, .int v2), (3, .int (v3')), (4, .int (v4')), (5, .int (v5'))] [] σ) (h : J_X9_hold_97 v1 v2 v3 v4 v5 w0 σ K Φ43) : Go p l e R s m args below meth c shM G 8 0 0 (MQ below (Qw shM G (RI K)) args s 0 0 (Fr shM G)) 97 [(0, .ref (G.2.2 0)), (1, .int v1), (2, .int v2), (3, .int v3), (4, .int v4), (5, .int v5)] [.int w0] σ := by
  unfold J_X9_hold_97 at h
  refine g_istore (pc := 97) (lv2 := [(7, .int w0), (0, .ref (G.2.2 0)), (1, .int v1), (2, .int v2), (3, .int v3), (4, .int v4), (5, .int v5)]) C dX9_hold_97 (by decide) rfl ?_
  refine g_iload (pc := 99) C 0 dX9_hold_99 rfl ?_
  refine g_iload (pc := 101) C 5 dX9_hold_101 rfl ?_
  refine g_icmp_ge (pc := 103) (tgt := 111) C dX9_hold_103 (by decide) (fun c_ => ?_) (fun c_ => ?_)
  · replace h := ite_t h c_
    refine g_iload_n (pc := 111) C 4 dX9_hold_111 rfl rfl ?_
    refine g_lv [1, 2, 3, 5, 6, 0] (lv2 := [(0, .ref (G.2.2 0)), (1, .int v1), (2, .int v2), (4, .int v4), (5, .int v5), (7, .int w0)]) rfl ?_
    exact k_X9_hold_112 C hΦ43 h
  · replace h := ite_f h c_
    refine g_iload (pc := 106) C 6 dX9_hold_106 rfl ?_
    refine g_goto (pc := 108) (tgt := 112) C dX9_hold_108 (by decide) ?_
    refine g_lv [1, 2, 3, 5, 6, 0] (lv2 := [(0, .ref (G.2.2 0)), (1, .int v1), (2, .int v2), (4, .int v4), (5, .int v5), (7, .int w0)]) rfl ?_
    exact k_X9_hold_112 C hΦ43 h
set_option maxHeartbeats 4000000 in
set_option maxRecDepth 100000 in
theorem k_X9_hold_43 {v1 : Int32} {v2 : Int32} {v3 : Int32} {v4 : Int32} {v5 : Int32} {σ : St} {K : Int32 → St → Prop} (C : Cx p R s m args meth c shM G cX9_hold 8 4 RX9 (some .int) 0 0) (h : L_X9_hold_43 v1 v2 σ K v3 v4 v5) : Go p l e R s m args below meth c shM G 8 0 0 (MQ below (Qw shM G (RI K)) args s 0 0 (Fr shM G)) 43 [(0, .ref (G.2.2 0)), (1, .int v1), (2, .int v2), (3, .int v3), (4, .int v4), (5, .int v5)] [] σ := by
  obtain ⟨n_, h⟩ := h
  induction n_ generalizing v3 v4 v5 with
  | zero => exact h.elim
  | succ n_ ih =>
    replace h : B_X9_hold_43 v1 v2 σ K (it3 (B_X9_hold_43 v1 v2 σ K) n_) v3 v4 v5 := h
    unfold B_X9_hold_43 at h
    refine g_iload (pc := 43) C 5 dX9_hold_43 rfl ?_
    refine g_bipush (pc := 45) (v := 7) C dX9_hold_45 bp_7 ?_
    refine g_icmp_ge (pc := 47) (tgt := 135) C dX9_hold_47 (by decide) (fun c_ => ?_) (fun c_ => ?_)
    · replace h := ite_t h c_
      refine g_iload_n (pc := 135) C 3 dX9_hold_135 rfl rfl ?_
      refine g_bipush (pc := 136) (v := -9) C dX9_hold_136 bp_m9 ?_
      refine g_icmp_ne (pc := 138) (tgt := 146) C dX9_hold_138 (by decide) (fun c_ => ?_) (fun c_ => ?_)
      · replace h := ite_f h c_
        refine g_aload_n (pc := 146) C 0 dX9_hold_146 rfl rfl ?_
        refine g_iload (pc := 147) C 4 dX9_hold_147 rfl ?_
        refine g_iload_n (pc := 149) C 3 dX9_hold_149 rfl rfl ?_
        refine g_callVi (pc := 150) (As := [.int v4, .int v3]) (rest := []) C rfl rfl rfl rfl (M_X9_tells C.2.2.1  h) CyX9_tells tw_974 tw_976 ts_27 (by decide) rfl rfl (Nat.le_of_ble_eq_true rfl) dX9_hold_150 (fun r150 t150 h => ?_)
        refine g_lv [] (lv2 := []) rfl ?_
        exact k_X9_hold_153 C  h
      · replace h := ite_t h c_
        refine g_bipush (pc := 141) (v := -9) C dX9_hold_141 bp_m9 ?_
        refine g_goto (pc := 143) (tgt := 153) C dX9_hold_143 (by decide) ?_
        refine g_lv [] (lv2 := []) rfl ?_
        exact k_X9_hold_153 C  h
    · replace h := ite_f h c_
      refine g_aload_n (pc := 50) C 0 dX9_hold_50 rfl rfl ?_
      refine g_iload_n (pc := 51) C 1 dX9_hold_51 rfl rfl ?_
      refine g_aload_n (pc := 52) C 0 dX9_hold_52 rfl rfl ?_
      refine get_X9_0 (pc := 53) C rfl tw_862 dX9_hold_53 ?_
      refine g_bipush (pc := 56) (v := 14) C dX9_hold_56 bp_14 ?_
      refine g_iload_n (pc := 58) C 1 dX9_hold_58 rfl rfl ?_
      refine g_iadd (pc := 59) C dX9_hold_59 ?_
      obtain ⟨g_, h⟩ := h
      refine g_iald (pc := 60) C rfl g_ dX9_hold_60 ?_
      refine g_iload (pc := 61) C 5 dX9_hold_61 rfl ?_
      refine g_callVip (pc := 63) (As := [.int v1, .int (σ.1 1 (14 + v1).toNatClampNeg), .int v5]) (rest := []) C rfl rfl rfl rfl (M_X9_strikesBy C.2.2.1  h) CyX9_strikesBy tw_1070 tw_1072 ts_37 (by decide) rfl rfl (Nat.le_of_ble_eq_true rfl) dX9_hold_63 (fun r63 h => ?_)
      refine g_istore (pc := 66) (lv2 := [(6, .int r63), (0, .ref (G.2.2 0)), (1, .int v1), (2, .int v2), (3, .int v3), (4, .int v4), (5, .int v5)]) C dX9_hold_66 (by decide) rfl ?_
      refine g_iload (pc := 68) C 0 dX9_hold_68 rfl ?_
      refine g_bipush (pc := 70) (v := -9) C dX9_hold_70 bp_m9 ?_
      refine g_icmp_ne (pc := 72) (tgt := 80) C dX9_hold_72 (by decide) (fun c_ => ?_) (fun c_ => ?_)
      · replace h := ite_f h c_
        refine g_iload (pc := 80) C 0 dX9_hold_80 rfl ?_
        refine g_iload_n (pc := 82) C 3 dX9_hold_82 rfl rfl ?_
        refine g_icmp_le (pc := 83) (tgt := 93) C dX9_hold_83 (by decide) (fun c_ => ?_) (fun c_ => ?_)
        · replace h := ite_t h c_
          refine g_iload_n (pc := 93) C 3 dX9_hold_93 rfl rfl ?_
          refine g_iload (pc := 94) C 0 dX9_hold_94 rfl ?_
          refine g_isub (pc := 96) C dX9_hold_96 ?_
          refine g_lv [1, 2, 3, 4, 5, 6] (lv2 := [(0, .ref (G.2.2 0)), (1, .int v1), (2, .int v2), (3, .int v3), (4, .int v4), (5, .int v5)]) rfl ?_
          exact k_X9_hold_97 C (fun _ _ _ h_ => ih h_) h
        · replace h := ite_f h c_
          refine g_iload (pc := 86) C 0 dX9_hold_86 rfl ?_
          refine g_iload_n (pc := 88) C 3 dX9_hold_88 rfl rfl ?_
          refine g_isub (pc := 89) C dX9_hold_89 ?_
          refine g_goto (pc := 90) (tgt := 97) C dX9_hold_90 (by decide) ?_
          refine g_lv [1, 2, 3, 4, 5, 6] (lv2 := [(0, .ref (G.2.2 0)), (1, .int v1), (2, .int v2), (3, .int v3), (4, .int v4), (5, .int v5)]) rfl ?_
          exact k_X9_hold_97 C (fun _ _ _ h_ => ih h_) h
      · replace h := ite_t h c_
        refine g_ldc (pc := 75) (v := 1000000) C dX9_hold_75 tw_1164 ?_
        refine g_goto (pc := 77) (tgt := 97) C dX9_hold_77 (by decide) ?_
        refine g_lv [1, 2, 3, 4, 5, 6] (lv2 := [(0, .ref (G.2.2 0)), (1, .int v1), (2, .int v2), (3, .int v3), (4, .int v4), (5, .int v5)]) rfl ?_
        exact k_X9_hold_97 C (fun _ _ _ h_ => ih h_) h
set_option maxHeartbeats 4000000 in
set_option maxRecDepth 100000 in
theorem M_X9_hold {l : Launch} {G : Gp} (hD : Dj shM G) {v1 : Int32} {v2 : Int32} {σ : St} {K : Int32 → St → Prop} (h : wp_X9_hold v1 v2 σ K) : MC l shM G yX9_hold cX9_hold 8 (some .int) 4 [.ref (G.2.2 0), .int v1, .int v2] σ (RI K) := by
  unfold wp_X9_hold at h
  refine MC.of (by decide) hD (Nat.le_of_ble_eq_true rfl) ?_
  intro p e s m args below meth c C
  replace C : Cx p (rmD 4) s m args meth c shM G cX9_hold 8 4 RX9 (some .int) 0 0 := C
  show Go p l e (rmD 4) s m args below meth c shM G 8 0 0 (MQ below (Qw shM G (RI K)) args s 0 0 (Fr shM G)) 0 [(0, .ref (G.2.2 0)), (1, .int v1), (2, .int v2)] [] σ
  refine g_aload_n (pc := 0) C 0 dX9_hold_0 rfl rfl ?_
  refine g_iload_n (pc := 1) C 1 dX9_hold_1 rfl rfl ?_
  refine g_callVip (pc := 2) (As := [.int v1]) (rest := []) C rfl rfl rfl rfl (M_X9_isBell C.2.2.1  h) CyX9_isBell tw_1045 tw_1047 ts_34 (by decide) rfl rfl (Nat.le_of_ble_eq_true rfl) dX9_hold_2 (fun r2 h => ?_)
  refine g_if_eq (pc := 5) (tgt := 20) C dX9_hold_5 (by decide) (fun c_ => ?_) (fun c_ => ?_)
  · replace h := ite_t h c_
    refine g_lv [] (lv2 := []) rfl ?_
    exact k_X9_hold_20 C  h
  · replace h := ite_f h c_
    refine g_iload_n (pc := 8) C 2 dX9_hold_8 rfl rfl ?_
    refine g_i2l (pc := 9) C dX9_hold_9 ?_
    refine g_lconst (pc := 10) (v := 0) C dX9_hold_10 lc_0 ?_
    refine g_ldc2 (pc := 11) (v := 40) C dX9_hold_11 tw_1169 ?_
    refine g_callSip (pc := 14) (As := [.long v2.toInt64, .long (0 : Int64), .long (40 : Int64)]) (rest := []) C (M_X9_in C.2.2.1  h) CyX9_in tw_955 tw_956 (by decide) rfl rfl (Nat.le_of_ble_eq_true rfl) dX9_hold_14 (fun r14 h => ?_)
    refine g_if_ne (pc := 17) (tgt := 22) C dX9_hold_17 (by decide) (fun c_ => ?_) (fun c_ => ?_)
    · replace h := ite_f h c_
      refine g_aload_n (pc := 22) C 0 dX9_hold_22 rfl rfl ?_
      refine g_iload_n (pc := 23) C 1 dX9_hold_23 rfl rfl ?_
      refine g_callVip (pc := 24) (As := [.int v1]) (rest := []) C rfl rfl rfl rfl (M_X9_isOver C.2.2.1  h) CyX9_isOver tw_1089 tw_1091 ts_38 (by decide) rfl rfl (Nat.le_of_ble_eq_true rfl) dX9_hold_24 (fun r24 h => ?_)
      refine g_if_eq (pc := 27) (tgt := 33) C dX9_hold_27 (by decide) (fun c_ => ?_) (fun c_ => ?_)
      · replace h := ite_t h c_
        refine g_bipush (pc := 33) (v := -9) C dX9_hold_33 bp_m9 ?_
        refine g_istore_n (pc := 35) (lv2 := [(3, .int (-9)), (0, .ref (G.2.2 0)), (1, .int v1), (2, .int v2)]) C dX9_hold_35 rfl (by decide) rfl ?_
        refine g_ldc (pc := 36) (v := 1000000) C dX9_hold_36 tw_1164 ?_
        refine g_istore (pc := 38) (lv2 := [(4, .int 1000000), (3, .int (-9)), (0, .ref (G.2.2 0)), (1, .int v1), (2, .int v2)]) C dX9_hold_38 (by decide) rfl ?_
        refine g_iconst (pc := 40) (v := 0) C dX9_hold_40 ic_0 ?_
        refine g_istore (pc := 41) (lv2 := [(5, .int 0), (4, .int 1000000), (3, .int (-9)), (0, .ref (G.2.2 0)), (1, .int v1), (2, .int v2)]) C dX9_hold_41 (by decide) rfl ?_
        refine g_lv [3, 4, 5, 2, 1, 0] (lv2 := [(0, .ref (G.2.2 0)), (1, .int v1), (2, .int v2), (3, .int (-9)), (4, .int 1000000), (5, .int 0)]) rfl ?_
        exact k_X9_hold_43 C  h
      · replace h := ite_f h c_
        refine g_bipush (pc := 30) (v := -4) C dX9_hold_30 bp_m4 ?_
        exact g_iret (pc := 32) C dX9_hold_32 ⟨_, rfl, h⟩
    · replace h := ite_t h c_
      refine g_lv [] (lv2 := []) rfl ?_
      exact k_X9_hold_20 C  h
set_option maxHeartbeats 4000000 in
set_option maxRecDepth 100000 in
theorem M_X9_keep {l : Launch} {G : Gp} (hD : Dj shM G) {v1 : Int32} {σ : St} {K : Int32 → St → Prop} (h : wp_X9_keep v1 σ K) : MC l shM G yX9_keep cX9_keep 2 (some .int) 2 [.ref (G.2.2 0), .int v1] σ (RI K) := by
  unfold wp_X9_keep at h
  refine MC.of (by decide) hD (Nat.le_of_ble_eq_true rfl) ?_
  intro p e s m args below meth c C
  replace C : Cx p (rmD 2) s m args meth c shM G cX9_keep 2 2 RX9 (some .int) 0 0 := C
  show Go p l e (rmD 2) s m args below meth c shM G 2 0 0 (MQ below (Qw shM G (RI K)) args s 0 0 (Fr shM G)) 0 [(0, .ref (G.2.2 0)), (1, .int v1)] [] σ
  refine g_iload_n (pc := 0) C 1 dX9_keep_0 rfl rfl ?_
  refine g_i2l (pc := 1) C dX9_keep_1 ?_
  refine g_lconst (pc := 2) (v := 0) C dX9_keep_2 lc_0 ?_
  refine g_ldc2 (pc := 3) (v := 2) C dX9_keep_3 tw_1133 ?_
  refine g_callSip (pc := 6) (As := [.long v1.toInt64, .long (0 : Int64), .long (2 : Int64)]) (rest := []) C (M_X9_in C.2.2.1  h) CyX9_in tw_955 tw_956 (by decide) rfl rfl (Nat.le_of_ble_eq_true rfl) dX9_keep_6 (fun r6 h => ?_)
  refine g_if_ne (pc := 9) (tgt := 14) C dX9_keep_9 (by decide) (fun c_ => ?_) (fun c_ => ?_)
  · replace h := ite_f h c_
    refine g_aload_n (pc := 14) C 0 dX9_keep_14 rfl rfl ?_
    refine get_X9_0 (pc := 15) C rfl tw_862 dX9_keep_15 ?_
    refine g_iconst (pc := 18) (v := 0) C dX9_keep_18 ic_0 ?_
    obtain ⟨g_, h⟩ := h
    refine g_iald (pc := 19) C rfl g_ dX9_keep_19 ?_
    refine g_if_ne (pc := 20) (tgt := 26) C dX9_keep_20 (by decide) (fun c_ => ?_) (fun c_ => ?_)
    · replace h := ite_f h c_
      refine g_aload_n (pc := 26) C 0 dX9_keep_26 rfl rfl ?_
      refine g_iconst (pc := 27) (v := 0) C dX9_keep_27 ic_0 ?_
      refine g_sipush (pc := 28) (v := 1312) C dX9_keep_28 sp_1312 ?_
      refine g_iload_n (pc := 31) C 1 dX9_keep_31 rfl rfl ?_
      refine g_iconst (pc := 32) (v := 1) C dX9_keep_32 ic_1 ?_
      refine g_iadd (pc := 33) C dX9_keep_33 ?_
      refine g_imul (pc := 34) C dX9_keep_34 ?_
      refine g_sipush (pc := 35) (v := 1312) C dX9_keep_35 sp_1312 ?_
      refine g_callVv (pc := 38) (As := [.int 0, .int (1312 * (v1 + 1)), .int 1312]) (rest := []) C rfl rfl rfl rfl (M_X9_copyAll C.2.2.1  h) CyX9_copyAll tw_1037 tw_1039 ts_33 (by decide) rfl rfl (Nat.le_of_ble_eq_true rfl) dX9_keep_38 (fun t38 h => ?_)
      refine g_aload_n (pc := 41) C 0 dX9_keep_41 rfl rfl ?_
      refine get_X9_2 (pc := 42) C rfl tw_864 dX9_keep_42 ?_
      refine g_iload_n (pc := 45) C 1 dX9_keep_45 rfl rfl ?_
      refine g_aload_n (pc := 46) C 0 dX9_keep_46 rfl rfl ?_
      refine get_X9_1 (pc := 47) C rfl tw_863 dX9_keep_47 ?_
      obtain ⟨g_, h⟩ := h
      refine g_iast (pc := 50) C rfl g_ dX9_keep_50 ?_
      refine g_aload_n (pc := 51) C 0 dX9_keep_51 rfl rfl ?_
      refine get_X9_1 (pc := 52) C rfl tw_863 dX9_keep_52 ?_
      exact g_iret (pc := 55) C dX9_keep_55 ⟨_, rfl, h⟩
    · replace h := ite_t h c_
      refine g_bipush (pc := 23) (v := -4) C dX9_keep_23 bp_m4 ?_
      exact g_iret (pc := 25) C dX9_keep_25 ⟨_, rfl, h⟩
  · replace h := ite_t h c_
    refine g_iconst (pc := 12) (v := -1) C dX9_keep_12 ic_m1 ?_
    exact g_iret (pc := 13) C dX9_keep_13 ⟨_, rfl, h⟩
set_option maxHeartbeats 4000000 in
set_option maxRecDepth 100000 in
theorem k_X9_kinds_70 {v1 : Int32} {v2 : Int32} {v5 : Int32} {w0 : Int32} {w1 : Int32} {σ : St} {K : Int32 → St → Prop} {Φ19 : Int32 → Int32 → Prop} (C : Cx p R s m args meth c shM G cX9_kinds 6 4 RX9 (some .int) 0 0) (hΦ19 : ∀ (v4' : Int32) (v5' : Int32), Φ19 v4' v5' → Go p l e R s m args below meth c shM G 6 0 0 (MQ below (Qw shM G (RI K)) args s 0 0 (Fr shM G)) 19 [(0, .ref (G.2.2 0)), (1, .int v1), (2, .int v2), (4, .int (v4')), (5, .int (v5'))] [] σ) (h : J_X9_kinds_70 v1 v2 v5 w0 w1 σ K Φ19) : Go p l e R s m args below meth c shM G 6 0 0 (MQ below (Qw shM G (RI K)) args s 0 0 (Fr shM G)) 70 [(0, .ref (G.2.2 0)), (1, .int v1), (2, .int v2), (5, .int v5)] [.int w1, .int w0] σ := by
  unfold J_X9_kinds_70 at h
  refine g_ior (pc := 70) C dX9_kinds_70 ?_
  refine g_istore (pc := 71) (lv2 := [(4, .int (w0 ||| w1)), (0, .ref (G.2.2 0)), (1, .int v1), (2, .int v2), (5, .int v5)]) C dX9_kinds_71 (by decide) rfl ?_
  refine g_iinc (pc := 73) (lv2 := [(5, .int (v5 + 1)), (4, .int (w0 ||| w1)), (0, .ref (G.2.2 0)), (1, .int v1), (2, .int v2)]) C 4 dX9_kinds_73 ic_1 rfl (by decide) rfl ?_
  refine g_goto (pc := 76) (tgt := 19) C dX9_kinds_76 (by decide) ?_
  refine g_lv [2, 3, 4, 1, 0] (lv2 := [(0, .ref (G.2.2 0)), (1, .int v1), (2, .int v2), (4, .int (w0 ||| w1)), (5, .int (v5 + 1))]) rfl ?_
  exact hΦ19 _ _ h
set_option maxHeartbeats 4000000 in
set_option maxRecDepth 100000 in
theorem k_X9_kinds_19 {v1 : Int32} {v2 : Int32} {v4 : Int32} {v5 : Int32} {σ : St} {K : Int32 → St → Prop} (C : Cx p R s m args meth c shM G cX9_kinds 6 4 RX9 (some .int) 0 0) (h : L_X9_kinds_19 v1 v2 σ K v4 v5) : Go p l e R s m args below meth c shM G 6 0 0 (MQ below (Qw shM G (RI K)) args s 0 0 (Fr shM G)) 19 [(0, .ref (G.2.2 0)), (1, .int v1), (2, .int v2), (4, .int v4), (5, .int v5)] [] σ := by
  obtain ⟨n_, h⟩ := h
  induction n_ generalizing v4 v5 with
  | zero => exact h.elim
  | succ n_ ih =>
    replace h : B_X9_kinds_19 v1 v2 σ K (it2 (B_X9_kinds_19 v1 v2 σ K) n_) v4 v5 := h
    unfold B_X9_kinds_19 at h
    refine g_iload (pc := 19) C 4 dX9_kinds_19 rfl ?_
    refine g_bipush (pc := 21) (v := 6) C dX9_kinds_21 bp_6 ?_
    refine g_icmp_ge (pc := 23) (tgt := 79) C dX9_kinds_23 (by decide) (fun c_ => ?_) (fun c_ => ?_)
    · replace h := ite_t h c_
      refine g_iload (pc := 79) C 3 dX9_kinds_79 rfl ?_
      exact g_iret (pc := 81) C dX9_kinds_81 ⟨_, rfl, h⟩
    · replace h := ite_f h c_
      refine g_iload (pc := 26) C 3 dX9_kinds_26 rfl ?_
      refine g_aload_n (pc := 28) C 0 dX9_kinds_28 rfl rfl ?_
      refine g_iload_n (pc := 29) C 2 dX9_kinds_29 rfl rfl ?_
      refine g_iload (pc := 30) C 4 dX9_kinds_30 rfl ?_
      refine g_aload_n (pc := 32) C 0 dX9_kinds_32 rfl rfl ?_
      refine get_X9_0 (pc := 33) C rfl tw_862 dX9_kinds_33 ?_
      refine g_bipush (pc := 36) (v := 8) C dX9_kinds_36 bp_8 ?_
      refine g_iload_n (pc := 38) C 1 dX9_kinds_38 rfl rfl ?_
      refine g_iadd (pc := 39) C dX9_kinds_39 ?_
      obtain ⟨g_, h⟩ := h
      refine g_iald (pc := 40) C rfl g_ dX9_kinds_40 ?_
      refine g_aload_n (pc := 41) C 0 dX9_kinds_41 rfl rfl ?_
      refine get_X9_0 (pc := 42) C rfl tw_862 dX9_kinds_42 ?_
      refine g_bipush (pc := 45) (v := 14) C dX9_kinds_45 bp_14 ?_
      refine g_iload_n (pc := 47) C 1 dX9_kinds_47 rfl rfl ?_
      refine g_iadd (pc := 48) C dX9_kinds_48 ?_
      obtain ⟨g_, h⟩ := h
      refine g_iald (pc := 49) C rfl g_ dX9_kinds_49 ?_
      refine g_aload_n (pc := 50) C 0 dX9_kinds_50 rfl rfl ?_
      refine get_X9_0 (pc := 51) C rfl tw_862 dX9_kinds_51 ?_
      refine g_iconst (pc := 54) (v := 1) C dX9_kinds_54 ic_1 ?_
      obtain ⟨g_, h⟩ := h
      refine g_iald (pc := 55) C rfl g_ dX9_kinds_55 ?_
      refine g_callVip (pc := 56) (As := [.int v2, .int v5, .int (σ.1 1 (8 + v1).toNatClampNeg), .int (σ.1 1 (14 + v1).toNatClampNeg), .int (σ.1 1 (1 : Int32).toNatClampNeg)]) (rest := [.int v4]) C rfl rfl rfl rfl (M_X9_isSo C.2.2.1  h) CyX9_isSo tw_1257 tw_1259 ts_56 (by decide) rfl rfl (Nat.le_of_ble_eq_true rfl) dX9_kinds_56 (fun r56 h => ?_)
      refine g_if_eq (pc := 59) (tgt := 69) C dX9_kinds_59 (by decide) (fun c_ => ?_) (fun c_ => ?_)
      · replace h := ite_t h c_
        refine g_iconst (pc := 69) (v := 0) C dX9_kinds_69 ic_0 ?_
        refine g_lv [0, 1, 2, 4] (lv2 := [(0, .ref (G.2.2 0)), (1, .int v1), (2, .int v2), (5, .int v5)]) rfl ?_
        exact k_X9_kinds_70 C (fun _ _ h_ => ih h_) h
      · replace h := ite_f h c_
        refine g_iconst (pc := 62) (v := 1) C dX9_kinds_62 ic_1 ?_
        refine g_iload (pc := 63) C 4 dX9_kinds_63 rfl ?_
        refine g_ishl (pc := 65) C dX9_kinds_65 ?_
        refine g_goto (pc := 66) (tgt := 70) C dX9_kinds_66 (by decide) ?_
        refine g_lv [0, 1, 2, 4] (lv2 := [(0, .ref (G.2.2 0)), (1, .int v1), (2, .int v2), (5, .int v5)]) rfl ?_
        exact k_X9_kinds_70 C (fun _ _ h_ => ih h_) h
set_option maxHeartbeats 4000000 in
set_option maxRecDepth 100000 in
theorem M_X9_kinds {l : Launch} {G : Gp} (hD : Dj shM G) {v1 : Int32} {v2 : Int32} {σ : St} {K : Int32 → St → Prop} (h : wp_X9_kinds v1 v2 σ K) : MC l shM G yX9_kinds cX9_kinds 6 (some .int) 4 [.ref (G.2.2 0), .int v1, .int v2] σ (RI K) := by
  unfold wp_X9_kinds at h
  refine MC.of (by decide) hD (Nat.le_of_ble_eq_true rfl) ?_
  intro p e s m args below meth c C
  replace C : Cx p (rmD 4) s m args meth c shM G cX9_kinds 6 4 RX9 (some .int) 0 0 := C
  show Go p l e (rmD 4) s m args below meth c shM G 6 0 0 (MQ below (Qw shM G (RI K)) args s 0 0 (Fr shM G)) 0 [(0, .ref (G.2.2 0)), (1, .int v1), (2, .int v2)] [] σ
  refine g_aload_n (pc := 0) C 0 dX9_kinds_0 rfl rfl ?_
  refine g_iload_n (pc := 1) C 1 dX9_kinds_1 rfl rfl ?_
  refine g_iload_n (pc := 2) C 2 dX9_kinds_2 rfl rfl ?_
  refine g_callVi (pc := 3) (As := [.int v1, .int v2]) (rest := []) C rfl rfl rfl rfl (M_X9_againstPairs C.2.2.1  h) CyX9_againstPairs tw_1253 tw_1255 ts_55 (by decide) rfl rfl (Nat.le_of_ble_eq_true rfl) dX9_kinds_3 (fun r3 t3 h => ?_)
  refine g_istore_n (pc := 6) (lv2 := [(3, .int r3), (0, .ref (G.2.2 0)), (1, .int v1), (2, .int v2)]) C dX9_kinds_6 rfl (by decide) rfl ?_
  refine g_iload_n (pc := 7) C 0 dX9_kinds_7 rfl rfl ?_
  refine g_if_ge (pc := 8) (tgt := 13) C dX9_kinds_8 (by decide) (fun c_ => ?_) (fun c_ => ?_)
  · replace h := ite_t h c_
    refine g_iconst (pc := 13) (v := 0) C dX9_kinds_13 ic_0 ?_
    refine g_istore (pc := 14) (lv2 := [(4, .int 0), (3, .int r3), (0, .ref (G.2.2 0)), (1, .int v1), (2, .int v2)]) C dX9_kinds_14 (by decide) rfl ?_
    refine g_iconst (pc := 16) (v := 0) C dX9_kinds_16 ic_0 ?_
    refine g_istore (pc := 17) (lv2 := [(5, .int 0), (4, .int 0), (3, .int r3), (0, .ref (G.2.2 0)), (1, .int v1), (2, .int v2)]) C dX9_kinds_17 (by decide) rfl ?_
    refine g_lv [3, 4, 5, 1, 0] (lv2 := [(0, .ref (G.2.2 0)), (1, .int v1), (2, .int v2), (4, .int 0), (5, .int 0)]) rfl ?_
    exact k_X9_kinds_19 C  h
  · replace h := ite_f h c_
    refine g_iload_n (pc := 11) C 0 dX9_kinds_11 rfl rfl ?_
    exact g_iret (pc := 12) C dX9_kinds_12 ⟨_, rfl, h⟩
set_option maxHeartbeats 4000000 in
set_option maxRecDepth 100000 in
theorem k_X9_late_62 {v4 : Int32} {w0 : Int32} {σ : St} {K : Int32 → St → Prop} {Φ33 : Int32 → Int32 → Prop} (C : Cx p R s m args meth c shM G cX9_late 5 5 RX9 (some .int) 0 0) (hΦ33 : ∀ (v3' : Int32) (v4' : Int32), Φ33 v3' v4' → Go p l e R s m args below meth c shM G 5 0 0 (MQ below (Qw shM G (RI K)) args s 0 0 (Fr shM G)) 33 [(0, .ref (G.2.2 0)), (3, .int (v3')), (4, .int (v4'))] [] σ) (h : J_X9_late_62 v4 w0 σ K Φ33) : Go p l e R s m args below meth c shM G 5 0 0 (MQ below (Qw shM G (RI K)) args s 0 0 (Fr shM G)) 62 [(0, .ref (G.2.2 0)), (4, .int v4)] [.int w0] σ := by
  unfold J_X9_late_62 at h
  refine g_istore_n (pc := 62) (lv2 := [(3, .int w0), (0, .ref (G.2.2 0)), (4, .int v4)]) C dX9_late_62 rfl (by decide) rfl ?_
  refine g_iinc (pc := 63) (lv2 := [(4, .int (v4 + 1)), (3, .int w0), (0, .ref (G.2.2 0))]) C 2 dX9_late_63 ic_1 rfl (by decide) rfl ?_
  refine g_goto (pc := 66) (tgt := 33) C dX9_late_66 (by decide) ?_
  refine g_lv [2, 1, 0] (lv2 := [(0, .ref (G.2.2 0)), (3, .int w0), (4, .int (v4 + 1))]) rfl ?_
  exact hΦ33 _ _ h
set_option maxHeartbeats 4000000 in
set_option maxRecDepth 100000 in
theorem k_X9_late_33 {v3 : Int32} {v4 : Int32} {σ : St} {K : Int32 → St → Prop} (C : Cx p R s m args meth c shM G cX9_late 5 5 RX9 (some .int) 0 0) (h : L_X9_late_33 σ K v3 v4) : Go p l e R s m args below meth c shM G 5 0 0 (MQ below (Qw shM G (RI K)) args s 0 0 (Fr shM G)) 33 [(0, .ref (G.2.2 0)), (3, .int v3), (4, .int v4)] [] σ := by
  obtain ⟨n_, h⟩ := h
  induction n_ generalizing v3 v4 with
  | zero => exact h.elim
  | succ n_ ih =>
    replace h : B_X9_late_33 σ K (it2 (B_X9_late_33 σ K) n_) v3 v4 := h
    unfold B_X9_late_33 at h
    refine g_iload (pc := 33) C 2 dX9_late_33 rfl ?_
    refine g_aload_n (pc := 35) C 0 dX9_late_35 rfl rfl ?_
    refine get_X9_18 (pc := 36) C rfl tw_880 dX9_late_36 ?_
    refine g_icmp_ge (pc := 39) (tgt := 69) C dX9_late_39 (by decide) (fun c_ => ?_) (fun c_ => ?_)
    · replace h := ite_t h c_
      refine g_aload_n (pc := 69) C 0 dX9_late_69 rfl rfl ?_
      refine g_aload_n (pc := 70) C 0 dX9_late_70 rfl rfl ?_
      refine g_iload_n (pc := 71) C 1 dX9_late_71 rfl rfl ?_
      refine g_callVip (pc := 72) (As := [.int v3]) (rest := [.ref (G.2.2 0)]) C rfl rfl rfl rfl (M_X9_gap C.2.2.1  h) CyX9_gap tw_1186 tw_1188 ts_47 (by decide) rfl rfl (Nat.le_of_ble_eq_true rfl) dX9_late_72 (fun r72 h => ?_)
      refine g_aload_n (pc := 75) C 0 dX9_late_75 rfl rfl ?_
      refine get_X9_16 (pc := 76) C rfl tw_878 dX9_late_76 ?_
      refine g_iload_n (pc := 79) C 1 dX9_late_79 rfl rfl ?_
      obtain ⟨g_, h⟩ := h
      refine g_iald (pc := 80) C rfl g_ dX9_late_80 ?_
      refine g_callVi (pc := 81) (As := [.int r72, .int (σ.1 11 v3.toNatClampNeg)]) (rest := []) C rfl rfl rfl rfl (M_X9_tells C.2.2.1  h) CyX9_tells tw_974 tw_976 ts_27 (by decide) rfl rfl (Nat.le_of_ble_eq_true rfl) dX9_late_81 (fun r81 t81 h => ?_)
      exact g_iret (pc := 84) C dX9_late_84 ⟨_, rfl, h⟩
    · replace h := ite_f h c_
      refine g_aload_n (pc := 42) C 0 dX9_late_42 rfl rfl ?_
      refine g_iload (pc := 43) C 2 dX9_late_43 rfl ?_
      refine g_callVip (pc := 45) (As := [.int v4]) (rest := []) C rfl rfl rfl rfl (M_X9_gap C.2.2.1  h) CyX9_gap tw_1186 tw_1188 ts_47 (by decide) rfl rfl (Nat.le_of_ble_eq_true rfl) dX9_late_45 (fun r45 h => ?_)
      refine g_aload_n (pc := 48) C 0 dX9_late_48 rfl rfl ?_
      refine g_iload_n (pc := 49) C 1 dX9_late_49 rfl rfl ?_
      refine g_callVip (pc := 50) (As := [.int v3]) (rest := [.int r45]) C rfl rfl rfl rfl (M_X9_gap C.2.2.1  h) CyX9_gap tw_1186 tw_1188 ts_47 (by decide) rfl rfl (Nat.le_of_ble_eq_true rfl) dX9_late_50 (fun r50 h => ?_)
      refine g_icmp_le (pc := 53) (tgt := 61) C dX9_late_53 (by decide) (fun c_ => ?_) (fun c_ => ?_)
      · replace h := ite_t h c_
        refine g_iload_n (pc := 61) C 1 dX9_late_61 rfl rfl ?_
        refine g_lv [0, 2] (lv2 := [(0, .ref (G.2.2 0)), (4, .int v4)]) rfl ?_
        exact k_X9_late_62 C (fun _ _ h_ => ih h_) h
      · replace h := ite_f h c_
        refine g_iload (pc := 56) C 2 dX9_late_56 rfl ?_
        refine g_goto (pc := 58) (tgt := 62) C dX9_late_58 (by decide) ?_
        refine g_lv [0, 2] (lv2 := [(0, .ref (G.2.2 0)), (4, .int v4)]) rfl ?_
        exact k_X9_late_62 C (fun _ _ h_ => ih h_) h
set_option maxHeartbeats 4000000 in
set_option maxRecDepth 100000 in
theorem M_X9_late {l : Launch} {G : Gp} (hD : Dj shM G) {v1 : Int32} {σ : St} {K : Int32 → St → Prop} (h : wp_X9_late v1 σ K) : MC l shM G yX9_late cX9_late 5 (some .int) 5 [.ref (G.2.2 0), .int v1] σ (RI K) := by
  unfold wp_X9_late at h
  refine MC.of (by decide) hD (Nat.le_of_ble_eq_true rfl) ?_
  intro p e s m args below meth c C
  replace C : Cx p (rmD 5) s m args meth c shM G cX9_late 5 5 RX9 (some .int) 0 0 := C
  show Go p l e (rmD 5) s m args below meth c shM G 5 0 0 (MQ below (Qw shM G (RI K)) args s 0 0 (Fr shM G)) 0 [(0, .ref (G.2.2 0)), (1, .int v1)] [] σ
  refine g_aload_n (pc := 0) C 0 dX9_late_0 rfl rfl ?_
  refine g_iload_n (pc := 1) C 1 dX9_late_1 rfl rfl ?_
  refine g_callVi (pc := 2) (As := [.int v1]) (rest := []) C rfl rfl rfl rfl (M_X9_against C.2.2.1  h) CyX9_against tw_1105 tw_1107 ts_41 (by decide) rfl rfl (Nat.le_of_ble_eq_true rfl) dX9_late_2 (fun r2 t2 h => ?_)
  refine g_istore_n (pc := 5) (lv2 := [(2, .int r2), (0, .ref (G.2.2 0)), (1, .int v1)]) C dX9_late_5 rfl (by decide) rfl ?_
  refine g_iload_n (pc := 6) C 0 dX9_late_6 rfl rfl ?_
  refine g_if_ge (pc := 7) (tgt := 12) C dX9_late_7 (by decide) (fun c_ => ?_) (fun c_ => ?_)
  · replace h := ite_t h c_
    refine g_aload_n (pc := 12) C 1 dX9_late_12 rfl rfl ?_
    refine g_iload_n (pc := 13) C 2 dX9_late_13 rfl rfl ?_
    refine g_callVv (pc := 14) (As := [.int v1]) (rest := []) C rfl rfl rfl rfl (M_X9_laysPulls C.2.2.1  h) CyX9_laysPulls tw_1109 tw_1111 ts_42 (by decide) rfl rfl (Nat.le_of_ble_eq_true rfl) dX9_late_14 (fun t14 h => ?_)
    refine g_aload_n (pc := 17) C 1 dX9_late_17 rfl rfl ?_
    refine get_X9_18 (pc := 18) C rfl tw_880 dX9_late_18 ?_
    refine g_iconst (pc := 21) (v := 2) C dX9_late_21 ic_2 ?_
    refine g_icmp_ge (pc := 22) (tgt := 28) C dX9_late_22 (by decide) (fun c_ => ?_) (fun c_ => ?_)
    · replace h := ite_t h c_
      refine g_iconst (pc := 28) (v := 1) C dX9_late_28 ic_1 ?_
      refine g_istore_n (pc := 29) (lv2 := [(3, .int 1), (2, .int r2), (0, .ref (G.2.2 0)), (1, .int v1)]) C dX9_late_29 rfl (by decide) rfl ?_
      refine g_iconst (pc := 30) (v := 2) C dX9_late_30 ic_2 ?_
      refine g_istore (pc := 31) (lv2 := [(4, .int 2), (3, .int 1), (2, .int r2), (0, .ref (G.2.2 0)), (1, .int v1)]) C dX9_late_31 (by decide) rfl ?_
      refine g_lv [3, 1, 0] (lv2 := [(0, .ref (G.2.2 0)), (3, .int 1), (4, .int 2)]) rfl ?_
      exact k_X9_late_33 C  h
    · replace h := ite_f h c_
      refine g_bipush (pc := 25) (v := -9) C dX9_late_25 bp_m9 ?_
      exact g_iret (pc := 27) C dX9_late_27 ⟨_, rfl, h⟩
  · replace h := ite_f h c_
    refine g_iload_n (pc := 10) C 0 dX9_late_10 rfl rfl ?_
    exact g_iret (pc := 11) C dX9_late_11 ⟨_, rfl, h⟩
set_option maxHeartbeats 4000000 in
set_option maxRecDepth 100000 in
theorem k_X9_lay_26 {v4 : Int32} {σ : St} {K : Int32 → St → Prop} (C : Cx p R s m args meth c shM G cX9_lay 5 4 RX9 (some .int) 0 0) (h : J_X9_lay_26 v4 σ K) : Go p l e R s m args below meth c shM G 5 0 0 (MQ below (Qw shM G (RI K)) args s 0 0 (Fr shM G)) 26 [(4, .int v4)] [] σ := by
  unfold J_X9_lay_26 at h
  refine g_iload (pc := 26) C 0 dX9_lay_26 rfl ?_
  exact g_iret (pc := 28) C dX9_lay_28 ⟨_, rfl, h⟩
set_option maxHeartbeats 4000000 in
set_option maxRecDepth 100000 in
theorem M_X9_lay {l : Launch} {G : Gp} (hD : Dj shM G) {v1 : Int32} {v2 : Int32} {v3 : Int32} {σ : St} {K : Int32 → St → Prop} (h : wp_X9_lay v1 v2 v3 σ K) : MC l shM G yX9_lay cX9_lay 5 (some .int) 4 [.ref (G.2.2 0), .int v1, .int v2, .int v3] σ (RI K) := by
  unfold wp_X9_lay at h
  refine MC.of (by decide) hD (Nat.le_of_ble_eq_true rfl) ?_
  intro p e s m args below meth c C
  replace C : Cx p (rmD 4) s m args meth c shM G cX9_lay 5 4 RX9 (some .int) 0 0 := C
  show Go p l e (rmD 4) s m args below meth c shM G 5 0 0 (MQ below (Qw shM G (RI K)) args s 0 0 (Fr shM G)) 0 [(0, .ref (G.2.2 0)), (1, .int v1), (2, .int v2), (3, .int v3)] [] σ
  refine g_aload_n (pc := 0) C 0 dX9_lay_0 rfl rfl ?_
  refine g_iload_n (pc := 1) C 1 dX9_lay_1 rfl rfl ?_
  refine g_iload_n (pc := 2) C 2 dX9_lay_2 rfl rfl ?_
  refine g_callVi (pc := 3) (As := [.int v1, .int v2]) (rest := []) C rfl rfl rfl rfl (M_X9_at C.2.2.1  h) CyX9_at tw_970 tw_971 tw_972 (by decide) rfl rfl (Nat.le_of_ble_eq_true rfl) dX9_lay_3 (fun r3 t3 h => ?_)
  refine g_istore (pc := 6) (lv2 := [(4, .int r3), (0, .ref (G.2.2 0)), (1, .int v1), (2, .int v2), (3, .int v3)]) C dX9_lay_6 (by decide) rfl ?_
  refine g_iload (pc := 8) C 0 dX9_lay_8 rfl ?_
  refine g_iconst (pc := 10) (v := 1) C dX9_lay_10 ic_1 ?_
  refine g_icmp_ne (pc := 11) (tgt := 26) C dX9_lay_11 (by decide) (fun c_ => ?_) (fun c_ => ?_)
  · replace h := ite_f h c_
    refine g_lv [0] (lv2 := [(4, .int r3)]) rfl ?_
    exact k_X9_lay_26 C  h
  · replace h := ite_t h c_
    refine g_aload_n (pc := 14) C 1 dX9_lay_14 rfl rfl ?_
    refine get_X9_3 (pc := 15) C rfl tw_865 dX9_lay_15 ?_
    refine g_bipush (pc := 18) (v := 40) C dX9_lay_18 bp_40 ?_
    refine g_iload_n (pc := 20) C 2 dX9_lay_20 rfl rfl ?_
    refine g_imul (pc := 21) C dX9_lay_21 ?_
    refine g_iload_n (pc := 22) C 3 dX9_lay_22 rfl rfl ?_
    refine g_iadd (pc := 23) C dX9_lay_23 ?_
    refine g_iload_n (pc := 24) C 4 dX9_lay_24 rfl rfl ?_
    obtain ⟨g_, h⟩ := h
    refine g_iast (pc := 25) C rfl g_ dX9_lay_25 ?_
    refine g_lv [0] (lv2 := [(4, .int r3)]) rfl ?_
    exact k_X9_lay_26 C  h
set_option maxHeartbeats 4000000 in
set_option maxRecDepth 100000 in
theorem k_X9_laySlips_224 {v1 : Int32} {v2 : Int32} {v3 : Int32} {v4 : Int32} {v5 : Int64} {v7 : Int32} {v8 : Int32} {σ : St} {K : Int64 → St → Prop} {Φ48 : Int64 → Int32 → St → Prop} (C : Cx p R s m args meth c shM G cX9_laySlips 11 3 RX9 (some .long) 0 0) (hΦ48 : ∀ (v5' : Int64) (v7' : Int32) (σ' : St), Φ48 v5' v7' σ' → Go p l e R s m args below meth c shM G 11 0 0 (MQ below (Qw shM G (RJ K)) args s 0 0 (Fr shM G)) 48 [(0, .ref (G.2.2 0)), (1, .int v1), (2, .int v2), (3, .int v3), (4, .int v4), (5, .long (v5')), (7, .int (v7'))] [] σ') (h : L_X9_laySlips_224 v1 v2 v3 v4 v5 v7 K Φ48 v8 σ) : Go p l e R s m args below meth c shM G 11 0 0 (MQ below (Qw shM G (RJ K)) args s 0 0 (Fr shM G)) 224 [(0, .ref (G.2.2 0)), (1, .int v1), (2, .int v2), (3, .int v3), (4, .int v4), (5, .long v5), (7, .int v7), (8, .int v8)] [] σ := by
  obtain ⟨n_, h⟩ := h
  induction n_ generalizing v8 σ with
  | zero => exact h.elim
  | succ n_ ih =>
    replace h : B_X9_laySlips_224 v1 v2 v3 v4 v5 v7 K Φ48 (it2 (B_X9_laySlips_224 v1 v2 v3 v4 v5 v7 K Φ48) n_) v8 σ := h
    unfold B_X9_laySlips_224 at h
    refine g_iload (pc := 224) C 7 dX9_laySlips_224 rfl ?_
    refine g_bipush (pc := 226) (v := 20) C dX9_laySlips_226 bp_20 ?_
    refine g_icmp_gt (pc := 228) (tgt := 251) C dX9_laySlips_228 (by decide) (fun c_ => ?_) (fun c_ => ?_)
    · replace h := ite_t h c_
      refine g_iinc (pc := 251) (lv2 := [(7, .int (v7 + 1)), (0, .ref (G.2.2 0)), (1, .int v1), (2, .int v2), (3, .int v3), (4, .int v4), (5, .long v5), (8, .int v8)]) C 6 dX9_laySlips_251 ic_1 rfl (by decide) rfl ?_
      refine g_goto (pc := 254) (tgt := 48) C dX9_laySlips_254 (by decide) ?_
      refine g_lv [1, 2, 3, 4, 5, 6, 0] (lv2 := [(0, .ref (G.2.2 0)), (1, .int v1), (2, .int v2), (3, .int v3), (4, .int v4), (5, .long v5), (7, .int (v7 + 1))]) rfl ?_
      exact hΦ48 _ _ _ h
    · replace h := ite_f h c_
      refine g_aload_n (pc := 231) C 0 dX9_laySlips_231 rfl rfl ?_
      refine get_X9_25 (pc := 232) C rfl tw_887 dX9_laySlips_232 ?_
      refine g_iload (pc := 235) C 7 dX9_laySlips_235 rfl ?_
      refine g_aload_n (pc := 237) C 0 dX9_laySlips_237 rfl rfl ?_
      refine get_X9_26 (pc := 238) C rfl tw_888 dX9_laySlips_238 ?_
      refine g_iload (pc := 241) C 7 dX9_laySlips_241 rfl ?_
      obtain ⟨g_, h⟩ := h
      refine g_lald (pc := 243) C rfl g_ dX9_laySlips_243 ?_
      obtain ⟨g_, h⟩ := h
      refine g_last (pc := 244) C rfl g_ dX9_laySlips_244 ?_
      refine g_iinc (pc := 245) (lv2 := [(8, .int (v8 + 1)), (0, .ref (G.2.2 0)), (1, .int v1), (2, .int v2), (3, .int v3), (4, .int v4), (5, .long v5), (7, .int v7)]) C 7 dX9_laySlips_245 ic_1 rfl (by decide) rfl ?_
      refine g_goto (pc := 248) (tgt := 224) C dX9_laySlips_248 (by decide) ?_
      refine g_lv [1, 2, 3, 4, 5, 6, 7, 0] (lv2 := [(0, .ref (G.2.2 0)), (1, .int v1), (2, .int v2), (3, .int v3), (4, .int v4), (5, .long v5), (7, .int v7), (8, .int (v8 + 1))]) rfl ?_
      exact ih h
set_option maxHeartbeats 4000000 in
set_option maxRecDepth 100000 in
theorem k_X9_laySlips_213 {v1 : Int32} {v2 : Int32} {v3 : Int32} {v4 : Int32} {v5 : Int64} {v7 : Int32} {v8 : Int32} {kw0 : Nat} {nw0 : Nat} {w1 : Int32} {w2 : Int64} {w3 : Int64} {σ : St} {K : Int64 → St → Prop} {Φ48 : Int64 → Int32 → St → Prop} {Φ89 : Int32 → St → Prop} (C : Cx p R s m args meth c shM G cX9_laySlips 11 3 RX9 (some .long) 0 0) (hkw0 : shM[kw0]? = some (12, nw0, 0)) (hΦ48 : ∀ (v5' : Int64) (v7' : Int32) (σ' : St), Φ48 v5' v7' σ' → Go p l e R s m args below meth c shM G 11 0 0 (MQ below (Qw shM G (RJ K)) args s 0 0 (Fr shM G)) 48 [(0, .ref (G.2.2 0)), (1, .int v1), (2, .int v2), (3, .int v3), (4, .int v4), (5, .long (v5')), (7, .int (v7'))] [] σ') (hΦ89 : ∀ (v8' : Int32) (σ' : St), Φ89 v8' σ' → Go p l e R s m args below meth c shM G 11 0 0 (MQ below (Qw shM G (RJ K)) args s 0 0 (Fr shM G)) 89 [(0, .ref (G.2.2 0)), (1, .int v1), (2, .int v2), (3, .int v3), (4, .int v4), (5, .long v5), (7, .int v7), (8, .int (v8'))] [] σ') (h : J_X9_laySlips_213 v1 v2 v3 v4 v5 v7 v8 kw0 nw0 w1 w2 w3 σ K Φ48 Φ89) : Go p l e R s m args below meth c shM G 11 0 0 (MQ below (Qw shM G (RJ K)) args s 0 0 (Fr shM G)) 213 [(0, .ref (G.2.2 0)), (1, .int v1), (2, .int v2), (3, .int v3), (4, .int v4), (5, .long v5), (7, .int v7), (8, .int v8)] [.long w3, .long w2, .int w1, .ref (G.2.2 kw0)] σ := by
  unfold J_X9_laySlips_213 at h
  refine g_ladd (pc := 213) C dX9_laySlips_213 ?_
  obtain ⟨g_, h⟩ := h
  refine g_last (pc := 214) C hkw0 g_ dX9_laySlips_214 ?_
  refine g_iinc (pc := 215) (lv2 := [(8, .int (v8 + 1)), (0, .ref (G.2.2 0)), (1, .int v1), (2, .int v2), (3, .int v3), (4, .int v4), (5, .long v5), (7, .int v7)]) C 7 dX9_laySlips_215 ic_1 rfl (by decide) rfl ?_
  refine g_goto (pc := 218) (tgt := 89) C dX9_laySlips_218 (by decide) ?_
  refine g_lv [1, 2, 3, 4, 5, 6, 7, 0] (lv2 := [(0, .ref (G.2.2 0)), (1, .int v1), (2, .int v2), (3, .int v3), (4, .int v4), (5, .long v5), (7, .int v7), (8, .int (v8 + 1))]) rfl ?_
  exact hΦ89 _ _ h
set_option maxHeartbeats 4000000 in
set_option maxRecDepth 100000 in
theorem k_X9_laySlips_190 {v1 : Int32} {v2 : Int32} {v3 : Int32} {v4 : Int32} {v5 : Int64} {v7 : Int32} {v8 : Int32} {v10 : Int32} {kw0 : Nat} {nw0 : Nat} {w1 : Int32} {σ : St} {K : Int64 → St → Prop} {Φ48 : Int64 → Int32 → St → Prop} {Φ89 : Int32 → St → Prop} (C : Cx p R s m args meth c shM G cX9_laySlips 11 3 RX9 (some .long) 0 0) (hkw0 : shM[kw0]? = some (12, nw0, 0)) (hΦ48 : ∀ (v5' : Int64) (v7' : Int32) (σ' : St), Φ48 v5' v7' σ' → Go p l e R s m args below meth c shM G 11 0 0 (MQ below (Qw shM G (RJ K)) args s 0 0 (Fr shM G)) 48 [(0, .ref (G.2.2 0)), (1, .int v1), (2, .int v2), (3, .int v3), (4, .int v4), (5, .long (v5')), (7, .int (v7'))] [] σ') (hΦ89 : ∀ (v8' : Int32) (σ' : St), Φ89 v8' σ' → Go p l e R s m args below meth c shM G 11 0 0 (MQ below (Qw shM G (RJ K)) args s 0 0 (Fr shM G)) 89 [(0, .ref (G.2.2 0)), (1, .int v1), (2, .int v2), (3, .int v3), (4, .int v4), (5, .long v5), (7, .int v7), (8, .int (v8'))] [] σ') (h : J_X9_laySlips_190 v1 v2 v3 v4 v5 v7 v8 v10 kw0 nw0 w1 σ K Φ48 Φ89) : Go p l e R s m args below meth c shM G 11 0 0 (MQ below (Qw shM G (RJ K)) args s 0 0 (Fr shM G)) 190 [(0, .ref (G.2.2 0)), (1, .int v1), (2, .int v2), (3, .int v3), (4, .int v4), (5, .long v5), (7, .int v7), (8, .int v8), (10, .int v10)] [.int w1, .ref (G.2.2 kw0)] σ := by
  unfold J_X9_laySlips_190 at h
  refine g_dup2 (pc := 190) C dX9_laySlips_190 rfl rfl ?_
  obtain ⟨g_, h⟩ := h
  refine g_lald (pc := 191) C hkw0 g_ dX9_laySlips_191 ?_
  refine g_iload (pc := 192) C 8 dX9_laySlips_192 rfl ?_
  refine g_iconst (pc := 194) (v := -1) C dX9_laySlips_194 ic_m1 ?_
  refine g_icmp_ne (pc := 195) (tgt := 202) C dX9_laySlips_195 (by decide) (fun c_ => ?_) (fun c_ => ?_)
  · replace h := ite_f h c_
    refine g_aload_n (pc := 202) C 0 dX9_laySlips_202 rfl rfl ?_
    refine get_X9_25 (pc := 203) C rfl tw_887 dX9_laySlips_203 ?_
    refine g_iload (pc := 206) C 7 dX9_laySlips_206 rfl ?_
    obtain ⟨g_, h⟩ := h
    refine g_lald (pc := 208) C rfl g_ dX9_laySlips_208 ?_
    refine g_iload (pc := 209) C 4 dX9_laySlips_209 rfl ?_
    refine g_i2l (pc := 211) C dX9_laySlips_211 ?_
    refine g_lmul (pc := 212) C dX9_laySlips_212 ?_
    refine g_lv [0, 1, 2, 3, 4, 5, 6, 7] (lv2 := [(0, .ref (G.2.2 0)), (1, .int v1), (2, .int v2), (3, .int v3), (4, .int v4), (5, .long v5), (7, .int v7), (8, .int v8)]) rfl ?_
    exact k_X9_laySlips_213 C hkw0 hΦ48 hΦ89 h
  · replace h := ite_t h c_
    refine g_lconst (pc := 198) (v := 0) C dX9_laySlips_198 lc_0 ?_
    refine g_goto (pc := 199) (tgt := 213) C dX9_laySlips_199 (by decide) ?_
    refine g_lv [0, 1, 2, 3, 4, 5, 6, 7] (lv2 := [(0, .ref (G.2.2 0)), (1, .int v1), (2, .int v2), (3, .int v3), (4, .int v4), (5, .long v5), (7, .int v7), (8, .int v8)]) rfl ?_
    exact k_X9_laySlips_213 C hkw0 hΦ48 hΦ89 h
set_option maxHeartbeats 4000000 in
set_option maxRecDepth 100000 in
theorem k_X9_laySlips_172 {v1 : Int32} {v2 : Int32} {v3 : Int32} {v4 : Int32} {v5 : Int64} {v7 : Int32} {v8 : Int32} {v10 : Int32} {kw0 : Nat} {nw0 : Nat} {w1 : Int32} {w2 : Int64} {w3 : Int64} {σ : St} {K : Int64 → St → Prop} {Φ48 : Int64 → Int32 → St → Prop} {Φ89 : Int32 → St → Prop} (C : Cx p R s m args meth c shM G cX9_laySlips 11 3 RX9 (some .long) 0 0) (hkw0 : shM[kw0]? = some (12, nw0, 0)) (hΦ48 : ∀ (v5' : Int64) (v7' : Int32) (σ' : St), Φ48 v5' v7' σ' → Go p l e R s m args below meth c shM G 11 0 0 (MQ below (Qw shM G (RJ K)) args s 0 0 (Fr shM G)) 48 [(0, .ref (G.2.2 0)), (1, .int v1), (2, .int v2), (3, .int v3), (4, .int v4), (5, .long (v5')), (7, .int (v7'))] [] σ') (hΦ89 : ∀ (v8' : Int32) (σ' : St), Φ89 v8' σ' → Go p l e R s m args below meth c shM G 11 0 0 (MQ below (Qw shM G (RJ K)) args s 0 0 (Fr shM G)) 89 [(0, .ref (G.2.2 0)), (1, .int v1), (2, .int v2), (3, .int v3), (4, .int v4), (5, .long v5), (7, .int v7), (8, .int (v8'))] [] σ') (h : J_X9_laySlips_172 v1 v2 v3 v4 v5 v7 v8 v10 kw0 nw0 w1 w2 w3 σ K Φ48 Φ89) : Go p l e R s m args below meth c shM G 11 0 0 (MQ below (Qw shM G (RJ K)) args s 0 0 (Fr shM G)) 172 [(0, .ref (G.2.2 0)), (1, .int v1), (2, .int v2), (3, .int v3), (4, .int v4), (5, .long v5), (7, .int v7), (8, .int v8), (10, .int v10)] [.long w3, .long w2, .int w1, .ref (G.2.2 kw0)] σ := by
  unfold J_X9_laySlips_172 at h
  refine g_ladd (pc := 172) C dX9_laySlips_172 ?_
  obtain ⟨g_, h⟩ := h
  refine g_last (pc := 173) C hkw0 g_ dX9_laySlips_173 ?_
  refine g_aload_n (pc := 174) C 0 dX9_laySlips_174 rfl rfl ?_
  refine get_X9_26 (pc := 175) C rfl tw_888 dX9_laySlips_175 ?_
  refine g_iload (pc := 178) C 8 dX9_laySlips_178 rfl ?_
  refine g_iconst (pc := 180) (v := -1) C dX9_laySlips_180 ic_m1 ?_
  refine g_icmp_ne (pc := 181) (tgt := 188) C dX9_laySlips_181 (by decide) (fun c_ => ?_) (fun c_ => ?_)
  · replace h := ite_f h c_
    refine g_iload (pc := 188) C 8 dX9_laySlips_188 rfl ?_
    refine g_lv [0, 1, 2, 3, 4, 5, 6, 7, 8] (lv2 := [(0, .ref (G.2.2 0)), (1, .int v1), (2, .int v2), (3, .int v3), (4, .int v4), (5, .long v5), (7, .int v7), (8, .int v8), (10, .int v10)]) rfl ?_
    exact k_X9_laySlips_190 C rfl hΦ48 hΦ89 h
  · replace h := ite_t h c_
    refine g_iconst (pc := 184) (v := 0) C dX9_laySlips_184 ic_0 ?_
    refine g_goto (pc := 185) (tgt := 190) C dX9_laySlips_185 (by decide) ?_
    refine g_lv [0, 1, 2, 3, 4, 5, 6, 7, 8] (lv2 := [(0, .ref (G.2.2 0)), (1, .int v1), (2, .int v2), (3, .int v3), (4, .int v4), (5, .long v5), (7, .int v7), (8, .int v8), (10, .int v10)]) rfl ?_
    exact k_X9_laySlips_190 C rfl hΦ48 hΦ89 h
set_option maxHeartbeats 4000000 in
set_option maxRecDepth 100000 in
theorem k_X9_laySlips_146 {v1 : Int32} {v2 : Int32} {v3 : Int32} {v4 : Int32} {v5 : Int64} {v7 : Int32} {v8 : Int32} {v9 : Int32} {v10 : Int32} {kw0 : Nat} {nw0 : Nat} {w1 : Int32} {σ : St} {K : Int64 → St → Prop} {Φ48 : Int64 → Int32 → St → Prop} {Φ89 : Int32 → St → Prop} (C : Cx p R s m args meth c shM G cX9_laySlips 11 3 RX9 (some .long) 0 0) (hkw0 : shM[kw0]? = some (12, nw0, 0)) (hΦ48 : ∀ (v5' : Int64) (v7' : Int32) (σ' : St), Φ48 v5' v7' σ' → Go p l e R s m args below meth c shM G 11 0 0 (MQ below (Qw shM G (RJ K)) args s 0 0 (Fr shM G)) 48 [(0, .ref (G.2.2 0)), (1, .int v1), (2, .int v2), (3, .int v3), (4, .int v4), (5, .long (v5')), (7, .int (v7'))] [] σ') (hΦ89 : ∀ (v8' : Int32) (σ' : St), Φ89 v8' σ' → Go p l e R s m args below meth c shM G 11 0 0 (MQ below (Qw shM G (RJ K)) args s 0 0 (Fr shM G)) 89 [(0, .ref (G.2.2 0)), (1, .int v1), (2, .int v2), (3, .int v3), (4, .int v4), (5, .long v5), (7, .int v7), (8, .int (v8'))] [] σ') (h : J_X9_laySlips_146 v1 v2 v3 v4 v5 v7 v8 v9 v10 kw0 nw0 w1 σ K Φ48 Φ89) : Go p l e R s m args below meth c shM G 11 0 0 (MQ below (Qw shM G (RJ K)) args s 0 0 (Fr shM G)) 146 [(0, .ref (G.2.2 0)), (1, .int v1), (2, .int v2), (3, .int v3), (4, .int v4), (5, .long v5), (7, .int v7), (8, .int v8), (9, .int v9), (10, .int v10)] [.int w1, .ref (G.2.2 kw0)] σ := by
  unfold J_X9_laySlips_146 at h
  refine g_dup2 (pc := 146) C dX9_laySlips_146 rfl rfl ?_
  obtain ⟨g_, h⟩ := h
  refine g_lald (pc := 147) C hkw0 g_ dX9_laySlips_147 ?_
  refine g_iload (pc := 148) C 8 dX9_laySlips_148 rfl ?_
  refine g_iconst (pc := 150) (v := -1) C dX9_laySlips_150 ic_m1 ?_
  refine g_icmp_ne (pc := 151) (tgt := 158) C dX9_laySlips_151 (by decide) (fun c_ => ?_) (fun c_ => ?_)
  · replace h := ite_f h c_
    refine g_aload_n (pc := 158) C 0 dX9_laySlips_158 rfl rfl ?_
    refine get_X9_25 (pc := 159) C rfl tw_887 dX9_laySlips_159 ?_
    refine g_iload (pc := 162) C 7 dX9_laySlips_162 rfl ?_
    obtain ⟨g_, h⟩ := h
    refine g_lald (pc := 164) C rfl g_ dX9_laySlips_164 ?_
    refine g_bipush (pc := 165) (v := 12) C dX9_laySlips_165 bp_12 ?_
    refine g_iload (pc := 167) C 4 dX9_laySlips_167 rfl ?_
    refine g_isub (pc := 169) C dX9_laySlips_169 ?_
    refine g_i2l (pc := 170) C dX9_laySlips_170 ?_
    refine g_lmul (pc := 171) C dX9_laySlips_171 ?_
    refine g_lv [0, 1, 2, 3, 4, 5, 6, 7, 9] (lv2 := [(0, .ref (G.2.2 0)), (1, .int v1), (2, .int v2), (3, .int v3), (4, .int v4), (5, .long v5), (7, .int v7), (8, .int v8), (10, .int v10)]) rfl ?_
    exact k_X9_laySlips_172 C hkw0 hΦ48 hΦ89 h
  · replace h := ite_t h c_
    refine g_lconst (pc := 154) (v := 0) C dX9_laySlips_154 lc_0 ?_
    refine g_goto (pc := 155) (tgt := 172) C dX9_laySlips_155 (by decide) ?_
    refine g_lv [0, 1, 2, 3, 4, 5, 6, 7, 9] (lv2 := [(0, .ref (G.2.2 0)), (1, .int v1), (2, .int v2), (3, .int v3), (4, .int v4), (5, .long v5), (7, .int v7), (8, .int v8), (10, .int v10)]) rfl ?_
    exact k_X9_laySlips_172 C hkw0 hΦ48 hΦ89 h
set_option maxHeartbeats 4000000 in
set_option maxRecDepth 100000 in
theorem k_X9_laySlips_89 {v1 : Int32} {v2 : Int32} {v3 : Int32} {v4 : Int32} {v5 : Int64} {v7 : Int32} {v8 : Int32} {σ : St} {K : Int64 → St → Prop} {Φ48 : Int64 → Int32 → St → Prop} (C : Cx p R s m args meth c shM G cX9_laySlips 11 3 RX9 (some .long) 0 0) (hΦ48 : ∀ (v5' : Int64) (v7' : Int32) (σ' : St), Φ48 v5' v7' σ' → Go p l e R s m args below meth c shM G 11 0 0 (MQ below (Qw shM G (RJ K)) args s 0 0 (Fr shM G)) 48 [(0, .ref (G.2.2 0)), (1, .int v1), (2, .int v2), (3, .int v3), (4, .int v4), (5, .long (v5')), (7, .int (v7'))] [] σ') (h : L_X9_laySlips_89 v1 v2 v3 v4 v5 v7 K Φ48 v8 σ) : Go p l e R s m args below meth c shM G 11 0 0 (MQ below (Qw shM G (RJ K)) args s 0 0 (Fr shM G)) 89 [(0, .ref (G.2.2 0)), (1, .int v1), (2, .int v2), (3, .int v3), (4, .int v4), (5, .long v5), (7, .int v7), (8, .int v8)] [] σ := by
  obtain ⟨n_, h⟩ := h
  induction n_ generalizing v8 σ with
  | zero => exact h.elim
  | succ n_ ih =>
    replace h : B_X9_laySlips_89 v1 v2 v3 v4 v5 v7 K Φ48 (it2 (B_X9_laySlips_89 v1 v2 v3 v4 v5 v7 K Φ48) n_) v8 σ := h
    unfold B_X9_laySlips_89 at h
    refine g_iload (pc := 89) C 7 dX9_laySlips_89 rfl ?_
    refine g_bipush (pc := 91) (v := 20) C dX9_laySlips_91 bp_20 ?_
    refine g_icmp_gt (pc := 93) (tgt := 221) C dX9_laySlips_93 (by decide) (fun c_ => ?_) (fun c_ => ?_)
    · replace h := ite_t h c_
      refine g_iconst (pc := 221) (v := 0) C dX9_laySlips_221 ic_0 ?_
      refine g_istore (pc := 222) (lv2 := [(8, .int 0), (0, .ref (G.2.2 0)), (1, .int v1), (2, .int v2), (3, .int v3), (4, .int v4), (5, .long v5), (7, .int v7)]) C dX9_laySlips_222 (by decide) rfl ?_
      refine g_lv [1, 2, 3, 4, 5, 6, 7, 0] (lv2 := [(0, .ref (G.2.2 0)), (1, .int v1), (2, .int v2), (3, .int v3), (4, .int v4), (5, .long v5), (7, .int v7), (8, .int 0)]) rfl ?_
      exact k_X9_laySlips_224 C hΦ48 h
    · replace h := ite_f h c_
      refine g_aload_n (pc := 96) C 0 dX9_laySlips_96 rfl rfl ?_
      refine get_X9_0 (pc := 97) C rfl tw_862 dX9_laySlips_97 ?_
      refine g_iconst (pc := 100) (v := 2) C dX9_laySlips_100 ic_2 ?_
      refine g_iload_n (pc := 101) C 1 dX9_laySlips_101 rfl rfl ?_
      refine g_iadd (pc := 102) C dX9_laySlips_102 ?_
      obtain ⟨g_, h⟩ := h
      refine g_iald (pc := 103) C rfl g_ dX9_laySlips_103 ?_
      refine g_iload (pc := 104) C 7 dX9_laySlips_104 rfl ?_
      refine g_iload_n (pc := 106) C 2 dX9_laySlips_106 rfl rfl ?_
      refine g_callSip (pc := 107) (As := [.int (σ.1 1 (2 + v1).toNatClampNeg), .int v8, .int v2]) (rest := []) C (M_X9_after C.2.2.1  h) CyX9_after tw_1061 tw_1062 (by decide) rfl rfl (Nat.le_of_ble_eq_true rfl) dX9_laySlips_107 (fun r107 h => ?_)
      refine g_istore (pc := 110) (lv2 := [(9, .int r107), (0, .ref (G.2.2 0)), (1, .int v1), (2, .int v2), (3, .int v3), (4, .int v4), (5, .long v5), (7, .int v7), (8, .int v8)]) C dX9_laySlips_110 (by decide) rfl ?_
      refine g_aload_n (pc := 112) C 1 dX9_laySlips_112 rfl rfl ?_
      refine get_X9_0 (pc := 113) C rfl tw_862 dX9_laySlips_113 ?_
      refine g_iconst (pc := 116) (v := 2) C dX9_laySlips_116 ic_2 ?_
      refine g_iload_n (pc := 117) C 2 dX9_laySlips_117 rfl rfl ?_
      refine g_iadd (pc := 118) C dX9_laySlips_118 ?_
      obtain ⟨g_, h⟩ := h
      refine g_iald (pc := 119) C rfl g_ dX9_laySlips_119 ?_
      refine g_iload (pc := 120) C 8 dX9_laySlips_120 rfl ?_
      refine g_iload_n (pc := 122) C 3 dX9_laySlips_122 rfl rfl ?_
      refine g_iconst (pc := 123) (v := 1) C dX9_laySlips_123 ic_1 ?_
      refine g_iadd (pc := 124) C dX9_laySlips_124 ?_
      refine g_callSip (pc := 125) (As := [.int (σ.1 1 (2 + v1).toNatClampNeg), .int v8, .int (v2 + 1)]) (rest := []) C (M_X9_after C.2.2.1  h) CyX9_after tw_1061 tw_1062 (by decide) rfl rfl (Nat.le_of_ble_eq_true rfl) dX9_laySlips_125 (fun r125 h => ?_)
      refine g_istore (pc := 128) (lv2 := [(10, .int r125), (9, .int r107), (0, .ref (G.2.2 0)), (1, .int v1), (2, .int v2), (3, .int v3), (4, .int v4), (5, .long v5), (7, .int v7), (8, .int v8)]) C dX9_laySlips_128 (by decide) rfl ?_
      refine g_aload_n (pc := 130) C 2 dX9_laySlips_130 rfl rfl ?_
      refine get_X9_26 (pc := 131) C rfl tw_888 dX9_laySlips_131 ?_
      refine g_iload (pc := 134) C 1 dX9_laySlips_134 rfl ?_
      refine g_iconst (pc := 136) (v := -1) C dX9_laySlips_136 ic_m1 ?_
      refine g_icmp_ne (pc := 137) (tgt := 144) C dX9_laySlips_137 (by decide) (fun c_ => ?_) (fun c_ => ?_)
      · replace h := ite_f h c_
        refine g_iload (pc := 144) C 1 dX9_laySlips_144 rfl ?_
        refine g_lv [2, 3, 4, 5, 6, 7, 8, 9, 1, 0] (lv2 := [(0, .ref (G.2.2 0)), (1, .int v1), (2, .int v2), (3, .int v3), (4, .int v4), (5, .long v5), (7, .int v7), (8, .int v8), (9, .int r107), (10, .int r125)]) rfl ?_
        exact k_X9_laySlips_146 C rfl hΦ48 (fun _ _ h_ => ih h_) h
      · replace h := ite_t h c_
        refine g_iconst (pc := 140) (v := 0) C dX9_laySlips_140 ic_0 ?_
        refine g_goto (pc := 141) (tgt := 146) C dX9_laySlips_141 (by decide) ?_
        refine g_lv [2, 3, 4, 5, 6, 7, 8, 9, 1, 0] (lv2 := [(0, .ref (G.2.2 0)), (1, .int v1), (2, .int v2), (3, .int v3), (4, .int v4), (5, .long v5), (7, .int v7), (8, .int v8), (9, .int r107), (10, .int r125)]) rfl ?_
        exact k_X9_laySlips_146 C rfl hΦ48 (fun _ _ h_ => ih h_) h
set_option maxHeartbeats 4000000 in
set_option maxRecDepth 100000 in
theorem k_X9_laySlips_65 {v1 : Int32} {v2 : Int32} {v3 : Int32} {v4 : Int32} {v5 : Int64} {v7 : Int32} {v8 : Int32} {σ : St} {K : Int64 → St → Prop} {Φ48 : Int64 → Int32 → St → Prop} (C : Cx p R s m args meth c shM G cX9_laySlips 11 3 RX9 (some .long) 0 0) (hΦ48 : ∀ (v5' : Int64) (v7' : Int32) (σ' : St), Φ48 v5' v7' σ' → Go p l e R s m args below meth c shM G 11 0 0 (MQ below (Qw shM G (RJ K)) args s 0 0 (Fr shM G)) 48 [(0, .ref (G.2.2 0)), (1, .int v1), (2, .int v2), (3, .int v3), (4, .int v4), (5, .long (v5')), (7, .int (v7'))] [] σ') (h : L_X9_laySlips_65 v1 v2 v3 v4 v5 v7 K Φ48 v8 σ) : Go p l e R s m args below meth c shM G 11 0 0 (MQ below (Qw shM G (RJ K)) args s 0 0 (Fr shM G)) 65 [(0, .ref (G.2.2 0)), (1, .int v1), (2, .int v2), (3, .int v3), (4, .int v4), (5, .long v5), (7, .int v7), (8, .int v8)] [] σ := by
  obtain ⟨n_, h⟩ := h
  induction n_ generalizing v8 σ with
  | zero => exact h.elim
  | succ n_ ih =>
    replace h : B_X9_laySlips_65 v1 v2 v3 v4 v5 v7 K Φ48 (it2 (B_X9_laySlips_65 v1 v2 v3 v4 v5 v7 K Φ48) n_) v8 σ := h
    unfold B_X9_laySlips_65 at h
    refine g_iload (pc := 65) C 7 dX9_laySlips_65 rfl ?_
    refine g_bipush (pc := 67) (v := 20) C dX9_laySlips_67 bp_20 ?_
    refine g_icmp_gt (pc := 69) (tgt := 86) C dX9_laySlips_69 (by decide) (fun c_ => ?_) (fun c_ => ?_)
    · replace h := ite_t h c_
      refine g_iconst (pc := 86) (v := 0) C dX9_laySlips_86 ic_0 ?_
      refine g_istore (pc := 87) (lv2 := [(8, .int 0), (0, .ref (G.2.2 0)), (1, .int v1), (2, .int v2), (3, .int v3), (4, .int v4), (5, .long v5), (7, .int v7)]) C dX9_laySlips_87 (by decide) rfl ?_
      refine g_lv [1, 2, 3, 4, 5, 6, 7, 0] (lv2 := [(0, .ref (G.2.2 0)), (1, .int v1), (2, .int v2), (3, .int v3), (4, .int v4), (5, .long v5), (7, .int v7), (8, .int 0)]) rfl ?_
      exact k_X9_laySlips_89 C hΦ48 h
    · replace h := ite_f h c_
      refine g_aload_n (pc := 72) C 0 dX9_laySlips_72 rfl rfl ?_
      refine get_X9_26 (pc := 73) C rfl tw_888 dX9_laySlips_73 ?_
      refine g_iload (pc := 76) C 7 dX9_laySlips_76 rfl ?_
      refine g_lconst (pc := 78) (v := 0) C dX9_laySlips_78 lc_0 ?_
      obtain ⟨g_, h⟩ := h
      refine g_last (pc := 79) C rfl g_ dX9_laySlips_79 ?_
      refine g_iinc (pc := 80) (lv2 := [(8, .int (v8 + 1)), (0, .ref (G.2.2 0)), (1, .int v1), (2, .int v2), (3, .int v3), (4, .int v4), (5, .long v5), (7, .int v7)]) C 7 dX9_laySlips_80 ic_1 rfl (by decide) rfl ?_
      refine g_goto (pc := 83) (tgt := 65) C dX9_laySlips_83 (by decide) ?_
      refine g_lv [1, 2, 3, 4, 5, 6, 7, 0] (lv2 := [(0, .ref (G.2.2 0)), (1, .int v1), (2, .int v2), (3, .int v3), (4, .int v4), (5, .long v5), (7, .int v7), (8, .int (v8 + 1))]) rfl ?_
      exact ih h
set_option maxHeartbeats 4000000 in
set_option maxRecDepth 100000 in
theorem k_X9_laySlips_48 {v1 : Int32} {v2 : Int32} {v3 : Int32} {v4 : Int32} {v5 : Int64} {v7 : Int32} {σ : St} {K : Int64 → St → Prop} (C : Cx p R s m args meth c shM G cX9_laySlips 11 3 RX9 (some .long) 0 0) (h : L_X9_laySlips_48 v1 v2 v3 v4 K v5 v7 σ) : Go p l e R s m args below meth c shM G 11 0 0 (MQ below (Qw shM G (RJ K)) args s 0 0 (Fr shM G)) 48 [(0, .ref (G.2.2 0)), (1, .int v1), (2, .int v2), (3, .int v3), (4, .int v4), (5, .long v5), (7, .int v7)] [] σ := by
  obtain ⟨n_, h⟩ := h
  induction n_ generalizing v5 v7 σ with
  | zero => exact h.elim
  | succ n_ ih =>
    replace h : B_X9_laySlips_48 v1 v2 v3 v4 K (it3 (B_X9_laySlips_48 v1 v2 v3 v4 K) n_) v5 v7 σ := h
    unfold B_X9_laySlips_48 at h
    refine g_iload (pc := 48) C 6 dX9_laySlips_48 rfl ?_
    refine g_iload_n (pc := 50) C 3 dX9_laySlips_50 rfl rfl ?_
    refine g_icmp_ge (pc := 51) (tgt := 257) C dX9_laySlips_51 (by decide) (fun c_ => ?_) (fun c_ => ?_)
    · replace h := ite_t h c_
      refine g_lload (pc := 257) C 5 dX9_laySlips_257 rfl ?_
      exact g_lret (pc := 259) C dX9_laySlips_259 ⟨_, rfl, h⟩
    · replace h := ite_f h c_
      refine g_lload (pc := 54) C 5 dX9_laySlips_54 rfl ?_
      refine g_ldc2 (pc := 56) (v := 12) C dX9_laySlips_56 tw_1158 ?_
      refine g_lmul (pc := 59) C dX9_laySlips_59 ?_
      refine g_lstore (pc := 60) (lv2 := [(5, .long (v5 * (12 : Int64))), (0, .ref (G.2.2 0)), (1, .int v1), (2, .int v2), (3, .int v3), (4, .int v4), (7, .int v7)]) C dX9_laySlips_60 (by decide) rfl ?_
      refine g_iconst (pc := 62) (v := 0) C dX9_laySlips_62 ic_0 ?_
      refine g_istore (pc := 63) (lv2 := [(8, .int 0), (5, .long (v5 * (12 : Int64))), (0, .ref (G.2.2 0)), (1, .int v1), (2, .int v2), (3, .int v3), (4, .int v4), (7, .int v7)]) C dX9_laySlips_63 (by decide) rfl ?_
      refine g_lv [2, 3, 4, 5, 6, 1, 7, 0] (lv2 := [(0, .ref (G.2.2 0)), (1, .int v1), (2, .int v2), (3, .int v3), (4, .int v4), (5, .long (v5 * (12 : Int64))), (7, .int v7), (8, .int 0)]) rfl ?_
      exact k_X9_laySlips_65 C (fun _ _ _ h_ => ih h_) h
set_option maxHeartbeats 4000000 in
set_option maxRecDepth 100000 in
theorem k_X9_laySlips_38 {v1 : Int32} {v2 : Int32} {v3 : Int32} {v4 : Int32} {v5 : Int64} {v7 : Int32} {kw0 : Nat} {nw0 : Nat} {w1 : Int32} {w2 : Int64} {σ : St} {K : Int64 → St → Prop} {Φ6 : Int32 → St → Prop} (C : Cx p R s m args meth c shM G cX9_laySlips 11 3 RX9 (some .long) 0 0) (hkw0 : shM[kw0]? = some (12, nw0, 0)) (hΦ6 : ∀ (v7' : Int32) (σ' : St), Φ6 v7' σ' → Go p l e R s m args below meth c shM G 11 0 0 (MQ below (Qw shM G (RJ K)) args s 0 0 (Fr shM G)) 6 [(0, .ref (G.2.2 0)), (1, .int v1), (2, .int v2), (3, .int v3), (4, .int v4), (5, .long v5), (7, .int (v7'))] [] σ') (h : J_X9_laySlips_38 v1 v2 v3 v4 v5 v7 kw0 nw0 w1 w2 σ K Φ6) : Go p l e R s m args below meth c shM G 11 0 0 (MQ below (Qw shM G (RJ K)) args s 0 0 (Fr shM G)) 38 [(0, .ref (G.2.2 0)), (1, .int v1), (2, .int v2), (3, .int v3), (4, .int v4), (5, .long v5), (7, .int v7)] [.long w2, .int w1, .ref (G.2.2 kw0)] σ := by
  unfold J_X9_laySlips_38 at h
  obtain ⟨g_, h⟩ := h
  refine g_last (pc := 38) C hkw0 g_ dX9_laySlips_38 ?_
  refine g_iinc (pc := 39) (lv2 := [(7, .int (v7 + 1)), (0, .ref (G.2.2 0)), (1, .int v1), (2, .int v2), (3, .int v3), (4, .int v4), (5, .long v5)]) C 6 dX9_laySlips_39 ic_1 rfl (by decide) rfl ?_
  refine g_goto (pc := 42) (tgt := 6) C dX9_laySlips_42 (by decide) ?_
  refine g_lv [1, 2, 3, 4, 5, 6, 0] (lv2 := [(0, .ref (G.2.2 0)), (1, .int v1), (2, .int v2), (3, .int v3), (4, .int v4), (5, .long v5), (7, .int (v7 + 1))]) rfl ?_
  exact hΦ6 _ _ h
set_option maxHeartbeats 4000000 in
set_option maxRecDepth 100000 in
theorem k_X9_laySlips_6 {v1 : Int32} {v2 : Int32} {v3 : Int32} {v4 : Int32} {v5 : Int64} {v7 : Int32} {σ : St} {K : Int64 → St → Prop} (C : Cx p R s m args meth c shM G cX9_laySlips 11 3 RX9 (some .long) 0 0) (h : L_X9_laySlips_6 v1 v2 v3 v4 v5 K v7 σ) : Go p l e R s m args below meth c shM G 11 0 0 (MQ below (Qw shM G (RJ K)) args s 0 0 (Fr shM G)) 6 [(0, .ref (G.2.2 0)), (1, .int v1), (2, .int v2), (3, .int v3), (4, .int v4), (5, .long v5), (7, .int v7)] [] σ := by
  obtain ⟨n_, h⟩ := h
  induction n_ generalizing v7 σ with
  | zero => exact h.elim
  | succ n_ ih =>
    replace h : B_X9_laySlips_6 v1 v2 v3 v4 v5 K (it2 (B_X9_laySlips_6 v1 v2 v3 v4 v5 K) n_) v7 σ := h
    unfold B_X9_laySlips_6 at h
    refine g_iload (pc := 6) C 6 dX9_laySlips_6 rfl ?_
    refine g_bipush (pc := 8) (v := 20) C dX9_laySlips_8 bp_20 ?_
    refine g_icmp_gt (pc := 10) (tgt := 45) C dX9_laySlips_10 (by decide) (fun c_ => ?_) (fun c_ => ?_)
    · replace h := ite_t h c_
      refine g_iconst (pc := 45) (v := 0) C dX9_laySlips_45 ic_0 ?_
      refine g_istore (pc := 46) (lv2 := [(7, .int 0), (0, .ref (G.2.2 0)), (1, .int v1), (2, .int v2), (3, .int v3), (4, .int v4), (5, .long v5)]) C dX9_laySlips_46 (by decide) rfl ?_
      refine g_lv [1, 2, 3, 4, 5, 6, 0] (lv2 := [(0, .ref (G.2.2 0)), (1, .int v1), (2, .int v2), (3, .int v3), (4, .int v4), (5, .long v5), (7, .int 0)]) rfl ?_
      exact k_X9_laySlips_48 C  h
    · replace h := ite_f h c_
      refine g_aload_n (pc := 13) C 0 dX9_laySlips_13 rfl rfl ?_
      refine get_X9_25 (pc := 14) C rfl tw_887 dX9_laySlips_14 ?_
      refine g_iload (pc := 17) C 6 dX9_laySlips_17 rfl ?_
      refine g_iload (pc := 19) C 6 dX9_laySlips_19 rfl ?_
      refine g_aload_n (pc := 21) C 0 dX9_laySlips_21 rfl rfl ?_
      refine get_X9_0 (pc := 22) C rfl tw_862 dX9_laySlips_22 ?_
      refine g_bipush (pc := 25) (v := 14) C dX9_laySlips_25 bp_14 ?_
      refine g_iload_n (pc := 27) C 1 dX9_laySlips_27 rfl rfl ?_
      refine g_iadd (pc := 28) C dX9_laySlips_28 ?_
      obtain ⟨g_, h⟩ := h
      refine g_iald (pc := 29) C rfl g_ dX9_laySlips_29 ?_
      refine g_icmp_ne (pc := 30) (tgt := 37) C dX9_laySlips_30 (by decide) (fun c_ => ?_) (fun c_ => ?_)
      · replace h := ite_f h c_
        refine g_lconst (pc := 37) (v := 0) C dX9_laySlips_37 lc_0 ?_
        refine g_lv [0, 1, 2, 3, 4, 5, 6] (lv2 := [(0, .ref (G.2.2 0)), (1, .int v1), (2, .int v2), (3, .int v3), (4, .int v4), (5, .long v5), (7, .int v7)]) rfl ?_
        exact k_X9_laySlips_38 C rfl (fun _ _ h_ => ih h_) h
      · replace h := ite_t h c_
        refine g_lconst (pc := 33) (v := 1) C dX9_laySlips_33 lc_1 ?_
        refine g_goto (pc := 34) (tgt := 38) C dX9_laySlips_34 (by decide) ?_
        refine g_lv [0, 1, 2, 3, 4, 5, 6] (lv2 := [(0, .ref (G.2.2 0)), (1, .int v1), (2, .int v2), (3, .int v3), (4, .int v4), (5, .long v5), (7, .int v7)]) rfl ?_
        exact k_X9_laySlips_38 C rfl (fun _ _ h_ => ih h_) h
set_option maxHeartbeats 4000000 in
set_option maxRecDepth 100000 in
theorem M_X9_laySlips {l : Launch} {G : Gp} (hD : Dj shM G) {v1 : Int32} {v2 : Int32} {v3 : Int32} {v4 : Int32} {σ : St} {K : Int64 → St → Prop} (h : wp_X9_laySlips v1 v2 v3 v4 σ K) : MC l shM G yX9_laySlips cX9_laySlips 11 (some .long) 3 [.ref (G.2.2 0), .int v1, .int v2, .int v3, .int v4] σ (RJ K) := by
  unfold wp_X9_laySlips at h
  refine MC.of (by decide) hD (Nat.le_of_ble_eq_true rfl) ?_
  intro p e s m args below meth c C
  replace C : Cx p (rmD 3) s m args meth c shM G cX9_laySlips 11 3 RX9 (some .long) 0 0 := C
  show Go p l e (rmD 3) s m args below meth c shM G 11 0 0 (MQ below (Qw shM G (RJ K)) args s 0 0 (Fr shM G)) 0 [(0, .ref (G.2.2 0)), (1, .int v1), (2, .int v2), (3, .int v3), (4, .int v4)] [] σ
  refine g_lconst (pc := 0) (v := 1) C dX9_laySlips_0 lc_1 ?_
  refine g_lstore (pc := 1) (lv2 := [(5, .long (1 : Int64)), (0, .ref (G.2.2 0)), (1, .int v1), (2, .int v2), (3, .int v3), (4, .int v4)]) C dX9_laySlips_1 (by decide) rfl ?_
  refine g_iconst (pc := 3) (v := 0) C dX9_laySlips_3 ic_0 ?_
  refine g_istore (pc := 4) (lv2 := [(7, .int 0), (5, .long (1 : Int64)), (0, .ref (G.2.2 0)), (1, .int v1), (2, .int v2), (3, .int v3), (4, .int v4)]) C dX9_laySlips_4 (by decide) rfl ?_
  refine g_lv [2, 3, 4, 5, 6, 1, 0] (lv2 := [(0, .ref (G.2.2 0)), (1, .int v1), (2, .int v2), (3, .int v3), (4, .int v4), (5, .long (1 : Int64)), (7, .int 0)]) rfl ?_
  exact k_X9_laySlips_6 C  h
set_option maxHeartbeats 4000000 in
set_option maxRecDepth 100000 in
theorem k_X9_layStands_97 {v1 : Int32} {v2 : Int32} {v3 : Int32} {v4 : Int32} {σ : St} {K : St → Prop} {Φ2 : Int32 → St → Prop} {Φ10 : Int32 → St → Prop} (C : Cx p R s m args meth c shM G cX9_layStands 7 3 RX9 none 0 0) (hΦ2 : ∀ (v2' : Int32) (σ' : St), Φ2 v2' σ' → Go p l e R s m args below meth c shM G 7 0 0 (MQ below (Qw shM G (RV K)) args s 0 0 (Fr shM G)) 2 [(0, .ref (G.2.2 0)), (1, .int v1), (2, .int (v2'))] [] σ') (hΦ10 : ∀ (v3' : Int32) (σ' : St), Φ10 v3' σ' → Go p l e R s m args below meth c shM G 7 0 0 (MQ below (Qw shM G (RV K)) args s 0 0 (Fr shM G)) 10 [(0, .ref (G.2.2 0)), (1, .int v1), (2, .int v2), (3, .int (v3'))] [] σ') (h : J_X9_layStands_97 v1 v2 v3 v4 σ K Φ2 Φ10) : Go p l e R s m args below meth c shM G 7 0 0 (MQ below (Qw shM G (RV K)) args s 0 0 (Fr shM G)) 97 [(0, .ref (G.2.2 0)), (1, .int v1), (2, .int v2), (3, .int v3), (4, .int v4)] [] σ := by
  unfold J_X9_layStands_97 at h
  refine g_aload_n (pc := 97) C 0 dX9_layStands_97 rfl rfl ?_
  refine get_X9_19 (pc := 98) C rfl tw_881 dX9_layStands_98 ?_
  refine g_bipush (pc := 101) (v := 21) C dX9_layStands_101 bp_21 ?_
  refine g_iload_n (pc := 103) C 2 dX9_layStands_103 rfl rfl ?_
  refine g_imul (pc := 104) C dX9_layStands_104 ?_
  refine g_iload_n (pc := 105) C 3 dX9_layStands_105 rfl rfl ?_
  refine g_iadd (pc := 106) C dX9_layStands_106 ?_
  refine g_iload (pc := 107) C 4 dX9_layStands_107 rfl ?_
  obtain ⟨g_, h⟩ := h
  refine g_zast (pc := 109) C rfl g_ dX9_layStands_109 ?_
  refine g_iinc (pc := 110) (lv2 := [(3, .int (v3 + 1)), (0, .ref (G.2.2 0)), (1, .int v1), (2, .int v2), (4, .int v4)]) C 3 dX9_layStands_110 ic_1 rfl (by decide) rfl ?_
  refine g_goto (pc := 113) (tgt := 10) C dX9_layStands_113 (by decide) ?_
  refine g_lv [1, 2, 3, 0] (lv2 := [(0, .ref (G.2.2 0)), (1, .int v1), (2, .int v2), (3, .int (v3 + 1))]) rfl ?_
  exact hΦ10 _ _ h
set_option maxHeartbeats 4000000 in
set_option maxRecDepth 100000 in
theorem k_X9_layStands_89 {v1 : Int32} {v2 : Int32} {v3 : Int32} {v5 : Int32} {w0 : Int32} {σ : St} {K : St → Prop} {Φ2 : Int32 → St → Prop} {Φ10 : Int32 → St → Prop} {Φ36 : Int32 → Int32 → Prop} (C : Cx p R s m args meth c shM G cX9_layStands 7 3 RX9 none 0 0) (hΦ2 : ∀ (v2' : Int32) (σ' : St), Φ2 v2' σ' → Go p l e R s m args below meth c shM G 7 0 0 (MQ below (Qw shM G (RV K)) args s 0 0 (Fr shM G)) 2 [(0, .ref (G.2.2 0)), (1, .int v1), (2, .int (v2'))] [] σ') (hΦ10 : ∀ (v3' : Int32) (σ' : St), Φ10 v3' σ' → Go p l e R s m args below meth c shM G 7 0 0 (MQ below (Qw shM G (RV K)) args s 0 0 (Fr shM G)) 10 [(0, .ref (G.2.2 0)), (1, .int v1), (2, .int v2), (3, .int (v3'))] [] σ') (hΦ36 : ∀ (v4' : Int32) (v5' : Int32), Φ36 v4' v5' → Go p l e R s m args below meth c shM G 7 0 0 (MQ below (Qw shM G (RV K)) args s 0 0 (Fr shM G)) 36 [(0, .ref (G.2.2 0)), (1, .int v1), (2, .int v2), (3, .int v3), (4, .int (v4')), (5, .int (v5'))] [] σ) (h : J_X9_layStands_89 v1 v2 v3 v5 w0 σ K Φ2 Φ10 Φ36) : Go p l e R s m args below meth c shM G 7 0 0 (MQ below (Qw shM G (RV K)) args s 0 0 (Fr shM G)) 89 [(0, .ref (G.2.2 0)), (1, .int v1), (2, .int v2), (3, .int v3), (5, .int v5)] [.int w0] σ := by
  unfold J_X9_layStands_89 at h
  refine g_istore (pc := 89) (lv2 := [(4, .int w0), (0, .ref (G.2.2 0)), (1, .int v1), (2, .int v2), (3, .int v3), (5, .int v5)]) C dX9_layStands_89 (by decide) rfl ?_
  refine g_iinc (pc := 91) (lv2 := [(5, .int (v5 + 1)), (4, .int w0), (0, .ref (G.2.2 0)), (1, .int v1), (2, .int v2), (3, .int v3)]) C 5 dX9_layStands_91 ic_1 rfl (by decide) rfl ?_
  refine g_goto (pc := 94) (tgt := 36) C dX9_layStands_94 (by decide) ?_
  refine g_lv [2, 3, 4, 5, 1, 0] (lv2 := [(0, .ref (G.2.2 0)), (1, .int v1), (2, .int v2), (3, .int v3), (4, .int w0), (5, .int (v5 + 1))]) rfl ?_
  exact hΦ36 _ _ h
set_option maxHeartbeats 4000000 in
set_option maxRecDepth 100000 in
theorem k_X9_layStands_84 {v1 : Int32} {v2 : Int32} {v3 : Int32} {v5 : Int32} {σ : St} {K : St → Prop} {Φ2 : Int32 → St → Prop} {Φ10 : Int32 → St → Prop} {Φ36 : Int32 → Int32 → Prop} (C : Cx p R s m args meth c shM G cX9_layStands 7 3 RX9 none 0 0) (hΦ2 : ∀ (v2' : Int32) (σ' : St), Φ2 v2' σ' → Go p l e R s m args below meth c shM G 7 0 0 (MQ below (Qw shM G (RV K)) args s 0 0 (Fr shM G)) 2 [(0, .ref (G.2.2 0)), (1, .int v1), (2, .int (v2'))] [] σ') (hΦ10 : ∀ (v3' : Int32) (σ' : St), Φ10 v3' σ' → Go p l e R s m args below meth c shM G 7 0 0 (MQ below (Qw shM G (RV K)) args s 0 0 (Fr shM G)) 10 [(0, .ref (G.2.2 0)), (1, .int v1), (2, .int v2), (3, .int (v3'))] [] σ') (hΦ36 : ∀ (v4' : Int32) (v5' : Int32), Φ36 v4' v5' → Go p l e R s m args below meth c shM G 7 0 0 (MQ below (Qw shM G (RV K)) args s 0 0 (Fr shM G)) 36 [(0, .ref (G.2.2 0)), (1, .int v1), (2, .int v2), (3, .int v3), (4, .int (v4')), (5, .int (v5'))] [] σ) (h : J_X9_layStands_84 v1 v2 v3 v5 σ K Φ2 Φ10 Φ36) : Go p l e R s m args below meth c shM G 7 0 0 (MQ below (Qw shM G (RV K)) args s 0 0 (Fr shM G)) 84 [(0, .ref (G.2.2 0)), (1, .int v1), (2, .int v2), (3, .int v3), (5, .int v5)] [] σ := by
  unfold J_X9_layStands_84 at h
  refine g_iconst (pc := 84) (v := 1) C dX9_layStands_84 ic_1 ?_
  refine g_goto (pc := 85) (tgt := 89) C dX9_layStands_85 (by decide) ?_
  refine g_lv [0, 1, 2, 3, 4] (lv2 := [(0, .ref (G.2.2 0)), (1, .int v1), (2, .int v2), (3, .int v3), (5, .int v5)]) rfl ?_
  exact k_X9_layStands_89 C hΦ2 hΦ10 hΦ36 h
set_option maxHeartbeats 4000000 in
set_option maxRecDepth 100000 in
theorem k_X9_layStands_88 {v1 : Int32} {v2 : Int32} {v3 : Int32} {v5 : Int32} {σ : St} {K : St → Prop} {Φ2 : Int32 → St → Prop} {Φ10 : Int32 → St → Prop} {Φ36 : Int32 → Int32 → Prop} (C : Cx p R s m args meth c shM G cX9_layStands 7 3 RX9 none 0 0) (hΦ2 : ∀ (v2' : Int32) (σ' : St), Φ2 v2' σ' → Go p l e R s m args below meth c shM G 7 0 0 (MQ below (Qw shM G (RV K)) args s 0 0 (Fr shM G)) 2 [(0, .ref (G.2.2 0)), (1, .int v1), (2, .int (v2'))] [] σ') (hΦ10 : ∀ (v3' : Int32) (σ' : St), Φ10 v3' σ' → Go p l e R s m args below meth c shM G 7 0 0 (MQ below (Qw shM G (RV K)) args s 0 0 (Fr shM G)) 10 [(0, .ref (G.2.2 0)), (1, .int v1), (2, .int v2), (3, .int (v3'))] [] σ') (hΦ36 : ∀ (v4' : Int32) (v5' : Int32), Φ36 v4' v5' → Go p l e R s m args below meth c shM G 7 0 0 (MQ below (Qw shM G (RV K)) args s 0 0 (Fr shM G)) 36 [(0, .ref (G.2.2 0)), (1, .int v1), (2, .int v2), (3, .int v3), (4, .int (v4')), (5, .int (v5'))] [] σ) (h : J_X9_layStands_88 v1 v2 v3 v5 σ K Φ2 Φ10 Φ36) : Go p l e R s m args below meth c shM G 7 0 0 (MQ below (Qw shM G (RV K)) args s 0 0 (Fr shM G)) 88 [(0, .ref (G.2.2 0)), (1, .int v1), (2, .int v2), (3, .int v3), (5, .int v5)] [] σ := by
  unfold J_X9_layStands_88 at h
  refine g_iconst (pc := 88) (v := 0) C dX9_layStands_88 ic_0 ?_
  refine g_lv [0, 1, 2, 3, 4] (lv2 := [(0, .ref (G.2.2 0)), (1, .int v1), (2, .int v2), (3, .int v3), (5, .int v5)]) rfl ?_
  exact k_X9_layStands_89 C hΦ2 hΦ10 hΦ36 h
set_option maxHeartbeats 4000000 in
set_option maxRecDepth 100000 in
theorem k_X9_layStands_36 {v1 : Int32} {v2 : Int32} {v3 : Int32} {v4 : Int32} {v5 : Int32} {σ : St} {K : St → Prop} {Φ2 : Int32 → St → Prop} {Φ10 : Int32 → St → Prop} (C : Cx p R s m args meth c shM G cX9_layStands 7 3 RX9 none 0 0) (hΦ2 : ∀ (v2' : Int32) (σ' : St), Φ2 v2' σ' → Go p l e R s m args below meth c shM G 7 0 0 (MQ below (Qw shM G (RV K)) args s 0 0 (Fr shM G)) 2 [(0, .ref (G.2.2 0)), (1, .int v1), (2, .int (v2'))] [] σ') (hΦ10 : ∀ (v3' : Int32) (σ' : St), Φ10 v3' σ' → Go p l e R s m args below meth c shM G 7 0 0 (MQ below (Qw shM G (RV K)) args s 0 0 (Fr shM G)) 10 [(0, .ref (G.2.2 0)), (1, .int v1), (2, .int v2), (3, .int (v3'))] [] σ') (h : L_X9_layStands_36 v1 v2 v3 σ K Φ2 Φ10 v4 v5) : Go p l e R s m args below meth c shM G 7 0 0 (MQ below (Qw shM G (RV K)) args s 0 0 (Fr shM G)) 36 [(0, .ref (G.2.2 0)), (1, .int v1), (2, .int v2), (3, .int v3), (4, .int v4), (5, .int v5)] [] σ := by
  obtain ⟨n_, h⟩ := h
  induction n_ generalizing v4 v5 with
  | zero => exact h.elim
  | succ n_ ih =>
    replace h : B_X9_layStands_36 v1 v2 v3 σ K Φ2 Φ10 (it2 (B_X9_layStands_36 v1 v2 v3 σ K Φ2 Φ10) n_) v4 v5 := h
    unfold B_X9_layStands_36 at h
    refine g_iload (pc := 36) C 5 dX9_layStands_36 rfl ?_
    refine g_bipush (pc := 38) (v := 7) C dX9_layStands_38 bp_7 ?_
    refine g_icmp_ge (pc := 40) (tgt := 97) C dX9_layStands_40 (by decide) (fun c_ => ?_) (fun c_ => ?_)
    · replace h := ite_t h c_
      refine g_lv [0, 1, 2, 3, 4] (lv2 := [(0, .ref (G.2.2 0)), (1, .int v1), (2, .int v2), (3, .int v3), (4, .int v4)]) rfl ?_
      exact k_X9_layStands_97 C hΦ2 hΦ10 h
    · replace h := ite_f h c_
      refine g_iload_n (pc := 43) C 2 dX9_layStands_43 rfl rfl ?_
      refine g_if_le (pc := 44) (tgt := 97) C dX9_layStands_44 (by decide) (fun c_ => ?_) (fun c_ => ?_)
      · replace h := ite_t h c_
        refine g_lv [0, 1, 2, 3, 4] (lv2 := [(0, .ref (G.2.2 0)), (1, .int v1), (2, .int v2), (3, .int v3), (4, .int v4)]) rfl ?_
        exact k_X9_layStands_97 C hΦ2 hΦ10 h
      · replace h := ite_f h c_
        refine g_iload_n (pc := 47) C 1 dX9_layStands_47 rfl rfl ?_
        refine g_iload_n (pc := 48) C 3 dX9_layStands_48 rfl rfl ?_
        refine g_iload (pc := 49) C 5 dX9_layStands_49 rfl ?_
        refine g_callSip (pc := 51) (As := [.int v1, .int v3, .int v5]) (rest := []) C (M_X9_after C.2.2.1  h) CyX9_after tw_1061 tw_1062 (by decide) rfl rfl (Nat.le_of_ble_eq_true rfl) dX9_layStands_51 (fun r51 h => ?_)
        refine g_istore (pc := 54) (lv2 := [(6, .int r51), (0, .ref (G.2.2 0)), (1, .int v1), (2, .int v2), (3, .int v3), (4, .int v4), (5, .int v5)]) C dX9_layStands_54 (by decide) rfl ?_
        refine g_iload (pc := 56) C 5 dX9_layStands_56 rfl ?_
        refine g_if_ne (pc := 58) (tgt := 84) C dX9_layStands_58 (by decide) (fun c_ => ?_) (fun c_ => ?_)
        · replace h := ite_f h c_
          refine g_lv [1, 2, 3, 4, 6] (lv2 := [(0, .ref (G.2.2 0)), (1, .int v1), (2, .int v2), (3, .int v3), (5, .int v5)]) rfl ?_
          exact k_X9_layStands_84 C hΦ2 hΦ10 (fun _ _ h_ => ih h_) h
        · replace h := ite_t h c_
          refine g_iload (pc := 61) C 0 dX9_layStands_61 rfl ?_
          refine g_iconst (pc := 63) (v := -1) C dX9_layStands_63 ic_m1 ?_
          refine g_icmp_eq (pc := 64) (tgt := 88) C dX9_layStands_64 (by decide) (fun c_ => ?_) (fun c_ => ?_)
          · replace h := ite_t h c_
            refine g_lv [1, 2, 3, 4, 6] (lv2 := [(0, .ref (G.2.2 0)), (1, .int v1), (2, .int v2), (3, .int v3), (5, .int v5)]) rfl ?_
            exact k_X9_layStands_88 C hΦ2 hΦ10 (fun _ _ h_ => ih h_) h
          · replace h := ite_f h c_
            refine g_aload_n (pc := 67) C 1 dX9_layStands_67 rfl rfl ?_
            refine get_X9_19 (pc := 68) C rfl tw_881 dX9_layStands_68 ?_
            refine g_bipush (pc := 71) (v := 21) C dX9_layStands_71 bp_21 ?_
            refine g_iload_n (pc := 73) C 3 dX9_layStands_73 rfl rfl ?_
            refine g_iconst (pc := 74) (v := 1) C dX9_layStands_74 ic_1 ?_
            refine g_isub (pc := 75) C dX9_layStands_75 ?_
            refine g_imul (pc := 76) C dX9_layStands_76 ?_
            refine g_iload (pc := 77) C 0 dX9_layStands_77 rfl ?_
            refine g_iadd (pc := 79) C dX9_layStands_79 ?_
            obtain ⟨g_, h⟩ := h
            refine g_zald (pc := 80) C rfl g_ dX9_layStands_80 ?_
            refine g_if_eq (pc := 81) (tgt := 88) C dX9_layStands_81 (by decide) (fun c_ => ?_) (fun c_ => ?_)
            · replace h := ite_t h c_
              refine g_lv [1, 2, 3, 4, 6] (lv2 := [(0, .ref (G.2.2 0)), (1, .int v1), (2, .int v2), (3, .int v3), (5, .int v5)]) rfl ?_
              exact k_X9_layStands_88 C hΦ2 hΦ10 (fun _ _ h_ => ih h_) h
            · replace h := ite_f h c_
              refine g_lv [1, 2, 3, 4, 6] (lv2 := [(0, .ref (G.2.2 0)), (1, .int v1), (2, .int v2), (3, .int v3), (5, .int v5)]) rfl ?_
              exact k_X9_layStands_84 C hΦ2 hΦ10 (fun _ _ h_ => ih h_) h
set_option maxHeartbeats 4000000 in
set_option maxRecDepth 100000 in
theorem k_X9_layStands_31 {v1 : Int32} {v2 : Int32} {v3 : Int32} {w0 : Int32} {σ : St} {K : St → Prop} {Φ2 : Int32 → St → Prop} {Φ10 : Int32 → St → Prop} (C : Cx p R s m args meth c shM G cX9_layStands 7 3 RX9 none 0 0) (hΦ2 : ∀ (v2' : Int32) (σ' : St), Φ2 v2' σ' → Go p l e R s m args below meth c shM G 7 0 0 (MQ below (Qw shM G (RV K)) args s 0 0 (Fr shM G)) 2 [(0, .ref (G.2.2 0)), (1, .int v1), (2, .int (v2'))] [] σ') (hΦ10 : ∀ (v3' : Int32) (σ' : St), Φ10 v3' σ' → Go p l e R s m args below meth c shM G 7 0 0 (MQ below (Qw shM G (RV K)) args s 0 0 (Fr shM G)) 10 [(0, .ref (G.2.2 0)), (1, .int v1), (2, .int v2), (3, .int (v3'))] [] σ') (h : J_X9_layStands_31 v1 v2 v3 w0 σ K Φ2 Φ10) : Go p l e R s m args below meth c shM G 7 0 0 (MQ below (Qw shM G (RV K)) args s 0 0 (Fr shM G)) 31 [(0, .ref (G.2.2 0)), (1, .int v1), (2, .int v2), (3, .int v3)] [.int w0] σ := by
  unfold J_X9_layStands_31 at h
  refine g_istore (pc := 31) (lv2 := [(4, .int w0), (0, .ref (G.2.2 0)), (1, .int v1), (2, .int v2), (3, .int v3)]) C dX9_layStands_31 (by decide) rfl ?_
  refine g_iconst (pc := 33) (v := 0) C dX9_layStands_33 ic_0 ?_
  refine g_istore (pc := 34) (lv2 := [(5, .int 0), (4, .int w0), (0, .ref (G.2.2 0)), (1, .int v1), (2, .int v2), (3, .int v3)]) C dX9_layStands_34 (by decide) rfl ?_
  refine g_lv [2, 3, 4, 5, 1, 0] (lv2 := [(0, .ref (G.2.2 0)), (1, .int v1), (2, .int v2), (3, .int v3), (4, .int w0), (5, .int 0)]) rfl ?_
  exact k_X9_layStands_36 C hΦ2 hΦ10 h
set_option maxHeartbeats 4000000 in
set_option maxRecDepth 100000 in
theorem k_X9_layStands_30 {v1 : Int32} {v2 : Int32} {v3 : Int32} {σ : St} {K : St → Prop} {Φ2 : Int32 → St → Prop} {Φ10 : Int32 → St → Prop} (C : Cx p R s m args meth c shM G cX9_layStands 7 3 RX9 none 0 0) (hΦ2 : ∀ (v2' : Int32) (σ' : St), Φ2 v2' σ' → Go p l e R s m args below meth c shM G 7 0 0 (MQ below (Qw shM G (RV K)) args s 0 0 (Fr shM G)) 2 [(0, .ref (G.2.2 0)), (1, .int v1), (2, .int (v2'))] [] σ') (hΦ10 : ∀ (v3' : Int32) (σ' : St), Φ10 v3' σ' → Go p l e R s m args below meth c shM G 7 0 0 (MQ below (Qw shM G (RV K)) args s 0 0 (Fr shM G)) 10 [(0, .ref (G.2.2 0)), (1, .int v1), (2, .int v2), (3, .int (v3'))] [] σ') (h : J_X9_layStands_30 v1 v2 v3 σ K Φ2 Φ10) : Go p l e R s m args below meth c shM G 7 0 0 (MQ below (Qw shM G (RV K)) args s 0 0 (Fr shM G)) 30 [(0, .ref (G.2.2 0)), (1, .int v1), (2, .int v2), (3, .int v3)] [] σ := by
  unfold J_X9_layStands_30 at h
  refine g_iconst (pc := 30) (v := 0) C dX9_layStands_30 ic_0 ?_
  refine g_lv [0, 1, 2, 3] (lv2 := [(0, .ref (G.2.2 0)), (1, .int v1), (2, .int v2), (3, .int v3)]) rfl ?_
  exact k_X9_layStands_31 C hΦ2 hΦ10 h
set_option maxHeartbeats 4000000 in
set_option maxRecDepth 100000 in
theorem k_X9_layStands_10 {v1 : Int32} {v2 : Int32} {v3 : Int32} {σ : St} {K : St → Prop} {Φ2 : Int32 → St → Prop} (C : Cx p R s m args meth c shM G cX9_layStands 7 3 RX9 none 0 0) (hΦ2 : ∀ (v2' : Int32) (σ' : St), Φ2 v2' σ' → Go p l e R s m args below meth c shM G 7 0 0 (MQ below (Qw shM G (RV K)) args s 0 0 (Fr shM G)) 2 [(0, .ref (G.2.2 0)), (1, .int v1), (2, .int (v2'))] [] σ') (h : L_X9_layStands_10 v1 v2 K Φ2 v3 σ) : Go p l e R s m args below meth c shM G 7 0 0 (MQ below (Qw shM G (RV K)) args s 0 0 (Fr shM G)) 10 [(0, .ref (G.2.2 0)), (1, .int v1), (2, .int v2), (3, .int v3)] [] σ := by
  obtain ⟨n_, h⟩ := h
  induction n_ generalizing v3 σ with
  | zero => exact h.elim
  | succ n_ ih =>
    replace h : B_X9_layStands_10 v1 v2 K Φ2 (it2 (B_X9_layStands_10 v1 v2 K Φ2) n_) v3 σ := h
    unfold B_X9_layStands_10 at h
    refine g_iload_n (pc := 10) C 3 dX9_layStands_10 rfl rfl ?_
    refine g_bipush (pc := 11) (v := 20) C dX9_layStands_11 bp_20 ?_
    refine g_icmp_gt (pc := 13) (tgt := 116) C dX9_layStands_13 (by decide) (fun c_ => ?_) (fun c_ => ?_)
    · replace h := ite_t h c_
      refine g_iinc (pc := 116) (lv2 := [(2, .int (v2 + 1)), (0, .ref (G.2.2 0)), (1, .int v1), (3, .int v3)]) C 2 dX9_layStands_116 ic_1 rfl (by decide) rfl ?_
      refine g_goto (pc := 119) (tgt := 2) C dX9_layStands_119 (by decide) ?_
      refine g_lv [1, 2, 0] (lv2 := [(0, .ref (G.2.2 0)), (1, .int v1), (2, .int (v2 + 1))]) rfl ?_
      exact hΦ2 _ _ h
    · replace h := ite_f h c_
      refine g_iload_n (pc := 16) C 2 dX9_layStands_16 rfl rfl ?_
      refine g_if_ne (pc := 17) (tgt := 30) C dX9_layStands_17 (by decide) (fun c_ => ?_) (fun c_ => ?_)
      · replace h := ite_f h c_
        refine g_lv [0, 1, 2, 3] (lv2 := [(0, .ref (G.2.2 0)), (1, .int v1), (2, .int v2), (3, .int v3)]) rfl ?_
        exact k_X9_layStands_30 C hΦ2 (fun _ _ h_ => ih h_) h
      · replace h := ite_t h c_
        refine g_iload_n (pc := 20) C 3 dX9_layStands_20 rfl rfl ?_
        refine g_bipush (pc := 21) (v := 20) C dX9_layStands_21 bp_20 ?_
        refine g_icmp_ne (pc := 23) (tgt := 30) C dX9_layStands_23 (by decide) (fun c_ => ?_) (fun c_ => ?_)
        · replace h := ite_f h c_
          refine g_lv [0, 1, 2, 3] (lv2 := [(0, .ref (G.2.2 0)), (1, .int v1), (2, .int v2), (3, .int v3)]) rfl ?_
          exact k_X9_layStands_30 C hΦ2 (fun _ _ h_ => ih h_) h
        · replace h := ite_t h c_
          refine g_iconst (pc := 26) (v := 1) C dX9_layStands_26 ic_1 ?_
          refine g_goto (pc := 27) (tgt := 31) C dX9_layStands_27 (by decide) ?_
          refine g_lv [0, 1, 2, 3] (lv2 := [(0, .ref (G.2.2 0)), (1, .int v1), (2, .int v2), (3, .int v3)]) rfl ?_
          exact k_X9_layStands_31 C hΦ2 (fun _ _ h_ => ih h_) h
set_option maxHeartbeats 4000000 in
set_option maxRecDepth 100000 in
theorem k_X9_layStands_2 {v1 : Int32} {v2 : Int32} {σ : St} {K : St → Prop} (C : Cx p R s m args meth c shM G cX9_layStands 7 3 RX9 none 0 0) (h : L_X9_layStands_2 v1 K v2 σ) : Go p l e R s m args below meth c shM G 7 0 0 (MQ below (Qw shM G (RV K)) args s 0 0 (Fr shM G)) 2 [(0, .ref (G.2.2 0)), (1, .int v1), (2, .int v2)] [] σ := by
  obtain ⟨n_, h⟩ := h
  induction n_ generalizing v2 σ with
  | zero => exact h.elim
  | succ n_ ih =>
    replace h : B_X9_layStands_2 v1 K (it2 (B_X9_layStands_2 v1 K) n_) v2 σ := h
    unfold B_X9_layStands_2 at h
    refine g_iload_n (pc := 2) C 2 dX9_layStands_2 rfl rfl ?_
    refine g_bipush (pc := 3) (v := 30) C dX9_layStands_3 bp_30 ?_
    refine g_icmp_gt (pc := 5) (tgt := 122) C dX9_layStands_5 (by decide) (fun c_ => ?_) (fun c_ => ?_)
    · replace h := ite_t h c_
      exact g_vret (pc := 122) C dX9_layStands_122 ⟨rfl, h⟩
    · replace h := ite_f h c_
      refine g_iconst (pc := 8) (v := 0) C dX9_layStands_8 ic_0 ?_
      refine g_istore_n (pc := 9) (lv2 := [(3, .int 0), (0, .ref (G.2.2 0)), (1, .int v1), (2, .int v2)]) C dX9_layStands_9 rfl (by decide) rfl ?_
      refine g_lv [1, 2, 3, 0] (lv2 := [(0, .ref (G.2.2 0)), (1, .int v1), (2, .int v2), (3, .int 0)]) rfl ?_
      exact k_X9_layStands_10 C (fun _ _ h_ => ih h_) h
set_option maxHeartbeats 4000000 in
set_option maxRecDepth 100000 in
theorem M_X9_layStands {l : Launch} {G : Gp} (hD : Dj shM G) {v1 : Int32} {σ : St} {K : St → Prop} (h : wp_X9_layStands v1 σ K) : MC l shM G yX9_layStands cX9_layStands 7 none 3 [.ref (G.2.2 0), .int v1] σ (RV K) := by
  unfold wp_X9_layStands at h
  refine MC.of (by decide) hD (Nat.le_of_ble_eq_true rfl) ?_
  intro p e s m args below meth c C
  replace C : Cx p (rmD 3) s m args meth c shM G cX9_layStands 7 3 RX9 none 0 0 := C
  show Go p l e (rmD 3) s m args below meth c shM G 7 0 0 (MQ below (Qw shM G (RV K)) args s 0 0 (Fr shM G)) 0 [(0, .ref (G.2.2 0)), (1, .int v1)] [] σ
  refine g_iconst (pc := 0) (v := 0) C dX9_layStands_0 ic_0 ?_
  refine g_istore_n (pc := 1) (lv2 := [(2, .int 0), (0, .ref (G.2.2 0)), (1, .int v1)]) C dX9_layStands_1 rfl (by decide) rfl ?_
  refine g_lv [1, 2, 0] (lv2 := [(0, .ref (G.2.2 0)), (1, .int v1), (2, .int 0)]) rfl ?_
  exact k_X9_layStands_2 C  h
set_option maxHeartbeats 4000000 in
set_option maxRecDepth 100000 in
theorem M_X9_minds {l : Launch} {G : Gp} (hD : Dj shM G) {σ : St} {K : St → Prop} (h : wp_X9_minds σ K) : MC l shM G yX9_minds cX9_minds 1 none 2 [.ref (G.2.2 0)] σ (RV K) := by
  unfold wp_X9_minds at h
  refine MC.of (by decide) hD (Nat.le_of_ble_eq_true rfl) ?_
  intro p e s m args below meth c C
  replace C : Cx p (rmD 2) s m args meth c shM G cX9_minds 1 2 RX9 none 0 0 := C
  show Go p l e (rmD 2) s m args below meth c shM G 1 0 0 (MQ below (Qw shM G (RV K)) args s 0 0 (Fr shM G)) 0 [(0, .ref (G.2.2 0))] [] σ
  refine g_aload_n (pc := 0) C 0 dX9_minds_0 rfl rfl ?_
  refine g_iconst (pc := 1) (v := 0) C dX9_minds_1 ic_0 ?_
  refine g_bipush (pc := 2) (v := 32) C dX9_minds_2 bp_32 ?_
  refine g_aload_n (pc := 4) C 0 dX9_minds_4 rfl rfl ?_
  refine get_X9_1 (pc := 5) C rfl tw_863 dX9_minds_5 ?_
  refine g_iconst (pc := 8) (v := 1) C dX9_minds_8 ic_1 ?_
  refine g_iadd (pc := 9) C dX9_minds_9 ?_
  refine g_imul (pc := 10) C dX9_minds_10 ?_
  refine g_bipush (pc := 11) (v := 32) C dX9_minds_11 bp_32 ?_
  refine g_callVv (pc := 13) (As := [.int 0, .int (32 * ((σ.1 0 1) + 1)), .int 32]) (rest := []) C rfl rfl rfl rfl (M_X9_copyAll C.2.2.1  h) CyX9_copyAll tw_1037 tw_1039 ts_33 (by decide) rfl rfl (Nat.le_of_ble_eq_true rfl) dX9_minds_13 (fun t13 h => ?_)
  refine g_aload_n (pc := 16) C 0 dX9_minds_16 rfl rfl ?_
  refine g_dup (pc := 17) C dX9_minds_17 rfl ?_
  refine get_X9_1 (pc := 18) C rfl tw_863 dX9_minds_18 ?_
  refine g_iconst (pc := 21) (v := 1) C dX9_minds_21 ic_1 ?_
  refine g_iadd (pc := 22) C dX9_minds_22 ?_
  refine put_X9_1 (pc := 23) C rfl tw_863 dX9_minds_23 ?_
  exact g_vret (pc := 26) C dX9_minds_26 ⟨rfl, h⟩
set_option maxHeartbeats 4000000 in
set_option maxRecDepth 100000 in
theorem k_X9_strokes_59 {v1 : Int32} {kw0 : Nat} {nw0 : Nat} {w1 : Int32} {w2 : Int32} {σ : St} {K : St → Prop} (C : Cx p R s m args meth c shM G cX9_strokes 4 3 RX9 none 0 0) (hkw0 : shM[kw0]? = some (10, nw0, 0)) (h : J_X9_strokes_59 v1 kw0 nw0 w1 w2 σ K) : Go p l e R s m args below meth c shM G 4 0 0 (MQ below (Qw shM G (RV K)) args s 0 0 (Fr shM G)) 59 [(0, .ref (G.2.2 0)), (1, .int v1)] [.int w2, .int w1, .ref (G.2.2 kw0)] σ := by
  unfold J_X9_strokes_59 at h
  obtain ⟨g_, h⟩ := h
  refine g_iast (pc := 59) C hkw0 g_ dX9_strokes_59 ?_
  refine g_aload_n (pc := 60) C 0 dX9_strokes_60 rfl rfl ?_
  refine get_X9_0 (pc := 61) C rfl tw_862 dX9_strokes_61 ?_
  refine g_bipush (pc := 64) (v := 26) C dX9_strokes_64 bp_26 ?_
  refine g_iload_n (pc := 66) C 1 dX9_strokes_66 rfl rfl ?_
  refine g_iadd (pc := 67) C dX9_strokes_67 ?_
  refine g_dup2 (pc := 68) C dX9_strokes_68 rfl rfl ?_
  obtain ⟨g_, h⟩ := h
  refine g_iald (pc := 69) C rfl g_ dX9_strokes_69 ?_
  refine g_iconst (pc := 70) (v := 1) C dX9_strokes_70 ic_1 ?_
  refine g_iadd (pc := 71) C dX9_strokes_71 ?_
  obtain ⟨g_, h⟩ := h
  refine g_iast (pc := 72) C rfl g_ dX9_strokes_72 ?_
  exact g_vret (pc := 73) C dX9_strokes_73 ⟨rfl, h⟩
set_option maxHeartbeats 4000000 in
set_option maxRecDepth 100000 in
theorem k_X9_strokes_40 {v1 : Int32} {v3 : Int32} {kw0 : Nat} {nw0 : Nat} {w1 : Int32} {w2 : Int32} {σ : St} {K : St → Prop} (C : Cx p R s m args meth c shM G cX9_strokes 4 3 RX9 none 0 0) (hkw0 : shM[kw0]? = some (10, nw0, 0)) (h : J_X9_strokes_40 v1 v3 kw0 nw0 w1 w2 σ K) : Go p l e R s m args below meth c shM G 4 0 0 (MQ below (Qw shM G (RV K)) args s 0 0 (Fr shM G)) 40 [(0, .ref (G.2.2 0)), (1, .int v1), (3, .int v3)] [.int w2, .int w1, .ref (G.2.2 kw0)] σ := by
  unfold J_X9_strokes_40 at h
  obtain ⟨g_, h⟩ := h
  refine g_iast (pc := 40) C hkw0 g_ dX9_strokes_40 ?_
  refine g_aload_n (pc := 41) C 0 dX9_strokes_41 rfl rfl ?_
  refine get_X9_0 (pc := 42) C rfl tw_862 dX9_strokes_42 ?_
  refine g_bipush (pc := 45) (v := 20) C dX9_strokes_45 bp_20 ?_
  refine g_iload_n (pc := 47) C 1 dX9_strokes_47 rfl rfl ?_
  refine g_iadd (pc := 48) C dX9_strokes_48 ?_
  refine g_iload_n (pc := 49) C 2 dX9_strokes_49 rfl rfl ?_
  refine g_iconst (pc := 50) (v := -1) C dX9_strokes_50 ic_m1 ?_
  refine g_icmp_ne (pc := 51) (tgt := 58) C dX9_strokes_51 (by decide) (fun c_ => ?_) (fun c_ => ?_)
  · replace h := ite_f h c_
    refine g_iconst (pc := 58) (v := 0) C dX9_strokes_58 ic_0 ?_
    refine g_lv [0, 1] (lv2 := [(0, .ref (G.2.2 0)), (1, .int v1)]) rfl ?_
    exact k_X9_strokes_59 C rfl h
  · replace h := ite_t h c_
    refine g_iconst (pc := 54) (v := 1) C dX9_strokes_54 ic_1 ?_
    refine g_goto (pc := 55) (tgt := 59) C dX9_strokes_55 (by decide) ?_
    refine g_lv [0, 1] (lv2 := [(0, .ref (G.2.2 0)), (1, .int v1)]) rfl ?_
    exact k_X9_strokes_59 C rfl h
set_option maxHeartbeats 4000000 in
set_option maxRecDepth 100000 in
theorem M_X9_strokes {l : Launch} {G : Gp} (hD : Dj shM G) {v1 : Int32} {v2 : Int32} {σ : St} {K : St → Prop} (h : wp_X9_strokes v1 v2 σ K) : MC l shM G yX9_strokes cX9_strokes 4 none 3 [.ref (G.2.2 0), .int v1, .int v2] σ (RV K) := by
  unfold wp_X9_strokes at h
  refine MC.of (by decide) hD (Nat.le_of_ble_eq_true rfl) ?_
  intro p e s m args below meth c C
  replace C : Cx p (rmD 3) s m args meth c shM G cX9_strokes 4 3 RX9 none 0 0 := C
  show Go p l e (rmD 3) s m args below meth c shM G 4 0 0 (MQ below (Qw shM G (RV K)) args s 0 0 (Fr shM G)) 0 [(0, .ref (G.2.2 0)), (1, .int v1), (2, .int v2)] [] σ
  refine g_aload_n (pc := 0) C 0 dX9_strokes_0 rfl rfl ?_
  refine get_X9_0 (pc := 1) C rfl tw_862 dX9_strokes_1 ?_
  refine g_iconst (pc := 4) (v := 2) C dX9_strokes_4 ic_2 ?_
  refine g_iload_n (pc := 5) C 1 dX9_strokes_5 rfl rfl ?_
  refine g_iadd (pc := 6) C dX9_strokes_6 ?_
  obtain ⟨g_, h⟩ := h
  refine g_iald (pc := 7) C rfl g_ dX9_strokes_7 ?_
  refine g_aload_n (pc := 8) C 0 dX9_strokes_8 rfl rfl ?_
  refine get_X9_0 (pc := 9) C rfl tw_862 dX9_strokes_9 ?_
  refine g_bipush (pc := 12) (v := 14) C dX9_strokes_12 bp_14 ?_
  refine g_iload_n (pc := 14) C 1 dX9_strokes_14 rfl rfl ?_
  refine g_iadd (pc := 15) C dX9_strokes_15 ?_
  obtain ⟨g_, h⟩ := h
  refine g_iald (pc := 16) C rfl g_ dX9_strokes_16 ?_
  refine g_iload_n (pc := 17) C 2 dX9_strokes_17 rfl rfl ?_
  refine g_callSip (pc := 18) (As := [.int (σ.1 1 (2 + v1).toNatClampNeg), .int (σ.1 1 (14 + v1).toNatClampNeg), .int v2]) (rest := []) C (M_X9_after C.2.2.1  h) CyX9_after tw_1061 tw_1062 (by decide) rfl rfl (Nat.le_of_ble_eq_true rfl) dX9_strokes_18 (fun r18 h => ?_)
  refine g_istore_n (pc := 21) (lv2 := [(3, .int r18), (0, .ref (G.2.2 0)), (1, .int v1), (2, .int v2)]) C dX9_strokes_21 rfl (by decide) rfl ?_
  refine g_aload_n (pc := 22) C 1 dX9_strokes_22 rfl rfl ?_
  refine get_X9_0 (pc := 23) C rfl tw_862 dX9_strokes_23 ?_
  refine g_bipush (pc := 26) (v := 14) C dX9_strokes_26 bp_14 ?_
  refine g_iload_n (pc := 28) C 2 dX9_strokes_28 rfl rfl ?_
  refine g_iadd (pc := 29) C dX9_strokes_29 ?_
  refine g_iload_n (pc := 30) C 0 dX9_strokes_30 rfl rfl ?_
  refine g_iconst (pc := 31) (v := -1) C dX9_strokes_31 ic_m1 ?_
  refine g_icmp_ne (pc := 32) (tgt := 39) C dX9_strokes_32 (by decide) (fun c_ => ?_) (fun c_ => ?_)
  · replace h := ite_f h c_
    refine g_iload_n (pc := 39) C 0 dX9_strokes_39 rfl rfl ?_
    refine g_lv [1, 2, 0] (lv2 := [(0, .ref (G.2.2 0)), (1, .int v1), (3, .int r18)]) rfl ?_
    exact k_X9_strokes_40 C rfl h
  · replace h := ite_t h c_
    refine g_iconst (pc := 35) (v := 0) C dX9_strokes_35 ic_0 ?_
    refine g_goto (pc := 36) (tgt := 40) C dX9_strokes_36 (by decide) ?_
    refine g_lv [1, 2, 0] (lv2 := [(0, .ref (G.2.2 0)), (1, .int v1), (3, .int r18)]) rfl ?_
    exact k_X9_strokes_40 C rfl h
set_option maxHeartbeats 4000000 in
set_option maxRecDepth 100000 in
theorem k_X9_lots_24 {σ : St} {K : Int32 → St → Prop} (C : Cx p R s m args meth c shM G cX9_lots 7 4 RX9 (some .int) 0 0) (h : J_X9_lots_24 σ K) : Go p l e R s m args below meth c shM G 7 0 0 (MQ below (Qw shM G (RI K)) args s 0 0 (Fr shM G)) 24 [] [] σ := by
  unfold J_X9_lots_24 at h
  refine g_iconst (pc := 24) (v := -1) C dX9_lots_24 ic_m1 ?_
  exact g_iret (pc := 25) C dX9_lots_25 ⟨_, rfl, h⟩
set_option maxHeartbeats 4000000 in
set_option maxRecDepth 100000 in
theorem k_X9_lots_117 {v1 : Int32} {v3 : Int64} {v5 : Int32} {v6 : Int32} {σ : St} {K : Int32 → St → Prop} {Φ58 : Int64 → Int32 → St → Prop} {Φ71 : Int64 → Int32 → St → Prop} (C : Cx p R s m args meth c shM G cX9_lots 7 4 RX9 (some .int) 0 0) (hΦ58 : ∀ (v3' : Int64) (v5' : Int32) (σ' : St), Φ58 v3' v5' σ' → Go p l e R s m args below meth c shM G 7 0 0 (MQ below (Qw shM G (RI K)) args s 0 0 (Fr shM G)) 58 [(0, .ref (G.2.2 0)), (1, .int v1), (3, .long (v3')), (5, .int (v5'))] [] σ') (hΦ71 : ∀ (v3' : Int64) (v6' : Int32) (σ' : St), Φ71 v3' v6' σ' → Go p l e R s m args below meth c shM G 7 0 0 (MQ below (Qw shM G (RI K)) args s 0 0 (Fr shM G)) 71 [(0, .ref (G.2.2 0)), (1, .int v1), (3, .long (v3')), (5, .int v5), (6, .int (v6'))] [] σ') (h : J_X9_lots_117 v1 v3 v5 v6 σ K Φ58 Φ71) : Go p l e R s m args below meth c shM G 7 0 0 (MQ below (Qw shM G (RI K)) args s 0 0 (Fr shM G)) 117 [(0, .ref (G.2.2 0)), (1, .int v1), (3, .long v3), (5, .int v5), (6, .int v6)] [] σ := by
  unfold J_X9_lots_117 at h
  refine g_iinc (pc := 117) (lv2 := [(6, .int (v6 + 1)), (0, .ref (G.2.2 0)), (1, .int v1), (3, .long v3), (5, .int v5)]) C 4 dX9_lots_117 ic_1 rfl (by decide) rfl ?_
  refine g_goto (pc := 120) (tgt := 71) C dX9_lots_120 (by decide) ?_
  refine g_lv [1, 2, 3, 4, 0] (lv2 := [(0, .ref (G.2.2 0)), (1, .int v1), (3, .long v3), (5, .int v5), (6, .int (v6 + 1))]) rfl ?_
  exact hΦ71 _ _ _ h
set_option maxHeartbeats 4000000 in
set_option maxRecDepth 100000 in
theorem k_X9_lots_71 {v1 : Int32} {v3 : Int64} {v5 : Int32} {v6 : Int32} {σ : St} {K : Int32 → St → Prop} {Φ58 : Int64 → Int32 → St → Prop} (C : Cx p R s m args meth c shM G cX9_lots 7 4 RX9 (some .int) 0 0) (hΦ58 : ∀ (v3' : Int64) (v5' : Int32) (σ' : St), Φ58 v3' v5' σ' → Go p l e R s m args below meth c shM G 7 0 0 (MQ below (Qw shM G (RI K)) args s 0 0 (Fr shM G)) 58 [(0, .ref (G.2.2 0)), (1, .int v1), (3, .long (v3')), (5, .int (v5'))] [] σ') (h : L_X9_lots_71 v1 v5 K Φ58 v3 v6 σ) : Go p l e R s m args below meth c shM G 7 0 0 (MQ below (Qw shM G (RI K)) args s 0 0 (Fr shM G)) 71 [(0, .ref (G.2.2 0)), (1, .int v1), (3, .long v3), (5, .int v5), (6, .int v6)] [] σ := by
  obtain ⟨n_, h⟩ := h
  induction n_ generalizing v3 v6 σ with
  | zero => exact h.elim
  | succ n_ ih =>
    replace h : B_X9_lots_71 v1 v5 K Φ58 (it3 (B_X9_lots_71 v1 v5 K Φ58) n_) v3 v6 σ := h
    unfold B_X9_lots_71 at h
    refine g_iload (pc := 71) C 4 dX9_lots_71 rfl ?_
    refine g_aload_n (pc := 73) C 0 dX9_lots_73 rfl rfl ?_
    refine get_X9_0 (pc := 74) C rfl tw_862 dX9_lots_74 ?_
    refine g_iconst (pc := 77) (v := 0) C dX9_lots_77 ic_0 ?_
    obtain ⟨g_, h⟩ := h
    refine g_iald (pc := 78) C rfl g_ dX9_lots_78 ?_
    refine g_icmp_ge (pc := 79) (tgt := 123) C dX9_lots_79 (by decide) (fun c_ => ?_) (fun c_ => ?_)
    · replace h := ite_t h c_
      refine g_iinc (pc := 123) (lv2 := [(5, .int (v5 + 1)), (0, .ref (G.2.2 0)), (1, .int v1), (3, .long v3), (6, .int v6)]) C 3 dX9_lots_123 ic_1 rfl (by decide) rfl ?_
      refine g_goto (pc := 126) (tgt := 58) C dX9_lots_126 (by decide) ?_
      refine g_lv [1, 2, 3, 0] (lv2 := [(0, .ref (G.2.2 0)), (1, .int v1), (3, .long v3), (5, .int (v5 + 1))]) rfl ?_
      exact hΦ58 _ _ _ h
    · replace h := ite_f h c_
      refine g_aload_n (pc := 82) C 0 dX9_lots_82 rfl rfl ?_
      refine g_iload (pc := 83) C 4 dX9_lots_83 rfl ?_
      refine g_callVip (pc := 85) (As := [.int v6]) (rest := []) C rfl rfl rfl rfl (M_X9_isOver C.2.2.1  h) CyX9_isOver tw_1089 tw_1091 ts_38 (by decide) rfl rfl (Nat.le_of_ble_eq_true rfl) dX9_lots_85 (fun r85 h => ?_)
      refine g_if_ne (pc := 88) (tgt := 117) C dX9_lots_88 (by decide) (fun c_ => ?_) (fun c_ => ?_)
      · replace h := ite_f h c_
        refine g_lv [0, 1, 2, 3, 4] (lv2 := [(0, .ref (G.2.2 0)), (1, .int v1), (3, .long v3), (5, .int v5), (6, .int v6)]) rfl ?_
        exact k_X9_lots_117 C hΦ58 (fun _ _ _ h_ => ih h_) h
      · replace h := ite_t h c_
        refine g_lload_n (pc := 91) C 2 dX9_lots_91 rfl rfl ?_
        refine g_ldc2 (pc := 92) (v := 48271) C dX9_lots_92 tw_1299 ?_
        refine g_lmul (pc := 95) C dX9_lots_95 ?_
        refine g_ldc2 (pc := 96) (v := 2147483647) C dX9_lots_96 tw_1300 ?_
        refine g_lrem (pc := 99) C dX9_lots_99 (by decide) ?_
        refine g_lstore_n (pc := 100) (lv2 := [(3, .long (lrm (v3 * (48271 : Int64)) (2147483647 : Int64))), (0, .ref (G.2.2 0)), (1, .int v1), (5, .int v5), (6, .int v6)]) C dX9_lots_100 rfl (by decide) rfl ?_
        refine g_aload_n (pc := 101) C 1 dX9_lots_101 rfl rfl ?_
        refine g_iload (pc := 102) C 4 dX9_lots_102 rfl ?_
        refine g_lload_n (pc := 104) C 0 dX9_lots_104 rfl rfl ?_
        refine g_ldc2 (pc := 105) (v := 16) C dX9_lots_105 tw_1301 ?_
        refine g_ldiv (pc := 108) C dX9_lots_108 (by decide) ?_
        refine g_ldc2 (pc := 109) (v := 4) C dX9_lots_109 tw_1302 ?_
        refine g_lrem (pc := 112) C dX9_lots_112 (by decide) ?_
        refine g_l2i (pc := 113) C dX9_lots_113 ?_
        refine g_callVv (pc := 114) (As := [.int v6, .int ((lrm ((lrm (v3 * (48271 : Int64)) (2147483647 : Int64)) / (16 : Int64)) (4 : Int64)).toInt32)]) (rest := []) C rfl rfl rfl rfl (M_X9_strokes C.2.2.1  h) CyX9_strokes tw_1097 tw_1099 ts_40 (by decide) rfl rfl (Nat.le_of_ble_eq_true rfl) dX9_lots_114 (fun t114 h => ?_)
        refine g_lv [1, 2, 0, 3, 4] (lv2 := [(0, .ref (G.2.2 0)), (1, .int v1), (3, .long (lrm (v3 * (48271 : Int64)) (2147483647 : Int64))), (5, .int v5), (6, .int v6)]) rfl ?_
        exact k_X9_lots_117 C hΦ58 (fun _ _ _ h_ => ih h_) h
set_option maxHeartbeats 4000000 in
set_option maxRecDepth 100000 in
theorem k_X9_lots_58 {v1 : Int32} {v3 : Int64} {v5 : Int32} {σ : St} {K : Int32 → St → Prop} (C : Cx p R s m args meth c shM G cX9_lots 7 4 RX9 (some .int) 0 0) (h : L_X9_lots_58 v1 K v3 v5 σ) : Go p l e R s m args below meth c shM G 7 0 0 (MQ below (Qw shM G (RI K)) args s 0 0 (Fr shM G)) 58 [(0, .ref (G.2.2 0)), (1, .int v1), (3, .long v3), (5, .int v5)] [] σ := by
  obtain ⟨n_, h⟩ := h
  induction n_ generalizing v3 v5 σ with
  | zero => exact h.elim
  | succ n_ ih =>
    replace h : B_X9_lots_58 v1 K (it3 (B_X9_lots_58 v1 K) n_) v3 v5 σ := h
    unfold B_X9_lots_58 at h
    refine g_iload (pc := 58) C 3 dX9_lots_58 rfl ?_
    refine g_iload_n (pc := 60) C 1 dX9_lots_60 rfl rfl ?_
    refine g_icmp_ge (pc := 61) (tgt := 129) C dX9_lots_61 (by decide) (fun c_ => ?_) (fun c_ => ?_)
    · replace h := ite_t h c_
      refine g_aload_n (pc := 129) C 0 dX9_lots_129 rfl rfl ?_
      refine g_callVip (pc := 130) (As := []) (rest := []) C rfl rfl rfl rfl (M_X9_sounds C.2.2.1  h) CyX9_sounds tw_1206 tw_1208 ts_50 (by decide) rfl rfl (Nat.le_of_ble_eq_true rfl) dX9_lots_130 (fun r130 h => ?_)
      exact g_iret (pc := 133) C dX9_lots_133 ⟨_, rfl, h⟩
    · replace h := ite_f h c_
      refine g_aload_n (pc := 64) C 0 dX9_lots_64 rfl rfl ?_
      refine g_callVv (pc := 65) (As := []) (rest := []) C rfl rfl rfl rfl (M_X9_minds C.2.2.1  h) CyX9_minds tw_1093 tw_1095 ts_39 (by decide) rfl rfl (Nat.le_of_ble_eq_true rfl) dX9_lots_65 (fun t65 h => ?_)
      refine g_iconst (pc := 68) (v := 0) C dX9_lots_68 ic_0 ?_
      refine g_istore (pc := 69) (lv2 := [(6, .int 0), (0, .ref (G.2.2 0)), (1, .int v1), (3, .long v3), (5, .int v5)]) C dX9_lots_69 (by decide) rfl ?_
      refine g_lv [1, 2, 3, 4, 0] (lv2 := [(0, .ref (G.2.2 0)), (1, .int v1), (3, .long v3), (5, .int v5), (6, .int 0)]) rfl ?_
      exact k_X9_lots_71 C (fun _ _ _ h_ => ih h_) h
set_option maxHeartbeats 4000000 in
set_option maxRecDepth 100000 in
theorem M_X9_lots {l : Launch} {G : Gp} (hD : Dj shM G) {v1 : Int32} {v2 : Int32} {σ : St} {K : Int32 → St → Prop} (h : wp_X9_lots v1 v2 σ K) : MC l shM G yX9_lots cX9_lots 7 (some .int) 4 [.ref (G.2.2 0), .int v1, .int v2] σ (RI K) := by
  unfold wp_X9_lots at h
  refine MC.of (by decide) hD (Nat.le_of_ble_eq_true rfl) ?_
  intro p e s m args below meth c C
  replace C : Cx p (rmD 4) s m args meth c shM G cX9_lots 7 4 RX9 (some .int) 0 0 := C
  show Go p l e (rmD 4) s m args below meth c shM G 7 0 0 (MQ below (Qw shM G (RI K)) args s 0 0 (Fr shM G)) 0 [(0, .ref (G.2.2 0)), (1, .int v1), (2, .int v2)] [] σ
  refine g_iload_n (pc := 0) C 1 dX9_lots_0 rfl rfl ?_
  refine g_i2l (pc := 1) C dX9_lots_1 ?_
  refine g_lconst (pc := 2) (v := 1) C dX9_lots_2 lc_1 ?_
  refine g_ldc2 (pc := 3) (v := 20) C dX9_lots_3 tw_1163 ?_
  refine g_callSip (pc := 6) (As := [.long v1.toInt64, .long (1 : Int64), .long (20 : Int64)]) (rest := []) C (M_X9_in C.2.2.1  h) CyX9_in tw_955 tw_956 (by decide) rfl rfl (Nat.le_of_ble_eq_true rfl) dX9_lots_6 (fun r6 h => ?_)
  refine g_if_eq (pc := 9) (tgt := 24) C dX9_lots_9 (by decide) (fun c_ => ?_) (fun c_ => ?_)
  · replace h := ite_t h c_
    refine g_lv [] (lv2 := []) rfl ?_
    exact k_X9_lots_24 C  h
  · replace h := ite_f h c_
    refine g_iload_n (pc := 12) C 2 dX9_lots_12 rfl rfl ?_
    refine g_i2l (pc := 13) C dX9_lots_13 ?_
    refine g_lconst (pc := 14) (v := 1) C dX9_lots_14 lc_1 ?_
    refine g_ldc2 (pc := 15) (v := 2147483646) C dX9_lots_15 tw_1298 ?_
    refine g_callSip (pc := 18) (As := [.long v2.toInt64, .long (1 : Int64), .long (2147483646 : Int64)]) (rest := []) C (M_X9_in C.2.2.1  h) CyX9_in tw_955 tw_956 (by decide) rfl rfl (Nat.le_of_ble_eq_true rfl) dX9_lots_18 (fun r18 h => ?_)
    refine g_if_ne (pc := 21) (tgt := 26) C dX9_lots_21 (by decide) (fun c_ => ?_) (fun c_ => ?_)
    · replace h := ite_f h c_
      refine g_aload_n (pc := 26) C 0 dX9_lots_26 rfl rfl ?_
      refine get_X9_0 (pc := 27) C rfl tw_862 dX9_lots_27 ?_
      refine g_iconst (pc := 30) (v := 0) C dX9_lots_30 ic_0 ?_
      obtain ⟨g_, h⟩ := h
      refine g_iald (pc := 31) C rfl g_ dX9_lots_31 ?_
      refine g_if_ne (pc := 32) (tgt := 38) C dX9_lots_32 (by decide) (fun c_ => ?_) (fun c_ => ?_)
      · replace h := ite_f h c_
        refine g_aload_n (pc := 38) C 0 dX9_lots_38 rfl rfl ?_
        refine get_X9_1 (pc := 39) C rfl tw_863 dX9_lots_39 ?_
        refine g_iload_n (pc := 42) C 1 dX9_lots_42 rfl rfl ?_
        refine g_iadd (pc := 43) C dX9_lots_43 ?_
        refine g_bipush (pc := 44) (v := 40) C dX9_lots_44 bp_40 ?_
        refine g_icmp_le (pc := 46) (tgt := 52) C dX9_lots_46 (by decide) (fun c_ => ?_) (fun c_ => ?_)
        · replace h := ite_t h c_
          refine g_iload_n (pc := 52) C 2 dX9_lots_52 rfl rfl ?_
          refine g_i2l (pc := 53) C dX9_lots_53 ?_
          refine g_lstore_n (pc := 54) (lv2 := [(3, .long v2.toInt64), (0, .ref (G.2.2 0)), (1, .int v1), (2, .int v2)]) C dX9_lots_54 rfl (by decide) rfl ?_
          refine g_iconst (pc := 55) (v := 0) C dX9_lots_55 ic_0 ?_
          refine g_istore (pc := 56) (lv2 := [(5, .int 0), (3, .long v2.toInt64), (0, .ref (G.2.2 0)), (1, .int v1), (2, .int v2)]) C dX9_lots_56 (by decide) rfl ?_
          refine g_lv [2, 3, 1, 0] (lv2 := [(0, .ref (G.2.2 0)), (1, .int v1), (3, .long v2.toInt64), (5, .int 0)]) rfl ?_
          exact k_X9_lots_58 C  h
        · replace h := ite_f h c_
          refine g_bipush (pc := 49) (v := -2) C dX9_lots_49 bp_m2 ?_
          exact g_iret (pc := 51) C dX9_lots_51 ⟨_, rfl, h⟩
      · replace h := ite_t h c_
        refine g_bipush (pc := 35) (v := -4) C dX9_lots_35 bp_m4 ?_
        exact g_iret (pc := 37) C dX9_lots_37 ⟨_, rfl, h⟩
    · replace h := ite_t h c_
      refine g_lv [] (lv2 := []) rfl ?_
      exact k_X9_lots_24 C  h
set_option maxHeartbeats 4000000 in
set_option maxRecDepth 100000 in
theorem M_X9_lower {l : Launch} {G : Gp} (hD : Dj shM G) {σ : St} {K : Int64 → Prop} (h : wp_X9_lower σ K) : MC l shM G yX9_lower cX9_lower 1 (some .long) 1 [.ref (G.2.2 0)] σ (RJ (fun r t => t = σ ∧ K r)) := by
  unfold wp_X9_lower at h
  refine MC.of (by decide) hD (Nat.le_of_ble_eq_true rfl) ?_
  intro p e s m args below meth c C
  replace C : Cx p (rmD 1) s m args meth c shM G cX9_lower 1 1 RX9 (some .long) 0 0 := C
  show Go p l e (rmD 1) s m args below meth c shM G 1 0 0 (MQ below (Qw shM G (RJ (fun r t => t = σ ∧ K r))) args s 0 0 (Fr shM G)) 0 [(0, .ref (G.2.2 0))] [] σ
  refine g_aload_n (pc := 0) C 0 dX9_lower_0 rfl rfl ?_
  refine get_X9_12 (pc := 1) C rfl tw_874 dX9_lower_1 ?_
  exact g_lret (pc := 4) C dX9_lower_4 ⟨_, rfl, ⟨rfl, h⟩⟩
set_option maxHeartbeats 4000000 in
set_option maxRecDepth 100000 in
theorem k_X9_markOf_79 {v1 : Int32} {v3 : Int32} {v5 : Int32} {w0 : Int32} {σ : St} {K : Int32 → Prop} {Φ47 : Int32 → Int32 → Prop} (C : Cx p R s m args meth c shM G cX9_markOf 8 4 RX9 (some .int) 0 0) (hΦ47 : ∀ (v4' : Int32) (v5' : Int32), Φ47 v4' v5' → Go p l e R s m args below meth c shM G 8 0 0 (MQ below (Qw shM G (RI (fun r t => t = σ ∧ K r))) args s 0 0 (Fr shM G)) 47 [(0, .ref (G.2.2 0)), (1, .int v1), (3, .int v3), (4, .int (v4')), (5, .int (v5'))] [] σ) (h : J_X9_markOf_79 v1 v3 v5 w0 σ K Φ47) : Go p l e R s m args below meth c shM G 8 0 0 (MQ below (Qw shM G (RI (fun r t => t = σ ∧ K r))) args s 0 0 (Fr shM G)) 79 [(0, .ref (G.2.2 0)), (1, .int v1), (3, .int v3), (5, .int v5)] [.int w0] σ := by
  unfold J_X9_markOf_79 at h
  refine g_istore (pc := 79) (lv2 := [(4, .int w0), (0, .ref (G.2.2 0)), (1, .int v1), (3, .int v3), (5, .int v5)]) C dX9_markOf_79 (by decide) rfl ?_
  refine g_iinc (pc := 81) (lv2 := [(5, .int (v5 + 1)), (4, .int w0), (0, .ref (G.2.2 0)), (1, .int v1), (3, .int v3)]) C 4 dX9_markOf_81 ic_1 rfl (by decide) rfl ?_
  refine g_goto (pc := 84) (tgt := 47) C dX9_markOf_84 (by decide) ?_
  refine g_lv [2, 3, 4, 1, 0] (lv2 := [(0, .ref (G.2.2 0)), (1, .int v1), (3, .int v3), (4, .int w0), (5, .int (v5 + 1))]) rfl ?_
  exact hΦ47 _ _ h
set_option maxHeartbeats 4000000 in
set_option maxRecDepth 100000 in
theorem k_X9_markOf_47 {v1 : Int32} {v3 : Int32} {v4 : Int32} {v5 : Int32} {σ : St} {K : Int32 → Prop} (C : Cx p R s m args meth c shM G cX9_markOf 8 4 RX9 (some .int) 0 0) (h : L_X9_markOf_47 v1 v3 σ K v4 v5) : Go p l e R s m args below meth c shM G 8 0 0 (MQ below (Qw shM G (RI (fun r t => t = σ ∧ K r))) args s 0 0 (Fr shM G)) 47 [(0, .ref (G.2.2 0)), (1, .int v1), (3, .int v3), (4, .int v4), (5, .int v5)] [] σ := by
  obtain ⟨n_, h⟩ := h
  induction n_ generalizing v4 v5 with
  | zero => exact h.elim
  | succ n_ ih =>
    replace h : B_X9_markOf_47 v1 v3 σ K (it2 (B_X9_markOf_47 v1 v3 σ K) n_) v4 v5 := h
    unfold B_X9_markOf_47 at h
    refine g_iload (pc := 47) C 4 dX9_markOf_47 rfl ?_
    refine g_bipush (pc := 49) (v := 7) C dX9_markOf_49 bp_7 ?_
    refine g_icmp_ge (pc := 51) (tgt := 87) C dX9_markOf_51 (by decide) (fun c_ => ?_) (fun c_ => ?_)
    · replace h := ite_t h c_
      refine g_iload (pc := 87) C 3 dX9_markOf_87 rfl ?_
      exact g_iret (pc := 89) C dX9_markOf_89 ⟨_, rfl, ⟨rfl, h⟩⟩
    · replace h := ite_f h c_
      refine g_aload_n (pc := 54) C 0 dX9_markOf_54 rfl rfl ?_
      refine get_X9_0 (pc := 55) C rfl tw_862 dX9_markOf_55 ?_
      refine g_iconst (pc := 58) (v := 2) C dX9_markOf_58 ic_2 ?_
      refine g_iload_n (pc := 59) C 1 dX9_markOf_59 rfl rfl ?_
      refine g_iadd (pc := 60) C dX9_markOf_60 ?_
      obtain ⟨g_, h⟩ := h
      refine g_iald (pc := 61) C rfl g_ dX9_markOf_61 ?_
      refine g_iload_n (pc := 62) C 2 dX9_markOf_62 rfl rfl ?_
      refine g_iload (pc := 63) C 4 dX9_markOf_63 rfl ?_
      refine g_callSip (pc := 65) (As := [.int (σ.1 1 (2 + v1).toNatClampNeg), .int v3, .int v5]) (rest := []) C (M_X9_after C.2.2.1  h) CyX9_after tw_1061 tw_1062 (by decide) rfl rfl (Nat.le_of_ble_eq_true rfl) dX9_markOf_65 (fun r65 h => ?_)
      refine g_iconst (pc := 68) (v := -1) C dX9_markOf_68 ic_m1 ?_
      refine g_icmp_ne (pc := 69) (tgt := 77) C dX9_markOf_69 (by decide) (fun c_ => ?_) (fun c_ => ?_)
      · replace h := ite_f h c_
        refine g_iload (pc := 77) C 4 dX9_markOf_77 rfl ?_
        refine g_lv [0, 1, 2, 4] (lv2 := [(0, .ref (G.2.2 0)), (1, .int v1), (3, .int v3), (5, .int v5)]) rfl ?_
        exact k_X9_markOf_79 C (fun _ _ h_ => ih h_) h
      · replace h := ite_t h c_
        refine g_iload (pc := 72) C 3 dX9_markOf_72 rfl ?_
        refine g_goto (pc := 74) (tgt := 79) C dX9_markOf_74 (by decide) ?_
        refine g_lv [0, 1, 2, 4] (lv2 := [(0, .ref (G.2.2 0)), (1, .int v1), (3, .int v3), (5, .int v5)]) rfl ?_
        exact k_X9_markOf_79 C (fun _ _ h_ => ih h_) h
set_option maxHeartbeats 4000000 in
set_option maxRecDepth 100000 in
theorem k_X9_markOf_152 {v1 : Int32} {v5 : Int32} {w0 : Int32} {w1 : Int32} {σ : St} {K : Int32 → Prop} {Φ106 : Int32 → Int32 → Prop} (C : Cx p R s m args meth c shM G cX9_markOf 8 4 RX9 (some .int) 0 0) (hΦ106 : ∀ (v4' : Int32) (v5' : Int32), Φ106 v4' v5' → Go p l e R s m args below meth c shM G 8 0 0 (MQ below (Qw shM G (RI (fun r t => t = σ ∧ K r))) args s 0 0 (Fr shM G)) 106 [(0, .ref (G.2.2 0)), (1, .int v1), (4, .int (v4')), (5, .int (v5'))] [] σ) (h : J_X9_markOf_152 v1 v5 w0 w1 σ K Φ106) : Go p l e R s m args below meth c shM G 8 0 0 (MQ below (Qw shM G (RI (fun r t => t = σ ∧ K r))) args s 0 0 (Fr shM G)) 152 [(0, .ref (G.2.2 0)), (1, .int v1), (5, .int v5)] [.int w1, .int w0] σ := by
  unfold J_X9_markOf_152 at h
  refine g_iadd (pc := 152) C dX9_markOf_152 ?_
  refine g_istore (pc := 153) (lv2 := [(4, .int (w0 + w1)), (0, .ref (G.2.2 0)), (1, .int v1), (5, .int v5)]) C dX9_markOf_153 (by decide) rfl ?_
  refine g_iinc (pc := 155) (lv2 := [(5, .int (v5 + 1)), (4, .int (w0 + w1)), (0, .ref (G.2.2 0)), (1, .int v1)]) C 3 dX9_markOf_155 ic_1 rfl (by decide) rfl ?_
  refine g_goto (pc := 158) (tgt := 106) C dX9_markOf_158 (by decide) ?_
  refine g_lv [2, 3, 1, 0] (lv2 := [(0, .ref (G.2.2 0)), (1, .int v1), (4, .int (w0 + w1)), (5, .int (v5 + 1))]) rfl ?_
  exact hΦ106 _ _ h
set_option maxHeartbeats 4000000 in
set_option maxRecDepth 100000 in
theorem k_X9_markOf_151 {v1 : Int32} {v5 : Int32} {w0 : Int32} {σ : St} {K : Int32 → Prop} {Φ106 : Int32 → Int32 → Prop} (C : Cx p R s m args meth c shM G cX9_markOf 8 4 RX9 (some .int) 0 0) (hΦ106 : ∀ (v4' : Int32) (v5' : Int32), Φ106 v4' v5' → Go p l e R s m args below meth c shM G 8 0 0 (MQ below (Qw shM G (RI (fun r t => t = σ ∧ K r))) args s 0 0 (Fr shM G)) 106 [(0, .ref (G.2.2 0)), (1, .int v1), (4, .int (v4')), (5, .int (v5'))] [] σ) (h : J_X9_markOf_151 v1 v5 w0 σ K Φ106) : Go p l e R s m args below meth c shM G 8 0 0 (MQ below (Qw shM G (RI (fun r t => t = σ ∧ K r))) args s 0 0 (Fr shM G)) 151 [(0, .ref (G.2.2 0)), (1, .int v1), (5, .int v5)] [.int w0] σ := by
  unfold J_X9_markOf_151 at h
  refine g_iconst (pc := 151) (v := 0) C dX9_markOf_151 ic_0 ?_
  refine g_lv [0, 1, 2] (lv2 := [(0, .ref (G.2.2 0)), (1, .int v1), (5, .int v5)]) rfl ?_
  exact k_X9_markOf_152 C hΦ106 h
set_option maxHeartbeats 4000000 in
set_option maxRecDepth 100000 in
theorem k_X9_markOf_106 {v1 : Int32} {v4 : Int32} {v5 : Int32} {σ : St} {K : Int32 → Prop} (C : Cx p R s m args meth c shM G cX9_markOf 8 4 RX9 (some .int) 0 0) (h : L_X9_markOf_106 v1 σ K v4 v5) : Go p l e R s m args below meth c shM G 8 0 0 (MQ below (Qw shM G (RI (fun r t => t = σ ∧ K r))) args s 0 0 (Fr shM G)) 106 [(0, .ref (G.2.2 0)), (1, .int v1), (4, .int v4), (5, .int v5)] [] σ := by
  obtain ⟨n_, h⟩ := h
  induction n_ generalizing v4 v5 with
  | zero => exact h.elim
  | succ n_ ih =>
    replace h : B_X9_markOf_106 v1 σ K (it2 (B_X9_markOf_106 v1 σ K) n_) v4 v5 := h
    unfold B_X9_markOf_106 at h
    refine g_iload (pc := 106) C 3 dX9_markOf_106 rfl ?_
    refine g_aload_n (pc := 108) C 0 dX9_markOf_108 rfl rfl ?_
    refine get_X9_0 (pc := 109) C rfl tw_862 dX9_markOf_109 ?_
    refine g_iconst (pc := 112) (v := 0) C dX9_markOf_112 ic_0 ?_
    obtain ⟨g_, h⟩ := h
    refine g_iald (pc := 113) C rfl g_ dX9_markOf_113 ?_
    refine g_icmp_ge (pc := 114) (tgt := 161) C dX9_markOf_114 (by decide) (fun c_ => ?_) (fun c_ => ?_)
    · replace h := ite_t h c_
      refine g_iload (pc := 161) C 2 dX9_markOf_161 rfl ?_
      exact g_iret (pc := 163) C dX9_markOf_163 ⟨_, rfl, ⟨rfl, h⟩⟩
    · replace h := ite_f h c_
      refine g_iload (pc := 117) C 2 dX9_markOf_117 rfl ?_
      refine g_iload (pc := 119) C 3 dX9_markOf_119 rfl ?_
      refine g_iload_n (pc := 121) C 1 dX9_markOf_121 rfl rfl ?_
      refine g_icmp_eq (pc := 122) (tgt := 151) C dX9_markOf_122 (by decide) (fun c_ => ?_) (fun c_ => ?_)
      · replace h := ite_t h c_
        refine g_lv [0, 1, 3] (lv2 := [(0, .ref (G.2.2 0)), (1, .int v1), (5, .int v5)]) rfl ?_
        exact k_X9_markOf_151 C (fun _ _ h_ => ih h_) h
      · replace h := ite_f h c_
        refine g_aload_n (pc := 125) C 0 dX9_markOf_125 rfl rfl ?_
        refine get_X9_0 (pc := 126) C rfl tw_862 dX9_markOf_126 ?_
        refine g_bipush (pc := 129) (v := 8) C dX9_markOf_129 bp_8 ?_
        refine g_iload (pc := 131) C 3 dX9_markOf_131 rfl ?_
        refine g_iadd (pc := 133) C dX9_markOf_133 ?_
        obtain ⟨g_, h⟩ := h
        refine g_iald (pc := 134) C rfl g_ dX9_markOf_134 ?_
        refine g_aload_n (pc := 135) C 0 dX9_markOf_135 rfl rfl ?_
        refine get_X9_0 (pc := 136) C rfl tw_862 dX9_markOf_136 ?_
        refine g_bipush (pc := 139) (v := 8) C dX9_markOf_139 bp_8 ?_
        refine g_iload_n (pc := 141) C 1 dX9_markOf_141 rfl rfl ?_
        refine g_iadd (pc := 142) C dX9_markOf_142 ?_
        obtain ⟨g_, h⟩ := h
        refine g_iald (pc := 143) C rfl g_ dX9_markOf_143 ?_
        refine g_icmp_lt (pc := 144) (tgt := 151) C dX9_markOf_144 (by decide) (fun c_ => ?_) (fun c_ => ?_)
        · replace h := ite_t h c_
          refine g_lv [0, 1, 3] (lv2 := [(0, .ref (G.2.2 0)), (1, .int v1), (5, .int v5)]) rfl ?_
          exact k_X9_markOf_151 C (fun _ _ h_ => ih h_) h
        · replace h := ite_f h c_
          refine g_iconst (pc := 147) (v := 1) C dX9_markOf_147 ic_1 ?_
          refine g_goto (pc := 148) (tgt := 152) C dX9_markOf_148 (by decide) ?_
          refine g_lv [0, 1, 3] (lv2 := [(0, .ref (G.2.2 0)), (1, .int v1), (5, .int v5)]) rfl ?_
          exact k_X9_markOf_152 C (fun _ _ h_ => ih h_) h
set_option maxHeartbeats 4000000 in
set_option maxRecDepth 100000 in
theorem k_X9_markOf_256 {w0 : Int32} {σ : St} {K : Int32 → Prop} (C : Cx p R s m args meth c shM G cX9_markOf 8 4 RX9 (some .int) 0 0) (h : J_X9_markOf_256 w0 σ K) : Go p l e R s m args below meth c shM G 8 0 0 (MQ below (Qw shM G (RI (fun r t => t = σ ∧ K r))) args s 0 0 (Fr shM G)) 256 [] [.int w0] σ := by
  unfold J_X9_markOf_256 at h
  exact g_iret (pc := 256) C dX9_markOf_256 ⟨_, rfl, ⟨rfl, h⟩⟩
set_option maxHeartbeats 4000000 in
set_option maxRecDepth 100000 in
theorem k_X9_markOf_233 {v1 : Int32} {v5 : Int32} {v6 : Int32} {w0 : Int32} {w1 : Int32} {σ : St} {K : Int32 → Prop} {Φ176 : Int32 → Int32 → Prop} (C : Cx p R s m args meth c shM G cX9_markOf 8 4 RX9 (some .int) 0 0) (hΦ176 : ∀ (v4' : Int32) (v6' : Int32), Φ176 v4' v6' → Go p l e R s m args below meth c shM G 8 0 0 (MQ below (Qw shM G (RI (fun r t => t = σ ∧ K r))) args s 0 0 (Fr shM G)) 176 [(0, .ref (G.2.2 0)), (1, .int v1), (4, .int (v4')), (5, .int v5), (6, .int (v6'))] [] σ) (h : J_X9_markOf_233 v1 v5 v6 w0 w1 σ K Φ176) : Go p l e R s m args below meth c shM G 8 0 0 (MQ below (Qw shM G (RI (fun r t => t = σ ∧ K r))) args s 0 0 (Fr shM G)) 233 [(0, .ref (G.2.2 0)), (1, .int v1), (5, .int v5), (6, .int v6)] [.int w1, .int w0] σ := by
  unfold J_X9_markOf_233 at h
  refine g_iadd (pc := 233) C dX9_markOf_233 ?_
  refine g_istore (pc := 234) (lv2 := [(4, .int (w0 + w1)), (0, .ref (G.2.2 0)), (1, .int v1), (5, .int v5), (6, .int v6)]) C dX9_markOf_234 (by decide) rfl ?_
  refine g_iinc (pc := 236) (lv2 := [(6, .int (v6 + 1)), (4, .int (w0 + w1)), (0, .ref (G.2.2 0)), (1, .int v1), (5, .int v5)]) C 4 dX9_markOf_236 ic_1 rfl (by decide) rfl ?_
  refine g_goto (pc := 239) (tgt := 176) C dX9_markOf_239 (by decide) ?_
  refine g_lv [2, 3, 1, 4, 0] (lv2 := [(0, .ref (G.2.2 0)), (1, .int v1), (4, .int (w0 + w1)), (5, .int v5), (6, .int (v6 + 1))]) rfl ?_
  exact hΦ176 _ _ h
set_option maxHeartbeats 4000000 in
set_option maxRecDepth 100000 in
theorem k_X9_markOf_232 {v1 : Int32} {v5 : Int32} {v6 : Int32} {w0 : Int32} {σ : St} {K : Int32 → Prop} {Φ176 : Int32 → Int32 → Prop} (C : Cx p R s m args meth c shM G cX9_markOf 8 4 RX9 (some .int) 0 0) (hΦ176 : ∀ (v4' : Int32) (v6' : Int32), Φ176 v4' v6' → Go p l e R s m args below meth c shM G 8 0 0 (MQ below (Qw shM G (RI (fun r t => t = σ ∧ K r))) args s 0 0 (Fr shM G)) 176 [(0, .ref (G.2.2 0)), (1, .int v1), (4, .int (v4')), (5, .int v5), (6, .int (v6'))] [] σ) (h : J_X9_markOf_232 v1 v5 v6 w0 σ K Φ176) : Go p l e R s m args below meth c shM G 8 0 0 (MQ below (Qw shM G (RI (fun r t => t = σ ∧ K r))) args s 0 0 (Fr shM G)) 232 [(0, .ref (G.2.2 0)), (1, .int v1), (5, .int v5), (6, .int v6)] [.int w0] σ := by
  unfold J_X9_markOf_232 at h
  refine g_iconst (pc := 232) (v := 0) C dX9_markOf_232 ic_0 ?_
  refine g_lv [0, 1, 2, 3] (lv2 := [(0, .ref (G.2.2 0)), (1, .int v1), (5, .int v5), (6, .int v6)]) rfl ?_
  exact k_X9_markOf_233 C hΦ176 h
set_option maxHeartbeats 4000000 in
set_option maxRecDepth 100000 in
theorem k_X9_markOf_176 {v1 : Int32} {v4 : Int32} {v5 : Int32} {v6 : Int32} {σ : St} {K : Int32 → Prop} (C : Cx p R s m args meth c shM G cX9_markOf 8 4 RX9 (some .int) 0 0) (h : L_X9_markOf_176 v1 v5 σ K v4 v6) : Go p l e R s m args below meth c shM G 8 0 0 (MQ below (Qw shM G (RI (fun r t => t = σ ∧ K r))) args s 0 0 (Fr shM G)) 176 [(0, .ref (G.2.2 0)), (1, .int v1), (4, .int v4), (5, .int v5), (6, .int v6)] [] σ := by
  obtain ⟨n_, h⟩ := h
  induction n_ generalizing v4 v6 with
  | zero => exact h.elim
  | succ n_ ih =>
    replace h : B_X9_markOf_176 v1 v5 σ K (it2 (B_X9_markOf_176 v1 v5 σ K) n_) v4 v6 := h
    unfold B_X9_markOf_176 at h
    refine g_iload (pc := 176) C 4 dX9_markOf_176 rfl ?_
    refine g_aload_n (pc := 178) C 0 dX9_markOf_178 rfl rfl ?_
    refine get_X9_0 (pc := 179) C rfl tw_862 dX9_markOf_179 ?_
    refine g_iconst (pc := 182) (v := 0) C dX9_markOf_182 ic_0 ?_
    obtain ⟨g_, h⟩ := h
    refine g_iald (pc := 183) C rfl g_ dX9_markOf_183 ?_
    refine g_icmp_ge (pc := 184) (tgt := 242) C dX9_markOf_184 (by decide) (fun c_ => ?_) (fun c_ => ?_)
    · replace h := ite_t h c_
      refine g_iload (pc := 242) C 3 dX9_markOf_242 rfl ?_
      refine g_bipush (pc := 244) (v := -9) C dX9_markOf_244 bp_m9 ?_
      refine g_icmp_ne (pc := 246) (tgt := 254) C dX9_markOf_246 (by decide) (fun c_ => ?_) (fun c_ => ?_)
      · replace h := ite_f h c_
        refine g_iload (pc := 254) C 2 dX9_markOf_254 rfl ?_
        refine g_lv [] (lv2 := []) rfl ?_
        exact k_X9_markOf_256 C  h
      · replace h := ite_t h c_
        refine g_bipush (pc := 249) (v := -9) C dX9_markOf_249 bp_m9 ?_
        refine g_goto (pc := 251) (tgt := 256) C dX9_markOf_251 (by decide) ?_
        refine g_lv [] (lv2 := []) rfl ?_
        exact k_X9_markOf_256 C  h
    · replace h := ite_f h c_
      refine g_aload_n (pc := 187) C 0 dX9_markOf_187 rfl rfl ?_
      refine g_iload (pc := 188) C 4 dX9_markOf_188 rfl ?_
      refine g_aload_n (pc := 190) C 0 dX9_markOf_190 rfl rfl ?_
      refine get_X9_0 (pc := 191) C rfl tw_862 dX9_markOf_191 ?_
      refine g_bipush (pc := 194) (v := 14) C dX9_markOf_194 bp_14 ?_
      refine g_iload (pc := 196) C 4 dX9_markOf_196 rfl ?_
      refine g_iadd (pc := 198) C dX9_markOf_198 ?_
      obtain ⟨g_, h⟩ := h
      refine g_iald (pc := 199) C rfl g_ dX9_markOf_199 ?_
      refine g_iconst (pc := 200) (v := 1) C dX9_markOf_200 ic_1 ?_
      refine g_callVip (pc := 201) (As := [.int v6, .int (σ.1 1 (14 + v6).toNatClampNeg), .int 1]) (rest := []) C rfl rfl rfl rfl (M_X9_strikesBy C.2.2.1  h) CyX9_strikesBy tw_1070 tw_1072 ts_37 (by decide) rfl rfl (Nat.le_of_ble_eq_true rfl) dX9_markOf_201 (fun r201 h => ?_)
      refine g_istore (pc := 204) (lv2 := [(7, .int r201), (0, .ref (G.2.2 0)), (1, .int v1), (4, .int v4), (5, .int v5), (6, .int v6)]) C dX9_markOf_204 (by decide) rfl ?_
      refine g_iload (pc := 206) C 3 dX9_markOf_206 rfl ?_
      refine g_iload (pc := 208) C 5 dX9_markOf_208 rfl ?_
      refine g_iload_n (pc := 210) C 2 dX9_markOf_210 rfl rfl ?_
      refine g_icmp_eq (pc := 211) (tgt := 232) C dX9_markOf_211 (by decide) (fun c_ => ?_) (fun c_ => ?_)
      · replace h := ite_t h c_
        refine g_lv [1, 2, 4, 5] (lv2 := [(0, .ref (G.2.2 0)), (1, .int v1), (5, .int v5), (6, .int v6)]) rfl ?_
        exact k_X9_markOf_232 C (fun _ _ h_ => ih h_) h
      · replace h := ite_f h c_
        refine g_iload (pc := 214) C 0 dX9_markOf_214 rfl ?_
        refine g_bipush (pc := 216) (v := -9) C dX9_markOf_216 bp_m9 ?_
        refine g_icmp_eq (pc := 218) (tgt := 232) C dX9_markOf_218 (by decide) (fun c_ => ?_) (fun c_ => ?_)
        · replace h := ite_t h c_
          refine g_lv [1, 2, 4, 5] (lv2 := [(0, .ref (G.2.2 0)), (1, .int v1), (5, .int v5), (6, .int v6)]) rfl ?_
          exact k_X9_markOf_232 C (fun _ _ h_ => ih h_) h
        · replace h := ite_f h c_
          refine g_iload (pc := 221) C 0 dX9_markOf_221 rfl ?_
          refine g_iload (pc := 223) C 4 dX9_markOf_223 rfl ?_
          refine g_icmp_ge (pc := 225) (tgt := 232) C dX9_markOf_225 (by decide) (fun c_ => ?_) (fun c_ => ?_)
          · replace h := ite_t h c_
            refine g_lv [1, 2, 4, 5] (lv2 := [(0, .ref (G.2.2 0)), (1, .int v1), (5, .int v5), (6, .int v6)]) rfl ?_
            exact k_X9_markOf_232 C (fun _ _ h_ => ih h_) h
          · replace h := ite_f h c_
            refine g_iconst (pc := 228) (v := 1) C dX9_markOf_228 ic_1 ?_
            refine g_goto (pc := 229) (tgt := 233) C dX9_markOf_229 (by decide) ?_
            refine g_lv [1, 2, 4, 5] (lv2 := [(0, .ref (G.2.2 0)), (1, .int v1), (5, .int v5), (6, .int v6)]) rfl ?_
            exact k_X9_markOf_233 C (fun _ _ h_ => ih h_) h
set_option maxHeartbeats 4000000 in
set_option maxRecDepth 100000 in
theorem M_X9_markOf {l : Launch} {G : Gp} (hD : Dj shM G) {v1 : Int32} {v2 : Int32} {σ : St} {K : Int32 → Prop} (h : wp_X9_markOf v1 v2 σ K) : MC l shM G yX9_markOf cX9_markOf 8 (some .int) 4 [.ref (G.2.2 0), .int v1, .int v2] σ (RI (fun r t => t = σ ∧ K r)) := by
  unfold wp_X9_markOf at h
  refine MC.of (by decide) hD (Nat.le_of_ble_eq_true rfl) ?_
  intro p e s m args below meth c C
  replace C : Cx p (rmD 4) s m args meth c shM G cX9_markOf 8 4 RX9 (some .int) 0 0 := C
  show Go p l e (rmD 4) s m args below meth c shM G 8 0 0 (MQ below (Qw shM G (RI (fun r t => t = σ ∧ K r))) args s 0 0 (Fr shM G)) 0 [(0, .ref (G.2.2 0)), (1, .int v1), (2, .int v2)] [] σ
  refine g_aload_n (pc := 0) C 0 dX9_markOf_0 rfl rfl ?_
  refine get_X9_0 (pc := 1) C rfl tw_862 dX9_markOf_1 ?_
  refine g_bipush (pc := 4) (v := 14) C dX9_markOf_4 bp_14 ?_
  refine g_iload_n (pc := 6) C 1 dX9_markOf_6 rfl rfl ?_
  refine g_iadd (pc := 7) C dX9_markOf_7 ?_
  obtain ⟨g_, h⟩ := h
  refine g_iald (pc := 8) C rfl g_ dX9_markOf_8 ?_
  refine g_istore_n (pc := 9) (lv2 := [(3, .int (σ.1 1 (14 + v1).toNatClampNeg)), (0, .ref (G.2.2 0)), (1, .int v1), (2, .int v2)]) C dX9_markOf_9 rfl (by decide) rfl ?_
  refine g_iconst (pc := 10) (v := 0) C dX9_markOf_10 ic_0 ?_
  refine g_istore (pc := 11) (lv2 := [(4, .int 0), (3, .int (σ.1 1 (14 + v1).toNatClampNeg)), (0, .ref (G.2.2 0)), (1, .int v1), (2, .int v2)]) C dX9_markOf_11 (by decide) rfl ?_
  refine g_iload_n (pc := 13) C 4 dX9_markOf_13 rfl rfl ?_
  by_cases c0_ : v2 = 1
  · replace h := ite_t h c0_
    refine g_tabIn (pc := 14) (tgt := 44) (v := 1) C dX9_markOf_14 (by rw [c0_]; rfl) (by decide) (by decide) rfl (by decide) ?_
    refine g_iconst (pc := 44) (v := 0) C dX9_markOf_44 ic_0 ?_
    refine g_istore (pc := 45) (lv2 := [(5, .int 0), (4, .int 0), (3, .int (σ.1 1 (14 + v1).toNatClampNeg)), (0, .ref (G.2.2 0)), (1, .int v1), (2, .int v2)]) C dX9_markOf_45 (by decide) rfl ?_
    refine g_lv [3, 4, 2, 1, 0] (lv2 := [(0, .ref (G.2.2 0)), (1, .int v1), (3, .int (σ.1 1 (14 + v1).toNatClampNeg)), (4, .int 0), (5, .int 0)]) rfl ?_
    exact k_X9_markOf_47 C  h
  replace h := ite_f h c0_
  by_cases c1_ : v2 = 2
  · replace h := ite_t h c1_
    refine g_tabIn (pc := 14) (tgt := 90) (v := 2) C dX9_markOf_14 (by rw [c1_]; rfl) (by decide) (by decide) rfl (by decide) ?_
    refine g_bipush (pc := 90) (v := 20) C dX9_markOf_90 bp_20 ?_
    refine g_iload_n (pc := 92) C 1 dX9_markOf_92 rfl rfl ?_
    refine g_isub (pc := 93) C dX9_markOf_93 ?_
    exact g_iret (pc := 94) C dX9_markOf_94 ⟨_, rfl, ⟨rfl, h⟩⟩
  replace h := ite_f h c1_
  by_cases c2_ : v2 = 3
  · replace h := ite_t h c2_
    refine g_tabIn (pc := 14) (tgt := 95) (v := 3) C dX9_markOf_14 (by rw [c2_]; rfl) (by decide) (by decide) rfl (by decide) ?_
    refine g_aload_n (pc := 95) C 2 dX9_markOf_95 rfl rfl ?_
    refine g_iload_n (pc := 96) C 3 dX9_markOf_96 rfl rfl ?_
    refine g_iload_n (pc := 97) C 1 dX9_markOf_97 rfl rfl ?_
    refine g_iconst (pc := 98) (v := 1) C dX9_markOf_98 ic_1 ?_
    refine g_callVip (pc := 99) (As := [.int v1, .int (σ.1 1 (14 + v1).toNatClampNeg), .int 1]) (rest := []) C rfl rfl rfl rfl (M_X9_strikesBy C.2.2.1  h) CyX9_strikesBy tw_1070 tw_1072 ts_37 (by decide) rfl rfl (Nat.le_of_ble_eq_true rfl) dX9_markOf_99 (fun r99 h => ?_)
    exact g_iret (pc := 102) C dX9_markOf_102 ⟨_, rfl, ⟨rfl, h⟩⟩
  replace h := ite_f h c2_
  by_cases c3_ : v2 = 4
  · replace h := ite_t h c3_
    refine g_tabIn (pc := 14) (tgt := 103) (v := 4) C dX9_markOf_14 (by rw [c3_]; rfl) (by decide) (by decide) rfl (by decide) ?_
    refine g_iconst (pc := 103) (v := 0) C dX9_markOf_103 ic_0 ?_
    refine g_istore (pc := 104) (lv2 := [(5, .int 0), (4, .int 0), (3, .int (σ.1 1 (14 + v1).toNatClampNeg)), (0, .ref (G.2.2 0)), (1, .int v1), (2, .int v2)]) C dX9_markOf_104 (by decide) rfl ?_
    refine g_lv [3, 4, 1, 0] (lv2 := [(0, .ref (G.2.2 0)), (1, .int v1), (4, .int 0), (5, .int 0)]) rfl ?_
    exact k_X9_markOf_106 C  h
  replace h := ite_f h c3_
  refine g_tabOut (pc := 14) (tgt := 164) C dX9_markOf_14 (by have e0_ := lv_neT c0_ (a := 1) (by decide); have e1_ := lv_neT c1_ (a := 2) (by decide); have e2_ := lv_neT c2_ (a := 3) (by decide); have e3_ := lv_neT c3_ (a := 4) (by decide); omega) (by decide) ?_
  refine g_aload_n (pc := 164) C 2 dX9_markOf_164 rfl rfl ?_
  refine g_iload_n (pc := 165) C 3 dX9_markOf_165 rfl rfl ?_
  refine g_iload_n (pc := 166) C 1 dX9_markOf_166 rfl rfl ?_
  refine g_iconst (pc := 167) (v := 1) C dX9_markOf_167 ic_1 ?_
  refine g_callVip (pc := 168) (As := [.int v1, .int (σ.1 1 (14 + v1).toNatClampNeg), .int 1]) (rest := []) C rfl rfl rfl rfl (M_X9_strikesBy C.2.2.1  h) CyX9_strikesBy tw_1070 tw_1072 ts_37 (by decide) rfl rfl (Nat.le_of_ble_eq_true rfl) dX9_markOf_168 (fun r168 h => ?_)
  refine g_istore (pc := 171) (lv2 := [(5, .int r168), (4, .int 0), (3, .int (σ.1 1 (14 + v1).toNatClampNeg)), (0, .ref (G.2.2 0)), (1, .int v1), (2, .int v2)]) C dX9_markOf_171 (by decide) rfl ?_
  refine g_iconst (pc := 173) (v := 0) C dX9_markOf_173 ic_0 ?_
  refine g_istore (pc := 174) (lv2 := [(6, .int 0), (5, .int r168), (4, .int 0), (3, .int (σ.1 1 (14 + v1).toNatClampNeg)), (0, .ref (G.2.2 0)), (1, .int v1), (2, .int v2)]) C dX9_markOf_174 (by decide) rfl ?_
  refine g_lv [4, 5, 2, 1, 0] (lv2 := [(0, .ref (G.2.2 0)), (1, .int v1), (4, .int 0), (5, .int r168), (6, .int 0)]) rfl ?_
  exact k_X9_markOf_176 C  h
end MM

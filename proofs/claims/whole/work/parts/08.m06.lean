section MM
variable {p : Program} {l : Launch} {e : Env} {R : Room} {s : State} {m : MethodId} {args : Array Value} {below : List Frame} {meth : Method} {c : Code} {G : Gp}
set_option maxHeartbeats 4000000 in
set_option maxRecDepth 100000 in
theorem k_X9_mark_20 {σ : St} {K : Int32 → St → Prop} (C : Cx p R s m args meth c shM G cX9_mark 5 5 RX9 (some .int) 0 0) (h : J_X9_mark_20 σ K) : Go p l e R s m args below meth c shM G 5 0 0 (MQ below (Qw shM G (RI K)) args s 0 0 (Fr shM G)) 20 [] [] σ := by
  unfold J_X9_mark_20 at h
  refine g_iconst (pc := 20) (v := -1) C dX9_mark_20 ic_m1 ?_
  exact g_iret (pc := 21) C dX9_mark_21 ⟨_, rfl, h⟩
set_option maxHeartbeats 4000000 in
set_option maxRecDepth 100000 in
theorem k_X9_mark_82 {w0 : Int32} {σ : St} {K : Int32 → St → Prop} (C : Cx p R s m args meth c shM G cX9_mark 5 5 RX9 (some .int) 0 0) (h : J_X9_mark_82 w0 σ K) : Go p l e R s m args below meth c shM G 5 0 0 (MQ below (Qw shM G (RI K)) args s 0 0 (Fr shM G)) 82 [] [.int w0] σ := by
  unfold J_X9_mark_82 at h
  exact g_iret (pc := 82) C dX9_mark_82 ⟨_, rfl, h⟩
set_option maxHeartbeats 4000000 in
set_option maxRecDepth 100000 in
theorem k_X9_mark_61 {v1 : Int32} {v2 : Int32} {w0 : Int32} {σ : St} {K : Int32 → St → Prop} (C : Cx p R s m args meth c shM G cX9_mark 5 5 RX9 (some .int) 0 0) (h : J_X9_mark_61 v1 v2 w0 σ K) : Go p l e R s m args below meth c shM G 5 0 0 (MQ below (Qw shM G (RI K)) args s 0 0 (Fr shM G)) 61 [(0, .ref (G.2.2 0)), (1, .int v1), (2, .int v2)] [.int w0] σ := by
  unfold J_X9_mark_61 at h
  refine g_istore (pc := 61) (lv2 := [(4, .int w0), (0, .ref (G.2.2 0)), (1, .int v1), (2, .int v2)]) C dX9_mark_61 (by decide) rfl ?_
  refine g_iload (pc := 63) C 0 dX9_mark_63 rfl ?_
  refine g_if_eq (pc := 65) (tgt := 77) C dX9_mark_65 (by decide) (fun c_ => ?_) (fun c_ => ?_)
  · replace h := ite_t h c_
    refine g_aload_n (pc := 77) C 1 dX9_mark_77 rfl rfl ?_
    refine g_iconst (pc := 78) (v := 3) C dX9_mark_78 ic_3 ?_
    refine g_callVi (pc := 79) (As := [.int 3]) (rest := []) C rfl rfl rfl rfl (M_X9_found C.2.2.1  h) CyX9_found tw_958 tw_960 ts_25 (by decide) rfl rfl (Nat.le_of_ble_eq_true rfl) dX9_mark_79 (fun r79 t79 h => ?_)
    refine g_lv [] (lv2 := []) rfl ?_
    exact k_X9_mark_82 C  h
  · replace h := ite_f h c_
    refine g_aload_n (pc := 68) C 1 dX9_mark_68 rfl rfl ?_
    refine g_iload_n (pc := 69) C 2 dX9_mark_69 rfl rfl ?_
    refine g_iload_n (pc := 70) C 3 dX9_mark_70 rfl rfl ?_
    refine g_callVip (pc := 71) (As := [.int v1, .int v2]) (rest := []) C rfl rfl rfl rfl (M_X9_markOf C.2.2.1  h) CyX9_markOf tw_1057 tw_1059 ts_36 (by decide) rfl rfl (Nat.le_of_ble_eq_true rfl) dX9_mark_71 (fun r71 h => ?_)
    refine g_goto (pc := 74) (tgt := 82) C dX9_mark_74 (by decide) ?_
    refine g_lv [] (lv2 := []) rfl ?_
    exact k_X9_mark_82 C  h
set_option maxHeartbeats 4000000 in
set_option maxRecDepth 100000 in
theorem k_X9_mark_56 {v1 : Int32} {v2 : Int32} {σ : St} {K : Int32 → St → Prop} (C : Cx p R s m args meth c shM G cX9_mark 5 5 RX9 (some .int) 0 0) (h : J_X9_mark_56 v1 v2 σ K) : Go p l e R s m args below meth c shM G 5 0 0 (MQ below (Qw shM G (RI K)) args s 0 0 (Fr shM G)) 56 [(0, .ref (G.2.2 0)), (1, .int v1), (2, .int v2)] [] σ := by
  unfold J_X9_mark_56 at h
  refine g_iconst (pc := 56) (v := 1) C dX9_mark_56 ic_1 ?_
  refine g_goto (pc := 57) (tgt := 61) C dX9_mark_57 (by decide) ?_
  refine g_lv [0, 1, 2] (lv2 := [(0, .ref (G.2.2 0)), (1, .int v1), (2, .int v2)]) rfl ?_
  exact k_X9_mark_61 C  h
set_option maxHeartbeats 4000000 in
set_option maxRecDepth 100000 in
theorem k_X9_mark_60 {v1 : Int32} {v2 : Int32} {σ : St} {K : Int32 → St → Prop} (C : Cx p R s m args meth c shM G cX9_mark 5 5 RX9 (some .int) 0 0) (h : J_X9_mark_60 v1 v2 σ K) : Go p l e R s m args below meth c shM G 5 0 0 (MQ below (Qw shM G (RI K)) args s 0 0 (Fr shM G)) 60 [(0, .ref (G.2.2 0)), (1, .int v1), (2, .int v2)] [] σ := by
  unfold J_X9_mark_60 at h
  refine g_iconst (pc := 60) (v := 0) C dX9_mark_60 ic_0 ?_
  refine g_lv [0, 1, 2] (lv2 := [(0, .ref (G.2.2 0)), (1, .int v1), (2, .int v2)]) rfl ?_
  exact k_X9_mark_61 C  h
set_option maxHeartbeats 4000000 in
set_option maxRecDepth 100000 in
theorem k_X9_mark_46 {v1 : Int32} {v2 : Int32} {v3 : Int32} {σ : St} {K : Int32 → St → Prop} (C : Cx p R s m args meth c shM G cX9_mark 5 5 RX9 (some .int) 0 0) (h : J_X9_mark_46 v1 v2 v3 σ K) : Go p l e R s m args below meth c shM G 5 0 0 (MQ below (Qw shM G (RI K)) args s 0 0 (Fr shM G)) 46 [(0, .ref (G.2.2 0)), (1, .int v1), (2, .int v2), (3, .int v3)] [] σ := by
  unfold J_X9_mark_46 at h
  refine g_iload_n (pc := 46) C 2 dX9_mark_46 rfl rfl ?_
  refine g_iconst (pc := 47) (v := 2) C dX9_mark_47 ic_2 ?_
  refine g_icmp_ne (pc := 48) (tgt := 60) C dX9_mark_48 (by decide) (fun c_ => ?_) (fun c_ => ?_)
  · replace h := ite_f h c_
    refine g_lv [0, 1, 2] (lv2 := [(0, .ref (G.2.2 0)), (1, .int v1), (2, .int v2)]) rfl ?_
    exact k_X9_mark_60 C  h
  · replace h := ite_t h c_
    refine g_iload_n (pc := 51) C 3 dX9_mark_51 rfl rfl ?_
    refine g_iconst (pc := 52) (v := 5) C dX9_mark_52 ic_5 ?_
    refine g_icmp_ne (pc := 53) (tgt := 60) C dX9_mark_53 (by decide) (fun c_ => ?_) (fun c_ => ?_)
    · replace h := ite_f h c_
      refine g_lv [0, 1, 2] (lv2 := [(0, .ref (G.2.2 0)), (1, .int v1), (2, .int v2)]) rfl ?_
      exact k_X9_mark_60 C  h
    · replace h := ite_t h c_
      refine g_lv [0, 1, 2] (lv2 := [(0, .ref (G.2.2 0)), (1, .int v1), (2, .int v2)]) rfl ?_
      exact k_X9_mark_56 C  h
set_option maxHeartbeats 4000000 in
set_option maxRecDepth 100000 in
theorem M_X9_mark {l : Launch} {G : Gp} (hD : Dj shM G) {v1 : Int32} {v2 : Int32} {σ : St} {K : Int32 → St → Prop} (h : wp_X9_mark v1 v2 σ K) : MC l shM G yX9_mark cX9_mark 5 (some .int) 5 [.ref (G.2.2 0), .int v1, .int v2] σ (RI K) := by
  unfold wp_X9_mark at h
  refine MC.of (by decide) hD (Nat.le_of_ble_eq_true rfl) ?_
  intro p e s m args below meth c C
  replace C : Cx p (rmD 5) s m args meth c shM G cX9_mark 5 5 RX9 (some .int) 0 0 := C
  show Go p l e (rmD 5) s m args below meth c shM G 5 0 0 (MQ below (Qw shM G (RI K)) args s 0 0 (Fr shM G)) 0 [(0, .ref (G.2.2 0)), (1, .int v1), (2, .int v2)] [] σ
  refine g_aload_n (pc := 0) C 0 dX9_mark_0 rfl rfl ?_
  refine g_iload_n (pc := 1) C 1 dX9_mark_1 rfl rfl ?_
  refine g_callVip (pc := 2) (As := [.int v1]) (rest := []) C rfl rfl rfl rfl (M_X9_isBell C.2.2.1  h) CyX9_isBell tw_1045 tw_1047 ts_34 (by decide) rfl rfl (Nat.le_of_ble_eq_true rfl) dX9_mark_2 (fun r2 h => ?_)
  refine g_if_eq (pc := 5) (tgt := 20) C dX9_mark_5 (by decide) (fun c_ => ?_) (fun c_ => ?_)
  · replace h := ite_t h c_
    refine g_lv [] (lv2 := []) rfl ?_
    exact k_X9_mark_20 C  h
  · replace h := ite_f h c_
    refine g_iload_n (pc := 8) C 2 dX9_mark_8 rfl rfl ?_
    refine g_i2l (pc := 9) C dX9_mark_9 ?_
    refine g_lconst (pc := 10) (v := 1) C dX9_mark_10 lc_1 ?_
    refine g_ldc2 (pc := 11) (v := 5) C dX9_mark_11 tw_954 ?_
    refine g_callSip (pc := 14) (As := [.long v2.toInt64, .long (1 : Int64), .long (5 : Int64)]) (rest := []) C (M_X9_in C.2.2.1  h) CyX9_in tw_955 tw_956 (by decide) rfl rfl (Nat.le_of_ble_eq_true rfl) dX9_mark_14 (fun r14 h => ?_)
    refine g_if_ne (pc := 17) (tgt := 22) C dX9_mark_17 (by decide) (fun c_ => ?_) (fun c_ => ?_)
    · replace h := ite_f h c_
      refine g_aload_n (pc := 22) C 0 dX9_mark_22 rfl rfl ?_
      refine get_X9_0 (pc := 23) C rfl tw_862 dX9_mark_23 ?_
      refine g_iconst (pc := 26) (v := 2) C dX9_mark_26 ic_2 ?_
      refine g_iload_n (pc := 27) C 1 dX9_mark_27 rfl rfl ?_
      refine g_iadd (pc := 28) C dX9_mark_28 ?_
      obtain ⟨g_, h⟩ := h
      refine g_iald (pc := 29) C rfl g_ dX9_mark_29 ?_
      refine g_istore_n (pc := 30) (lv2 := [(3, .int (σ.1 1 (2 + v1).toNatClampNeg)), (0, .ref (G.2.2 0)), (1, .int v1), (2, .int v2)]) C dX9_mark_30 rfl (by decide) rfl ?_
      refine g_iload_n (pc := 31) C 0 dX9_mark_31 rfl rfl ?_
      refine g_iload_n (pc := 32) C 3 dX9_mark_32 rfl rfl ?_
      refine g_icmp_eq (pc := 33) (tgt := 56) C dX9_mark_33 (by decide) (fun c_ => ?_) (fun c_ => ?_)
      · replace h := ite_t h c_
        refine g_lv [1, 2, 3] (lv2 := [(0, .ref (G.2.2 0)), (1, .int v1), (2, .int v2)]) rfl ?_
        exact k_X9_mark_56 C  h
      · replace h := ite_f h c_
        refine g_iload_n (pc := 36) C 3 dX9_mark_36 rfl rfl ?_
        refine g_iconst (pc := 37) (v := 1) C dX9_mark_37 ic_1 ?_
        refine g_icmp_ne (pc := 38) (tgt := 46) C dX9_mark_38 (by decide) (fun c_ => ?_) (fun c_ => ?_)
        · replace h := ite_f h c_
          refine g_lv [1, 2, 3, 0] (lv2 := [(0, .ref (G.2.2 0)), (1, .int v1), (2, .int v2), (3, .int (σ.1 1 (2 + v1).toNatClampNeg))]) rfl ?_
          exact k_X9_mark_46 C  h
        · replace h := ite_t h c_
          refine g_iload_n (pc := 41) C 0 dX9_mark_41 rfl rfl ?_
          refine g_iconst (pc := 42) (v := 4) C dX9_mark_42 ic_4 ?_
          refine g_icmp_eq (pc := 43) (tgt := 56) C dX9_mark_43 (by decide) (fun c_ => ?_) (fun c_ => ?_)
          · replace h := ite_t h c_
            refine g_lv [1, 2, 3] (lv2 := [(0, .ref (G.2.2 0)), (1, .int v1), (2, .int v2)]) rfl ?_
            exact k_X9_mark_56 C  h
          · replace h := ite_f h c_
            refine g_lv [1, 2, 3, 0] (lv2 := [(0, .ref (G.2.2 0)), (1, .int v1), (2, .int v2), (3, .int (σ.1 1 (2 + v1).toNatClampNeg))]) rfl ?_
            exact k_X9_mark_46 C  h
    · replace h := ite_t h c_
      refine g_lv [] (lv2 := []) rfl ?_
      exact k_X9_mark_20 C  h
set_option maxHeartbeats 4000000 in
set_option maxRecDepth 100000 in
theorem k_X9_mean_44 {v1 : Int32} {v2 : Int64} {v4 : Int32} {σ : St} {K : Int32 → St → Prop} (C : Cx p R s m args meth c shM G cX9_mean 5 3 RX9 (some .int) 0 0) (h : L_X9_mean_44 v1 σ K v2 v4) : Go p l e R s m args below meth c shM G 5 0 0 (MQ below (Qw shM G (RI K)) args s 0 0 (Fr shM G)) 44 [(0, .ref (G.2.2 0)), (1, .int v1), (2, .long v2), (4, .int v4)] [] σ := by
  obtain ⟨n_, h⟩ := h
  induction n_ generalizing v2 v4 with
  | zero => exact h.elim
  | succ n_ ih =>
    replace h : B_X9_mean_44 v1 σ K (it2 (B_X9_mean_44 v1 σ K) n_) v2 v4 := h
    unfold B_X9_mean_44 at h
    refine g_iload (pc := 44) C 3 dX9_mean_44 rfl ?_
    refine g_aload_n (pc := 46) C 0 dX9_mean_46 rfl rfl ?_
    refine get_X9_4 (pc := 47) C rfl tw_866 dX9_mean_47 ?_
    refine g_iload_n (pc := 50) C 1 dX9_mean_50 rfl rfl ?_
    obtain ⟨g_, h⟩ := h
    refine g_iald (pc := 51) C rfl g_ dX9_mean_51 ?_
    refine g_icmp_ge (pc := 52) (tgt := 77) C dX9_mean_52 (by decide) (fun c_ => ?_) (fun c_ => ?_)
    · replace h := ite_t h c_
      refine g_aload_n (pc := 77) C 0 dX9_mean_77 rfl rfl ?_
      refine g_lload_n (pc := 78) C 2 dX9_mean_78 rfl rfl ?_
      refine g_aload_n (pc := 79) C 0 dX9_mean_79 rfl rfl ?_
      refine get_X9_4 (pc := 80) C rfl tw_866 dX9_mean_80 ?_
      refine g_iload_n (pc := 83) C 1 dX9_mean_83 rfl rfl ?_
      obtain ⟨g_, h⟩ := h
      refine g_iald (pc := 84) C rfl g_ dX9_mean_84 ?_
      refine g_i2l (pc := 85) C dX9_mean_85 ?_
      obtain ⟨g_, h⟩ := h
      refine g_ldiv (pc := 86) C dX9_mean_86 g_ ?_
      refine g_l2i (pc := 87) C dX9_mean_87 ?_
      refine g_iconst (pc := 88) (v := 1) C dX9_mean_88 ic_1 ?_
      refine g_callVi (pc := 89) (As := [.int ((v2 / (σ.1 4 v1.toNatClampNeg).toInt64).toInt32), .int 1]) (rest := []) C rfl rfl rfl rfl (M_X9_tells C.2.2.1  h) CyX9_tells tw_974 tw_976 ts_27 (by decide) rfl rfl (Nat.le_of_ble_eq_true rfl) dX9_mean_89 (fun r89 t89 h => ?_)
      exact g_iret (pc := 92) C dX9_mean_92 ⟨_, rfl, h⟩
    · replace h := ite_f h c_
      refine g_lload_n (pc := 55) C 2 dX9_mean_55 rfl rfl ?_
      refine g_aload_n (pc := 56) C 0 dX9_mean_56 rfl rfl ?_
      refine get_X9_3 (pc := 57) C rfl tw_865 dX9_mean_57 ?_
      refine g_bipush (pc := 60) (v := 40) C dX9_mean_60 bp_40 ?_
      refine g_iload_n (pc := 62) C 1 dX9_mean_62 rfl rfl ?_
      refine g_imul (pc := 63) C dX9_mean_63 ?_
      refine g_iload (pc := 64) C 3 dX9_mean_64 rfl ?_
      refine g_iadd (pc := 66) C dX9_mean_66 ?_
      obtain ⟨g_, h⟩ := h
      refine g_iald (pc := 67) C rfl g_ dX9_mean_67 ?_
      refine g_i2l (pc := 68) C dX9_mean_68 ?_
      refine g_ladd (pc := 69) C dX9_mean_69 ?_
      refine g_lstore_n (pc := 70) (lv2 := [(2, .long (v2 + (σ.1 3 ((40 * v1) + v4).toNatClampNeg).toInt64)), (0, .ref (G.2.2 0)), (1, .int v1), (4, .int v4)]) C dX9_mean_70 rfl (by decide) rfl ?_
      refine g_iinc (pc := 71) (lv2 := [(4, .int (v4 + 1)), (2, .long (v2 + (σ.1 3 ((40 * v1) + v4).toNatClampNeg).toInt64)), (0, .ref (G.2.2 0)), (1, .int v1)]) C 3 dX9_mean_71 ic_1 rfl (by decide) rfl ?_
      refine g_goto (pc := 74) (tgt := 44) C dX9_mean_74 (by decide) ?_
      refine g_lv [2, 3, 1, 0] (lv2 := [(0, .ref (G.2.2 0)), (1, .int v1), (2, .long (v2 + (σ.1 3 ((40 * v1) + v4).toNatClampNeg).toInt64)), (4, .int (v4 + 1))]) rfl ?_
      exact ih h
set_option maxHeartbeats 4000000 in
set_option maxRecDepth 100000 in
theorem M_X9_mean {l : Launch} {G : Gp} (hD : Dj shM G) {v1 : Int32} {σ : St} {K : Int32 → St → Prop} (h : wp_X9_mean v1 σ K) : MC l shM G yX9_mean cX9_mean 5 (some .int) 3 [.ref (G.2.2 0), .int v1] σ (RI K) := by
  unfold wp_X9_mean at h
  refine MC.of (by decide) hD (Nat.le_of_ble_eq_true rfl) ?_
  intro p e s m args below meth c C
  replace C : Cx p (rmD 3) s m args meth c shM G cX9_mean 5 3 RX9 (some .int) 0 0 := C
  show Go p l e (rmD 3) s m args below meth c shM G 5 0 0 (MQ below (Qw shM G (RI K)) args s 0 0 (Fr shM G)) 0 [(0, .ref (G.2.2 0)), (1, .int v1)] [] σ
  refine g_iload_n (pc := 0) C 1 dX9_mean_0 rfl rfl ?_
  refine g_callSip (pc := 1) (As := [.int v1]) (rest := []) C (M_X9_isRow C.2.2.1  h) CyX9_isRow tw_951 tw_952 (by decide) rfl rfl (Nat.le_of_ble_eq_true rfl) dX9_mean_1 (fun r1 h => ?_)
  refine g_if_ne (pc := 4) (tgt := 9) C dX9_mean_4 (by decide) (fun c_ => ?_) (fun c_ => ?_)
  · replace h := ite_f h c_
    refine g_aload_n (pc := 9) C 0 dX9_mean_9 rfl rfl ?_
    refine get_X9_4 (pc := 10) C rfl tw_866 dX9_mean_10 ?_
    refine g_iload_n (pc := 13) C 1 dX9_mean_13 rfl rfl ?_
    obtain ⟨g_, h⟩ := h
    refine g_iald (pc := 14) C rfl g_ dX9_mean_14 ?_
    refine g_if_ge (pc := 15) (tgt := 24) C dX9_mean_15 (by decide) (fun c_ => ?_) (fun c_ => ?_)
    · replace h := ite_t h c_
      refine g_aload_n (pc := 24) C 0 dX9_mean_24 rfl rfl ?_
      refine get_X9_4 (pc := 25) C rfl tw_866 dX9_mean_25 ?_
      refine g_iload_n (pc := 28) C 1 dX9_mean_28 rfl rfl ?_
      obtain ⟨g_, h⟩ := h
      refine g_iald (pc := 29) C rfl g_ dX9_mean_29 ?_
      refine g_if_ne (pc := 30) (tgt := 39) C dX9_mean_30 (by decide) (fun c_ => ?_) (fun c_ => ?_)
      · replace h := ite_f h c_
        refine g_lconst (pc := 39) (v := 0) C dX9_mean_39 lc_0 ?_
        refine g_lstore_n (pc := 40) (lv2 := [(2, .long (0 : Int64)), (0, .ref (G.2.2 0)), (1, .int v1)]) C dX9_mean_40 rfl (by decide) rfl ?_
        refine g_iconst (pc := 41) (v := 0) C dX9_mean_41 ic_0 ?_
        refine g_istore (pc := 42) (lv2 := [(4, .int 0), (2, .long (0 : Int64)), (0, .ref (G.2.2 0)), (1, .int v1)]) C dX9_mean_42 (by decide) rfl ?_
        refine g_lv [2, 3, 1, 0] (lv2 := [(0, .ref (G.2.2 0)), (1, .int v1), (2, .long (0 : Int64)), (4, .int 0)]) rfl ?_
        exact k_X9_mean_44 C  h
      · replace h := ite_t h c_
        refine g_aload_n (pc := 33) C 0 dX9_mean_33 rfl rfl ?_
        refine g_iconst (pc := 34) (v := 4) C dX9_mean_34 ic_4 ?_
        refine g_callVi (pc := 35) (As := [.int 4]) (rest := []) C rfl rfl rfl rfl (M_X9_found C.2.2.1  h) CyX9_found tw_958 tw_960 ts_25 (by decide) rfl rfl (Nat.le_of_ble_eq_true rfl) dX9_mean_35 (fun r35 t35 h => ?_)
        exact g_iret (pc := 38) C dX9_mean_38 ⟨_, rfl, h⟩
    · replace h := ite_f h c_
      refine g_aload_n (pc := 18) C 0 dX9_mean_18 rfl rfl ?_
      refine g_iconst (pc := 19) (v := 1) C dX9_mean_19 ic_1 ?_
      refine g_callVi (pc := 20) (As := [.int 1]) (rest := []) C rfl rfl rfl rfl (M_X9_found C.2.2.1  h) CyX9_found tw_958 tw_960 ts_25 (by decide) rfl rfl (Nat.le_of_ble_eq_true rfl) dX9_mean_20 (fun r20 t20 h => ?_)
      exact g_iret (pc := 23) C dX9_mean_23 ⟨_, rfl, h⟩
  · replace h := ite_t h c_
    refine g_iconst (pc := 7) (v := -1) C dX9_mean_7 ic_m1 ?_
    exact g_iret (pc := 8) C dX9_mean_8 ⟨_, rfl, h⟩
set_option maxHeartbeats 4000000 in
set_option maxRecDepth 100000 in
theorem M_X9_mend {l : Launch} {G : Gp} (hD : Dj shM G) {v1 : Int32} {σ : St} {K : Int32 → St → Prop} (h : wp_X9_mend v1 σ K) : MC l shM G yX9_mend cX9_mend 2 (some .int) 3 [.ref (G.2.2 0), .int v1] σ (RI K) := by
  unfold wp_X9_mend at h
  refine MC.of (by decide) hD (Nat.le_of_ble_eq_true rfl) ?_
  intro p e s m args below meth c C
  replace C : Cx p (rmD 3) s m args meth c shM G cX9_mend 2 3 RX9 (some .int) 0 0 := C
  show Go p l e (rmD 3) s m args below meth c shM G 2 0 0 (MQ below (Qw shM G (RI K)) args s 0 0 (Fr shM G)) 0 [(0, .ref (G.2.2 0)), (1, .int v1)] [] σ
  refine g_aload_n (pc := 0) C 0 dX9_mend_0 rfl rfl ?_
  refine g_iload_n (pc := 1) C 1 dX9_mend_1 rfl rfl ?_
  refine g_callVip (pc := 2) (As := [.int v1]) (rest := []) C rfl rfl rfl rfl (M_X9_isBell C.2.2.1  h) CyX9_isBell tw_1045 tw_1047 ts_34 (by decide) rfl rfl (Nat.le_of_ble_eq_true rfl) dX9_mend_2 (fun r2 h => ?_)
  refine g_if_ne (pc := 5) (tgt := 10) C dX9_mend_5 (by decide) (fun c_ => ?_) (fun c_ => ?_)
  · replace h := ite_f h c_
    refine g_aload_n (pc := 10) C 0 dX9_mend_10 rfl rfl ?_
    refine g_iload_n (pc := 11) C 1 dX9_mend_11 rfl rfl ?_
    refine g_callVip (pc := 12) (As := [.int v1]) (rest := []) C rfl rfl rfl rfl (M_X9_isOver C.2.2.1  h) CyX9_isOver tw_1089 tw_1091 ts_38 (by decide) rfl rfl (Nat.le_of_ble_eq_true rfl) dX9_mend_12 (fun r12 h => ?_)
    refine g_if_ne (pc := 15) (tgt := 21) C dX9_mend_15 (by decide) (fun c_ => ?_) (fun c_ => ?_)
    · replace h := ite_f h c_
      refine g_aload_n (pc := 21) C 0 dX9_mend_21 rfl rfl ?_
      refine get_X9_1 (pc := 22) C rfl tw_863 dX9_mend_22 ?_
      refine g_bipush (pc := 25) (v := 40) C dX9_mend_25 bp_40 ?_
      refine g_icmp_ne (pc := 27) (tgt := 33) C dX9_mend_27 (by decide) (fun c_ => ?_) (fun c_ => ?_)
      · replace h := ite_f h c_
        refine g_aload_n (pc := 33) C 0 dX9_mend_33 rfl rfl ?_
        refine g_callVv (pc := 34) (As := []) (rest := []) C rfl rfl rfl rfl (M_X9_minds C.2.2.1  h) CyX9_minds tw_1093 tw_1095 ts_39 (by decide) rfl rfl (Nat.le_of_ble_eq_true rfl) dX9_mend_34 (fun t34 h => ?_)
        refine g_aload_n (pc := 37) C 0 dX9_mend_37 rfl rfl ?_
        refine get_X9_0 (pc := 38) C rfl tw_862 dX9_mend_38 ?_
        refine g_bipush (pc := 41) (v := 20) C dX9_mend_41 bp_20 ?_
        refine g_iload_n (pc := 43) C 1 dX9_mend_43 rfl rfl ?_
        refine g_iadd (pc := 44) C dX9_mend_44 ?_
        refine g_iconst (pc := 45) (v := 0) C dX9_mend_45 ic_0 ?_
        obtain ⟨g_, h⟩ := h
        refine g_iast (pc := 46) C rfl g_ dX9_mend_46 ?_
        refine g_iconst (pc := 47) (v := 1) C dX9_mend_47 ic_1 ?_
        exact g_iret (pc := 48) C dX9_mend_48 ⟨_, rfl, h⟩
      · replace h := ite_t h c_
        refine g_bipush (pc := 30) (v := -2) C dX9_mend_30 bp_m2 ?_
        exact g_iret (pc := 32) C dX9_mend_32 ⟨_, rfl, h⟩
    · replace h := ite_t h c_
      refine g_bipush (pc := 18) (v := -4) C dX9_mend_18 bp_m4 ?_
      exact g_iret (pc := 20) C dX9_mend_20 ⟨_, rfl, h⟩
  · replace h := ite_t h c_
    refine g_iconst (pc := 8) (v := -1) C dX9_mend_8 ic_m1 ?_
    exact g_iret (pc := 9) C dX9_mend_9 ⟨_, rfl, h⟩
set_option maxHeartbeats 4000000 in
set_option maxRecDepth 100000 in
theorem k_X9_mid_36 {v6 : Int64} {v8 : Int64} {v10 : Int32} {σ : St} {K : Int32 → St → Prop} (C : Cx p R s m args meth c shM G cX9_mid 11 4 RX9 (some .int) 0 0) (h : L_X9_mid_36 v6 σ K v8 v10) : Go p l e R s m args below meth c shM G 11 0 0 (MQ below (Qw shM G (RI K)) args s 0 0 (Fr shM G)) 36 [(0, .ref (G.2.2 0)), (6, .long v6), (8, .long v8), (10, .int v10)] [] σ := by
  obtain ⟨n_, h⟩ := h
  induction n_ generalizing v8 v10 with
  | zero => exact h.elim
  | succ n_ ih =>
    replace h : B_X9_mid_36 v6 σ K (it2 (B_X9_mid_36 v6 σ K) n_) v8 v10 := h
    unfold B_X9_mid_36 at h
    refine g_iload (pc := 36) C 3 dX9_mid_36 rfl ?_
    refine g_bipush (pc := 38) (v := 20) C dX9_mid_38 bp_20 ?_
    refine g_icmp_gt (pc := 40) (tgt := 65) C dX9_mid_40 (by decide) (fun c_ => ?_) (fun c_ => ?_)
    · replace h := ite_t h c_
      refine g_aload_n (pc := 65) C 0 dX9_mid_65 rfl rfl ?_
      refine g_lload (pc := 66) C 2 dX9_mid_66 rfl ?_
      refine g_lload (pc := 68) C 1 dX9_mid_68 rfl ?_
      refine g_callVi (pc := 70) (As := [.long v8, .long v6]) (rest := []) C rfl rfl rfl rfl (M_X9_chance C.2.2.1  h) CyX9_chance tw_1286 tw_1288 ts_59 (by decide) rfl rfl (Nat.le_of_ble_eq_true rfl) dX9_mid_70 (fun r70 t70 h => ?_)
      exact g_iret (pc := 73) C dX9_mid_73 ⟨_, rfl, h⟩
    · replace h := ite_f h c_
      refine g_lload (pc := 43) C 2 dX9_mid_43 rfl ?_
      refine g_iload (pc := 45) C 3 dX9_mid_45 rfl ?_
      refine g_i2l (pc := 47) C dX9_mid_47 ?_
      refine g_aload_n (pc := 48) C 0 dX9_mid_48 rfl rfl ?_
      refine get_X9_25 (pc := 49) C rfl tw_887 dX9_mid_49 ?_
      refine g_iload (pc := 52) C 3 dX9_mid_52 rfl ?_
      obtain ⟨g_, h⟩ := h
      refine g_lald (pc := 54) C rfl g_ dX9_mid_54 ?_
      refine g_lmul (pc := 55) C dX9_mid_55 ?_
      refine g_ladd (pc := 56) C dX9_mid_56 ?_
      refine g_lstore (pc := 57) (lv2 := [(8, .long (v8 + (v10.toInt64 * (σ.2 18 v10.toNatClampNeg)))), (0, .ref (G.2.2 0)), (6, .long v6), (10, .int v10)]) C dX9_mid_57 (by decide) rfl ?_
      refine g_iinc (pc := 59) (lv2 := [(10, .int (v10 + 1)), (8, .long (v8 + (v10.toInt64 * (σ.2 18 v10.toNatClampNeg)))), (0, .ref (G.2.2 0)), (6, .long v6)]) C 3 dX9_mid_59 ic_1 rfl (by decide) rfl ?_
      refine g_goto (pc := 62) (tgt := 36) C dX9_mid_62 (by decide) ?_
      refine g_lv [2, 3, 1, 0] (lv2 := [(0, .ref (G.2.2 0)), (6, .long v6), (8, .long (v8 + (v10.toInt64 * (σ.2 18 v10.toNatClampNeg)))), (10, .int (v10 + 1))]) rfl ?_
      exact ih h
set_option maxHeartbeats 4000000 in
set_option maxRecDepth 100000 in
theorem M_X9_mid {l : Launch} {G : Gp} (hD : Dj shM G) {v1 : Int32} {v2 : Int32} {v3 : Int32} {v4 : Int32} {σ : St} {K : Int32 → St → Prop} (h : wp_X9_mid v1 v2 v3 v4 σ K) : MC l shM G yX9_mid cX9_mid 11 (some .int) 4 [.ref (G.2.2 0), .int v1, .int v2, .int v3, .int v4] σ (RI K) := by
  unfold wp_X9_mid at h
  refine MC.of (by decide) hD (Nat.le_of_ble_eq_true rfl) ?_
  intro p e s m args below meth c C
  replace C : Cx p (rmD 4) s m args meth c shM G cX9_mid 11 4 RX9 (some .int) 0 0 := C
  show Go p l e (rmD 4) s m args below meth c shM G 11 0 0 (MQ below (Qw shM G (RI K)) args s 0 0 (Fr shM G)) 0 [(0, .ref (G.2.2 0)), (1, .int v1), (2, .int v2), (3, .int v3), (4, .int v4)] [] σ
  refine g_aload_n (pc := 0) C 0 dX9_mid_0 rfl rfl ?_
  refine g_iload_n (pc := 1) C 1 dX9_mid_1 rfl rfl ?_
  refine g_iload_n (pc := 2) C 2 dX9_mid_2 rfl rfl ?_
  refine g_iload_n (pc := 3) C 3 dX9_mid_3 rfl rfl ?_
  refine g_iload (pc := 4) C 4 dX9_mid_4 rfl ?_
  refine g_callVip (pc := 6) (As := [.int v1, .int v2, .int v3, .int v4]) (rest := []) C rfl rfl rfl rfl (M_X9_againstSlips C.2.2.1  h) CyX9_againstSlips tw_1277 tw_1279 ts_57 (by decide) rfl rfl (Nat.le_of_ble_eq_true rfl) dX9_mid_6 (fun r6 h => ?_)
  refine g_istore (pc := 9) (lv2 := [(5, .int r6), (0, .ref (G.2.2 0)), (1, .int v1), (2, .int v2), (3, .int v3), (4, .int v4)]) C dX9_mid_9 (by decide) rfl ?_
  refine g_iload (pc := 11) C 0 dX9_mid_11 rfl ?_
  refine g_if_ge (pc := 13) (tgt := 19) C dX9_mid_13 (by decide) (fun c_ => ?_) (fun c_ => ?_)
  · replace h := ite_t h c_
    refine g_aload_n (pc := 19) C 1 dX9_mid_19 rfl rfl ?_
    refine g_iload_n (pc := 20) C 2 dX9_mid_20 rfl rfl ?_
    refine g_iload_n (pc := 21) C 3 dX9_mid_21 rfl rfl ?_
    refine g_iload_n (pc := 22) C 4 dX9_mid_22 rfl rfl ?_
    refine g_iload (pc := 23) C 5 dX9_mid_23 rfl ?_
    refine g_callVl (pc := 25) (As := [.int v1, .int v2, .int v3, .int v4]) (rest := []) C rfl rfl rfl rfl (M_X9_laySlips C.2.2.1  h) CyX9_laySlips tw_1282 tw_1284 ts_58 (by decide) rfl rfl (Nat.le_of_ble_eq_true rfl) dX9_mid_25 (fun r25 t25 h => ?_)
    refine g_lstore (pc := 28) (lv2 := [(6, .long r25), (5, .int r6), (0, .ref (G.2.2 0)), (1, .int v1), (2, .int v2), (3, .int v3), (4, .int v4)]) C dX9_mid_28 (by decide) rfl ?_
    refine g_lconst (pc := 30) (v := 0) C dX9_mid_30 lc_0 ?_
    refine g_lstore (pc := 31) (lv2 := [(8, .long (0 : Int64)), (6, .long r25), (5, .int r6), (0, .ref (G.2.2 0)), (1, .int v1), (2, .int v2), (3, .int v3), (4, .int v4)]) C dX9_mid_31 (by decide) rfl ?_
    refine g_iconst (pc := 33) (v := 0) C dX9_mid_33 ic_0 ?_
    refine g_istore (pc := 34) (lv2 := [(10, .int 0), (8, .long (0 : Int64)), (6, .long r25), (5, .int r6), (0, .ref (G.2.2 0)), (1, .int v1), (2, .int v2), (3, .int v3), (4, .int v4)]) C dX9_mid_34 (by decide) rfl ?_
    refine g_lv [4, 2, 1, 0] (lv2 := [(0, .ref (G.2.2 0)), (6, .long r25), (8, .long (0 : Int64)), (10, .int 0)]) rfl ?_
    exact k_X9_mid_36 C  h
  · replace h := ite_f h c_
    refine g_iload (pc := 16) C 0 dX9_mid_16 rfl ?_
    exact g_iret (pc := 18) C dX9_mid_18 ⟨_, rfl, h⟩
set_option maxHeartbeats 4000000 in
set_option maxRecDepth 100000 in
theorem k_X9_odds_36 {v6 : Int64} {v8 : Int64} {v10 : Int32} {σ : St} {K : Int32 → St → Prop} (C : Cx p R s m args meth c shM G cX9_odds 11 4 RX9 (some .int) 0 0) (h : L_X9_odds_36 v6 σ K v8 v10) : Go p l e R s m args below meth c shM G 11 0 0 (MQ below (Qw shM G (RI K)) args s 0 0 (Fr shM G)) 36 [(0, .ref (G.2.2 0)), (6, .long v6), (8, .long v8), (10, .int v10)] [] σ := by
  obtain ⟨n_, h⟩ := h
  induction n_ generalizing v8 v10 with
  | zero => exact h.elim
  | succ n_ ih =>
    replace h : B_X9_odds_36 v6 σ K (it2 (B_X9_odds_36 v6 σ K) n_) v8 v10 := h
    unfold B_X9_odds_36 at h
    refine g_iload (pc := 36) C 3 dX9_odds_36 rfl ?_
    refine g_bipush (pc := 38) (v := 20) C dX9_odds_38 bp_20 ?_
    refine g_icmp_gt (pc := 40) (tgt := 61) C dX9_odds_40 (by decide) (fun c_ => ?_) (fun c_ => ?_)
    · replace h := ite_t h c_
      refine g_aload_n (pc := 61) C 0 dX9_odds_61 rfl rfl ?_
      refine g_lload (pc := 62) C 2 dX9_odds_62 rfl ?_
      refine g_lload (pc := 64) C 1 dX9_odds_64 rfl ?_
      refine g_callVi (pc := 66) (As := [.long v8, .long v6]) (rest := []) C rfl rfl rfl rfl (M_X9_chance C.2.2.1  h) CyX9_chance tw_1286 tw_1288 ts_59 (by decide) rfl rfl (Nat.le_of_ble_eq_true rfl) dX9_odds_66 (fun r66 t66 h => ?_)
      exact g_iret (pc := 69) C dX9_odds_69 ⟨_, rfl, h⟩
    · replace h := ite_f h c_
      refine g_lload (pc := 43) C 2 dX9_odds_43 rfl ?_
      refine g_aload_n (pc := 45) C 0 dX9_odds_45 rfl rfl ?_
      refine get_X9_25 (pc := 46) C rfl tw_887 dX9_odds_46 ?_
      refine g_iload (pc := 49) C 3 dX9_odds_49 rfl ?_
      obtain ⟨g_, h⟩ := h
      refine g_lald (pc := 51) C rfl g_ dX9_odds_51 ?_
      refine g_ladd (pc := 52) C dX9_odds_52 ?_
      refine g_lstore (pc := 53) (lv2 := [(8, .long (v8 + (σ.2 18 v10.toNatClampNeg))), (0, .ref (G.2.2 0)), (6, .long v6), (10, .int v10)]) C dX9_odds_53 (by decide) rfl ?_
      refine g_iinc (pc := 55) (lv2 := [(10, .int (v10 + 1)), (8, .long (v8 + (σ.2 18 v10.toNatClampNeg))), (0, .ref (G.2.2 0)), (6, .long v6)]) C 3 dX9_odds_55 ic_1 rfl (by decide) rfl ?_
      refine g_goto (pc := 58) (tgt := 36) C dX9_odds_58 (by decide) ?_
      refine g_lv [2, 3, 1, 0] (lv2 := [(0, .ref (G.2.2 0)), (6, .long v6), (8, .long (v8 + (σ.2 18 v10.toNatClampNeg))), (10, .int (v10 + 1))]) rfl ?_
      exact ih h
set_option maxHeartbeats 4000000 in
set_option maxRecDepth 100000 in
theorem M_X9_odds {l : Launch} {G : Gp} (hD : Dj shM G) {v1 : Int32} {v2 : Int32} {v3 : Int32} {v4 : Int32} {σ : St} {K : Int32 → St → Prop} (h : wp_X9_odds v1 v2 v3 v4 σ K) : MC l shM G yX9_odds cX9_odds 11 (some .int) 4 [.ref (G.2.2 0), .int v1, .int v2, .int v3, .int v4] σ (RI K) := by
  unfold wp_X9_odds at h
  refine MC.of (by decide) hD (Nat.le_of_ble_eq_true rfl) ?_
  intro p e s m args below meth c C
  replace C : Cx p (rmD 4) s m args meth c shM G cX9_odds 11 4 RX9 (some .int) 0 0 := C
  show Go p l e (rmD 4) s m args below meth c shM G 11 0 0 (MQ below (Qw shM G (RI K)) args s 0 0 (Fr shM G)) 0 [(0, .ref (G.2.2 0)), (1, .int v1), (2, .int v2), (3, .int v3), (4, .int v4)] [] σ
  refine g_aload_n (pc := 0) C 0 dX9_odds_0 rfl rfl ?_
  refine g_iload_n (pc := 1) C 1 dX9_odds_1 rfl rfl ?_
  refine g_iload_n (pc := 2) C 2 dX9_odds_2 rfl rfl ?_
  refine g_iload_n (pc := 3) C 3 dX9_odds_3 rfl rfl ?_
  refine g_iload (pc := 4) C 4 dX9_odds_4 rfl ?_
  refine g_callVip (pc := 6) (As := [.int v1, .int v2, .int v3, .int v4]) (rest := []) C rfl rfl rfl rfl (M_X9_againstSlips C.2.2.1  h) CyX9_againstSlips tw_1277 tw_1279 ts_57 (by decide) rfl rfl (Nat.le_of_ble_eq_true rfl) dX9_odds_6 (fun r6 h => ?_)
  refine g_istore (pc := 9) (lv2 := [(5, .int r6), (0, .ref (G.2.2 0)), (1, .int v1), (2, .int v2), (3, .int v3), (4, .int v4)]) C dX9_odds_9 (by decide) rfl ?_
  refine g_iload (pc := 11) C 0 dX9_odds_11 rfl ?_
  refine g_if_ge (pc := 13) (tgt := 19) C dX9_odds_13 (by decide) (fun c_ => ?_) (fun c_ => ?_)
  · replace h := ite_t h c_
    refine g_aload_n (pc := 19) C 1 dX9_odds_19 rfl rfl ?_
    refine g_iload_n (pc := 20) C 2 dX9_odds_20 rfl rfl ?_
    refine g_iload_n (pc := 21) C 3 dX9_odds_21 rfl rfl ?_
    refine g_iload_n (pc := 22) C 4 dX9_odds_22 rfl rfl ?_
    refine g_iload (pc := 23) C 5 dX9_odds_23 rfl ?_
    refine g_callVl (pc := 25) (As := [.int v1, .int v2, .int v3, .int v4]) (rest := []) C rfl rfl rfl rfl (M_X9_laySlips C.2.2.1  h) CyX9_laySlips tw_1282 tw_1284 ts_58 (by decide) rfl rfl (Nat.le_of_ble_eq_true rfl) dX9_odds_25 (fun r25 t25 h => ?_)
    refine g_lstore (pc := 28) (lv2 := [(6, .long r25), (5, .int r6), (0, .ref (G.2.2 0)), (1, .int v1), (2, .int v2), (3, .int v3), (4, .int v4)]) C dX9_odds_28 (by decide) rfl ?_
    refine g_lconst (pc := 30) (v := 0) C dX9_odds_30 lc_0 ?_
    refine g_lstore (pc := 31) (lv2 := [(8, .long (0 : Int64)), (6, .long r25), (5, .int r6), (0, .ref (G.2.2 0)), (1, .int v1), (2, .int v2), (3, .int v3), (4, .int v4)]) C dX9_odds_31 (by decide) rfl ?_
    refine g_iconst (pc := 33) (v := 0) C dX9_odds_33 ic_0 ?_
    refine g_istore (pc := 34) (lv2 := [(10, .int 0), (8, .long (0 : Int64)), (6, .long r25), (5, .int r6), (0, .ref (G.2.2 0)), (1, .int v1), (2, .int v2), (3, .int v3), (4, .int v4)]) C dX9_odds_34 (by decide) rfl ?_
    refine g_lv [4, 2, 1, 0] (lv2 := [(0, .ref (G.2.2 0)), (6, .long r25), (8, .long (0 : Int64)), (10, .int 0)]) rfl ?_
    exact k_X9_odds_36 C  h
  · replace h := ite_f h c_
    refine g_iload (pc := 16) C 0 dX9_odds_16 rfl ?_
    exact g_iret (pc := 18) C dX9_odds_18 ⟨_, rfl, h⟩
set_option maxHeartbeats 4000000 in
set_option maxRecDepth 100000 in
theorem M_X9_on {l : Launch} {G : Gp} (hD : Dj shM G) {v1 : Int32} {σ : St} {K : Int32 → St → Prop} (h : wp_X9_on v1 σ K) : MC l shM G yX9_on cX9_on 2 (some .int) 2 [.ref (G.2.2 0), .int v1] σ (RI K) := by
  unfold wp_X9_on at h
  refine MC.of (by decide) hD (Nat.le_of_ble_eq_true rfl) ?_
  intro p e s m args below meth c C
  replace C : Cx p (rmD 2) s m args meth c shM G cX9_on 2 2 RX9 (some .int) 0 0 := C
  show Go p l e (rmD 2) s m args below meth c shM G 2 0 0 (MQ below (Qw shM G (RI K)) args s 0 0 (Fr shM G)) 0 [(0, .ref (G.2.2 0)), (1, .int v1)] [] σ
  refine g_iload_n (pc := 0) C 1 dX9_on_0 rfl rfl ?_
  refine g_i2l (pc := 1) C dX9_on_1 ?_
  refine g_lconst (pc := 2) (v := 0) C dX9_on_2 lc_0 ?_
  refine g_ldc2 (pc := 3) (v := 2) C dX9_on_3 tw_1133 ?_
  refine g_callSip (pc := 6) (As := [.long v1.toInt64, .long (0 : Int64), .long (2 : Int64)]) (rest := []) C (M_X9_in C.2.2.1  h) CyX9_in tw_955 tw_956 (by decide) rfl rfl (Nat.le_of_ble_eq_true rfl) dX9_on_6 (fun r6 h => ?_)
  refine g_if_ne (pc := 9) (tgt := 14) C dX9_on_9 (by decide) (fun c_ => ?_) (fun c_ => ?_)
  · replace h := ite_f h c_
    refine g_aload_n (pc := 14) C 0 dX9_on_14 rfl rfl ?_
    refine get_X9_2 (pc := 15) C rfl tw_864 dX9_on_15 ?_
    refine g_iload_n (pc := 18) C 1 dX9_on_18 rfl rfl ?_
    obtain ⟨g_, h⟩ := h
    refine g_iald (pc := 19) C rfl g_ dX9_on_19 ?_
    refine g_if_ge (pc := 20) (tgt := 29) C dX9_on_20 (by decide) (fun c_ => ?_) (fun c_ => ?_)
    · replace h := ite_t h c_
      refine g_aload_n (pc := 29) C 0 dX9_on_29 rfl rfl ?_
      refine g_sipush (pc := 30) (v := 1312) C dX9_on_30 sp_1312 ?_
      refine g_iload_n (pc := 33) C 1 dX9_on_33 rfl rfl ?_
      refine g_iconst (pc := 34) (v := 1) C dX9_on_34 ic_1 ?_
      refine g_iadd (pc := 35) C dX9_on_35 ?_
      refine g_imul (pc := 36) C dX9_on_36 ?_
      refine g_iconst (pc := 37) (v := 0) C dX9_on_37 ic_0 ?_
      refine g_sipush (pc := 38) (v := 1312) C dX9_on_38 sp_1312 ?_
      refine g_callVv (pc := 41) (As := [.int (1312 * (v1 + 1)), .int 0, .int 1312]) (rest := []) C rfl rfl rfl rfl (M_X9_copyAll C.2.2.1  h) CyX9_copyAll tw_1037 tw_1039 ts_33 (by decide) rfl rfl (Nat.le_of_ble_eq_true rfl) dX9_on_41 (fun t41 h => ?_)
      refine g_aload_n (pc := 44) C 0 dX9_on_44 rfl rfl ?_
      refine g_aload_n (pc := 45) C 0 dX9_on_45 rfl rfl ?_
      refine get_X9_2 (pc := 46) C rfl tw_864 dX9_on_46 ?_
      refine g_iload_n (pc := 49) C 1 dX9_on_49 rfl rfl ?_
      obtain ⟨g_, h⟩ := h
      refine g_iald (pc := 50) C rfl g_ dX9_on_50 ?_
      refine put_X9_1 (pc := 51) C rfl tw_863 dX9_on_51 ?_
      refine g_aload_n (pc := 54) C 0 dX9_on_54 rfl rfl ?_
      refine get_X9_1 (pc := 55) C rfl tw_863 dX9_on_55 ?_
      exact g_iret (pc := 58) C dX9_on_58 ⟨_, rfl, h⟩
    · replace h := ite_f h c_
      refine g_aload_n (pc := 23) C 0 dX9_on_23 rfl rfl ?_
      refine g_iconst (pc := 24) (v := 1) C dX9_on_24 ic_1 ?_
      refine g_callVi (pc := 25) (As := [.int 1]) (rest := []) C rfl rfl rfl rfl (M_X9_found C.2.2.1  h) CyX9_found tw_958 tw_960 ts_25 (by decide) rfl rfl (Nat.le_of_ble_eq_true rfl) dX9_on_25 (fun r25 t25 h => ?_)
      exact g_iret (pc := 28) C dX9_on_28 ⟨_, rfl, h⟩
  · replace h := ite_t h c_
    refine g_iconst (pc := 12) (v := -1) C dX9_on_12 ic_m1 ?_
    exact g_iret (pc := 13) C dX9_on_13 ⟨_, rfl, h⟩
set_option maxHeartbeats 4000000 in
set_option maxRecDepth 100000 in
theorem k_X9_orders_109 {v1 : Int32} {σ : St} {K : Int32 → St → Prop} {Φ41 : Int32 → Int32 → St → Prop} (C : Cx p R s m args meth c shM G cX9_orders 5 5 RX9 (some .int) 0 0) (hΦ41 : ∀ (v1' : Int32) (v2' : Int32) (σ' : St), Φ41 v1' v2' σ' → Go p l e R s m args below meth c shM G 5 0 0 (MQ below (Qw shM G (RI K)) args s 0 0 (Fr shM G)) 41 [(0, .ref (G.2.2 0)), (1, .int (v1')), (2, .int (v2'))] [] σ') (h : J_X9_orders_109 v1 σ K Φ41) : Go p l e R s m args below meth c shM G 5 0 0 (MQ below (Qw shM G (RI K)) args s 0 0 (Fr shM G)) 109 [(0, .ref (G.2.2 0)), (1, .int v1)] [] σ := by
  unfold J_X9_orders_109 at h
  refine g_aload_n (pc := 109) C 0 dX9_orders_109 rfl rfl ?_
  refine g_callVi (pc := 110) (As := []) (rest := []) C rfl rfl rfl rfl (M_X9_isNext C.2.2.1  h) CyX9_isNext tw_1214 tw_1216 ts_52 (by decide) rfl rfl (Nat.le_of_ble_eq_true rfl) dX9_orders_110 (fun r110 t110 h => ?_)
  refine g_istore_n (pc := 113) (lv2 := [(2, .int r110), (0, .ref (G.2.2 0)), (1, .int v1)]) C dX9_orders_113 rfl (by decide) rfl ?_
  refine g_goto (pc := 114) (tgt := 41) C dX9_orders_114 (by decide) ?_
  refine g_lv [1, 2, 0] (lv2 := [(0, .ref (G.2.2 0)), (1, .int v1), (2, .int r110)]) rfl ?_
  exact hΦ41 _ _ _ h
set_option maxHeartbeats 4000000 in
set_option maxRecDepth 100000 in
theorem k_X9_orders_100 {v3 : Int32} {w0 : Int32} {w1 : Int32} {σ : St} {K : Int32 → St → Prop} {Φ41 : Int32 → Int32 → St → Prop} (C : Cx p R s m args meth c shM G cX9_orders 5 5 RX9 (some .int) 0 0) (hΦ41 : ∀ (v1' : Int32) (v2' : Int32) (σ' : St), Φ41 v1' v2' σ' → Go p l e R s m args below meth c shM G 5 0 0 (MQ below (Qw shM G (RI K)) args s 0 0 (Fr shM G)) 41 [(0, .ref (G.2.2 0)), (1, .int (v1')), (2, .int (v2'))] [] σ') (h : J_X9_orders_100 v3 w0 w1 σ K Φ41) : Go p l e R s m args below meth c shM G 5 0 0 (MQ below (Qw shM G (RI K)) args s 0 0 (Fr shM G)) 100 [(0, .ref (G.2.2 0)), (3, .int v3)] [.int w1, .int w0] σ := by
  unfold J_X9_orders_100 at h
  refine g_iadd (pc := 100) C dX9_orders_100 ?_
  refine g_istore_n (pc := 101) (lv2 := [(1, .int (w0 + w1)), (0, .ref (G.2.2 0)), (3, .int v3)]) C dX9_orders_101 rfl (by decide) rfl ?_
  refine g_aload_n (pc := 102) C 1 dX9_orders_102 rfl rfl ?_
  refine get_X9_23 (pc := 103) C rfl tw_885 dX9_orders_103 ?_
  refine g_iload_n (pc := 106) C 2 dX9_orders_106 rfl rfl ?_
  refine g_iconst (pc := 107) (v := 1) C dX9_orders_107 ic_1 ?_
  obtain ⟨g_, h⟩ := h
  refine g_zast (pc := 108) C rfl g_ dX9_orders_108 ?_
  refine g_lv [1, 0] (lv2 := [(0, .ref (G.2.2 0)), (1, .int (w0 + w1))]) rfl ?_
  exact k_X9_orders_109 C hΦ41 h
set_option maxHeartbeats 4000000 in
set_option maxRecDepth 100000 in
theorem k_X9_orders_57 {v1 : Int32} {v3 : Int32} {v4 : Int32} {σ : St} {K : Int32 → St → Prop} {Φ41 : Int32 → Int32 → St → Prop} (C : Cx p R s m args meth c shM G cX9_orders 5 5 RX9 (some .int) 0 0) (hΦ41 : ∀ (v1' : Int32) (v2' : Int32) (σ' : St), Φ41 v1' v2' σ' → Go p l e R s m args below meth c shM G 5 0 0 (MQ below (Qw shM G (RI K)) args s 0 0 (Fr shM G)) 41 [(0, .ref (G.2.2 0)), (1, .int (v1')), (2, .int (v2'))] [] σ') (h : L_X9_orders_57 v1 σ K Φ41 v3 v4) : Go p l e R s m args below meth c shM G 5 0 0 (MQ below (Qw shM G (RI K)) args s 0 0 (Fr shM G)) 57 [(0, .ref (G.2.2 0)), (1, .int v1), (3, .int v3), (4, .int v4)] [] σ := by
  obtain ⟨n_, h⟩ := h
  induction n_ generalizing v3 v4 with
  | zero => exact h.elim
  | succ n_ ih =>
    replace h : B_X9_orders_57 v1 σ K Φ41 (it2 (B_X9_orders_57 v1 σ K Φ41) n_) v3 v4 := h
    unfold B_X9_orders_57 at h
    refine g_iload (pc := 57) C 3 dX9_orders_57 rfl ?_
    refine g_aload_n (pc := 59) C 0 dX9_orders_59 rfl rfl ?_
    refine get_X9_18 (pc := 60) C rfl tw_880 dX9_orders_60 ?_
    refine g_icmp_ge (pc := 63) (tgt := 85) C dX9_orders_63 (by decide) (fun c_ => ?_) (fun c_ => ?_)
    · replace h := ite_t h c_
      refine g_iload_n (pc := 85) C 1 dX9_orders_85 rfl rfl ?_
      refine g_aload_n (pc := 86) C 0 dX9_orders_86 rfl rfl ?_
      refine get_X9_23 (pc := 87) C rfl tw_885 dX9_orders_87 ?_
      refine g_iload_n (pc := 90) C 2 dX9_orders_90 rfl rfl ?_
      obtain ⟨g_, h⟩ := h
      refine g_zald (pc := 91) C rfl g_ dX9_orders_91 ?_
      refine g_if_eq (pc := 92) (tgt := 99) C dX9_orders_92 (by decide) (fun c_ => ?_) (fun c_ => ?_)
      · replace h := ite_t h c_
        refine g_iconst (pc := 99) (v := 1) C dX9_orders_99 ic_1 ?_
        refine g_lv [0, 2] (lv2 := [(0, .ref (G.2.2 0)), (3, .int v3)]) rfl ?_
        exact k_X9_orders_100 C hΦ41 h
      · replace h := ite_f h c_
        refine g_iconst (pc := 95) (v := 0) C dX9_orders_95 ic_0 ?_
        refine g_goto (pc := 96) (tgt := 100) C dX9_orders_96 (by decide) ?_
        refine g_lv [0, 2] (lv2 := [(0, .ref (G.2.2 0)), (3, .int v3)]) rfl ?_
        exact k_X9_orders_100 C hΦ41 h
    · replace h := ite_f h c_
      refine g_bipush (pc := 66) (v := 6) C dX9_orders_66 bp_6 ?_
      refine g_iload_n (pc := 68) C 2 dX9_orders_68 rfl rfl ?_
      refine g_imul (pc := 69) C dX9_orders_69 ?_
      refine g_aload_n (pc := 70) C 0 dX9_orders_70 rfl rfl ?_
      refine get_X9_16 (pc := 71) C rfl tw_878 dX9_orders_71 ?_
      refine g_iload (pc := 74) C 3 dX9_orders_74 rfl ?_
      obtain ⟨g_, h⟩ := h
      refine g_iald (pc := 76) C rfl g_ dX9_orders_76 ?_
      refine g_iadd (pc := 77) C dX9_orders_77 ?_
      refine g_istore_n (pc := 78) (lv2 := [(3, .int ((6 * v3) + (σ.1 11 v4.toNatClampNeg))), (0, .ref (G.2.2 0)), (1, .int v1), (4, .int v4)]) C dX9_orders_78 rfl (by decide) rfl ?_
      refine g_iinc (pc := 79) (lv2 := [(4, .int (v4 + 1)), (3, .int ((6 * v3) + (σ.1 11 v4.toNatClampNeg))), (0, .ref (G.2.2 0)), (1, .int v1)]) C 3 dX9_orders_79 ic_1 rfl (by decide) rfl ?_
      refine g_goto (pc := 82) (tgt := 57) C dX9_orders_82 (by decide) ?_
      refine g_lv [2, 3, 1, 0] (lv2 := [(0, .ref (G.2.2 0)), (1, .int v1), (3, .int ((6 * v3) + (σ.1 11 v4.toNatClampNeg))), (4, .int (v4 + 1))]) rfl ?_
      exact ih h
set_option maxHeartbeats 4000000 in
set_option maxRecDepth 100000 in
theorem k_X9_orders_41 {v1 : Int32} {v2 : Int32} {σ : St} {K : Int32 → St → Prop} (C : Cx p R s m args meth c shM G cX9_orders 5 5 RX9 (some .int) 0 0) (h : L_X9_orders_41 K v1 v2 σ) : Go p l e R s m args below meth c shM G 5 0 0 (MQ below (Qw shM G (RI K)) args s 0 0 (Fr shM G)) 41 [(0, .ref (G.2.2 0)), (1, .int v1), (2, .int v2)] [] σ := by
  obtain ⟨n_, h⟩ := h
  induction n_ generalizing v1 v2 σ with
  | zero => exact h.elim
  | succ n_ ih =>
    replace h : B_X9_orders_41 K (it3 (B_X9_orders_41 K) n_) v1 v2 σ := h
    unfold B_X9_orders_41 at h
    refine g_iload_n (pc := 41) C 2 dX9_orders_41 rfl rfl ?_
    refine g_if_eq (pc := 42) (tgt := 117) C dX9_orders_42 (by decide) (fun c_ => ?_) (fun c_ => ?_)
    · replace h := ite_t h c_
      refine g_iload_n (pc := 117) C 1 dX9_orders_117 rfl rfl ?_
      exact g_iret (pc := 118) C dX9_orders_118 ⟨_, rfl, h⟩
    · replace h := ite_f h c_
      refine g_aload_n (pc := 45) C 0 dX9_orders_45 rfl rfl ?_
      refine g_callVi (pc := 46) (As := []) (rest := []) C rfl rfl rfl rfl (M_X9_isAll C.2.2.1  h) CyX9_isAll tw_1202 tw_1204 ts_49 (by decide) rfl rfl (Nat.le_of_ble_eq_true rfl) dX9_orders_46 (fun r46 t46 h => ?_)
      refine g_if_eq (pc := 49) (tgt := 109) C dX9_orders_49 (by decide) (fun c_ => ?_) (fun c_ => ?_)
      · replace h := ite_t h c_
        refine g_lv [0, 1] (lv2 := [(0, .ref (G.2.2 0)), (1, .int v1)]) rfl ?_
        exact k_X9_orders_109 C (fun _ _ _ h_ => ih h_) h
      · replace h := ite_f h c_
        refine g_iconst (pc := 52) (v := 0) C dX9_orders_52 ic_0 ?_
        refine g_istore_n (pc := 53) (lv2 := [(3, .int 0), (0, .ref (G.2.2 0)), (1, .int v1), (2, .int v2)]) C dX9_orders_53 rfl (by decide) rfl ?_
        refine g_iconst (pc := 54) (v := 0) C dX9_orders_54 ic_0 ?_
        refine g_istore (pc := 55) (lv2 := [(4, .int 0), (3, .int 0), (0, .ref (G.2.2 0)), (1, .int v1), (2, .int v2)]) C dX9_orders_55 (by decide) rfl ?_
        refine g_lv [2, 3, 1, 0] (lv2 := [(0, .ref (G.2.2 0)), (1, .int v1), (3, .int 0), (4, .int 0)]) rfl ?_
        exact k_X9_orders_57 C (fun _ _ _ h_ => ih h_) h
set_option maxHeartbeats 4000000 in
set_option maxRecDepth 100000 in
theorem k_X9_orders_14 {v1 : Int32} {σ : St} {K : Int32 → St → Prop} (C : Cx p R s m args meth c shM G cX9_orders 5 5 RX9 (some .int) 0 0) (h : L_X9_orders_14 K v1 σ) : Go p l e R s m args below meth c shM G 5 0 0 (MQ below (Qw shM G (RI K)) args s 0 0 (Fr shM G)) 14 [(0, .ref (G.2.2 0)), (1, .int v1)] [] σ := by
  obtain ⟨n_, h⟩ := h
  induction n_ generalizing v1 σ with
  | zero => exact h.elim
  | succ n_ ih =>
    replace h : B_X9_orders_14 K (it2 (B_X9_orders_14 K) n_) v1 σ := h
    unfold B_X9_orders_14 at h
    refine g_iload_n (pc := 14) C 1 dX9_orders_14 rfl rfl ?_
    refine g_ldc (pc := 15) (v := 46656) C dX9_orders_15 tw_861 ?_
    refine g_icmp_ge (pc := 17) (tgt := 33) C dX9_orders_17 (by decide) (fun c_ => ?_) (fun c_ => ?_)
    · replace h := ite_t h c_
      refine g_iconst (pc := 33) (v := 0) C dX9_orders_33 ic_0 ?_
      refine g_istore_n (pc := 34) (lv2 := [(1, .int 0), (0, .ref (G.2.2 0))]) C dX9_orders_34 rfl (by decide) rfl ?_
      refine g_aload_n (pc := 35) C 1 dX9_orders_35 rfl rfl ?_
      refine g_callVv (pc := 36) (As := []) (rest := []) C rfl rfl rfl rfl (M_X9_begins C.2.2.1  h) CyX9_begins tw_1198 tw_1200 ts_48 (by decide) rfl rfl (Nat.le_of_ble_eq_true rfl) dX9_orders_36 (fun t36 h => ?_)
      refine g_iconst (pc := 39) (v := 1) C dX9_orders_39 ic_1 ?_
      refine g_istore_n (pc := 40) (lv2 := [(2, .int 1), (1, .int 0), (0, .ref (G.2.2 0))]) C dX9_orders_40 rfl (by decide) rfl ?_
      refine g_lv [2, 1, 0] (lv2 := [(0, .ref (G.2.2 0)), (1, .int 0), (2, .int 1)]) rfl ?_
      exact k_X9_orders_41 C  h
    · replace h := ite_f h c_
      refine g_aload_n (pc := 20) C 0 dX9_orders_20 rfl rfl ?_
      refine get_X9_23 (pc := 21) C rfl tw_885 dX9_orders_21 ?_
      refine g_iload_n (pc := 24) C 1 dX9_orders_24 rfl rfl ?_
      refine g_iconst (pc := 25) (v := 0) C dX9_orders_25 ic_0 ?_
      obtain ⟨g_, h⟩ := h
      refine g_zast (pc := 26) C rfl g_ dX9_orders_26 ?_
      refine g_iinc (pc := 27) (lv2 := [(1, .int (v1 + 1)), (0, .ref (G.2.2 0))]) C 1 dX9_orders_27 ic_1 rfl (by decide) rfl ?_
      refine g_goto (pc := 30) (tgt := 14) C dX9_orders_30 (by decide) ?_
      refine g_lv [1, 0] (lv2 := [(0, .ref (G.2.2 0)), (1, .int (v1 + 1))]) rfl ?_
      exact ih h
set_option maxHeartbeats 4000000 in
set_option maxRecDepth 100000 in
theorem M_X9_orders {l : Launch} {G : Gp} (hD : Dj shM G) {σ : St} {K : Int32 → St → Prop} (h : wp_X9_orders σ K) : MC l shM G yX9_orders cX9_orders 5 (some .int) 5 [.ref (G.2.2 0)] σ (RI K) := by
  unfold wp_X9_orders at h
  refine MC.of (by decide) hD (Nat.le_of_ble_eq_true rfl) ?_
  intro p e s m args below meth c C
  replace C : Cx p (rmD 5) s m args meth c shM G cX9_orders 5 5 RX9 (some .int) 0 0 := C
  show Go p l e (rmD 5) s m args below meth c shM G 5 0 0 (MQ below (Qw shM G (RI K)) args s 0 0 (Fr shM G)) 0 [(0, .ref (G.2.2 0))] [] σ
  refine g_aload_n (pc := 0) C 0 dX9_orders_0 rfl rfl ?_
  refine get_X9_0 (pc := 1) C rfl tw_862 dX9_orders_1 ?_
  refine g_iconst (pc := 4) (v := 0) C dX9_orders_4 ic_0 ?_
  obtain ⟨g_, h⟩ := h
  refine g_iald (pc := 5) C rfl g_ dX9_orders_5 ?_
  refine g_if_ne (pc := 6) (tgt := 12) C dX9_orders_6 (by decide) (fun c_ => ?_) (fun c_ => ?_)
  · replace h := ite_f h c_
    refine g_iconst (pc := 12) (v := 0) C dX9_orders_12 ic_0 ?_
    refine g_istore_n (pc := 13) (lv2 := [(1, .int 0), (0, .ref (G.2.2 0))]) C dX9_orders_13 rfl (by decide) rfl ?_
    refine g_lv [1, 0] (lv2 := [(0, .ref (G.2.2 0)), (1, .int 0)]) rfl ?_
    exact k_X9_orders_14 C  h
  · replace h := ite_t h c_
    refine g_bipush (pc := 9) (v := -4) C dX9_orders_9 bp_m4 ?_
    exact g_iret (pc := 11) C dX9_orders_11 ⟨_, rfl, h⟩
set_option maxHeartbeats 4000000 in
set_option maxRecDepth 100000 in
theorem M_X9_put {l : Launch} {G : Gp} (hD : Dj shM G) {v1 : Int32} {v2 : Int32} {v3 : Int32} {σ : St} {K : Int32 → St → Prop} (h : wp_X9_put v1 v2 v3 σ K) : MC l shM G yX9_put cX9_put 5 (some .int) 3 [.ref (G.2.2 0), .int v1, .int v2, .int v3] σ (RI K) := by
  unfold wp_X9_put at h
  refine MC.of (by decide) hD (Nat.le_of_ble_eq_true rfl) ?_
  intro p e s m args below meth c C
  replace C : Cx p (rmD 3) s m args meth c shM G cX9_put 5 3 RX9 (some .int) 0 0 := C
  show Go p l e (rmD 3) s m args below meth c shM G 5 0 0 (MQ below (Qw shM G (RI K)) args s 0 0 (Fr shM G)) 0 [(0, .ref (G.2.2 0)), (1, .int v1), (2, .int v2), (3, .int v3)] [] σ
  refine g_iload_n (pc := 0) C 1 dX9_put_0 rfl rfl ?_
  refine g_callSip (pc := 1) (As := [.int v1]) (rest := []) C (M_X9_isText C.2.2.1  h) CyX9_isText tw_998 tw_999 (by decide) rfl rfl (Nat.le_of_ble_eq_true rfl) dX9_put_1 (fun r1 h => ?_)
  refine g_if_ne (pc := 4) (tgt := 9) C dX9_put_4 (by decide) (fun c_ => ?_) (fun c_ => ?_)
  · replace h := ite_f h c_
    refine g_aload_n (pc := 9) C 0 dX9_put_9 rfl rfl ?_
    refine get_X9_6 (pc := 10) C rfl tw_868 dX9_put_10 ?_
    refine g_iload_n (pc := 13) C 1 dX9_put_13 rfl rfl ?_
    obtain ⟨g_, h⟩ := h
    refine g_iald (pc := 14) C rfl g_ dX9_put_14 ?_
    refine g_if_ge (pc := 15) (tgt := 24) C dX9_put_15 (by decide) (fun c_ => ?_) (fun c_ => ?_)
    · replace h := ite_t h c_
      refine g_iload_n (pc := 24) C 2 dX9_put_24 rfl rfl ?_
      refine g_i2l (pc := 25) C dX9_put_25 ?_
      refine g_lconst (pc := 26) (v := 0) C dX9_put_26 lc_0 ?_
      refine g_aload_n (pc := 27) C 0 dX9_put_27 rfl rfl ?_
      refine get_X9_6 (pc := 28) C rfl tw_868 dX9_put_28 ?_
      refine g_iload_n (pc := 31) C 1 dX9_put_31 rfl rfl ?_
      obtain ⟨g_, h⟩ := h
      refine g_iald (pc := 32) C rfl g_ dX9_put_32 ?_
      refine g_iconst (pc := 33) (v := 1) C dX9_put_33 ic_1 ?_
      refine g_isub (pc := 34) C dX9_put_34 ?_
      refine g_i2l (pc := 35) C dX9_put_35 ?_
      refine g_callSip (pc := 36) (As := [.long v2.toInt64, .long (0 : Int64), .long (((σ.1 6 v1.toNatClampNeg) - 1).toInt64)]) (rest := []) C (M_X9_in C.2.2.1  h) CyX9_in tw_955 tw_956 (by decide) rfl rfl (Nat.le_of_ble_eq_true rfl) dX9_put_36 (fun r36 h => ?_)
      refine g_if_ne (pc := 39) (tgt := 48) C dX9_put_39 (by decide) (fun c_ => ?_) (fun c_ => ?_)
      · replace h := ite_f h c_
        refine g_aload_n (pc := 48) C 0 dX9_put_48 rfl rfl ?_
        refine get_X9_5 (pc := 49) C rfl tw_867 dX9_put_49 ?_
        refine g_bipush (pc := 52) (v := 60) C dX9_put_52 bp_60 ?_
        refine g_iload_n (pc := 54) C 1 dX9_put_54 rfl rfl ?_
        refine g_imul (pc := 55) C dX9_put_55 ?_
        refine g_iload_n (pc := 56) C 2 dX9_put_56 rfl rfl ?_
        refine g_iadd (pc := 57) C dX9_put_57 ?_
        obtain ⟨g_, h⟩ := h
        refine g_iald (pc := 58) C rfl g_ dX9_put_58 ?_
        refine g_istore (pc := 59) (lv2 := [(4, .int (σ.1 5 ((60 * v1) + v2).toNatClampNeg)), (0, .ref (G.2.2 0)), (1, .int v1), (2, .int v2), (3, .int v3)]) C dX9_put_59 (by decide) rfl ?_
        refine g_aload_n (pc := 61) C 1 dX9_put_61 rfl rfl ?_
        refine get_X9_5 (pc := 62) C rfl tw_867 dX9_put_62 ?_
        refine g_bipush (pc := 65) (v := 60) C dX9_put_65 bp_60 ?_
        refine g_iload_n (pc := 67) C 2 dX9_put_67 rfl rfl ?_
        refine g_imul (pc := 68) C dX9_put_68 ?_
        refine g_iload_n (pc := 69) C 3 dX9_put_69 rfl rfl ?_
        refine g_iadd (pc := 70) C dX9_put_70 ?_
        refine g_iload_n (pc := 71) C 4 dX9_put_71 rfl rfl ?_
        refine g_i2b (pc := 72) C dX9_put_72 ?_
        obtain ⟨g_, h⟩ := h
        refine g_iast (pc := 73) C rfl g_ dX9_put_73 ?_
        refine g_iload (pc := 74) C 0 dX9_put_74 rfl ?_
        refine g_sipush (pc := 76) (v := 1000) C dX9_put_76 sp_1000 ?_
        refine g_iadd (pc := 79) C dX9_put_79 ?_
        exact g_iret (pc := 80) C dX9_put_80 ⟨_, rfl, h⟩
      · replace h := ite_t h c_
        refine g_aload_n (pc := 42) C 0 dX9_put_42 rfl rfl ?_
        refine g_iconst (pc := 43) (v := 2) C dX9_put_43 ic_2 ?_
        refine g_callVi (pc := 44) (As := [.int 2]) (rest := []) C rfl rfl rfl rfl (M_X9_found C.2.2.1  h) CyX9_found tw_958 tw_960 ts_25 (by decide) rfl rfl (Nat.le_of_ble_eq_true rfl) dX9_put_44 (fun r44 t44 h => ?_)
        exact g_iret (pc := 47) C dX9_put_47 ⟨_, rfl, h⟩
    · replace h := ite_f h c_
      refine g_aload_n (pc := 18) C 0 dX9_put_18 rfl rfl ?_
      refine g_iconst (pc := 19) (v := 1) C dX9_put_19 ic_1 ?_
      refine g_callVi (pc := 20) (As := [.int 1]) (rest := []) C rfl rfl rfl rfl (M_X9_found C.2.2.1  h) CyX9_found tw_958 tw_960 ts_25 (by decide) rfl rfl (Nat.le_of_ble_eq_true rfl) dX9_put_20 (fun r20 t20 h => ?_)
      exact g_iret (pc := 23) C dX9_put_23 ⟨_, rfl, h⟩
  · replace h := ite_t h c_
    refine g_iconst (pc := 7) (v := -1) C dX9_put_7 ic_m1 ?_
    exact g_iret (pc := 8) C dX9_put_8 ⟨_, rfl, h⟩
set_option maxHeartbeats 4000000 in
set_option maxRecDepth 100000 in
theorem k_X9_raise_15 {σ : St} {K : Int32 → St → Prop} (C : Cx p R s m args meth c shM G cX9_raise 9 4 RX9 (some .int) 0 0) (h : J_X9_raise_15 σ K) : Go p l e R s m args below meth c shM G 9 0 0 (MQ below (Qw shM G (RI K)) args s 0 0 (Fr shM G)) 15 [] [] σ := by
  unfold J_X9_raise_15 at h
  refine g_iconst (pc := 15) (v := -1) C dX9_raise_15 ic_m1 ?_
  exact g_iret (pc := 16) C dX9_raise_16 ⟨_, rfl, h⟩
set_option maxHeartbeats 4000000 in
set_option maxRecDepth 100000 in
theorem k_X9_raise_151 {v2 : Int32} {v3 : Int32} {v4 : Int32} {v5 : Int32} {v6 : Int32} {v7 : Int32} {σ : St} {K : Int32 → St → Prop} {Φ105 : Int32 → Int32 → St → Prop} {Φ124 : Int32 → Int32 → Prop} (C : Cx p R s m args meth c shM G cX9_raise 9 4 RX9 (some .int) 0 0) (hΦ105 : ∀ (v4' : Int32) (v6' : Int32) (σ' : St), Φ105 v4' v6' σ' → Go p l e R s m args below meth c shM G 9 0 0 (MQ below (Qw shM G (RI K)) args s 0 0 (Fr shM G)) 105 [(0, .ref (G.2.2 0)), (2, .int v2), (3, .int v3), (4, .int (v4')), (5, .int v5), (6, .int (v6'))] [] σ') (hΦ124 : ∀ (v7' : Int32) (v8' : Int32), Φ124 v7' v8' → Go p l e R s m args below meth c shM G 9 0 0 (MQ below (Qw shM G (RI K)) args s 0 0 (Fr shM G)) 124 [(0, .ref (G.2.2 0)), (2, .int v2), (3, .int v3), (4, .int v4), (5, .int v5), (6, .int v6), (7, .int (v7')), (8, .int (v8'))] [] σ) (h : J_X9_raise_151 v2 v3 v4 v5 v6 v7 σ K Φ105 Φ124) : Go p l e R s m args below meth c shM G 9 0 0 (MQ below (Qw shM G (RI K)) args s 0 0 (Fr shM G)) 151 [(0, .ref (G.2.2 0)), (2, .int v2), (3, .int v3), (4, .int v4), (5, .int v5), (6, .int v6), (7, .int v7)] [] σ := by
  unfold J_X9_raise_151 at h
  refine g_iinc (pc := 151) (lv2 := [(7, .int (v7 + 1)), (0, .ref (G.2.2 0)), (2, .int v2), (3, .int v3), (4, .int v4), (5, .int v5), (6, .int v6)]) C 6 dX9_raise_151 ic_1 rfl (by decide) rfl ?_
  refine g_iload_n (pc := 154) C 3 dX9_raise_154 rfl rfl ?_
  refine g_iload (pc := 155) C 4 dX9_raise_155 rfl ?_
  refine g_iload (pc := 157) C 0 dX9_raise_157 rfl ?_
  refine g_callSip (pc := 159) (As := [.int v3, .int v4, .int (v7 + 1)]) (rest := []) C (M_X9_after C.2.2.1  h) CyX9_after tw_1061 tw_1062 (by decide) rfl rfl (Nat.le_of_ble_eq_true rfl) dX9_raise_159 (fun r159 h => ?_)
  refine g_istore (pc := 162) (lv2 := [(8, .int r159), (7, .int (v7 + 1)), (0, .ref (G.2.2 0)), (2, .int v2), (3, .int v3), (4, .int v4), (5, .int v5), (6, .int v6)]) C dX9_raise_162 (by decide) rfl ?_
  refine g_goto (pc := 164) (tgt := 124) C dX9_raise_164 (by decide) ?_
  refine g_lv [2, 3, 4, 5, 6, 7, 1, 0] (lv2 := [(0, .ref (G.2.2 0)), (2, .int v2), (3, .int v3), (4, .int v4), (5, .int v5), (6, .int v6), (7, .int (v7 + 1)), (8, .int r159)]) rfl ?_
  exact hΦ124 _ _ h
set_option maxHeartbeats 4000000 in
set_option maxRecDepth 100000 in
theorem k_X9_raise_124 {v2 : Int32} {v3 : Int32} {v4 : Int32} {v5 : Int32} {v6 : Int32} {v7 : Int32} {v8 : Int32} {σ : St} {K : Int32 → St → Prop} {Φ105 : Int32 → Int32 → St → Prop} (C : Cx p R s m args meth c shM G cX9_raise 9 4 RX9 (some .int) 0 0) (hΦ105 : ∀ (v4' : Int32) (v6' : Int32) (σ' : St), Φ105 v4' v6' σ' → Go p l e R s m args below meth c shM G 9 0 0 (MQ below (Qw shM G (RI K)) args s 0 0 (Fr shM G)) 105 [(0, .ref (G.2.2 0)), (2, .int v2), (3, .int v3), (4, .int (v4')), (5, .int v5), (6, .int (v6'))] [] σ') (h : L_X9_raise_124 v2 v3 v4 v5 v6 σ K Φ105 v7 v8) : Go p l e R s m args below meth c shM G 9 0 0 (MQ below (Qw shM G (RI K)) args s 0 0 (Fr shM G)) 124 [(0, .ref (G.2.2 0)), (2, .int v2), (3, .int v3), (4, .int v4), (5, .int v5), (6, .int v6), (7, .int v7), (8, .int v8)] [] σ := by
  obtain ⟨n_, h⟩ := h
  induction n_ generalizing v7 v8 with
  | zero => exact h.elim
  | succ n_ ih =>
    replace h : B_X9_raise_124 v2 v3 v4 v5 v6 σ K Φ105 (it2 (B_X9_raise_124 v2 v3 v4 v5 v6 σ K Φ105) n_) v7 v8 := h
    unfold B_X9_raise_124 at h
    refine g_iload (pc := 124) C 7 dX9_raise_124 rfl ?_
    refine g_iconst (pc := 126) (v := -1) C dX9_raise_126 ic_m1 ?_
    refine g_icmp_eq (pc := 127) (tgt := 151) C dX9_raise_127 (by decide) (fun c_ => ?_) (fun c_ => ?_)
    · replace h := ite_t h c_
      refine g_lv [0, 1, 2, 3, 4, 5, 6] (lv2 := [(0, .ref (G.2.2 0)), (2, .int v2), (3, .int v3), (4, .int v4), (5, .int v5), (6, .int v6), (7, .int v7)]) rfl ?_
      exact k_X9_raise_151 C hΦ105 (fun _ _ h_ => ih h_) h
    · replace h := ite_f h c_
      refine g_aload_n (pc := 130) C 0 dX9_raise_130 rfl rfl ?_
      refine get_X9_19 (pc := 131) C rfl tw_881 dX9_raise_131 ?_
      refine g_bipush (pc := 134) (v := 21) C dX9_raise_134 bp_21 ?_
      refine g_iload (pc := 136) C 4 dX9_raise_136 rfl ?_
      refine g_iload (pc := 138) C 5 dX9_raise_138 rfl ?_
      refine g_isub (pc := 140) C dX9_raise_140 ?_
      refine g_iconst (pc := 141) (v := 1) C dX9_raise_141 ic_1 ?_
      refine g_isub (pc := 142) C dX9_raise_142 ?_
      refine g_imul (pc := 143) C dX9_raise_143 ?_
      refine g_iload (pc := 144) C 7 dX9_raise_144 rfl ?_
      refine g_iadd (pc := 146) C dX9_raise_146 ?_
      obtain ⟨g_, h⟩ := h
      refine g_zald (pc := 147) C rfl g_ dX9_raise_147 ?_
      refine g_if_ne (pc := 148) (tgt := 167) C dX9_raise_148 (by decide) (fun c_ => ?_) (fun c_ => ?_)
      · replace h := ite_f h c_
        refine g_aload_n (pc := 167) C 0 dX9_raise_167 rfl rfl ?_
        refine get_X9_3 (pc := 168) C rfl tw_865 dX9_raise_168 ?_
        refine g_bipush (pc := 171) (v := 40) C dX9_raise_171 bp_40 ?_
        refine g_iload_n (pc := 173) C 1 dX9_raise_173 rfl rfl ?_
        refine g_imul (pc := 174) C dX9_raise_174 ?_
        refine g_iload (pc := 175) C 5 dX9_raise_175 rfl ?_
        refine g_iadd (pc := 177) C dX9_raise_177 ?_
        refine g_iload (pc := 178) C 6 dX9_raise_178 rfl ?_
        obtain ⟨g_, h⟩ := h
        refine g_iast (pc := 180) C rfl g_ dX9_raise_180 ?_
        refine g_iload (pc := 181) C 7 dX9_raise_181 rfl ?_
        refine g_istore (pc := 183) (lv2 := [(4, .int v8), (0, .ref (G.2.2 0)), (2, .int v2), (3, .int v3), (5, .int v5), (6, .int v6), (7, .int v7), (8, .int v8)]) C dX9_raise_183 (by decide) rfl ?_
        refine g_iinc (pc := 185) (lv2 := [(6, .int (v6 + 1)), (4, .int v8), (0, .ref (G.2.2 0)), (2, .int v2), (3, .int v3), (5, .int v5), (7, .int v7), (8, .int v8)]) C 5 dX9_raise_185 ic_1 rfl (by decide) rfl ?_
        refine g_goto (pc := 188) (tgt := 105) C dX9_raise_188 (by decide) ?_
        refine g_lv [2, 3, 4, 1, 5, 0] (lv2 := [(0, .ref (G.2.2 0)), (2, .int v2), (3, .int v3), (4, .int v8), (5, .int v5), (6, .int (v6 + 1))]) rfl ?_
        exact hΦ105 _ _ _ h
      · replace h := ite_t h c_
        refine g_lv [0, 1, 2, 3, 4, 5, 6] (lv2 := [(0, .ref (G.2.2 0)), (2, .int v2), (3, .int v3), (4, .int v4), (5, .int v5), (6, .int v6), (7, .int v7)]) rfl ?_
        exact k_X9_raise_151 C hΦ105 (fun _ _ h_ => ih h_) h
set_option maxHeartbeats 4000000 in
set_option maxRecDepth 100000 in
theorem k_X9_raise_105 {v2 : Int32} {v3 : Int32} {v4 : Int32} {v5 : Int32} {v6 : Int32} {σ : St} {K : Int32 → St → Prop} (C : Cx p R s m args meth c shM G cX9_raise 9 4 RX9 (some .int) 0 0) (h : L_X9_raise_105 v2 v3 v5 K v4 v6 σ) : Go p l e R s m args below meth c shM G 9 0 0 (MQ below (Qw shM G (RI K)) args s 0 0 (Fr shM G)) 105 [(0, .ref (G.2.2 0)), (2, .int v2), (3, .int v3), (4, .int v4), (5, .int v5), (6, .int v6)] [] σ := by
  obtain ⟨n_, h⟩ := h
  induction n_ generalizing v4 v6 σ with
  | zero => exact h.elim
  | succ n_ ih =>
    replace h : B_X9_raise_105 v2 v3 v5 K (it3 (B_X9_raise_105 v2 v3 v5 K) n_) v4 v6 σ := h
    unfold B_X9_raise_105 at h
    refine g_iload (pc := 105) C 5 dX9_raise_105 rfl ?_
    refine g_iload (pc := 107) C 4 dX9_raise_107 rfl ?_
    refine g_icmp_ge (pc := 109) (tgt := 191) C dX9_raise_109 (by decide) (fun c_ => ?_) (fun c_ => ?_)
    · replace h := ite_t h c_
      refine g_iload (pc := 191) C 4 dX9_raise_191 rfl ?_
      exact g_iret (pc := 193) C dX9_raise_193 ⟨_, rfl, h⟩
    · replace h := ite_f h c_
      refine g_iconst (pc := 112) (v := 0) C dX9_raise_112 ic_0 ?_
      refine g_istore (pc := 113) (lv2 := [(7, .int 0), (0, .ref (G.2.2 0)), (2, .int v2), (3, .int v3), (4, .int v4), (5, .int v5), (6, .int v6)]) C dX9_raise_113 (by decide) rfl ?_
      refine g_iload_n (pc := 115) C 3 dX9_raise_115 rfl rfl ?_
      refine g_iload (pc := 116) C 4 dX9_raise_116 rfl ?_
      refine g_iconst (pc := 118) (v := 0) C dX9_raise_118 ic_0 ?_
      refine g_callSip (pc := 119) (As := [.int v3, .int v4, .int 0]) (rest := []) C (M_X9_after C.2.2.1  h) CyX9_after tw_1061 tw_1062 (by decide) rfl rfl (Nat.le_of_ble_eq_true rfl) dX9_raise_119 (fun r119 h => ?_)
      refine g_istore (pc := 122) (lv2 := [(8, .int r119), (7, .int 0), (0, .ref (G.2.2 0)), (2, .int v2), (3, .int v3), (4, .int v4), (5, .int v5), (6, .int v6)]) C dX9_raise_122 (by decide) rfl ?_
      refine g_lv [2, 3, 4, 5, 6, 7, 1, 0] (lv2 := [(0, .ref (G.2.2 0)), (2, .int v2), (3, .int v3), (4, .int v4), (5, .int v5), (6, .int v6), (7, .int 0), (8, .int r119)]) rfl ?_
      exact k_X9_raise_124 C (fun _ _ _ h_ => ih h_) h
set_option maxHeartbeats 4000000 in
set_option maxRecDepth 100000 in
theorem k_X9_raise_85 {v2 : Int32} {v3 : Int32} {v4 : Int32} {v5 : Int32} {σ : St} {K : Int32 → St → Prop} (C : Cx p R s m args meth c shM G cX9_raise 9 4 RX9 (some .int) 0 0) (h : J_X9_raise_85 v2 v3 v4 v5 σ K) : Go p l e R s m args below meth c shM G 9 0 0 (MQ below (Qw shM G (RI K)) args s 0 0 (Fr shM G)) 85 [(0, .ref (G.2.2 0)), (2, .int v2), (3, .int v3), (4, .int v4), (5, .int v5)] [] σ := by
  unfold J_X9_raise_85 at h
  refine g_iload (pc := 85) C 4 dX9_raise_85 rfl ?_
  refine g_bipush (pc := 87) (v := 30) C dX9_raise_87 bp_30 ?_
  refine g_icmp_le (pc := 89) (tgt := 95) C dX9_raise_89 (by decide) (fun c_ => ?_) (fun c_ => ?_)
  · replace h := ite_t h c_
    refine g_aload_n (pc := 95) C 0 dX9_raise_95 rfl rfl ?_
    refine g_iload_n (pc := 96) C 1 dX9_raise_96 rfl rfl ?_
    refine g_iload (pc := 97) C 4 dX9_raise_97 rfl ?_
    refine g_callVv (pc := 99) (As := [.int v2, .int v5]) (rest := []) C rfl rfl rfl rfl (M_X9_anew C.2.2.1  h) CyX9_anew tw_962 tw_964 ts_26 (by decide) rfl rfl (Nat.le_of_ble_eq_true rfl) dX9_raise_99 (fun t99 h => ?_)
    refine g_iconst (pc := 102) (v := 0) C dX9_raise_102 ic_0 ?_
    refine g_istore (pc := 103) (lv2 := [(6, .int 0), (0, .ref (G.2.2 0)), (2, .int v2), (3, .int v3), (4, .int v4), (5, .int v5)]) C dX9_raise_103 (by decide) rfl ?_
    refine g_lv [1, 2, 3, 4, 5, 0] (lv2 := [(0, .ref (G.2.2 0)), (2, .int v2), (3, .int v3), (4, .int v4), (5, .int v5), (6, .int 0)]) rfl ?_
    exact k_X9_raise_105 C  h
  · replace h := ite_f h c_
    refine g_bipush (pc := 92) (v := -9) C dX9_raise_92 bp_m9 ?_
    exact g_iret (pc := 94) C dX9_raise_94 ⟨_, rfl, h⟩
set_option maxHeartbeats 4000000 in
set_option maxRecDepth 100000 in
theorem k_X9_raise_56 {v2 : Int32} {v3 : Int32} {v4 : Int32} {v5 : Int32} {σ : St} {K : Int32 → St → Prop} (C : Cx p R s m args meth c shM G cX9_raise 9 4 RX9 (some .int) 0 0) (h : L_X9_raise_56 v2 v3 v4 σ K v5) : Go p l e R s m args below meth c shM G 9 0 0 (MQ below (Qw shM G (RI K)) args s 0 0 (Fr shM G)) 56 [(0, .ref (G.2.2 0)), (2, .int v2), (3, .int v3), (4, .int v4), (5, .int v5)] [] σ := by
  obtain ⟨n_, h⟩ := h
  induction n_ generalizing v5 with
  | zero => exact h.elim
  | succ n_ ih =>
    replace h : B_X9_raise_56 v2 v3 v4 σ K (it1 (B_X9_raise_56 v2 v3 v4 σ K) n_) v5 := h
    unfold B_X9_raise_56 at h
    refine g_iload (pc := 56) C 4 dX9_raise_56 rfl ?_
    refine g_bipush (pc := 58) (v := 30) C dX9_raise_58 bp_30 ?_
    refine g_icmp_gt (pc := 60) (tgt := 85) C dX9_raise_60 (by decide) (fun c_ => ?_) (fun c_ => ?_)
    · replace h := ite_t h c_
      refine g_lv [0, 1, 2, 3, 4] (lv2 := [(0, .ref (G.2.2 0)), (2, .int v2), (3, .int v3), (4, .int v4), (5, .int v5)]) rfl ?_
      exact k_X9_raise_85 C  h
    · replace h := ite_f h c_
      refine g_aload_n (pc := 63) C 0 dX9_raise_63 rfl rfl ?_
      refine get_X9_19 (pc := 64) C rfl tw_881 dX9_raise_64 ?_
      refine g_bipush (pc := 67) (v := 21) C dX9_raise_67 bp_21 ?_
      refine g_iload (pc := 69) C 4 dX9_raise_69 rfl ?_
      refine g_imul (pc := 71) C dX9_raise_71 ?_
      refine g_iload (pc := 72) C 3 dX9_raise_72 rfl ?_
      refine g_iadd (pc := 74) C dX9_raise_74 ?_
      obtain ⟨g_, h⟩ := h
      refine g_zald (pc := 75) C rfl g_ dX9_raise_75 ?_
      refine g_if_ne (pc := 76) (tgt := 85) C dX9_raise_76 (by decide) (fun c_ => ?_) (fun c_ => ?_)
      · replace h := ite_f h c_
        refine g_lv [0, 1, 2, 3, 4] (lv2 := [(0, .ref (G.2.2 0)), (2, .int v2), (3, .int v3), (4, .int v4), (5, .int v5)]) rfl ?_
        exact k_X9_raise_85 C  h
      · replace h := ite_t h c_
        refine g_iinc (pc := 79) (lv2 := [(5, .int (v5 + 1)), (0, .ref (G.2.2 0)), (2, .int v2), (3, .int v3), (4, .int v4)]) C 4 dX9_raise_79 ic_1 rfl (by decide) rfl ?_
        refine g_goto (pc := 82) (tgt := 56) C dX9_raise_82 (by decide) ?_
        refine g_lv [1, 2, 3, 4, 0] (lv2 := [(0, .ref (G.2.2 0)), (2, .int v2), (3, .int v3), (4, .int v4), (5, .int (v5 + 1))]) rfl ?_
        exact ih h
set_option maxHeartbeats 4000000 in
set_option maxRecDepth 100000 in
theorem M_X9_raise {l : Launch} {G : Gp} (hD : Dj shM G) {v1 : Int32} {v2 : Int32} {σ : St} {K : Int32 → St → Prop} (h : wp_X9_raise v1 v2 σ K) : MC l shM G yX9_raise cX9_raise 9 (some .int) 4 [.ref (G.2.2 0), .int v1, .int v2] σ (RI K) := by
  unfold wp_X9_raise at h
  refine MC.of (by decide) hD (Nat.le_of_ble_eq_true rfl) ?_
  intro p e s m args below meth c C
  replace C : Cx p (rmD 4) s m args meth c shM G cX9_raise 9 4 RX9 (some .int) 0 0 := C
  show Go p l e (rmD 4) s m args below meth c shM G 9 0 0 (MQ below (Qw shM G (RI K)) args s 0 0 (Fr shM G)) 0 [(0, .ref (G.2.2 0)), (1, .int v1), (2, .int v2)] [] σ
  refine g_aload_n (pc := 0) C 0 dX9_raise_0 rfl rfl ?_
  refine g_iload_n (pc := 1) C 1 dX9_raise_1 rfl rfl ?_
  refine g_callVip (pc := 2) (As := [.int v1]) (rest := []) C rfl rfl rfl rfl (M_X9_isBell C.2.2.1  h) CyX9_isBell tw_1045 tw_1047 ts_34 (by decide) rfl rfl (Nat.le_of_ble_eq_true rfl) dX9_raise_2 (fun r2 h => ?_)
  refine g_if_eq (pc := 5) (tgt := 15) C dX9_raise_5 (by decide) (fun c_ => ?_) (fun c_ => ?_)
  · replace h := ite_t h c_
    refine g_lv [] (lv2 := []) rfl ?_
    exact k_X9_raise_15 C  h
  · replace h := ite_f h c_
    refine g_iload_n (pc := 8) C 2 dX9_raise_8 rfl rfl ?_
    refine g_callSip (pc := 9) (As := [.int v2]) (rest := []) C (M_X9_isRow C.2.2.1  h) CyX9_isRow tw_951 tw_952 (by decide) rfl rfl (Nat.le_of_ble_eq_true rfl) dX9_raise_9 (fun r9 h => ?_)
    refine g_if_ne (pc := 12) (tgt := 17) C dX9_raise_12 (by decide) (fun c_ => ?_) (fun c_ => ?_)
    · replace h := ite_f h c_
      refine g_aload_n (pc := 17) C 0 dX9_raise_17 rfl rfl ?_
      refine g_iload_n (pc := 18) C 1 dX9_raise_18 rfl rfl ?_
      refine g_callVip (pc := 19) (As := [.int v1]) (rest := []) C rfl rfl rfl rfl (M_X9_isOver C.2.2.1  h) CyX9_isOver tw_1089 tw_1091 ts_38 (by decide) rfl rfl (Nat.le_of_ble_eq_true rfl) dX9_raise_19 (fun r19 h => ?_)
      refine g_if_eq (pc := 22) (tgt := 28) C dX9_raise_22 (by decide) (fun c_ => ?_) (fun c_ => ?_)
      · replace h := ite_t h c_
        refine g_aload_n (pc := 28) C 0 dX9_raise_28 rfl rfl ?_
        refine get_X9_0 (pc := 29) C rfl tw_862 dX9_raise_29 ?_
        refine g_iconst (pc := 32) (v := 2) C dX9_raise_32 ic_2 ?_
        refine g_iload_n (pc := 33) C 1 dX9_raise_33 rfl rfl ?_
        refine g_iadd (pc := 34) C dX9_raise_34 ?_
        obtain ⟨g_, h⟩ := h
        refine g_iald (pc := 35) C rfl g_ dX9_raise_35 ?_
        refine g_istore_n (pc := 36) (lv2 := [(3, .int (σ.1 1 (2 + v1).toNatClampNeg)), (0, .ref (G.2.2 0)), (1, .int v1), (2, .int v2)]) C dX9_raise_36 rfl (by decide) rfl ?_
        refine g_aload_n (pc := 37) C 1 dX9_raise_37 rfl rfl ?_
        refine g_iload_n (pc := 38) C 0 dX9_raise_38 rfl rfl ?_
        refine g_callVv (pc := 39) (As := [.int (σ.1 1 (2 + v1).toNatClampNeg)]) (rest := []) C rfl rfl rfl rfl (M_X9_layStands C.2.2.1  h) CyX9_layStands tw_1150 tw_1152 ts_45 (by decide) rfl rfl (Nat.le_of_ble_eq_true rfl) dX9_raise_39 (fun t39 h => ?_)
        refine g_aload_n (pc := 42) C 1 dX9_raise_42 rfl rfl ?_
        refine get_X9_0 (pc := 43) C rfl tw_862 dX9_raise_43 ?_
        refine g_bipush (pc := 46) (v := 14) C dX9_raise_46 bp_14 ?_
        refine g_iload_n (pc := 48) C 2 dX9_raise_48 rfl rfl ?_
        refine g_iadd (pc := 49) C dX9_raise_49 ?_
        obtain ⟨g_, h⟩ := h
        refine g_iald (pc := 50) C rfl g_ dX9_raise_50 ?_
        refine g_istore (pc := 51) (lv2 := [(4, .int (t39.1 1 (14 + v1).toNatClampNeg)), (3, .int (σ.1 1 (2 + v1).toNatClampNeg)), (0, .ref (G.2.2 0)), (1, .int v1), (2, .int v2)]) C dX9_raise_51 (by decide) rfl ?_
        refine g_iconst (pc := 53) (v := 0) C dX9_raise_53 ic_0 ?_
        refine g_istore (pc := 54) (lv2 := [(5, .int 0), (4, .int (t39.1 1 (14 + v1).toNatClampNeg)), (3, .int (σ.1 1 (2 + v1).toNatClampNeg)), (0, .ref (G.2.2 0)), (1, .int v1), (2, .int v2)]) C dX9_raise_54 (by decide) rfl ?_
        refine g_lv [3, 5, 2, 1, 0] (lv2 := [(0, .ref (G.2.2 0)), (2, .int v2), (3, .int (σ.1 1 (2 + v1).toNatClampNeg)), (4, .int (t39.1 1 (14 + v1).toNatClampNeg)), (5, .int 0)]) rfl ?_
        exact k_X9_raise_56 C  h
      · replace h := ite_f h c_
        refine g_bipush (pc := 25) (v := -4) C dX9_raise_25 bp_m4 ?_
        exact g_iret (pc := 27) C dX9_raise_27 ⟨_, rfl, h⟩
    · replace h := ite_t h c_
      refine g_lv [] (lv2 := []) rfl ?_
      exact k_X9_raise_15 C  h
set_option maxHeartbeats 4000000 in
set_option maxRecDepth 100000 in
theorem k_X9_round_64 {v3 : Int32} {σ : St} {K : Int32 → St → Prop} {Φ35 : Int32 → St → Prop} (C : Cx p R s m args meth c shM G cX9_round 4 5 RX9 (some .int) 0 0) (hΦ35 : ∀ (v3' : Int32) (σ' : St), Φ35 v3' σ' → Go p l e R s m args below meth c shM G 4 0 0 (MQ below (Qw shM G (RI K)) args s 0 0 (Fr shM G)) 35 [(0, .ref (G.2.2 0)), (3, .int (v3'))] [] σ') (h : J_X9_round_64 v3 σ K Φ35) : Go p l e R s m args below meth c shM G 4 0 0 (MQ below (Qw shM G (RI K)) args s 0 0 (Fr shM G)) 64 [(0, .ref (G.2.2 0)), (3, .int v3)] [] σ := by
  unfold J_X9_round_64 at h
  refine g_iinc (pc := 64) (lv2 := [(3, .int (v3 + 1)), (0, .ref (G.2.2 0))]) C 1 dX9_round_64 ic_1 rfl (by decide) rfl ?_
  refine g_goto (pc := 67) (tgt := 35) C dX9_round_67 (by decide) ?_
  refine g_lv [1, 0] (lv2 := [(0, .ref (G.2.2 0)), (3, .int (v3 + 1))]) rfl ?_
  exact hΦ35 _ _ h
set_option maxHeartbeats 4000000 in
set_option maxRecDepth 100000 in
theorem k_X9_round_35 {v3 : Int32} {σ : St} {K : Int32 → St → Prop} (C : Cx p R s m args meth c shM G cX9_round 4 5 RX9 (some .int) 0 0) (h : L_X9_round_35 K v3 σ) : Go p l e R s m args below meth c shM G 4 0 0 (MQ below (Qw shM G (RI K)) args s 0 0 (Fr shM G)) 35 [(0, .ref (G.2.2 0)), (3, .int v3)] [] σ := by
  obtain ⟨n_, h⟩ := h
  induction n_ generalizing v3 σ with
  | zero => exact h.elim
  | succ n_ ih =>
    replace h : B_X9_round_35 K (it2 (B_X9_round_35 K) n_) v3 σ := h
    unfold B_X9_round_35 at h
    refine g_iload_n (pc := 35) C 1 dX9_round_35 rfl rfl ?_
    refine g_aload_n (pc := 36) C 0 dX9_round_36 rfl rfl ?_
    refine get_X9_0 (pc := 37) C rfl tw_862 dX9_round_37 ?_
    refine g_iconst (pc := 40) (v := 0) C dX9_round_40 ic_0 ?_
    obtain ⟨g_, h⟩ := h
    refine g_iald (pc := 41) C rfl g_ dX9_round_41 ?_
    refine g_icmp_ge (pc := 42) (tgt := 70) C dX9_round_42 (by decide) (fun c_ => ?_) (fun c_ => ?_)
    · replace h := ite_t h c_
      refine g_aload_n (pc := 70) C 0 dX9_round_70 rfl rfl ?_
      refine g_callVip (pc := 71) (As := []) (rest := []) C rfl rfl rfl rfl (M_X9_heardSet C.2.2.1  h) CyX9_heardSet tw_1117 tw_1119 ts_44 (by decide) rfl rfl (Nat.le_of_ble_eq_true rfl) dX9_round_71 (fun r71 h => ?_)
      exact g_iret (pc := 74) C dX9_round_74 ⟨_, rfl, h⟩
    · replace h := ite_f h c_
      refine g_aload_n (pc := 45) C 0 dX9_round_45 rfl rfl ?_
      refine g_iload_n (pc := 46) C 1 dX9_round_46 rfl rfl ?_
      refine g_callVip (pc := 47) (As := [.int v3]) (rest := []) C rfl rfl rfl rfl (M_X9_isOver C.2.2.1  h) CyX9_isOver tw_1089 tw_1091 ts_38 (by decide) rfl rfl (Nat.le_of_ble_eq_true rfl) dX9_round_47 (fun r47 h => ?_)
      refine g_if_ne (pc := 50) (tgt := 64) C dX9_round_50 (by decide) (fun c_ => ?_) (fun c_ => ?_)
      · replace h := ite_f h c_
        refine g_lv [0, 1] (lv2 := [(0, .ref (G.2.2 0)), (3, .int v3)]) rfl ?_
        exact k_X9_round_64 C (fun _ _ h_ => ih h_) h
      · replace h := ite_t h c_
        refine g_aload_n (pc := 53) C 0 dX9_round_53 rfl rfl ?_
        refine g_iload_n (pc := 54) C 1 dX9_round_54 rfl rfl ?_
        refine g_aload_n (pc := 55) C 0 dX9_round_55 rfl rfl ?_
        refine get_X9_14 (pc := 56) C rfl tw_876 dX9_round_56 ?_
        refine g_iload_n (pc := 59) C 1 dX9_round_59 rfl rfl ?_
        obtain ⟨g_, h⟩ := h
        refine g_iald (pc := 60) C rfl g_ dX9_round_60 ?_
        refine g_callVv (pc := 61) (As := [.int v3, .int (σ.1 9 v3.toNatClampNeg)]) (rest := []) C rfl rfl rfl rfl (M_X9_strokes C.2.2.1  h) CyX9_strokes tw_1097 tw_1099 ts_40 (by decide) rfl rfl (Nat.le_of_ble_eq_true rfl) dX9_round_61 (fun t61 h => ?_)
        refine g_lv [0, 1] (lv2 := [(0, .ref (G.2.2 0)), (3, .int v3)]) rfl ?_
        exact k_X9_round_64 C (fun _ _ h_ => ih h_) h
set_option maxHeartbeats 4000000 in
set_option maxRecDepth 100000 in
theorem M_X9_round {l : Launch} {G : Gp} (hD : Dj shM G) {v1 : Int32} {σ : St} {K : Int32 → St → Prop} (h : wp_X9_round v1 σ K) : MC l shM G yX9_round cX9_round 4 (some .int) 5 [.ref (G.2.2 0), .int v1] σ (RI K) := by
  unfold wp_X9_round at h
  refine MC.of (by decide) hD (Nat.le_of_ble_eq_true rfl) ?_
  intro p e s m args below meth c C
  replace C : Cx p (rmD 5) s m args meth c shM G cX9_round 4 5 RX9 (some .int) 0 0 := C
  show Go p l e (rmD 5) s m args below meth c shM G 4 0 0 (MQ below (Qw shM G (RI K)) args s 0 0 (Fr shM G)) 0 [(0, .ref (G.2.2 0)), (1, .int v1)] [] σ
  refine g_aload_n (pc := 0) C 0 dX9_round_0 rfl rfl ?_
  refine g_iload_n (pc := 1) C 1 dX9_round_1 rfl rfl ?_
  refine g_callVi (pc := 2) (As := [.int v1]) (rest := []) C rfl rfl rfl rfl (M_X9_against C.2.2.1  h) CyX9_against tw_1105 tw_1107 ts_41 (by decide) rfl rfl (Nat.le_of_ble_eq_true rfl) dX9_round_2 (fun r2 t2 h => ?_)
  refine g_istore_n (pc := 5) (lv2 := [(2, .int r2), (0, .ref (G.2.2 0)), (1, .int v1)]) C dX9_round_5 rfl (by decide) rfl ?_
  refine g_iload_n (pc := 6) C 0 dX9_round_6 rfl rfl ?_
  refine g_if_ge (pc := 7) (tgt := 12) C dX9_round_7 (by decide) (fun c_ => ?_) (fun c_ => ?_)
  · replace h := ite_t h c_
    refine g_aload_n (pc := 12) C 1 dX9_round_12 rfl rfl ?_
    refine get_X9_1 (pc := 13) C rfl tw_863 dX9_round_13 ?_
    refine g_bipush (pc := 16) (v := 40) C dX9_round_16 bp_40 ?_
    refine g_icmp_ne (pc := 18) (tgt := 24) C dX9_round_18 (by decide) (fun c_ => ?_) (fun c_ => ?_)
    · replace h := ite_f h c_
      refine g_aload_n (pc := 24) C 1 dX9_round_24 rfl rfl ?_
      refine g_iload_n (pc := 25) C 2 dX9_round_25 rfl rfl ?_
      refine g_callVv (pc := 26) (As := [.int v1]) (rest := []) C rfl rfl rfl rfl (M_X9_laysPulls C.2.2.1  h) CyX9_laysPulls tw_1109 tw_1111 ts_42 (by decide) rfl rfl (Nat.le_of_ble_eq_true rfl) dX9_round_26 (fun t26 h => ?_)
      refine g_aload_n (pc := 29) C 1 dX9_round_29 rfl rfl ?_
      refine g_callVv (pc := 30) (As := []) (rest := []) C rfl rfl rfl rfl (M_X9_minds C.2.2.1  h) CyX9_minds tw_1093 tw_1095 ts_39 (by decide) rfl rfl (Nat.le_of_ble_eq_true rfl) dX9_round_30 (fun t30 h => ?_)
      refine g_iconst (pc := 33) (v := 0) C dX9_round_33 ic_0 ?_
      refine g_istore_n (pc := 34) (lv2 := [(3, .int 0), (2, .int r2), (0, .ref (G.2.2 0)), (1, .int v1)]) C dX9_round_34 rfl (by decide) rfl ?_
      refine g_lv [2, 0] (lv2 := [(0, .ref (G.2.2 0)), (3, .int 0)]) rfl ?_
      exact k_X9_round_35 C  h
    · replace h := ite_t h c_
      refine g_bipush (pc := 21) (v := -2) C dX9_round_21 bp_m2 ?_
      exact g_iret (pc := 23) C dX9_round_23 ⟨_, rfl, h⟩
  · replace h := ite_f h c_
    refine g_iload_n (pc := 10) C 0 dX9_round_10 rfl rfl ?_
    exact g_iret (pc := 11) C dX9_round_11 ⟨_, rfl, h⟩
set_option maxHeartbeats 4000000 in
set_option maxRecDepth 100000 in
theorem k_X9_row_13 {σ : St} {K : Int32 → St → Prop} (C : Cx p R s m args meth c shM G cX9_row 3 3 RX9 (some .int) 0 0) (h : J_X9_row_13 σ K) : Go p l e R s m args below meth c shM G 3 0 0 (MQ below (Qw shM G (RI K)) args s 0 0 (Fr shM G)) 13 [] [] σ := by
  unfold J_X9_row_13 at h
  refine g_iconst (pc := 13) (v := -1) C dX9_row_13 ic_m1 ?_
  exact g_iret (pc := 14) C dX9_row_14 ⟨_, rfl, h⟩
set_option maxHeartbeats 4000000 in
set_option maxRecDepth 100000 in
theorem M_X9_row {l : Launch} {G : Gp} (hD : Dj shM G) {v1 : Int32} {v2 : Int32} {σ : St} {K : Int32 → St → Prop} (h : wp_X9_row v1 v2 σ K) : MC l shM G yX9_row cX9_row 3 (some .int) 3 [.ref (G.2.2 0), .int v1, .int v2] σ (RI K) := by
  unfold wp_X9_row at h
  refine MC.of (by decide) hD (Nat.le_of_ble_eq_true rfl) ?_
  intro p e s m args below meth c C
  replace C : Cx p (rmD 3) s m args meth c shM G cX9_row 3 3 RX9 (some .int) 0 0 := C
  show Go p l e (rmD 3) s m args below meth c shM G 3 0 0 (MQ below (Qw shM G (RI K)) args s 0 0 (Fr shM G)) 0 [(0, .ref (G.2.2 0)), (1, .int v1), (2, .int v2)] [] σ
  refine g_iload_n (pc := 0) C 1 dX9_row_0 rfl rfl ?_
  refine g_callSip (pc := 1) (As := [.int v1]) (rest := []) C (M_X9_isRow C.2.2.1  h) CyX9_isRow tw_951 tw_952 (by decide) rfl rfl (Nat.le_of_ble_eq_true rfl) dX9_row_1 (fun r1 h => ?_)
  refine g_if_eq (pc := 4) (tgt := 13) C dX9_row_4 (by decide) (fun c_ => ?_) (fun c_ => ?_)
  · replace h := ite_t h c_
    refine g_lv [] (lv2 := []) rfl ?_
    exact k_X9_row_13 C  h
  · replace h := ite_f h c_
    refine g_iload_n (pc := 7) C 2 dX9_row_7 rfl rfl ?_
    refine g_bipush (pc := 8) (v := 40) C dX9_row_8 bp_40 ?_
    refine g_icmp_le (pc := 10) (tgt := 15) C dX9_row_10 (by decide) (fun c_ => ?_) (fun c_ => ?_)
    · replace h := ite_t h c_
      refine g_iload_n (pc := 15) C 2 dX9_row_15 rfl rfl ?_
      refine g_if_ge (pc := 16) (tgt := 25) C dX9_row_16 (by decide) (fun c_ => ?_) (fun c_ => ?_)
      · replace h := ite_t h c_
        refine g_aload_n (pc := 25) C 0 dX9_row_25 rfl rfl ?_
        refine g_iload_n (pc := 26) C 1 dX9_row_26 rfl rfl ?_
        refine g_iload_n (pc := 27) C 2 dX9_row_27 rfl rfl ?_
        refine g_callVv (pc := 28) (As := [.int v1, .int v2]) (rest := []) C rfl rfl rfl rfl (M_X9_anew C.2.2.1  h) CyX9_anew tw_962 tw_964 ts_26 (by decide) rfl rfl (Nat.le_of_ble_eq_true rfl) dX9_row_28 (fun t28 h => ?_)
        refine g_iload_n (pc := 31) C 2 dX9_row_31 rfl rfl ?_
        exact g_iret (pc := 32) C dX9_row_32 ⟨_, rfl, h⟩
      · replace h := ite_f h c_
        refine g_aload_n (pc := 19) C 0 dX9_row_19 rfl rfl ?_
        refine g_iconst (pc := 20) (v := 5) C dX9_row_20 ic_5 ?_
        refine g_callVi (pc := 21) (As := [.int 5]) (rest := []) C rfl rfl rfl rfl (M_X9_found C.2.2.1  h) CyX9_found tw_958 tw_960 ts_25 (by decide) rfl rfl (Nat.le_of_ble_eq_true rfl) dX9_row_21 (fun r21 t21 h => ?_)
        exact g_iret (pc := 24) C dX9_row_24 ⟨_, rfl, h⟩
    · replace h := ite_f h c_
      refine g_lv [] (lv2 := []) rfl ?_
      exact k_X9_row_13 C  h
set_option maxHeartbeats 4000000 in
set_option maxRecDepth 100000 in
theorem k_X9_stands_92 {v1 : Int32} {v2 : Int32} {v4 : Int32} {w0 : Int32} {w1 : Int32} {σ : St} {K : Int32 → St → Prop} {Φ28 : Int32 → Int32 → Int32 → Prop} (C : Cx p R s m args meth c shM G cX9_stands 6 3 RX9 (some .int) 0 0) (hΦ28 : ∀ (v2' : Int32) (v3' : Int32) (v4' : Int32), Φ28 v2' v3' v4' → Go p l e R s m args below meth c shM G 6 0 0 (MQ below (Qw shM G (RI K)) args s 0 0 (Fr shM G)) 28 [(0, .ref (G.2.2 0)), (1, .int v1), (2, .int (v2')), (3, .int (v3')), (4, .int (v4'))] [] σ) (h : J_X9_stands_92 v1 v2 v4 w0 w1 σ K Φ28) : Go p l e R s m args below meth c shM G 6 0 0 (MQ below (Qw shM G (RI K)) args s 0 0 (Fr shM G)) 92 [(0, .ref (G.2.2 0)), (1, .int v1), (2, .int v2), (4, .int v4)] [.int w1, .int w0] σ := by
  unfold J_X9_stands_92 at h
  refine g_ior (pc := 92) C dX9_stands_92 ?_
  refine g_istore_n (pc := 93) (lv2 := [(3, .int (w0 ||| w1)), (0, .ref (G.2.2 0)), (1, .int v1), (2, .int v2), (4, .int v4)]) C dX9_stands_93 rfl (by decide) rfl ?_
  refine g_iinc (pc := 94) (lv2 := [(4, .int (v4 + 1)), (3, .int (w0 ||| w1)), (0, .ref (G.2.2 0)), (1, .int v1), (2, .int v2)]) C 4 dX9_stands_94 ic_1 rfl (by decide) rfl ?_
  refine g_goto (pc := 97) (tgt := 28) C dX9_stands_97 (by decide) ?_
  refine g_lv [2, 3, 4, 1, 0] (lv2 := [(0, .ref (G.2.2 0)), (1, .int v1), (2, .int v2), (3, .int (w0 ||| w1)), (4, .int (v4 + 1))]) rfl ?_
  exact hΦ28 _ _ _ h
set_option maxHeartbeats 4000000 in
set_option maxRecDepth 100000 in
theorem k_X9_stands_75 {v1 : Int32} {v3 : Int32} {v4 : Int32} {v5 : Int32} {w0 : Int32} {w1 : Int32} {σ : St} {K : Int32 → St → Prop} {Φ28 : Int32 → Int32 → Int32 → Prop} (C : Cx p R s m args meth c shM G cX9_stands 6 3 RX9 (some .int) 0 0) (hΦ28 : ∀ (v2' : Int32) (v3' : Int32) (v4' : Int32), Φ28 v2' v3' v4' → Go p l e R s m args below meth c shM G 6 0 0 (MQ below (Qw shM G (RI K)) args s 0 0 (Fr shM G)) 28 [(0, .ref (G.2.2 0)), (1, .int v1), (2, .int (v2')), (3, .int (v3')), (4, .int (v4'))] [] σ) (h : J_X9_stands_75 v1 v3 v4 v5 w0 w1 σ K Φ28) : Go p l e R s m args below meth c shM G 6 0 0 (MQ below (Qw shM G (RI K)) args s 0 0 (Fr shM G)) 75 [(0, .ref (G.2.2 0)), (1, .int v1), (3, .int v3), (4, .int v4), (5, .int v5)] [.int w1, .int w0] σ := by
  unfold J_X9_stands_75 at h
  refine g_ior (pc := 75) C dX9_stands_75 ?_
  refine g_istore_n (pc := 76) (lv2 := [(2, .int (w0 ||| w1)), (0, .ref (G.2.2 0)), (1, .int v1), (3, .int v3), (4, .int v4), (5, .int v5)]) C dX9_stands_76 rfl (by decide) rfl ?_
  refine g_iload_n (pc := 77) C 3 dX9_stands_77 rfl rfl ?_
  refine g_iload (pc := 78) C 5 dX9_stands_78 rfl ?_
  refine g_iconst (pc := 80) (v := -1) C dX9_stands_80 ic_m1 ?_
  refine g_icmp_ne (pc := 81) (tgt := 91) C dX9_stands_81 (by decide) (fun c_ => ?_) (fun c_ => ?_)
  · replace h := ite_f h c_
    refine g_iconst (pc := 91) (v := 0) C dX9_stands_91 ic_0 ?_
    refine g_lv [1, 2, 0, 4] (lv2 := [(0, .ref (G.2.2 0)), (1, .int v1), (2, .int (w0 ||| w1)), (4, .int v4)]) rfl ?_
    exact k_X9_stands_92 C hΦ28 h
  · replace h := ite_t h c_
    refine g_iconst (pc := 84) (v := 1) C dX9_stands_84 ic_1 ?_
    refine g_iload (pc := 85) C 4 dX9_stands_85 rfl ?_
    refine g_ishl (pc := 87) C dX9_stands_87 ?_
    refine g_goto (pc := 88) (tgt := 92) C dX9_stands_88 (by decide) ?_
    refine g_lv [1, 2, 0, 4] (lv2 := [(0, .ref (G.2.2 0)), (1, .int v1), (2, .int (w0 ||| w1)), (4, .int v4)]) rfl ?_
    exact k_X9_stands_92 C hΦ28 h
set_option maxHeartbeats 4000000 in
set_option maxRecDepth 100000 in
theorem k_X9_stands_28 {v1 : Int32} {v2 : Int32} {v3 : Int32} {v4 : Int32} {σ : St} {K : Int32 → St → Prop} (C : Cx p R s m args meth c shM G cX9_stands 6 3 RX9 (some .int) 0 0) (h : L_X9_stands_28 v1 σ K v2 v3 v4) : Go p l e R s m args below meth c shM G 6 0 0 (MQ below (Qw shM G (RI K)) args s 0 0 (Fr shM G)) 28 [(0, .ref (G.2.2 0)), (1, .int v1), (2, .int v2), (3, .int v3), (4, .int v4)] [] σ := by
  obtain ⟨n_, h⟩ := h
  induction n_ generalizing v2 v3 v4 with
  | zero => exact h.elim
  | succ n_ ih =>
    replace h : B_X9_stands_28 v1 σ K (it3 (B_X9_stands_28 v1 σ K) n_) v2 v3 v4 := h
    unfold B_X9_stands_28 at h
    refine g_iload (pc := 28) C 4 dX9_stands_28 rfl ?_
    refine g_bipush (pc := 30) (v := 7) C dX9_stands_30 bp_7 ?_
    refine g_icmp_ge (pc := 32) (tgt := 100) C dX9_stands_32 (by decide) (fun c_ => ?_) (fun c_ => ?_)
    · replace h := ite_t h c_
      refine g_aload_n (pc := 100) C 0 dX9_stands_100 rfl rfl ?_
      refine g_iload_n (pc := 101) C 3 dX9_stands_101 rfl rfl ?_
      refine g_iload_n (pc := 102) C 2 dX9_stands_102 rfl rfl ?_
      refine g_callVi (pc := 103) (As := [.int v3, .int v2]) (rest := []) C rfl rfl rfl rfl (M_X9_tells C.2.2.1  h) CyX9_tells tw_974 tw_976 ts_27 (by decide) rfl rfl (Nat.le_of_ble_eq_true rfl) dX9_stands_103 (fun r103 t103 h => ?_)
      exact g_iret (pc := 106) C dX9_stands_106 ⟨_, rfl, h⟩
    · replace h := ite_f h c_
      refine g_aload_n (pc := 35) C 0 dX9_stands_35 rfl rfl ?_
      refine get_X9_0 (pc := 36) C rfl tw_862 dX9_stands_36 ?_
      refine g_iconst (pc := 39) (v := 2) C dX9_stands_39 ic_2 ?_
      refine g_iload_n (pc := 40) C 1 dX9_stands_40 rfl rfl ?_
      refine g_iadd (pc := 41) C dX9_stands_41 ?_
      obtain ⟨g_, h⟩ := h
      refine g_iald (pc := 42) C rfl g_ dX9_stands_42 ?_
      refine g_aload_n (pc := 43) C 0 dX9_stands_43 rfl rfl ?_
      refine get_X9_0 (pc := 44) C rfl tw_862 dX9_stands_44 ?_
      refine g_bipush (pc := 47) (v := 14) C dX9_stands_47 bp_14 ?_
      refine g_iload_n (pc := 49) C 1 dX9_stands_49 rfl rfl ?_
      refine g_iadd (pc := 50) C dX9_stands_50 ?_
      obtain ⟨g_, h⟩ := h
      refine g_iald (pc := 51) C rfl g_ dX9_stands_51 ?_
      refine g_iload (pc := 52) C 4 dX9_stands_52 rfl ?_
      refine g_callSip (pc := 54) (As := [.int (σ.1 1 (2 + v1).toNatClampNeg), .int (σ.1 1 (14 + v1).toNatClampNeg), .int v4]) (rest := []) C (M_X9_after C.2.2.1  h) CyX9_after tw_1061 tw_1062 (by decide) rfl rfl (Nat.le_of_ble_eq_true rfl) dX9_stands_54 (fun r54 h => ?_)
      refine g_istore (pc := 57) (lv2 := [(5, .int r54), (0, .ref (G.2.2 0)), (1, .int v1), (2, .int v2), (3, .int v3), (4, .int v4)]) C dX9_stands_57 (by decide) rfl ?_
      refine g_iload_n (pc := 59) C 3 dX9_stands_59 rfl rfl ?_
      refine g_iload (pc := 60) C 0 dX9_stands_60 rfl ?_
      refine g_bipush (pc := 62) (v := 20) C dX9_stands_62 bp_20 ?_
      refine g_icmp_ne (pc := 64) (tgt := 74) C dX9_stands_64 (by decide) (fun c_ => ?_) (fun c_ => ?_)
      · replace h := ite_f h c_
        refine g_iconst (pc := 74) (v := 0) C dX9_stands_74 ic_0 ?_
        refine g_lv [1, 2, 4, 5, 0] (lv2 := [(0, .ref (G.2.2 0)), (1, .int v1), (3, .int v3), (4, .int v4), (5, .int r54)]) rfl ?_
        exact k_X9_stands_75 C (fun _ _ _ h_ => ih h_) h
      · replace h := ite_t h c_
        refine g_iconst (pc := 67) (v := 1) C dX9_stands_67 ic_1 ?_
        refine g_iload (pc := 68) C 5 dX9_stands_68 rfl ?_
        refine g_ishl (pc := 70) C dX9_stands_70 ?_
        refine g_goto (pc := 71) (tgt := 75) C dX9_stands_71 (by decide) ?_
        refine g_lv [1, 2, 4, 5, 0] (lv2 := [(0, .ref (G.2.2 0)), (1, .int v1), (3, .int v3), (4, .int v4), (5, .int r54)]) rfl ?_
        exact k_X9_stands_75 C (fun _ _ _ h_ => ih h_) h
set_option maxHeartbeats 4000000 in
set_option maxRecDepth 100000 in
theorem M_X9_stands {l : Launch} {G : Gp} (hD : Dj shM G) {v1 : Int32} {σ : St} {K : Int32 → St → Prop} (h : wp_X9_stands v1 σ K) : MC l shM G yX9_stands cX9_stands 6 (some .int) 3 [.ref (G.2.2 0), .int v1] σ (RI K) := by
  unfold wp_X9_stands at h
  refine MC.of (by decide) hD (Nat.le_of_ble_eq_true rfl) ?_
  intro p e s m args below meth c C
  replace C : Cx p (rmD 3) s m args meth c shM G cX9_stands 6 3 RX9 (some .int) 0 0 := C
  show Go p l e (rmD 3) s m args below meth c shM G 6 0 0 (MQ below (Qw shM G (RI K)) args s 0 0 (Fr shM G)) 0 [(0, .ref (G.2.2 0)), (1, .int v1)] [] σ
  refine g_aload_n (pc := 0) C 0 dX9_stands_0 rfl rfl ?_
  refine g_iload_n (pc := 1) C 1 dX9_stands_1 rfl rfl ?_
  refine g_callVip (pc := 2) (As := [.int v1]) (rest := []) C rfl rfl rfl rfl (M_X9_isBell C.2.2.1  h) CyX9_isBell tw_1045 tw_1047 ts_34 (by decide) rfl rfl (Nat.le_of_ble_eq_true rfl) dX9_stands_2 (fun r2 h => ?_)
  refine g_if_ne (pc := 5) (tgt := 10) C dX9_stands_5 (by decide) (fun c_ => ?_) (fun c_ => ?_)
  · replace h := ite_f h c_
    refine g_aload_n (pc := 10) C 0 dX9_stands_10 rfl rfl ?_
    refine g_iload_n (pc := 11) C 1 dX9_stands_11 rfl rfl ?_
    refine g_callVip (pc := 12) (As := [.int v1]) (rest := []) C rfl rfl rfl rfl (M_X9_isOver C.2.2.1  h) CyX9_isOver tw_1089 tw_1091 ts_38 (by decide) rfl rfl (Nat.le_of_ble_eq_true rfl) dX9_stands_12 (fun r12 h => ?_)
    refine g_if_eq (pc := 15) (tgt := 21) C dX9_stands_15 (by decide) (fun c_ => ?_) (fun c_ => ?_)
    · replace h := ite_t h c_
      refine g_iconst (pc := 21) (v := 0) C dX9_stands_21 ic_0 ?_
      refine g_istore_n (pc := 22) (lv2 := [(2, .int 0), (0, .ref (G.2.2 0)), (1, .int v1)]) C dX9_stands_22 rfl (by decide) rfl ?_
      refine g_iconst (pc := 23) (v := 0) C dX9_stands_23 ic_0 ?_
      refine g_istore_n (pc := 24) (lv2 := [(3, .int 0), (2, .int 0), (0, .ref (G.2.2 0)), (1, .int v1)]) C dX9_stands_24 rfl (by decide) rfl ?_
      refine g_iconst (pc := 25) (v := 0) C dX9_stands_25 ic_0 ?_
      refine g_istore (pc := 26) (lv2 := [(4, .int 0), (3, .int 0), (2, .int 0), (0, .ref (G.2.2 0)), (1, .int v1)]) C dX9_stands_26 (by decide) rfl ?_
      refine g_lv [3, 4, 2, 1, 0] (lv2 := [(0, .ref (G.2.2 0)), (1, .int v1), (2, .int 0), (3, .int 0), (4, .int 0)]) rfl ?_
      exact k_X9_stands_28 C  h
    · replace h := ite_f h c_
      refine g_bipush (pc := 18) (v := -4) C dX9_stands_18 bp_m4 ?_
      exact g_iret (pc := 20) C dX9_stands_20 ⟨_, rfl, h⟩
  · replace h := ite_t h c_
    refine g_iconst (pc := 8) (v := -1) C dX9_stands_8 ic_m1 ?_
    exact g_iret (pc := 9) C dX9_stands_9 ⟨_, rfl, h⟩
set_option maxHeartbeats 4000000 in
set_option maxRecDepth 100000 in
theorem k_X9_strikes_15 {σ : St} {K : Int32 → Prop} (C : Cx p R s m args meth c shM G cX9_strikes 3 4 RX9 (some .int) 0 0) (h : J_X9_strikes_15 σ K) : Go p l e R s m args below meth c shM G 3 0 0 (MQ below (Qw shM G (RI (fun r t => t = σ ∧ K r))) args s 0 0 (Fr shM G)) 15 [] [] σ := by
  unfold J_X9_strikes_15 at h
  refine g_iconst (pc := 15) (v := -1) C dX9_strikes_15 ic_m1 ?_
  exact g_iret (pc := 16) C dX9_strikes_16 ⟨_, rfl, ⟨rfl, h⟩⟩
set_option maxHeartbeats 4000000 in
set_option maxRecDepth 100000 in
theorem k_X9_strikes_45 {w0 : Int32} {σ : St} {K : Int32 → Prop} (C : Cx p R s m args meth c shM G cX9_strikes 3 4 RX9 (some .int) 0 0) (h : J_X9_strikes_45 w0 σ K) : Go p l e R s m args below meth c shM G 3 0 0 (MQ below (Qw shM G (RI (fun r t => t = σ ∧ K r))) args s 0 0 (Fr shM G)) 45 [] [.int w0] σ := by
  unfold J_X9_strikes_45 at h
  exact g_iret (pc := 45) C dX9_strikes_45 ⟨_, rfl, ⟨rfl, h⟩⟩
set_option maxHeartbeats 4000000 in
set_option maxRecDepth 100000 in
theorem M_X9_strikes {l : Launch} {G : Gp} (hD : Dj shM G) {v1 : Int32} {v2 : Int32} {σ : St} {K : Int32 → Prop} (h : wp_X9_strikes v1 v2 σ K) : MC l shM G yX9_strikes cX9_strikes 3 (some .int) 4 [.ref (G.2.2 0), .int v1, .int v2] σ (RI (fun r t => t = σ ∧ K r)) := by
  unfold wp_X9_strikes at h
  refine MC.of (by decide) hD (Nat.le_of_ble_eq_true rfl) ?_
  intro p e s m args below meth c C
  replace C : Cx p (rmD 4) s m args meth c shM G cX9_strikes 3 4 RX9 (some .int) 0 0 := C
  show Go p l e (rmD 4) s m args below meth c shM G 3 0 0 (MQ below (Qw shM G (RI (fun r t => t = σ ∧ K r))) args s 0 0 (Fr shM G)) 0 [(0, .ref (G.2.2 0)), (1, .int v1), (2, .int v2)] [] σ
  refine g_aload_n (pc := 0) C 0 dX9_strikes_0 rfl rfl ?_
  refine g_iload_n (pc := 1) C 1 dX9_strikes_1 rfl rfl ?_
  refine g_callVip (pc := 2) (As := [.int v1]) (rest := []) C rfl rfl rfl rfl (M_X9_isBell C.2.2.1  h) CyX9_isBell tw_1045 tw_1047 ts_34 (by decide) rfl rfl (Nat.le_of_ble_eq_true rfl) dX9_strikes_2 (fun r2 h => ?_)
  refine g_if_eq (pc := 5) (tgt := 15) C dX9_strikes_5 (by decide) (fun c_ => ?_) (fun c_ => ?_)
  · replace h := ite_t h c_
    refine g_lv [] (lv2 := []) rfl ?_
    exact k_X9_strikes_15 C  h
  · replace h := ite_f h c_
    refine g_iload_n (pc := 8) C 2 dX9_strikes_8 rfl rfl ?_
    refine g_callSip (pc := 9) (As := [.int v2]) (rest := []) C (M_X9_isPull C.2.2.1  h) CyX9_isPull tw_1085 tw_1086 (by decide) rfl rfl (Nat.le_of_ble_eq_true rfl) dX9_strikes_9 (fun r9 h => ?_)
    refine g_if_ne (pc := 12) (tgt := 17) C dX9_strikes_12 (by decide) (fun c_ => ?_) (fun c_ => ?_)
    · replace h := ite_f h c_
      refine g_aload_n (pc := 17) C 0 dX9_strikes_17 rfl rfl ?_
      refine g_iload_n (pc := 18) C 1 dX9_strikes_18 rfl rfl ?_
      refine g_callVip (pc := 19) (As := [.int v1]) (rest := []) C rfl rfl rfl rfl (M_X9_isOver C.2.2.1  h) CyX9_isOver tw_1089 tw_1091 ts_38 (by decide) rfl rfl (Nat.le_of_ble_eq_true rfl) dX9_strikes_19 (fun r19 h => ?_)
      refine g_if_eq (pc := 22) (tgt := 30) C dX9_strikes_22 (by decide) (fun c_ => ?_) (fun c_ => ?_)
      · replace h := ite_t h c_
        refine g_aload_n (pc := 30) C 0 dX9_strikes_30 rfl rfl ?_
        refine g_iload_n (pc := 31) C 1 dX9_strikes_31 rfl rfl ?_
        refine g_aload_n (pc := 32) C 0 dX9_strikes_32 rfl rfl ?_
        refine get_X9_0 (pc := 33) C rfl tw_862 dX9_strikes_33 ?_
        refine g_bipush (pc := 36) (v := 14) C dX9_strikes_36 bp_14 ?_
        refine g_iload_n (pc := 38) C 1 dX9_strikes_38 rfl rfl ?_
        refine g_iadd (pc := 39) C dX9_strikes_39 ?_
        obtain ⟨g_, h⟩ := h
        refine g_iald (pc := 40) C rfl g_ dX9_strikes_40 ?_
        refine g_iload_n (pc := 41) C 2 dX9_strikes_41 rfl rfl ?_
        refine g_callVip (pc := 42) (As := [.int v1, .int (σ.1 1 (14 + v1).toNatClampNeg), .int v2]) (rest := []) C rfl rfl rfl rfl (M_X9_strikesBy C.2.2.1  h) CyX9_strikesBy tw_1070 tw_1072 ts_37 (by decide) rfl rfl (Nat.le_of_ble_eq_true rfl) dX9_strikes_42 (fun r42 h => ?_)
        refine g_lv [] (lv2 := []) rfl ?_
        exact k_X9_strikes_45 C  h
      · replace h := ite_f h c_
        refine g_bipush (pc := 25) (v := -4) C dX9_strikes_25 bp_m4 ?_
        refine g_goto (pc := 27) (tgt := 45) C dX9_strikes_27 (by decide) ?_
        refine g_lv [] (lv2 := []) rfl ?_
        exact k_X9_strikes_45 C  h
    · replace h := ite_t h c_
      refine g_lv [] (lv2 := []) rfl ?_
      exact k_X9_strikes_15 C  h
set_option maxHeartbeats 4000000 in
set_option maxRecDepth 100000 in
theorem k_X9_stroke_15 {σ : St} {K : Int32 → St → Prop} (C : Cx p R s m args meth c shM G cX9_stroke 3 4 RX9 (some .int) 0 0) (h : J_X9_stroke_15 σ K) : Go p l e R s m args below meth c shM G 3 0 0 (MQ below (Qw shM G (RI K)) args s 0 0 (Fr shM G)) 15 [] [] σ := by
  unfold J_X9_stroke_15 at h
  refine g_iconst (pc := 15) (v := -1) C dX9_stroke_15 ic_m1 ?_
  exact g_iret (pc := 16) C dX9_stroke_16 ⟨_, rfl, h⟩
set_option maxHeartbeats 4000000 in
set_option maxRecDepth 100000 in
theorem M_X9_stroke {l : Launch} {G : Gp} (hD : Dj shM G) {v1 : Int32} {v2 : Int32} {σ : St} {K : Int32 → St → Prop} (h : wp_X9_stroke v1 v2 σ K) : MC l shM G yX9_stroke cX9_stroke 3 (some .int) 4 [.ref (G.2.2 0), .int v1, .int v2] σ (RI K) := by
  unfold wp_X9_stroke at h
  refine MC.of (by decide) hD (Nat.le_of_ble_eq_true rfl) ?_
  intro p e s m args below meth c C
  replace C : Cx p (rmD 4) s m args meth c shM G cX9_stroke 3 4 RX9 (some .int) 0 0 := C
  show Go p l e (rmD 4) s m args below meth c shM G 3 0 0 (MQ below (Qw shM G (RI K)) args s 0 0 (Fr shM G)) 0 [(0, .ref (G.2.2 0)), (1, .int v1), (2, .int v2)] [] σ
  refine g_aload_n (pc := 0) C 0 dX9_stroke_0 rfl rfl ?_
  refine g_iload_n (pc := 1) C 1 dX9_stroke_1 rfl rfl ?_
  refine g_callVip (pc := 2) (As := [.int v1]) (rest := []) C rfl rfl rfl rfl (M_X9_isBell C.2.2.1  h) CyX9_isBell tw_1045 tw_1047 ts_34 (by decide) rfl rfl (Nat.le_of_ble_eq_true rfl) dX9_stroke_2 (fun r2 h => ?_)
  refine g_if_eq (pc := 5) (tgt := 15) C dX9_stroke_5 (by decide) (fun c_ => ?_) (fun c_ => ?_)
  · replace h := ite_t h c_
    refine g_lv [] (lv2 := []) rfl ?_
    exact k_X9_stroke_15 C  h
  · replace h := ite_f h c_
    refine g_iload_n (pc := 8) C 2 dX9_stroke_8 rfl rfl ?_
    refine g_callSip (pc := 9) (As := [.int v2]) (rest := []) C (M_X9_isPull C.2.2.1  h) CyX9_isPull tw_1085 tw_1086 (by decide) rfl rfl (Nat.le_of_ble_eq_true rfl) dX9_stroke_9 (fun r9 h => ?_)
    refine g_if_ne (pc := 12) (tgt := 17) C dX9_stroke_12 (by decide) (fun c_ => ?_) (fun c_ => ?_)
    · replace h := ite_f h c_
      refine g_aload_n (pc := 17) C 0 dX9_stroke_17 rfl rfl ?_
      refine g_iload_n (pc := 18) C 1 dX9_stroke_18 rfl rfl ?_
      refine g_callVip (pc := 19) (As := [.int v1]) (rest := []) C rfl rfl rfl rfl (M_X9_isOver C.2.2.1  h) CyX9_isOver tw_1089 tw_1091 ts_38 (by decide) rfl rfl (Nat.le_of_ble_eq_true rfl) dX9_stroke_19 (fun r19 h => ?_)
      refine g_if_eq (pc := 22) (tgt := 28) C dX9_stroke_22 (by decide) (fun c_ => ?_) (fun c_ => ?_)
      · replace h := ite_t h c_
        refine g_aload_n (pc := 28) C 0 dX9_stroke_28 rfl rfl ?_
        refine get_X9_1 (pc := 29) C rfl tw_863 dX9_stroke_29 ?_
        refine g_bipush (pc := 32) (v := 40) C dX9_stroke_32 bp_40 ?_
        refine g_icmp_ne (pc := 34) (tgt := 40) C dX9_stroke_34 (by decide) (fun c_ => ?_) (fun c_ => ?_)
        · replace h := ite_f h c_
          refine g_aload_n (pc := 40) C 0 dX9_stroke_40 rfl rfl ?_
          refine g_callVv (pc := 41) (As := []) (rest := []) C rfl rfl rfl rfl (M_X9_minds C.2.2.1  h) CyX9_minds tw_1093 tw_1095 ts_39 (by decide) rfl rfl (Nat.le_of_ble_eq_true rfl) dX9_stroke_41 (fun t41 h => ?_)
          refine g_aload_n (pc := 44) C 0 dX9_stroke_44 rfl rfl ?_
          refine g_iload_n (pc := 45) C 1 dX9_stroke_45 rfl rfl ?_
          refine g_iload_n (pc := 46) C 2 dX9_stroke_46 rfl rfl ?_
          refine g_callVv (pc := 47) (As := [.int v1, .int v2]) (rest := []) C rfl rfl rfl rfl (M_X9_strokes C.2.2.1  h) CyX9_strokes tw_1097 tw_1099 ts_40 (by decide) rfl rfl (Nat.le_of_ble_eq_true rfl) dX9_stroke_47 (fun t47 h => ?_)
          refine g_aload_n (pc := 50) C 0 dX9_stroke_50 rfl rfl ?_
          refine get_X9_0 (pc := 51) C rfl tw_862 dX9_stroke_51 ?_
          refine g_bipush (pc := 54) (v := 14) C dX9_stroke_54 bp_14 ?_
          refine g_iload_n (pc := 56) C 1 dX9_stroke_56 rfl rfl ?_
          refine g_iadd (pc := 57) C dX9_stroke_57 ?_
          obtain ⟨g_, h⟩ := h
          refine g_iald (pc := 58) C rfl g_ dX9_stroke_58 ?_
          exact g_iret (pc := 59) C dX9_stroke_59 ⟨_, rfl, h⟩
        · replace h := ite_t h c_
          refine g_bipush (pc := 37) (v := -2) C dX9_stroke_37 bp_m2 ?_
          exact g_iret (pc := 39) C dX9_stroke_39 ⟨_, rfl, h⟩
      · replace h := ite_f h c_
        refine g_bipush (pc := 25) (v := -4) C dX9_stroke_25 bp_m4 ?_
        exact g_iret (pc := 27) C dX9_stroke_27 ⟨_, rfl, h⟩
    · replace h := ite_t h c_
      refine g_lv [] (lv2 := []) rfl ?_
      exact k_X9_stroke_15 C  h
set_option maxHeartbeats 4000000 in
set_option maxRecDepth 100000 in
theorem M_X9_tear {l : Launch} {G : Gp} (hD : Dj shM G) {v1 : Int32} {σ : St} {K : Int32 → St → Prop} (h : wp_X9_tear v1 σ K) : MC l shM G yX9_tear cX9_tear 2 (some .int) 3 [.ref (G.2.2 0), .int v1] σ (RI K) := by
  unfold wp_X9_tear at h
  refine MC.of (by decide) hD (Nat.le_of_ble_eq_true rfl) ?_
  intro p e s m args below meth c C
  replace C : Cx p (rmD 3) s m args meth c shM G cX9_tear 2 3 RX9 (some .int) 0 0 := C
  show Go p l e (rmD 3) s m args below meth c shM G 2 0 0 (MQ below (Qw shM G (RI K)) args s 0 0 (Fr shM G)) 0 [(0, .ref (G.2.2 0)), (1, .int v1)] [] σ
  refine g_iload_n (pc := 0) C 1 dX9_tear_0 rfl rfl ?_
  refine g_callSip (pc := 1) (As := [.int v1]) (rest := []) C (M_X9_isRow C.2.2.1  h) CyX9_isRow tw_951 tw_952 (by decide) rfl rfl (Nat.le_of_ble_eq_true rfl) dX9_tear_1 (fun r1 h => ?_)
  refine g_if_ne (pc := 4) (tgt := 9) C dX9_tear_4 (by decide) (fun c_ => ?_) (fun c_ => ?_)
  · replace h := ite_f h c_
    refine g_aload_n (pc := 9) C 0 dX9_tear_9 rfl rfl ?_
    refine get_X9_4 (pc := 10) C rfl tw_866 dX9_tear_10 ?_
    refine g_iload_n (pc := 13) C 1 dX9_tear_13 rfl rfl ?_
    obtain ⟨g_, h⟩ := h
    refine g_iald (pc := 14) C rfl g_ dX9_tear_14 ?_
    refine g_if_ge (pc := 15) (tgt := 24) C dX9_tear_15 (by decide) (fun c_ => ?_) (fun c_ => ?_)
    · replace h := ite_t h c_
      refine g_aload_n (pc := 24) C 0 dX9_tear_24 rfl rfl ?_
      refine get_X9_4 (pc := 25) C rfl tw_866 dX9_tear_25 ?_
      refine g_iload_n (pc := 28) C 1 dX9_tear_28 rfl rfl ?_
      refine g_iconst (pc := 29) (v := -1) C dX9_tear_29 ic_m1 ?_
      obtain ⟨g_, h⟩ := h
      refine g_iast (pc := 30) C rfl g_ dX9_tear_30 ?_
      refine g_iconst (pc := 31) (v := 1) C dX9_tear_31 ic_1 ?_
      exact g_iret (pc := 32) C dX9_tear_32 ⟨_, rfl, h⟩
    · replace h := ite_f h c_
      refine g_aload_n (pc := 18) C 0 dX9_tear_18 rfl rfl ?_
      refine g_iconst (pc := 19) (v := 1) C dX9_tear_19 ic_1 ?_
      refine g_callVi (pc := 20) (As := [.int 1]) (rest := []) C rfl rfl rfl rfl (M_X9_found C.2.2.1  h) CyX9_found tw_958 tw_960 ts_25 (by decide) rfl rfl (Nat.le_of_ble_eq_true rfl) dX9_tear_20 (fun r20 t20 h => ?_)
      exact g_iret (pc := 23) C dX9_tear_23 ⟨_, rfl, h⟩
  · replace h := ite_t h c_
    refine g_iconst (pc := 7) (v := -1) C dX9_tear_7 ic_m1 ?_
    exact g_iret (pc := 8) C dX9_tear_8 ⟨_, rfl, h⟩
set_option maxHeartbeats 4000000 in
set_option maxRecDepth 100000 in
theorem k_X9_text_13 {σ : St} {K : Int32 → St → Prop} (C : Cx p R s m args meth c shM G cX9_text 4 3 RX9 (some .int) 0 0) (h : J_X9_text_13 σ K) : Go p l e R s m args below meth c shM G 4 0 0 (MQ below (Qw shM G (RI K)) args s 0 0 (Fr shM G)) 13 [] [] σ := by
  unfold J_X9_text_13 at h
  refine g_iconst (pc := 13) (v := -1) C dX9_text_13 ic_m1 ?_
  exact g_iret (pc := 14) C dX9_text_14 ⟨_, rfl, h⟩
set_option maxHeartbeats 4000000 in
set_option maxRecDepth 100000 in
theorem k_X9_text_34 {v1 : Int32} {v2 : Int32} {v3 : Int32} {σ : St} {K : Int32 → St → Prop} (C : Cx p R s m args meth c shM G cX9_text 4 3 RX9 (some .int) 0 0) (h : L_X9_text_34 v1 v2 K v3 σ) : Go p l e R s m args below meth c shM G 4 0 0 (MQ below (Qw shM G (RI K)) args s 0 0 (Fr shM G)) 34 [(0, .ref (G.2.2 0)), (1, .int v1), (2, .int v2), (3, .int v3)] [] σ := by
  obtain ⟨n_, h⟩ := h
  induction n_ generalizing v3 σ with
  | zero => exact h.elim
  | succ n_ ih =>
    replace h : B_X9_text_34 v1 v2 K (it2 (B_X9_text_34 v1 v2 K) n_) v3 σ := h
    unfold B_X9_text_34 at h
    refine g_iload_n (pc := 34) C 3 dX9_text_34 rfl rfl ?_
    refine g_bipush (pc := 35) (v := 60) C dX9_text_35 bp_60 ?_
    refine g_icmp_ge (pc := 37) (tgt := 59) C dX9_text_37 (by decide) (fun c_ => ?_) (fun c_ => ?_)
    · replace h := ite_t h c_
      refine g_iload_n (pc := 59) C 2 dX9_text_59 rfl rfl ?_
      exact g_iret (pc := 60) C dX9_text_60 ⟨_, rfl, h⟩
    · replace h := ite_f h c_
      refine g_aload_n (pc := 40) C 0 dX9_text_40 rfl rfl ?_
      refine get_X9_5 (pc := 41) C rfl tw_867 dX9_text_41 ?_
      refine g_bipush (pc := 44) (v := 60) C dX9_text_44 bp_60 ?_
      refine g_iload_n (pc := 46) C 1 dX9_text_46 rfl rfl ?_
      refine g_imul (pc := 47) C dX9_text_47 ?_
      refine g_iload_n (pc := 48) C 3 dX9_text_48 rfl rfl ?_
      refine g_iadd (pc := 49) C dX9_text_49 ?_
      refine g_bipush (pc := 50) (v := 32) C dX9_text_50 bp_32 ?_
      obtain ⟨g_, h⟩ := h
      refine g_iast (pc := 52) C rfl g_ dX9_text_52 ?_
      refine g_iinc (pc := 53) (lv2 := [(3, .int (v3 + 1)), (0, .ref (G.2.2 0)), (1, .int v1), (2, .int v2)]) C 3 dX9_text_53 ic_1 rfl (by decide) rfl ?_
      refine g_goto (pc := 56) (tgt := 34) C dX9_text_56 (by decide) ?_
      refine g_lv [1, 2, 3, 0] (lv2 := [(0, .ref (G.2.2 0)), (1, .int v1), (2, .int v2), (3, .int (v3 + 1))]) rfl ?_
      exact ih h
set_option maxHeartbeats 4000000 in
set_option maxRecDepth 100000 in
theorem M_X9_text {l : Launch} {G : Gp} (hD : Dj shM G) {v1 : Int32} {v2 : Int32} {σ : St} {K : Int32 → St → Prop} (h : wp_X9_text v1 v2 σ K) : MC l shM G yX9_text cX9_text 4 (some .int) 3 [.ref (G.2.2 0), .int v1, .int v2] σ (RI K) := by
  unfold wp_X9_text at h
  refine MC.of (by decide) hD (Nat.le_of_ble_eq_true rfl) ?_
  intro p e s m args below meth c C
  replace C : Cx p (rmD 3) s m args meth c shM G cX9_text 4 3 RX9 (some .int) 0 0 := C
  show Go p l e (rmD 3) s m args below meth c shM G 4 0 0 (MQ below (Qw shM G (RI K)) args s 0 0 (Fr shM G)) 0 [(0, .ref (G.2.2 0)), (1, .int v1), (2, .int v2)] [] σ
  refine g_iload_n (pc := 0) C 1 dX9_text_0 rfl rfl ?_
  refine g_callSip (pc := 1) (As := [.int v1]) (rest := []) C (M_X9_isText C.2.2.1  h) CyX9_isText tw_998 tw_999 (by decide) rfl rfl (Nat.le_of_ble_eq_true rfl) dX9_text_1 (fun r1 h => ?_)
  refine g_if_eq (pc := 4) (tgt := 13) C dX9_text_4 (by decide) (fun c_ => ?_) (fun c_ => ?_)
  · replace h := ite_t h c_
    refine g_lv [] (lv2 := []) rfl ?_
    exact k_X9_text_13 C  h
  · replace h := ite_f h c_
    refine g_iload_n (pc := 7) C 2 dX9_text_7 rfl rfl ?_
    refine g_bipush (pc := 8) (v := 60) C dX9_text_8 bp_60 ?_
    refine g_icmp_le (pc := 10) (tgt := 15) C dX9_text_10 (by decide) (fun c_ => ?_) (fun c_ => ?_)
    · replace h := ite_t h c_
      refine g_iload_n (pc := 15) C 2 dX9_text_15 rfl rfl ?_
      refine g_if_ge (pc := 16) (tgt := 25) C dX9_text_16 (by decide) (fun c_ => ?_) (fun c_ => ?_)
      · replace h := ite_t h c_
        refine g_aload_n (pc := 25) C 0 dX9_text_25 rfl rfl ?_
        refine get_X9_6 (pc := 26) C rfl tw_868 dX9_text_26 ?_
        refine g_iload_n (pc := 29) C 1 dX9_text_29 rfl rfl ?_
        refine g_iload_n (pc := 30) C 2 dX9_text_30 rfl rfl ?_
        obtain ⟨g_, h⟩ := h
        refine g_iast (pc := 31) C rfl g_ dX9_text_31 ?_
        refine g_iconst (pc := 32) (v := 0) C dX9_text_32 ic_0 ?_
        refine g_istore_n (pc := 33) (lv2 := [(3, .int 0), (0, .ref (G.2.2 0)), (1, .int v1), (2, .int v2)]) C dX9_text_33 rfl (by decide) rfl ?_
        refine g_lv [1, 2, 3, 0] (lv2 := [(0, .ref (G.2.2 0)), (1, .int v1), (2, .int v2), (3, .int 0)]) rfl ?_
        exact k_X9_text_34 C  h
      · replace h := ite_f h c_
        refine g_aload_n (pc := 19) C 0 dX9_text_19 rfl rfl ?_
        refine g_iconst (pc := 20) (v := 5) C dX9_text_20 ic_5 ?_
        refine g_callVi (pc := 21) (As := [.int 5]) (rest := []) C rfl rfl rfl rfl (M_X9_found C.2.2.1  h) CyX9_found tw_958 tw_960 ts_25 (by decide) rfl rfl (Nat.le_of_ble_eq_true rfl) dX9_text_21 (fun r21 t21 h => ?_)
        exact g_iret (pc := 24) C dX9_text_24 ⟨_, rfl, h⟩
    · replace h := ite_f h c_
      refine g_lv [] (lv2 := []) rfl ?_
      exact k_X9_text_13 C  h
set_option maxHeartbeats 4000000 in
set_option maxRecDepth 100000 in
theorem k_X9_tower_54 {v2 : Int32} {σ : St} {K : Int32 → St → Prop} (C : Cx p R s m args meth c shM G cX9_tower 3 5 RX9 (some .int) 0 0) (h : L_X9_tower_54 K v2 σ) : Go p l e R s m args below meth c shM G 3 0 0 (MQ below (Qw shM G (RI K)) args s 0 0 (Fr shM G)) 54 [(0, .ref (G.2.2 0)), (2, .int v2)] [] σ := by
  obtain ⟨n_, h⟩ := h
  induction n_ generalizing v2 σ with
  | zero => exact h.elim
  | succ n_ ih =>
    replace h : B_X9_tower_54 K (it2 (B_X9_tower_54 K) n_) v2 σ := h
    unfold B_X9_tower_54 at h
    refine g_iload_n (pc := 54) C 1 dX9_tower_54 rfl rfl ?_
    refine g_iconst (pc := 55) (v := 3) C dX9_tower_55 ic_3 ?_
    refine g_icmp_ge (pc := 56) (tgt := 72) C dX9_tower_56 (by decide) (fun c_ => ?_) (fun c_ => ?_)
    · replace h := ite_t h c_
      refine g_aload_n (pc := 72) C 0 dX9_tower_72 rfl rfl ?_
      refine get_X9_0 (pc := 73) C rfl tw_862 dX9_tower_73 ?_
      refine g_iconst (pc := 76) (v := 0) C dX9_tower_76 ic_0 ?_
      obtain ⟨g_, h⟩ := h
      refine g_iald (pc := 77) C rfl g_ dX9_tower_77 ?_
      exact g_iret (pc := 78) C dX9_tower_78 ⟨_, rfl, h⟩
    · replace h := ite_f h c_
      refine g_aload_n (pc := 59) C 0 dX9_tower_59 rfl rfl ?_
      refine get_X9_2 (pc := 60) C rfl tw_864 dX9_tower_60 ?_
      refine g_iload_n (pc := 63) C 1 dX9_tower_63 rfl rfl ?_
      refine g_iconst (pc := 64) (v := -1) C dX9_tower_64 ic_m1 ?_
      obtain ⟨g_, h⟩ := h
      refine g_iast (pc := 65) C rfl g_ dX9_tower_65 ?_
      refine g_iinc (pc := 66) (lv2 := [(2, .int (v2 + 1)), (0, .ref (G.2.2 0))]) C 1 dX9_tower_66 ic_1 rfl (by decide) rfl ?_
      refine g_goto (pc := 69) (tgt := 54) C dX9_tower_69 (by decide) ?_
      refine g_lv [1, 0] (lv2 := [(0, .ref (G.2.2 0)), (2, .int (v2 + 1))]) rfl ?_
      exact ih h
set_option maxHeartbeats 4000000 in
set_option maxRecDepth 100000 in
theorem M_X9_tower {l : Launch} {G : Gp} (hD : Dj shM G) {v1 : Int32} {σ : St} {K : Int32 → St → Prop} (h : wp_X9_tower v1 σ K) : MC l shM G yX9_tower cX9_tower 3 (some .int) 5 [.ref (G.2.2 0), .int v1] σ (RI K) := by
  unfold wp_X9_tower at h
  refine MC.of (by decide) hD (Nat.le_of_ble_eq_true rfl) ?_
  intro p e s m args below meth c C
  replace C : Cx p (rmD 5) s m args meth c shM G cX9_tower 3 5 RX9 (some .int) 0 0 := C
  show Go p l e (rmD 5) s m args below meth c shM G 3 0 0 (MQ below (Qw shM G (RI K)) args s 0 0 (Fr shM G)) 0 [(0, .ref (G.2.2 0)), (1, .int v1)] [] σ
  refine g_iload_n (pc := 0) C 1 dX9_tower_0 rfl rfl ?_
  refine g_callSip (pc := 1) (As := [.int v1]) (rest := []) C (M_X9_isText C.2.2.1  h) CyX9_isText tw_998 tw_999 (by decide) rfl rfl (Nat.le_of_ble_eq_true rfl) dX9_tower_1 (fun r1 h => ?_)
  refine g_if_ne (pc := 4) (tgt := 9) C dX9_tower_4 (by decide) (fun c_ => ?_) (fun c_ => ?_)
  · replace h := ite_f h c_
    refine g_aload_n (pc := 9) C 0 dX9_tower_9 rfl rfl ?_
    refine get_X9_6 (pc := 10) C rfl tw_868 dX9_tower_10 ?_
    refine g_iload_n (pc := 13) C 1 dX9_tower_13 rfl rfl ?_
    obtain ⟨g_, h⟩ := h
    refine g_iald (pc := 14) C rfl g_ dX9_tower_14 ?_
    refine g_if_ge (pc := 15) (tgt := 24) C dX9_tower_15 (by decide) (fun c_ => ?_) (fun c_ => ?_)
    · replace h := ite_t h c_
      refine g_aload_n (pc := 24) C 0 dX9_tower_24 rfl rfl ?_
      refine g_iload_n (pc := 25) C 1 dX9_tower_25 rfl rfl ?_
      refine g_callVi (pc := 26) (As := [.int v1]) (rest := []) C rfl rfl rfl rfl (M_X9_faultOf C.2.2.1  h) CyX9_faultOf tw_1010 tw_1012 ts_28 (by decide) rfl rfl (Nat.le_of_ble_eq_true rfl) dX9_tower_26 (fun r26 t26 h => ?_)
      refine g_bipush (pc := 29) (v := -9) C dX9_tower_29 bp_m9 ?_
      refine g_icmp_eq (pc := 31) (tgt := 37) C dX9_tower_31 (by decide) (fun c_ => ?_) (fun c_ => ?_)
      · replace h := ite_t h c_
        refine g_aload_n (pc := 37) C 0 dX9_tower_37 rfl rfl ?_
        refine g_sipush (pc := 38) (v := 5248) C dX9_tower_38 sp_5248 ?_
        refine g_iconst (pc := 41) (v := 0) C dX9_tower_41 ic_0 ?_
        refine g_bipush (pc := 42) (v := 32) C dX9_tower_42 bp_32 ?_
        refine g_callVv (pc := 44) (As := [.int 5248, .int 0, .int 32]) (rest := []) C rfl rfl rfl rfl (M_X9_copyAll C.2.2.1  h) CyX9_copyAll tw_1037 tw_1039 ts_33 (by decide) rfl rfl (Nat.le_of_ble_eq_true rfl) dX9_tower_44 (fun t44 h => ?_)
        refine g_aload_n (pc := 47) C 0 dX9_tower_47 rfl rfl ?_
        refine g_iconst (pc := 48) (v := 0) C dX9_tower_48 ic_0 ?_
        refine put_X9_1 (pc := 49) C rfl tw_863 dX9_tower_49 ?_
        refine g_iconst (pc := 52) (v := 0) C dX9_tower_52 ic_0 ?_
        refine g_istore_n (pc := 53) (lv2 := [(2, .int 0), (0, .ref (G.2.2 0)), (1, .int v1)]) C dX9_tower_53 rfl (by decide) rfl ?_
        refine g_lv [1, 0] (lv2 := [(0, .ref (G.2.2 0)), (2, .int 0)]) rfl ?_
        exact k_X9_tower_54 C  h
      · replace h := ite_f h c_
        refine g_bipush (pc := 34) (v := -4) C dX9_tower_34 bp_m4 ?_
        exact g_iret (pc := 36) C dX9_tower_36 ⟨_, rfl, h⟩
    · replace h := ite_f h c_
      refine g_aload_n (pc := 18) C 0 dX9_tower_18 rfl rfl ?_
      refine g_iconst (pc := 19) (v := 1) C dX9_tower_19 ic_1 ?_
      refine g_callVi (pc := 20) (As := [.int 1]) (rest := []) C rfl rfl rfl rfl (M_X9_found C.2.2.1  h) CyX9_found tw_958 tw_960 ts_25 (by decide) rfl rfl (Nat.le_of_ble_eq_true rfl) dX9_tower_20 (fun r20 t20 h => ?_)
      exact g_iret (pc := 23) C dX9_tower_23 ⟨_, rfl, h⟩
  · replace h := ite_t h c_
    refine g_iconst (pc := 7) (v := -1) C dX9_tower_7 ic_m1 ?_
    exact g_iret (pc := 8) C dX9_tower_8 ⟨_, rfl, h⟩
set_option maxHeartbeats 4000000 in
set_option maxRecDepth 100000 in
theorem k_X9_undo_59 {v2 : Int32} {σ : St} {K : Int32 → St → Prop} (C : Cx p R s m args meth c shM G cX9_undo 4 2 RX9 (some .int) 0 0) (h : J_X9_undo_59 v2 σ K) : Go p l e R s m args below meth c shM G 4 0 0 (MQ below (Qw shM G (RI K)) args s 0 0 (Fr shM G)) 59 [(2, .int v2)] [] σ := by
  unfold J_X9_undo_59 at h
  refine g_iload_n (pc := 59) C 0 dX9_undo_59 rfl rfl ?_
  exact g_iret (pc := 60) C dX9_undo_60 ⟨_, rfl, h⟩
set_option maxHeartbeats 4000000 in
set_option maxRecDepth 100000 in
theorem M_X9_undo {l : Launch} {G : Gp} (hD : Dj shM G) {v1 : Int32} {σ : St} {K : Int32 → St → Prop} (h : wp_X9_undo v1 σ K) : MC l shM G yX9_undo cX9_undo 4 (some .int) 2 [.ref (G.2.2 0), .int v1] σ (RI K) := by
  unfold wp_X9_undo at h
  refine MC.of (by decide) hD (Nat.le_of_ble_eq_true rfl) ?_
  intro p e s m args below meth c C
  replace C : Cx p (rmD 2) s m args meth c shM G cX9_undo 4 2 RX9 (some .int) 0 0 := C
  show Go p l e (rmD 2) s m args below meth c shM G 4 0 0 (MQ below (Qw shM G (RI K)) args s 0 0 (Fr shM G)) 0 [(0, .ref (G.2.2 0)), (1, .int v1)] [] σ
  refine g_iload_n (pc := 0) C 1 dX9_undo_0 rfl rfl ?_
  refine g_i2l (pc := 1) C dX9_undo_1 ?_
  refine g_lconst (pc := 2) (v := 0) C dX9_undo_2 lc_0 ?_
  refine g_aload_n (pc := 3) C 0 dX9_undo_3 rfl rfl ?_
  refine get_X9_1 (pc := 4) C rfl tw_863 dX9_undo_4 ?_
  refine g_i2l (pc := 7) C dX9_undo_7 ?_
  refine g_callSip (pc := 8) (As := [.long v1.toInt64, .long (0 : Int64), .long ((σ.1 0 1).toInt64)]) (rest := []) C (M_X9_in C.2.2.1  h) CyX9_in tw_955 tw_956 (by decide) rfl rfl (Nat.le_of_ble_eq_true rfl) dX9_undo_8 (fun r8 h => ?_)
  refine g_if_ne (pc := 11) (tgt := 16) C dX9_undo_11 (by decide) (fun c_ => ?_) (fun c_ => ?_)
  · replace h := ite_f h c_
    refine g_aload_n (pc := 16) C 0 dX9_undo_16 rfl rfl ?_
    refine get_X9_1 (pc := 17) C rfl tw_863 dX9_undo_17 ?_
    refine g_iload_n (pc := 20) C 1 dX9_undo_20 rfl rfl ?_
    refine g_isub (pc := 21) C dX9_undo_21 ?_
    refine g_istore_n (pc := 22) (lv2 := [(2, .int ((σ.1 0 1) - v1)), (0, .ref (G.2.2 0)), (1, .int v1)]) C dX9_undo_22 rfl (by decide) rfl ?_
    refine g_iload_n (pc := 23) C 0 dX9_undo_23 rfl rfl ?_
    refine g_if_le (pc := 24) (tgt := 59) C dX9_undo_24 (by decide) (fun c_ => ?_) (fun c_ => ?_)
    · replace h := ite_t h c_
      refine g_lv [0] (lv2 := [(2, .int ((σ.1 0 1) - v1))]) rfl ?_
      exact k_X9_undo_59 C  h
    · replace h := ite_f h c_
      refine g_aload_n (pc := 27) C 1 dX9_undo_27 rfl rfl ?_
      refine get_X9_0 (pc := 28) C rfl tw_862 dX9_undo_28 ?_
      refine g_iconst (pc := 31) (v := 1) C dX9_undo_31 ic_1 ?_
      obtain ⟨g_, h⟩ := h
      refine g_iald (pc := 32) C rfl g_ dX9_undo_32 ?_
      refine g_istore_n (pc := 33) (lv2 := [(3, .int (σ.1 1 (1 : Int32).toNatClampNeg)), (2, .int ((σ.1 0 1) - v1)), (0, .ref (G.2.2 0)), (1, .int v1)]) C dX9_undo_33 rfl (by decide) rfl ?_
      refine g_aload_n (pc := 34) C 2 dX9_undo_34 rfl rfl ?_
      refine g_bipush (pc := 35) (v := 32) C dX9_undo_35 bp_32 ?_
      refine g_iload_n (pc := 37) C 3 dX9_undo_37 rfl rfl ?_
      refine g_iconst (pc := 38) (v := 1) C dX9_undo_38 ic_1 ?_
      refine g_iadd (pc := 39) C dX9_undo_39 ?_
      refine g_imul (pc := 40) C dX9_undo_40 ?_
      refine g_iconst (pc := 41) (v := 0) C dX9_undo_41 ic_0 ?_
      refine g_bipush (pc := 42) (v := 32) C dX9_undo_42 bp_32 ?_
      refine g_callVv (pc := 44) (As := [.int (32 * (v1 + 1)), .int 0, .int 32]) (rest := []) C rfl rfl rfl rfl (M_X9_copyAll C.2.2.1  h) CyX9_copyAll tw_1037 tw_1039 ts_33 (by decide) rfl rfl (Nat.le_of_ble_eq_true rfl) dX9_undo_44 (fun t44 h => ?_)
      refine g_aload_n (pc := 47) C 2 dX9_undo_47 rfl rfl ?_
      refine get_X9_0 (pc := 48) C rfl tw_862 dX9_undo_48 ?_
      refine g_iconst (pc := 51) (v := 1) C dX9_undo_51 ic_1 ?_
      refine g_iload_n (pc := 52) C 0 dX9_undo_52 rfl rfl ?_
      obtain ⟨g_, h⟩ := h
      refine g_iast (pc := 53) C rfl g_ dX9_undo_53 ?_
      refine g_aload_n (pc := 54) C 2 dX9_undo_54 rfl rfl ?_
      refine g_iload_n (pc := 55) C 3 dX9_undo_55 rfl rfl ?_
      refine put_X9_1 (pc := 56) C rfl tw_863 dX9_undo_56 ?_
      refine g_lv [1] (lv2 := [(2, .int ((σ.1 0 1) - v1))]) rfl ?_
      exact k_X9_undo_59 C  h
  · replace h := ite_t h c_
    refine g_iconst (pc := 14) (v := -1) C dX9_undo_14 ic_m1 ?_
    exact g_iret (pc := 15) C dX9_undo_15 ⟨_, rfl, h⟩
set_option maxHeartbeats 4000000 in
set_option maxRecDepth 100000 in
theorem M_X9_upper {l : Launch} {G : Gp} (hD : Dj shM G) {σ : St} {K : Int64 → Prop} (h : wp_X9_upper σ K) : MC l shM G yX9_upper cX9_upper 1 (some .long) 1 [.ref (G.2.2 0)] σ (RJ (fun r t => t = σ ∧ K r)) := by
  unfold wp_X9_upper at h
  refine MC.of (by decide) hD (Nat.le_of_ble_eq_true rfl) ?_
  intro p e s m args below meth c C
  replace C : Cx p (rmD 1) s m args meth c shM G cX9_upper 1 1 RX9 (some .long) 0 0 := C
  show Go p l e (rmD 1) s m args below meth c shM G 1 0 0 (MQ below (Qw shM G (RJ (fun r t => t = σ ∧ K r))) args s 0 0 (Fr shM G)) 0 [(0, .ref (G.2.2 0))] [] σ
  refine g_aload_n (pc := 0) C 0 dX9_upper_0 rfl rfl ?_
  refine get_X9_11 (pc := 1) C rfl tw_873 dX9_upper_1 ?_
  exact g_lret (pc := 4) C dX9_upper_4 ⟨_, rfl, ⟨rfl, h⟩⟩
set_option maxHeartbeats 4000000 in
set_option maxRecDepth 100000 in
theorem k_X9_ways_20 {σ : St} {K : Int32 → St → Prop} (C : Cx p R s m args meth c shM G cX9_ways 9 3 RX9 (some .int) 0 0) (h : J_X9_ways_20 σ K) : Go p l e R s m args below meth c shM G 9 0 0 (MQ below (Qw shM G (RI K)) args s 0 0 (Fr shM G)) 20 [] [] σ := by
  unfold J_X9_ways_20 at h
  refine g_iconst (pc := 20) (v := -1) C dX9_ways_20 ic_m1 ?_
  exact g_iret (pc := 21) C dX9_ways_21 ⟨_, rfl, h⟩
set_option maxHeartbeats 4000000 in
set_option maxRecDepth 100000 in
theorem k_X9_ways_134 {v1 : Int32} {v2 : Int32} {v3 : Int32} {v4 : Int32} {v5 : Int64} {σ : St} {K : Int32 → St → Prop} {Φ35 : Int32 → St → Prop} {Φ43 : Int32 → St → Prop} (C : Cx p R s m args meth c shM G cX9_ways 9 3 RX9 (some .int) 0 0) (hΦ35 : ∀ (v3' : Int32) (σ' : St), Φ35 v3' σ' → Go p l e R s m args below meth c shM G 9 0 0 (MQ below (Qw shM G (RI K)) args s 0 0 (Fr shM G)) 35 [(0, .ref (G.2.2 0)), (1, .int v1), (2, .int v2), (3, .int (v3'))] [] σ') (hΦ43 : ∀ (v4' : Int32) (σ' : St), Φ43 v4' σ' → Go p l e R s m args below meth c shM G 9 0 0 (MQ below (Qw shM G (RI K)) args s 0 0 (Fr shM G)) 43 [(0, .ref (G.2.2 0)), (1, .int v1), (2, .int v2), (3, .int v3), (4, .int (v4'))] [] σ') (h : J_X9_ways_134 v1 v2 v3 v4 v5 σ K Φ35 Φ43) : Go p l e R s m args below meth c shM G 9 0 0 (MQ below (Qw shM G (RI K)) args s 0 0 (Fr shM G)) 134 [(0, .ref (G.2.2 0)), (1, .int v1), (2, .int v2), (3, .int v3), (4, .int v4), (5, .long v5)] [] σ := by
  unfold J_X9_ways_134 at h
  refine g_aload_n (pc := 134) C 0 dX9_ways_134 rfl rfl ?_
  refine get_X9_21 (pc := 135) C rfl tw_883 dX9_ways_135 ?_
  refine g_bipush (pc := 138) (v := 21) C dX9_ways_138 bp_21 ?_
  refine g_iload_n (pc := 140) C 3 dX9_ways_140 rfl rfl ?_
  refine g_imul (pc := 141) C dX9_ways_141 ?_
  refine g_iload (pc := 142) C 4 dX9_ways_142 rfl ?_
  refine g_iadd (pc := 144) C dX9_ways_144 ?_
  refine g_lload (pc := 145) C 5 dX9_ways_145 rfl ?_
  obtain ⟨g_, h⟩ := h
  refine g_last (pc := 147) C rfl g_ dX9_ways_147 ?_
  refine g_iinc (pc := 148) (lv2 := [(4, .int (v4 + 1)), (0, .ref (G.2.2 0)), (1, .int v1), (2, .int v2), (3, .int v3), (5, .long v5)]) C 4 dX9_ways_148 ic_1 rfl (by decide) rfl ?_
  refine g_goto (pc := 151) (tgt := 43) C dX9_ways_151 (by decide) ?_
  refine g_lv [1, 2, 3, 4, 0] (lv2 := [(0, .ref (G.2.2 0)), (1, .int v1), (2, .int v2), (3, .int v3), (4, .int (v4 + 1))]) rfl ?_
  exact hΦ43 _ _ h
set_option maxHeartbeats 4000000 in
set_option maxRecDepth 100000 in
theorem k_X9_ways_125 {v1 : Int32} {v2 : Int32} {v3 : Int32} {v4 : Int32} {v7 : Int32} {w0 : Int64} {w1 : Int64} {σ : St} {K : Int32 → St → Prop} {Φ35 : Int32 → St → Prop} {Φ43 : Int32 → St → Prop} {Φ71 : Int64 → Int32 → Prop} (C : Cx p R s m args meth c shM G cX9_ways 9 3 RX9 (some .int) 0 0) (hΦ35 : ∀ (v3' : Int32) (σ' : St), Φ35 v3' σ' → Go p l e R s m args below meth c shM G 9 0 0 (MQ below (Qw shM G (RI K)) args s 0 0 (Fr shM G)) 35 [(0, .ref (G.2.2 0)), (1, .int v1), (2, .int v2), (3, .int (v3'))] [] σ') (hΦ43 : ∀ (v4' : Int32) (σ' : St), Φ43 v4' σ' → Go p l e R s m args below meth c shM G 9 0 0 (MQ below (Qw shM G (RI K)) args s 0 0 (Fr shM G)) 43 [(0, .ref (G.2.2 0)), (1, .int v1), (2, .int v2), (3, .int v3), (4, .int (v4'))] [] σ') (hΦ71 : ∀ (v5' : Int64) (v7' : Int32), Φ71 v5' v7' → Go p l e R s m args below meth c shM G 9 0 0 (MQ below (Qw shM G (RI K)) args s 0 0 (Fr shM G)) 71 [(0, .ref (G.2.2 0)), (1, .int v1), (2, .int v2), (3, .int v3), (4, .int v4), (5, .long (v5')), (7, .int (v7'))] [] σ) (h : J_X9_ways_125 v1 v2 v3 v4 v7 w0 w1 σ K Φ35 Φ43 Φ71) : Go p l e R s m args below meth c shM G 9 0 0 (MQ below (Qw shM G (RI K)) args s 0 0 (Fr shM G)) 125 [(0, .ref (G.2.2 0)), (1, .int v1), (2, .int v2), (3, .int v3), (4, .int v4), (7, .int v7)] [.long w1, .long w0] σ := by
  unfold J_X9_ways_125 at h
  refine g_ladd (pc := 125) C dX9_ways_125 ?_
  refine g_lstore (pc := 126) (lv2 := [(5, .long (w0 + w1)), (0, .ref (G.2.2 0)), (1, .int v1), (2, .int v2), (3, .int v3), (4, .int v4), (7, .int v7)]) C dX9_ways_126 (by decide) rfl ?_
  refine g_iinc (pc := 128) (lv2 := [(7, .int (v7 + 1)), (5, .long (w0 + w1)), (0, .ref (G.2.2 0)), (1, .int v1), (2, .int v2), (3, .int v3), (4, .int v4)]) C 6 dX9_ways_128 ic_1 rfl (by decide) rfl ?_
  refine g_goto (pc := 131) (tgt := 71) C dX9_ways_131 (by decide) ?_
  refine g_lv [2, 3, 4, 5, 6, 1, 0] (lv2 := [(0, .ref (G.2.2 0)), (1, .int v1), (2, .int v2), (3, .int v3), (4, .int v4), (5, .long (w0 + w1)), (7, .int (v7 + 1))]) rfl ?_
  exact hΦ71 _ _ h
set_option maxHeartbeats 4000000 in
set_option maxRecDepth 100000 in
theorem k_X9_ways_71 {v1 : Int32} {v2 : Int32} {v3 : Int32} {v4 : Int32} {v5 : Int64} {v7 : Int32} {σ : St} {K : Int32 → St → Prop} {Φ35 : Int32 → St → Prop} {Φ43 : Int32 → St → Prop} (C : Cx p R s m args meth c shM G cX9_ways 9 3 RX9 (some .int) 0 0) (hΦ35 : ∀ (v3' : Int32) (σ' : St), Φ35 v3' σ' → Go p l e R s m args below meth c shM G 9 0 0 (MQ below (Qw shM G (RI K)) args s 0 0 (Fr shM G)) 35 [(0, .ref (G.2.2 0)), (1, .int v1), (2, .int v2), (3, .int (v3'))] [] σ') (hΦ43 : ∀ (v4' : Int32) (σ' : St), Φ43 v4' σ' → Go p l e R s m args below meth c shM G 9 0 0 (MQ below (Qw shM G (RI K)) args s 0 0 (Fr shM G)) 43 [(0, .ref (G.2.2 0)), (1, .int v1), (2, .int v2), (3, .int v3), (4, .int (v4'))] [] σ') (h : L_X9_ways_71 v1 v2 v3 v4 σ K Φ35 Φ43 v5 v7) : Go p l e R s m args below meth c shM G 9 0 0 (MQ below (Qw shM G (RI K)) args s 0 0 (Fr shM G)) 71 [(0, .ref (G.2.2 0)), (1, .int v1), (2, .int v2), (3, .int v3), (4, .int v4), (5, .long v5), (7, .int v7)] [] σ := by
  obtain ⟨n_, h⟩ := h
  induction n_ generalizing v5 v7 with
  | zero => exact h.elim
  | succ n_ ih =>
    replace h : B_X9_ways_71 v1 v2 v3 v4 σ K Φ35 Φ43 (it2 (B_X9_ways_71 v1 v2 v3 v4 σ K Φ35 Φ43) n_) v5 v7 := h
    unfold B_X9_ways_71 at h
    refine g_iload (pc := 71) C 6 dX9_ways_71 rfl ?_
    refine g_bipush (pc := 73) (v := 7) C dX9_ways_73 bp_7 ?_
    refine g_icmp_ge (pc := 75) (tgt := 134) C dX9_ways_75 (by decide) (fun c_ => ?_) (fun c_ => ?_)
    · replace h := ite_t h c_
      refine g_lv [0, 1, 2, 3, 4, 5] (lv2 := [(0, .ref (G.2.2 0)), (1, .int v1), (2, .int v2), (3, .int v3), (4, .int v4), (5, .long v5)]) rfl ?_
      exact k_X9_ways_134 C hΦ35 hΦ43 h
    · replace h := ite_f h c_
      refine g_iload_n (pc := 78) C 3 dX9_ways_78 rfl rfl ?_
      refine g_if_le (pc := 79) (tgt := 134) C dX9_ways_79 (by decide) (fun c_ => ?_) (fun c_ => ?_)
      · replace h := ite_t h c_
        refine g_lv [0, 1, 2, 3, 4, 5] (lv2 := [(0, .ref (G.2.2 0)), (1, .int v1), (2, .int v2), (3, .int v3), (4, .int v4), (5, .long v5)]) rfl ?_
        exact k_X9_ways_134 C hΦ35 hΦ43 h
      · replace h := ite_f h c_
        refine g_aload_n (pc := 82) C 0 dX9_ways_82 rfl rfl ?_
        refine get_X9_0 (pc := 83) C rfl tw_862 dX9_ways_83 ?_
        refine g_iconst (pc := 86) (v := 2) C dX9_ways_86 ic_2 ?_
        refine g_iload_n (pc := 87) C 1 dX9_ways_87 rfl rfl ?_
        refine g_iadd (pc := 88) C dX9_ways_88 ?_
        obtain ⟨g_, h⟩ := h
        refine g_iald (pc := 89) C rfl g_ dX9_ways_89 ?_
        refine g_iload (pc := 90) C 4 dX9_ways_90 rfl ?_
        refine g_iload (pc := 92) C 6 dX9_ways_92 rfl ?_
        refine g_callSip (pc := 94) (As := [.int (σ.1 1 (2 + v1).toNatClampNeg), .int v4, .int v7]) (rest := []) C (M_X9_after C.2.2.1  h) CyX9_after tw_1061 tw_1062 (by decide) rfl rfl (Nat.le_of_ble_eq_true rfl) dX9_ways_94 (fun r94 h => ?_)
        refine g_istore (pc := 97) (lv2 := [(8, .int r94), (0, .ref (G.2.2 0)), (1, .int v1), (2, .int v2), (3, .int v3), (4, .int v4), (5, .long v5), (7, .int v7)]) C dX9_ways_97 (by decide) rfl ?_
        refine g_lload (pc := 99) C 6 dX9_ways_99 rfl ?_
        refine g_iload (pc := 101) C 0 dX9_ways_101 rfl ?_
        refine g_iconst (pc := 103) (v := -1) C dX9_ways_103 ic_m1 ?_
        refine g_icmp_ne (pc := 104) (tgt := 111) C dX9_ways_104 (by decide) (fun c_ => ?_) (fun c_ => ?_)
        · replace h := ite_f h c_
          refine g_aload_n (pc := 111) C 1 dX9_ways_111 rfl rfl ?_
          refine get_X9_21 (pc := 112) C rfl tw_883 dX9_ways_112 ?_
          refine g_bipush (pc := 115) (v := 21) C dX9_ways_115 bp_21 ?_
          refine g_iload_n (pc := 117) C 4 dX9_ways_117 rfl rfl ?_
          refine g_iconst (pc := 118) (v := 1) C dX9_ways_118 ic_1 ?_
          refine g_isub (pc := 119) C dX9_ways_119 ?_
          refine g_imul (pc := 120) C dX9_ways_120 ?_
          refine g_iload (pc := 121) C 0 dX9_ways_121 rfl ?_
          refine g_iadd (pc := 123) C dX9_ways_123 ?_
          obtain ⟨g_, h⟩ := h
          refine g_lald (pc := 124) C rfl g_ dX9_ways_124 ?_
          refine g_lv [1, 2, 3, 4, 5, 7] (lv2 := [(0, .ref (G.2.2 0)), (1, .int v1), (2, .int v2), (3, .int v3), (4, .int v4), (7, .int v7)]) rfl ?_
          exact k_X9_ways_125 C hΦ35 hΦ43 (fun _ _ h_ => ih h_) h
        · replace h := ite_t h c_
          refine g_lconst (pc := 107) (v := 0) C dX9_ways_107 lc_0 ?_
          refine g_goto (pc := 108) (tgt := 125) C dX9_ways_108 (by decide) ?_
          refine g_lv [1, 2, 3, 4, 5, 7] (lv2 := [(0, .ref (G.2.2 0)), (1, .int v1), (2, .int v2), (3, .int v3), (4, .int v4), (7, .int v7)]) rfl ?_
          exact k_X9_ways_125 C hΦ35 hΦ43 (fun _ _ h_ => ih h_) h
set_option maxHeartbeats 4000000 in
set_option maxRecDepth 100000 in
theorem k_X9_ways_66 {v1 : Int32} {v2 : Int32} {v3 : Int32} {v4 : Int32} {w0 : Int64} {σ : St} {K : Int32 → St → Prop} {Φ35 : Int32 → St → Prop} {Φ43 : Int32 → St → Prop} (C : Cx p R s m args meth c shM G cX9_ways 9 3 RX9 (some .int) 0 0) (hΦ35 : ∀ (v3' : Int32) (σ' : St), Φ35 v3' σ' → Go p l e R s m args below meth c shM G 9 0 0 (MQ below (Qw shM G (RI K)) args s 0 0 (Fr shM G)) 35 [(0, .ref (G.2.2 0)), (1, .int v1), (2, .int v2), (3, .int (v3'))] [] σ') (hΦ43 : ∀ (v4' : Int32) (σ' : St), Φ43 v4' σ' → Go p l e R s m args below meth c shM G 9 0 0 (MQ below (Qw shM G (RI K)) args s 0 0 (Fr shM G)) 43 [(0, .ref (G.2.2 0)), (1, .int v1), (2, .int v2), (3, .int v3), (4, .int (v4'))] [] σ') (h : J_X9_ways_66 v1 v2 v3 v4 w0 σ K Φ35 Φ43) : Go p l e R s m args below meth c shM G 9 0 0 (MQ below (Qw shM G (RI K)) args s 0 0 (Fr shM G)) 66 [(0, .ref (G.2.2 0)), (1, .int v1), (2, .int v2), (3, .int v3), (4, .int v4)] [.long w0] σ := by
  unfold J_X9_ways_66 at h
  refine g_lstore (pc := 66) (lv2 := [(5, .long w0), (0, .ref (G.2.2 0)), (1, .int v1), (2, .int v2), (3, .int v3), (4, .int v4)]) C dX9_ways_66 (by decide) rfl ?_
  refine g_iconst (pc := 68) (v := 0) C dX9_ways_68 ic_0 ?_
  refine g_istore (pc := 69) (lv2 := [(7, .int 0), (5, .long w0), (0, .ref (G.2.2 0)), (1, .int v1), (2, .int v2), (3, .int v3), (4, .int v4)]) C dX9_ways_69 (by decide) rfl ?_
  refine g_lv [2, 3, 4, 5, 6, 1, 0] (lv2 := [(0, .ref (G.2.2 0)), (1, .int v1), (2, .int v2), (3, .int v3), (4, .int v4), (5, .long w0), (7, .int 0)]) rfl ?_
  exact k_X9_ways_71 C hΦ35 hΦ43 h
set_option maxHeartbeats 4000000 in
set_option maxRecDepth 100000 in
theorem k_X9_ways_65 {v1 : Int32} {v2 : Int32} {v3 : Int32} {v4 : Int32} {σ : St} {K : Int32 → St → Prop} {Φ35 : Int32 → St → Prop} {Φ43 : Int32 → St → Prop} (C : Cx p R s m args meth c shM G cX9_ways 9 3 RX9 (some .int) 0 0) (hΦ35 : ∀ (v3' : Int32) (σ' : St), Φ35 v3' σ' → Go p l e R s m args below meth c shM G 9 0 0 (MQ below (Qw shM G (RI K)) args s 0 0 (Fr shM G)) 35 [(0, .ref (G.2.2 0)), (1, .int v1), (2, .int v2), (3, .int (v3'))] [] σ') (hΦ43 : ∀ (v4' : Int32) (σ' : St), Φ43 v4' σ' → Go p l e R s m args below meth c shM G 9 0 0 (MQ below (Qw shM G (RI K)) args s 0 0 (Fr shM G)) 43 [(0, .ref (G.2.2 0)), (1, .int v1), (2, .int v2), (3, .int v3), (4, .int (v4'))] [] σ') (h : J_X9_ways_65 v1 v2 v3 v4 σ K Φ35 Φ43) : Go p l e R s m args below meth c shM G 9 0 0 (MQ below (Qw shM G (RI K)) args s 0 0 (Fr shM G)) 65 [(0, .ref (G.2.2 0)), (1, .int v1), (2, .int v2), (3, .int v3), (4, .int v4)] [] σ := by
  unfold J_X9_ways_65 at h
  refine g_lconst (pc := 65) (v := 0) C dX9_ways_65 lc_0 ?_
  refine g_lv [0, 1, 2, 3, 4] (lv2 := [(0, .ref (G.2.2 0)), (1, .int v1), (2, .int v2), (3, .int v3), (4, .int v4)]) rfl ?_
  exact k_X9_ways_66 C hΦ35 hΦ43 h
set_option maxHeartbeats 4000000 in
set_option maxRecDepth 100000 in
theorem k_X9_ways_43 {v1 : Int32} {v2 : Int32} {v3 : Int32} {v4 : Int32} {σ : St} {K : Int32 → St → Prop} {Φ35 : Int32 → St → Prop} (C : Cx p R s m args meth c shM G cX9_ways 9 3 RX9 (some .int) 0 0) (hΦ35 : ∀ (v3' : Int32) (σ' : St), Φ35 v3' σ' → Go p l e R s m args below meth c shM G 9 0 0 (MQ below (Qw shM G (RI K)) args s 0 0 (Fr shM G)) 35 [(0, .ref (G.2.2 0)), (1, .int v1), (2, .int v2), (3, .int (v3'))] [] σ') (h : L_X9_ways_43 v1 v2 v3 K Φ35 v4 σ) : Go p l e R s m args below meth c shM G 9 0 0 (MQ below (Qw shM G (RI K)) args s 0 0 (Fr shM G)) 43 [(0, .ref (G.2.2 0)), (1, .int v1), (2, .int v2), (3, .int v3), (4, .int v4)] [] σ := by
  obtain ⟨n_, h⟩ := h
  induction n_ generalizing v4 σ with
  | zero => exact h.elim
  | succ n_ ih =>
    replace h : B_X9_ways_43 v1 v2 v3 K Φ35 (it2 (B_X9_ways_43 v1 v2 v3 K Φ35) n_) v4 σ := h
    unfold B_X9_ways_43 at h
    refine g_iload (pc := 43) C 4 dX9_ways_43 rfl ?_
    refine g_bipush (pc := 45) (v := 20) C dX9_ways_45 bp_20 ?_
    refine g_icmp_gt (pc := 47) (tgt := 154) C dX9_ways_47 (by decide) (fun c_ => ?_) (fun c_ => ?_)
    · replace h := ite_t h c_
      refine g_iinc (pc := 154) (lv2 := [(3, .int (v3 + 1)), (0, .ref (G.2.2 0)), (1, .int v1), (2, .int v2), (4, .int v4)]) C 3 dX9_ways_154 ic_1 rfl (by decide) rfl ?_
      refine g_goto (pc := 157) (tgt := 35) C dX9_ways_157 (by decide) ?_
      refine g_lv [1, 2, 3, 0] (lv2 := [(0, .ref (G.2.2 0)), (1, .int v1), (2, .int v2), (3, .int (v3 + 1))]) rfl ?_
      exact hΦ35 _ _ h
    · replace h := ite_f h c_
      refine g_iload_n (pc := 50) C 3 dX9_ways_50 rfl rfl ?_
      refine g_if_ne (pc := 51) (tgt := 65) C dX9_ways_51 (by decide) (fun c_ => ?_) (fun c_ => ?_)
      · replace h := ite_f h c_
        refine g_lv [0, 1, 2, 3, 4] (lv2 := [(0, .ref (G.2.2 0)), (1, .int v1), (2, .int v2), (3, .int v3), (4, .int v4)]) rfl ?_
        exact k_X9_ways_65 C hΦ35 (fun _ _ h_ => ih h_) h
      · replace h := ite_t h c_
        refine g_iload (pc := 54) C 4 dX9_ways_54 rfl ?_
        refine g_bipush (pc := 56) (v := 20) C dX9_ways_56 bp_20 ?_
        refine g_icmp_ne (pc := 58) (tgt := 65) C dX9_ways_58 (by decide) (fun c_ => ?_) (fun c_ => ?_)
        · replace h := ite_f h c_
          refine g_lv [0, 1, 2, 3, 4] (lv2 := [(0, .ref (G.2.2 0)), (1, .int v1), (2, .int v2), (3, .int v3), (4, .int v4)]) rfl ?_
          exact k_X9_ways_65 C hΦ35 (fun _ _ h_ => ih h_) h
        · replace h := ite_t h c_
          refine g_lconst (pc := 61) (v := 1) C dX9_ways_61 lc_1 ?_
          refine g_goto (pc := 62) (tgt := 66) C dX9_ways_62 (by decide) ?_
          refine g_lv [0, 1, 2, 3, 4] (lv2 := [(0, .ref (G.2.2 0)), (1, .int v1), (2, .int v2), (3, .int v3), (4, .int v4)]) rfl ?_
          exact k_X9_ways_66 C hΦ35 (fun _ _ h_ => ih h_) h
set_option maxHeartbeats 4000000 in
set_option maxRecDepth 100000 in
theorem k_X9_ways_35 {v1 : Int32} {v2 : Int32} {v3 : Int32} {σ : St} {K : Int32 → St → Prop} (C : Cx p R s m args meth c shM G cX9_ways 9 3 RX9 (some .int) 0 0) (h : L_X9_ways_35 v1 v2 K v3 σ) : Go p l e R s m args below meth c shM G 9 0 0 (MQ below (Qw shM G (RI K)) args s 0 0 (Fr shM G)) 35 [(0, .ref (G.2.2 0)), (1, .int v1), (2, .int v2), (3, .int v3)] [] σ := by
  obtain ⟨n_, h⟩ := h
  induction n_ generalizing v3 σ with
  | zero => exact h.elim
  | succ n_ ih =>
    replace h : B_X9_ways_35 v1 v2 K (it2 (B_X9_ways_35 v1 v2 K) n_) v3 σ := h
    unfold B_X9_ways_35 at h
    refine g_iload_n (pc := 35) C 3 dX9_ways_35 rfl rfl ?_
    refine g_iload_n (pc := 36) C 2 dX9_ways_36 rfl rfl ?_
    refine g_icmp_gt (pc := 37) (tgt := 160) C dX9_ways_37 (by decide) (fun c_ => ?_) (fun c_ => ?_)
    · replace h := ite_t h c_
      refine g_aload_n (pc := 160) C 0 dX9_ways_160 rfl rfl ?_
      refine g_aload_n (pc := 161) C 0 dX9_ways_161 rfl rfl ?_
      refine get_X9_21 (pc := 162) C rfl tw_883 dX9_ways_162 ?_
      refine g_bipush (pc := 165) (v := 21) C dX9_ways_165 bp_21 ?_
      refine g_iload_n (pc := 167) C 2 dX9_ways_167 rfl rfl ?_
      refine g_imul (pc := 168) C dX9_ways_168 ?_
      refine g_aload_n (pc := 169) C 0 dX9_ways_169 rfl rfl ?_
      refine get_X9_0 (pc := 170) C rfl tw_862 dX9_ways_170 ?_
      refine g_bipush (pc := 173) (v := 14) C dX9_ways_173 bp_14 ?_
      refine g_iload_n (pc := 175) C 1 dX9_ways_175 rfl rfl ?_
      refine g_iadd (pc := 176) C dX9_ways_176 ?_
      obtain ⟨g_, h⟩ := h
      refine g_iald (pc := 177) C rfl g_ dX9_ways_177 ?_
      refine g_iadd (pc := 178) C dX9_ways_178 ?_
      obtain ⟨g_, h⟩ := h
      refine g_lald (pc := 179) C rfl g_ dX9_ways_179 ?_
      refine put_X9_11 (pc := 180) C rfl tw_873 dX9_ways_180 ?_
      refine g_aload_n (pc := 183) C 0 dX9_ways_183 rfl rfl ?_
      refine g_lconst (pc := 184) (v := 1) C dX9_ways_184 lc_1 ?_
      refine put_X9_12 (pc := 185) C rfl tw_874 dX9_ways_185 ?_
      refine g_iconst (pc := 188) (v := 1) C dX9_ways_188 ic_1 ?_
      exact g_iret (pc := 189) C dX9_ways_189 ⟨_, rfl, h⟩
    · replace h := ite_f h c_
      refine g_iconst (pc := 40) (v := 0) C dX9_ways_40 ic_0 ?_
      refine g_istore (pc := 41) (lv2 := [(4, .int 0), (0, .ref (G.2.2 0)), (1, .int v1), (2, .int v2), (3, .int v3)]) C dX9_ways_41 (by decide) rfl ?_
      refine g_lv [1, 2, 3, 4, 0] (lv2 := [(0, .ref (G.2.2 0)), (1, .int v1), (2, .int v2), (3, .int v3), (4, .int 0)]) rfl ?_
      exact k_X9_ways_43 C (fun _ _ h_ => ih h_) h
set_option maxHeartbeats 4000000 in
set_option maxRecDepth 100000 in
theorem M_X9_ways {l : Launch} {G : Gp} (hD : Dj shM G) {v1 : Int32} {v2 : Int32} {σ : St} {K : Int32 → St → Prop} (h : wp_X9_ways v1 v2 σ K) : MC l shM G yX9_ways cX9_ways 9 (some .int) 3 [.ref (G.2.2 0), .int v1, .int v2] σ (RI K) := by
  unfold wp_X9_ways at h
  refine MC.of (by decide) hD (Nat.le_of_ble_eq_true rfl) ?_
  intro p e s m args below meth c C
  replace C : Cx p (rmD 3) s m args meth c shM G cX9_ways 9 3 RX9 (some .int) 0 0 := C
  show Go p l e (rmD 3) s m args below meth c shM G 9 0 0 (MQ below (Qw shM G (RI K)) args s 0 0 (Fr shM G)) 0 [(0, .ref (G.2.2 0)), (1, .int v1), (2, .int v2)] [] σ
  refine g_aload_n (pc := 0) C 0 dX9_ways_0 rfl rfl ?_
  refine g_iload_n (pc := 1) C 1 dX9_ways_1 rfl rfl ?_
  refine g_callVip (pc := 2) (As := [.int v1]) (rest := []) C rfl rfl rfl rfl (M_X9_isBell C.2.2.1  h) CyX9_isBell tw_1045 tw_1047 ts_34 (by decide) rfl rfl (Nat.le_of_ble_eq_true rfl) dX9_ways_2 (fun r2 h => ?_)
  refine g_if_eq (pc := 5) (tgt := 20) C dX9_ways_5 (by decide) (fun c_ => ?_) (fun c_ => ?_)
  · replace h := ite_t h c_
    refine g_lv [] (lv2 := []) rfl ?_
    exact k_X9_ways_20 C  h
  · replace h := ite_f h c_
    refine g_iload_n (pc := 8) C 2 dX9_ways_8 rfl rfl ?_
    refine g_i2l (pc := 9) C dX9_ways_9 ?_
    refine g_lconst (pc := 10) (v := 0) C dX9_ways_10 lc_0 ?_
    refine g_ldc2 (pc := 11) (v := 12) C dX9_ways_11 tw_1158 ?_
    refine g_callSip (pc := 14) (As := [.long v2.toInt64, .long (0 : Int64), .long (12 : Int64)]) (rest := []) C (M_X9_in C.2.2.1  h) CyX9_in tw_955 tw_956 (by decide) rfl rfl (Nat.le_of_ble_eq_true rfl) dX9_ways_14 (fun r14 h => ?_)
    refine g_if_ne (pc := 17) (tgt := 22) C dX9_ways_17 (by decide) (fun c_ => ?_) (fun c_ => ?_)
    · replace h := ite_f h c_
      refine g_aload_n (pc := 22) C 0 dX9_ways_22 rfl rfl ?_
      refine g_iload_n (pc := 23) C 1 dX9_ways_23 rfl rfl ?_
      refine g_callVip (pc := 24) (As := [.int v1]) (rest := []) C rfl rfl rfl rfl (M_X9_isOver C.2.2.1  h) CyX9_isOver tw_1089 tw_1091 ts_38 (by decide) rfl rfl (Nat.le_of_ble_eq_true rfl) dX9_ways_24 (fun r24 h => ?_)
      refine g_if_eq (pc := 27) (tgt := 33) C dX9_ways_27 (by decide) (fun c_ => ?_) (fun c_ => ?_)
      · replace h := ite_t h c_
        refine g_iconst (pc := 33) (v := 0) C dX9_ways_33 ic_0 ?_
        refine g_istore_n (pc := 34) (lv2 := [(3, .int 0), (0, .ref (G.2.2 0)), (1, .int v1), (2, .int v2)]) C dX9_ways_34 rfl (by decide) rfl ?_
        refine g_lv [1, 2, 3, 0] (lv2 := [(0, .ref (G.2.2 0)), (1, .int v1), (2, .int v2), (3, .int 0)]) rfl ?_
        exact k_X9_ways_35 C  h
      · replace h := ite_f h c_
        refine g_bipush (pc := 30) (v := -4) C dX9_ways_30 bp_m4 ?_
        exact g_iret (pc := 32) C dX9_ways_32 ⟨_, rfl, h⟩
    · replace h := ite_t h c_
      refine g_lv [] (lv2 := []) rfl ?_
      exact k_X9_ways_20 C  h
end MM

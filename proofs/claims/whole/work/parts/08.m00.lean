section MM
variable {p : Program} {l : Launch} {e : Env} {R : Room} {s : State} {m : MethodId} {args : Array Value} {below : List Frame} {meth : Method} {c : Code} {G : Gp}
set_option maxHeartbeats 4000000 in
set_option maxRecDepth 100000 in
theorem k_X8_isOf_34 {w0 : Int32} {σ : St} {K : Int32 → Prop} (C : Cx p R s m args meth c shC G cX8_isOf 2 1 RX8 (some .boolean) 0 0) (h : J_X8_isOf_34 w0 K) : Go p l e R s m args below meth c shC G 2 0 0 (MQ below (Qw shC G (RI (fun r t => t = σ ∧ K r))) args s 0 0 (Fr shC G)) 34 [] [.int w0] σ := by
  unfold J_X8_isOf_34 at h
  obtain ⟨g_, h⟩ := h
  exact g_zret (pc := 34) C g_ dX8_isOf_34 ⟨_, rfl, ⟨rfl, h⟩⟩
set_option maxHeartbeats 4000000 in
set_option maxRecDepth 100000 in
theorem k_X8_isOf_29 {σ : St} {K : Int32 → Prop} (C : Cx p R s m args meth c shC G cX8_isOf 2 1 RX8 (some .boolean) 0 0) (h : J_X8_isOf_29 K) : Go p l e R s m args below meth c shC G 2 0 0 (MQ below (Qw shC G (RI (fun r t => t = σ ∧ K r))) args s 0 0 (Fr shC G)) 29 [] [] σ := by
  unfold J_X8_isOf_29 at h
  refine g_iconst (pc := 29) (v := 1) C dX8_isOf_29 ic_1 ?_
  refine g_goto (pc := 30) (tgt := 34) C dX8_isOf_30 (by decide) ?_
  refine g_lv [] (lv2 := []) rfl ?_
  exact k_X8_isOf_34 C  h
set_option maxHeartbeats 4000000 in
set_option maxRecDepth 100000 in
theorem k_X8_isOf_33 {σ : St} {K : Int32 → Prop} (C : Cx p R s m args meth c shC G cX8_isOf 2 1 RX8 (some .boolean) 0 0) (h : J_X8_isOf_33 K) : Go p l e R s m args below meth c shC G 2 0 0 (MQ below (Qw shC G (RI (fun r t => t = σ ∧ K r))) args s 0 0 (Fr shC G)) 33 [] [] σ := by
  unfold J_X8_isOf_33 at h
  refine g_iconst (pc := 33) (v := 0) C dX8_isOf_33 ic_0 ?_
  refine g_lv [] (lv2 := []) rfl ?_
  exact k_X8_isOf_34 C  h
set_option maxHeartbeats 4000000 in
set_option maxRecDepth 100000 in
theorem k_X8_isOf_19 {v0 : Int32} {v1 : Int32} {σ : St} {K : Int32 → Prop} (C : Cx p R s m args meth c shC G cX8_isOf 2 1 RX8 (some .boolean) 0 0) (h : J_X8_isOf_19 v0 v1 K) : Go p l e R s m args below meth c shC G 2 0 0 (MQ below (Qw shC G (RI (fun r t => t = σ ∧ K r))) args s 0 0 (Fr shC G)) 19 [(0, .int v0), (1, .int v1)] [] σ := by
  unfold J_X8_isOf_19 at h
  refine g_iload_n (pc := 19) C 0 dX8_isOf_19 rfl rfl ?_
  refine g_iconst (pc := 20) (v := 5) C dX8_isOf_20 ic_5 ?_
  refine g_icmp_ne (pc := 21) (tgt := 33) C dX8_isOf_21 (by decide) (fun c_ => ?_) (fun c_ => ?_)
  · replace h := ite_f h c_
    refine g_lv [] (lv2 := []) rfl ?_
    exact k_X8_isOf_33 C  h
  · replace h := ite_t h c_
    refine g_iload_n (pc := 24) C 1 dX8_isOf_24 rfl rfl ?_
    refine g_iconst (pc := 25) (v := 2) C dX8_isOf_25 ic_2 ?_
    refine g_icmp_ne (pc := 26) (tgt := 33) C dX8_isOf_26 (by decide) (fun c_ => ?_) (fun c_ => ?_)
    · replace h := ite_f h c_
      refine g_lv [] (lv2 := []) rfl ?_
      exact k_X8_isOf_33 C  h
    · replace h := ite_t h c_
      refine g_lv [] (lv2 := []) rfl ?_
      exact k_X8_isOf_29 C  h
set_option maxHeartbeats 4000000 in
set_option maxRecDepth 100000 in
theorem M_X8_isOf {l : Launch} {G : Gp} (hD : Dj shC G) {v0 : Int32} {v1 : Int32} {σ : St} {K : Int32 → Prop} (h : wp_X8_isOf v0 v1 K) : MC l shC G yX8_isOf cX8_isOf 2 (some .boolean) 1 [.int v0, .int v1] σ (RI (fun r t => t = σ ∧ K r)) := by
  unfold wp_X8_isOf at h
  refine MC.of (by decide) hD (Nat.le_of_ble_eq_true rfl) ?_
  intro p e s m args below meth c C
  replace C : Cx p (rmD 1) s m args meth c shC G cX8_isOf 2 1 RX8 (some .boolean) 0 0 := C
  show Go p l e (rmD 1) s m args below meth c shC G 2 0 0 (MQ below (Qw shC G (RI (fun r t => t = σ ∧ K r))) args s 0 0 (Fr shC G)) 0 [(0, .int v0), (1, .int v1)] [] σ
  refine g_iload_n (pc := 0) C 0 dX8_isOf_0 rfl rfl ?_
  refine g_iload_n (pc := 1) C 1 dX8_isOf_1 rfl rfl ?_
  refine g_icmp_eq (pc := 2) (tgt := 29) C dX8_isOf_2 (by decide) (fun c_ => ?_) (fun c_ => ?_)
  · replace h := ite_t h c_
    refine g_lv [] (lv2 := []) rfl ?_
    exact k_X8_isOf_29 C  h
  · replace h := ite_f h c_
    refine g_iload_n (pc := 5) C 1 dX8_isOf_5 rfl rfl ?_
    refine g_if_eq (pc := 6) (tgt := 29) C dX8_isOf_6 (by decide) (fun c_ => ?_) (fun c_ => ?_)
    · replace h := ite_t h c_
      refine g_lv [] (lv2 := []) rfl ?_
      exact k_X8_isOf_29 C  h
    · replace h := ite_f h c_
      refine g_iload_n (pc := 9) C 0 dX8_isOf_9 rfl rfl ?_
      refine g_iconst (pc := 10) (v := 4) C dX8_isOf_10 ic_4 ?_
      refine g_icmp_ne (pc := 11) (tgt := 19) C dX8_isOf_11 (by decide) (fun c_ => ?_) (fun c_ => ?_)
      · replace h := ite_f h c_
        refine g_lv [0, 1] (lv2 := [(0, .int v0), (1, .int v1)]) rfl ?_
        exact k_X8_isOf_19 C  h
      · replace h := ite_t h c_
        refine g_iload_n (pc := 14) C 1 dX8_isOf_14 rfl rfl ?_
        refine g_iconst (pc := 15) (v := 1) C dX8_isOf_15 ic_1 ?_
        refine g_icmp_eq (pc := 16) (tgt := 29) C dX8_isOf_16 (by decide) (fun c_ => ?_) (fun c_ => ?_)
        · replace h := ite_t h c_
          refine g_lv [] (lv2 := []) rfl ?_
          exact k_X8_isOf_29 C  h
        · replace h := ite_f h c_
          refine g_lv [0, 1] (lv2 := [(0, .int v0), (1, .int v1)]) rfl ?_
          exact k_X8_isOf_19 C  h
set_option maxHeartbeats 4000000 in
set_option maxRecDepth 100000 in
theorem k_X8_after_61 {w0 : Int32} {σ : St} {K : Int32 → Prop} (C : Cx p R s m args meth c shC G cX8_after 6 2 RX8 (some .int) 0 0) (h : J_X8_after_61 w0 K) : Go p l e R s m args below meth c shC G 6 0 0 (MQ below (Qw shC G (RI (fun r t => t = σ ∧ K r))) args s 0 0 (Fr shC G)) 61 [] [.int w0] σ := by
  unfold J_X8_after_61 at h
  exact g_iret (pc := 61) C dX8_after_61 ⟨_, rfl, ⟨rfl, h⟩⟩
set_option maxHeartbeats 4000000 in
set_option maxRecDepth 100000 in
theorem k_X8_after_29 {v1 : Int32} {v3 : Int32} {w0 : Int32} {σ : St} {K : Int32 → Prop} (C : Cx p R s m args meth c shC G cX8_after 6 2 RX8 (some .int) 0 0) (h : J_X8_after_29 v1 v3 w0 K) : Go p l e R s m args below meth c shC G 6 0 0 (MQ below (Qw shC G (RI (fun r t => t = σ ∧ K r))) args s 0 0 (Fr shC G)) 29 [(1, .int v1), (3, .int v3)] [.int w0] σ := by
  unfold J_X8_after_29 at h
  refine g_istore (pc := 29) (lv2 := [(4, .int w0), (1, .int v1), (3, .int v3)]) C dX8_after_29 (by decide) rfl ?_
  refine g_iconst (pc := 31) (v := 0) C dX8_after_31 ic_0 ?_
  refine g_iload_n (pc := 32) C 1 dX8_after_32 rfl rfl ?_
  refine g_iload_n (pc := 33) C 2 dX8_after_33 rfl rfl ?_
  refine g_iadd (pc := 34) C dX8_after_34 ?_
  refine g_iload (pc := 35) C 0 dX8_after_35 rfl ?_
  refine g_isub (pc := 37) C dX8_after_37 ?_
  refine g_max (pc := 38) C dX8_after_38 tw_403 tw_177 tw_10 tw_178 (by decide) (Nat.le_of_ble_eq_true rfl) ?_
  refine g_istore (pc := 41) (lv2 := [(5, .int (imax 0 ((v1 + v3) - w0))), (4, .int w0), (1, .int v1), (3, .int v3)]) C dX8_after_41 (by decide) rfl ?_
  refine g_iload (pc := 43) C 0 dX8_after_43 rfl ?_
  refine g_bipush (pc := 45) (v := 22) C dX8_after_45 bp_22 ?_
  refine g_icmp_lt (pc := 47) (tgt := 54) C dX8_after_47 (by decide) (fun c_ => ?_) (fun c_ => ?_)
  · replace h := ite_t h c_
    refine g_iload (pc := 54) C 0 dX8_after_54 rfl ?_
    refine g_bipush (pc := 56) (v := 20) C dX8_after_56 bp_20 ?_
    refine g_min (pc := 58) C dX8_after_58 tw_351 tw_260 tw_10 tw_261 (by decide) (Nat.le_of_ble_eq_true rfl) ?_
    refine g_lv [] (lv2 := []) rfl ?_
    exact k_X8_after_61 C  h
  · replace h := ite_f h c_
    refine g_iconst (pc := 50) (v := -1) C dX8_after_50 ic_m1 ?_
    refine g_goto (pc := 51) (tgt := 61) C dX8_after_51 (by decide) ?_
    refine g_lv [] (lv2 := []) rfl ?_
    exact k_X8_after_61 C  h
set_option maxHeartbeats 4000000 in
set_option maxRecDepth 100000 in
theorem k_X8_after_15 {v0 : Int32} {v1 : Int32} {w0 : Int32} {σ : St} {K : Int32 → Prop} (C : Cx p R s m args meth c shC G cX8_after 6 2 RX8 (some .int) 0 0) (h : J_X8_after_15 v0 v1 w0 K) : Go p l e R s m args below meth c shC G 6 0 0 (MQ below (Qw shC G (RI (fun r t => t = σ ∧ K r))) args s 0 0 (Fr shC G)) 15 [(0, .int v0), (1, .int v1)] [.int w0] σ := by
  unfold J_X8_after_15 at h
  refine g_istore_n (pc := 15) (lv2 := [(3, .int w0), (0, .int v0), (1, .int v1)]) C dX8_after_15 rfl (by decide) rfl ?_
  refine g_iload_n (pc := 16) C 1 dX8_after_16 rfl rfl ?_
  refine g_iconst (pc := 17) (v := 2) C dX8_after_17 ic_2 ?_
  refine g_callSip (pc := 18) (As := [.int v0, .int 2]) (rest := []) C (M_X8_isOf C.2.2.1  h) CyX8_isOf tw_393 tw_394 (by decide) rfl rfl (Nat.le_of_ble_eq_true rfl) dX8_after_18 (fun r18 h => ?_)
  refine g_if_eq (pc := 21) (tgt := 28) C dX8_after_21 (by decide) (fun c_ => ?_) (fun c_ => ?_)
  · replace h := ite_t h c_
    refine g_iconst (pc := 28) (v := 1) C dX8_after_28 ic_1 ?_
    refine g_lv [2, 0] (lv2 := [(1, .int v1), (3, .int w0)]) rfl ?_
    exact k_X8_after_29 C  h
  · replace h := ite_f h c_
    refine g_iconst (pc := 24) (v := 0) C dX8_after_24 ic_0 ?_
    refine g_goto (pc := 25) (tgt := 29) C dX8_after_25 (by decide) ?_
    refine g_lv [2, 0] (lv2 := [(1, .int v1), (3, .int w0)]) rfl ?_
    exact k_X8_after_29 C  h
set_option maxHeartbeats 4000000 in
set_option maxRecDepth 100000 in
theorem M_X8_after {l : Launch} {G : Gp} (hD : Dj shC G) {v0 : Int32} {v1 : Int32} {v2 : Int32} {σ : St} {K : Int32 → Prop} (h : wp_X8_after v0 v1 v2 K) : MC l shC G yX8_after cX8_after 6 (some .int) 2 [.int v0, .int v1, .int v2] σ (RI (fun r t => t = σ ∧ K r)) := by
  unfold wp_X8_after at h
  refine MC.of (by decide) hD (Nat.le_of_ble_eq_true rfl) ?_
  intro p e s m args below meth c C
  replace C : Cx p (rmD 2) s m args meth c shC G cX8_after 6 2 RX8 (some .int) 0 0 := C
  show Go p l e (rmD 2) s m args below meth c shC G 6 0 0 (MQ below (Qw shC G (RI (fun r t => t = σ ∧ K r))) args s 0 0 (Fr shC G)) 0 [(0, .int v0), (1, .int v1), (2, .int v2)] [] σ
  refine g_iload_n (pc := 0) C 0 dX8_after_0 rfl rfl ?_
  refine g_iconst (pc := 1) (v := 1) C dX8_after_1 ic_1 ?_
  refine g_callSip (pc := 2) (As := [.int v0, .int 1]) (rest := []) C (M_X8_isOf C.2.2.1  h) CyX8_isOf tw_393 tw_394 (by decide) rfl rfl (Nat.le_of_ble_eq_true rfl) dX8_after_2 (fun r2 h => ?_)
  refine g_if_eq (pc := 5) (tgt := 14) C dX8_after_5 (by decide) (fun c_ => ?_) (fun c_ => ?_)
  · replace h := ite_t h c_
    refine g_iload_n (pc := 14) C 2 dX8_after_14 rfl rfl ?_
    refine g_lv [0, 1] (lv2 := [(0, .int v0), (1, .int v1)]) rfl ?_
    exact k_X8_after_15 C  h
  · replace h := ite_f h c_
    refine g_iload_n (pc := 8) C 2 dX8_after_8 rfl rfl ?_
    refine g_iconst (pc := 9) (v := 2) C dX8_after_9 ic_2 ?_
    refine g_idiv (pc := 10) C dX8_after_10 (by decide) ?_
    refine g_goto (pc := 11) (tgt := 15) C dX8_after_11 (by decide) ?_
    refine g_lv [0, 1] (lv2 := [(0, .int v0), (1, .int v1)]) rfl ?_
    exact k_X8_after_15 C  h
set_option maxHeartbeats 4000000 in
set_option maxRecDepth 100000 in
theorem k_X8_find_28 {σ : St} {K : Int32 → St → Prop} (C : Cx p R s m args meth c shC G cX8_find 2 1 RX8 (some .int) 0 0) (h : J_X8_find_28 σ K) : Go p l e R s m args below meth c shC G 2 0 0 (MQ below (Qw shC G (RI K)) args s 0 0 (Fr shC G)) 28 [] [] σ := by
  unfold J_X8_find_28 at h
  refine g_bipush (pc := 28) (v := -3) C dX8_find_28 bp_m3 ?_
  exact g_iret (pc := 30) C dX8_find_30 ⟨_, rfl, h⟩
set_option maxHeartbeats 4000000 in
set_option maxRecDepth 100000 in
theorem M_X8_find {l : Launch} {G : Gp} (hD : Dj shC G) {v1 : Int32} {σ : St} {K : Int32 → St → Prop} (h : wp_X8_find v1 σ K) : MC l shC G yX8_find cX8_find 2 (some .int) 1 [.ref (G.2.2 0), .int v1] σ (RI K) := by
  unfold wp_X8_find at h
  refine MC.of (by decide) hD (Nat.le_of_ble_eq_true rfl) ?_
  intro p e s m args below meth c C
  replace C : Cx p (rmD 1) s m args meth c shC G cX8_find 2 1 RX8 (some .int) 0 0 := C
  show Go p l e (rmD 1) s m args below meth c shC G 2 0 0 (MQ below (Qw shC G (RI K)) args s 0 0 (Fr shC G)) 0 [(0, .ref (G.2.2 0)), (1, .int v1)] [] σ
  refine g_aload_n (pc := 0) C 0 dX8_find_0 rfl rfl ?_
  refine g_iload_n (pc := 1) C 1 dX8_find_1 rfl rfl ?_
  refine put_X8_11 (pc := 2) C rfl tw_205 dX8_find_2 ?_
  refine g_iload_n (pc := 5) C 1 dX8_find_5 rfl rfl ?_
  refine g_if_lt (pc := 6) (tgt := 28) C dX8_find_6 (by decide) (fun c_ => ?_) (fun c_ => ?_)
  · replace h := ite_t h c_
    refine g_lv [] (lv2 := []) rfl ?_
    exact k_X8_find_28 C  h
  · replace h := ite_f h c_
    refine g_iload_n (pc := 9) C 1 dX8_find_9 rfl rfl ?_
    refine g_aload_n (pc := 10) C 0 dX8_find_10 rfl rfl ?_
    refine get_X8_10 (pc := 11) C rfl tw_204 dX8_find_11 ?_
    refine g_alen10 (pc := 14) C rfl dX8_find_14 ?_
    refine g_icmp_ge (pc := 15) (tgt := 28) C dX8_find_15 (by decide) (fun c_ => ?_) (fun c_ => ?_)
    · replace h := ite_t h c_
      refine g_lv [] (lv2 := []) rfl ?_
      exact k_X8_find_28 C  h
    · replace h := ite_f h c_
      refine g_aload_n (pc := 18) C 0 dX8_find_18 rfl rfl ?_
      refine get_X8_10 (pc := 19) C rfl tw_204 dX8_find_19 ?_
      refine g_iload_n (pc := 22) C 1 dX8_find_22 rfl rfl ?_
      refine g_dup2 (pc := 23) C dX8_find_23 rfl rfl ?_
      obtain ⟨g_, h⟩ := h
      refine g_iald (pc := 24) C rfl g_ dX8_find_24 ?_
      refine g_iconst (pc := 25) (v := 1) C dX8_find_25 ic_1 ?_
      refine g_iadd (pc := 26) C dX8_find_26 ?_
      obtain ⟨g_, h⟩ := h
      refine g_iast (pc := 27) C rfl g_ dX8_find_27 ?_
      refine g_lv [] (lv2 := []) rfl ?_
      exact k_X8_find_28 C  h
set_option maxHeartbeats 4000000 in
set_option maxRecDepth 100000 in
theorem M_J7_rangeCheck_23922 {l : Launch} {G : Gp} (hD : Dj shC G) {v0 : Int32} {v1 : Int32} {v2 : Int32} {σ : St} {K : Prop} (h : wp_J7_rangeCheck_23922 v0 v1 v2 K) : MC l shC G yJ7_rangeCheck_23922 cJ7_rangeCheck_23922 3 none 1 [.int v0, .int v1, .int v2] σ (RV (fun t => t = σ ∧ K)) := by
  unfold wp_J7_rangeCheck_23922 at h
  refine MC.of (by decide) hD (Nat.le_of_ble_eq_true rfl) ?_
  intro p e s m args below meth c C
  replace C : Cx p (rmD 1) s m args meth c shC G cJ7_rangeCheck_23922 3 1 RJ7 none 0 0 := C
  show Go p l e (rmD 1) s m args below meth c shC G 3 0 0 (MQ below (Qw shC G (RV (fun t => t = σ ∧ K))) args s 0 0 (Fr shC G)) 0 [(0, .int v0), (1, .int v1), (2, .int v2)] [] σ
  refine g_iload_n (pc := 0) C 1 dJ7_rangeCheck_23922_0 rfl rfl ?_
  refine g_iload_n (pc := 1) C 2 dJ7_rangeCheck_23922_1 rfl rfl ?_
  refine g_icmp_le (pc := 2) (tgt := 46) C dJ7_rangeCheck_23922_2 (by decide) (fun c_ => ?_) (fun c_ => ?_)
  · replace h := ite_t h c_
    refine g_iload_n (pc := 46) C 1 dJ7_rangeCheck_23922_46 rfl rfl ?_
    refine g_if_ge (pc := 47) (tgt := 59) C dJ7_rangeCheck_23922_47 (by decide) (fun c_ => ?_) (fun c_ => ?_)
    · replace h := ite_t h c_
      refine g_iload_n (pc := 59) C 2 dJ7_rangeCheck_23922_59 rfl rfl ?_
      refine g_iload_n (pc := 60) C 0 dJ7_rangeCheck_23922_60 rfl rfl ?_
      refine g_icmp_le (pc := 61) (tgt := 73) C dJ7_rangeCheck_23922_61 (by decide) (fun c_ => ?_) (fun c_ => ?_)
      · replace h := ite_t h c_
        exact g_vret (pc := 73) C dJ7_rangeCheck_23922_73 ⟨rfl, ⟨rfl, h⟩⟩
      · replace h := ite_f h c_
        exact h.elim
    · replace h := ite_f h c_
      exact h.elim
  · replace h := ite_f h c_
    exact h.elim
set_option maxHeartbeats 4000000 in
set_option maxRecDepth 100000 in
theorem k_J7_fill_fda19_10 {k0 : Nat} {n0 : Nat} {v2 : Int32} {v3 : Int32} {v4 : Int32} {σ : St} {K : St → Prop} (C : Cx p R s m args meth c shC G cJ7_fill_fda19 5 2 RJ7 none 0 0) (hk0 : shC[k0]? = some (10, n0, 0)) (h : L_J7_fill_fda19_10 k0 n0 v2 v3 K v4 σ) : Go p l e R s m args below meth c shC G 5 0 0 (MQ below (Qw shC G (RV K)) args s 0 0 (Fr shC G)) 10 [(0, .ref (G.2.2 k0)), (2, .int v2), (3, .int v3), (4, .int v4)] [] σ := by
  obtain ⟨n_, h⟩ := h
  induction n_ generalizing v4 σ with
  | zero => exact h.elim
  | succ n_ ih =>
    replace h : B_J7_fill_fda19_10 k0 n0 v2 v3 K (it2 (B_J7_fill_fda19_10 k0 n0 v2 v3 K) n_) v4 σ := h
    unfold B_J7_fill_fda19_10 at h
    refine g_iload (pc := 10) C 3 dJ7_fill_fda19_10 rfl ?_
    refine g_iload_n (pc := 12) C 1 dJ7_fill_fda19_12 rfl rfl ?_
    refine g_icmp_ge (pc := 13) (tgt := 27) C dJ7_fill_fda19_13 (by decide) (fun c_ => ?_) (fun c_ => ?_)
    · replace h := ite_t h c_
      exact g_vret (pc := 27) C dJ7_fill_fda19_27 ⟨rfl, h⟩
    · replace h := ite_f h c_
      refine g_aload_n (pc := 16) C 0 dJ7_fill_fda19_16 rfl rfl ?_
      refine g_iload (pc := 17) C 3 dJ7_fill_fda19_17 rfl ?_
      refine g_iload_n (pc := 19) C 2 dJ7_fill_fda19_19 rfl rfl ?_
      obtain ⟨g_, h⟩ := h
      refine g_iast (pc := 20) C hk0 g_ dJ7_fill_fda19_20 ?_
      refine g_iinc (pc := 21) (lv2 := [(4, .int (v4 + 1)), (0, .ref (G.2.2 k0)), (2, .int v2), (3, .int v3)]) C 3 dJ7_fill_fda19_21 ic_1 rfl (by decide) rfl ?_
      refine g_goto (pc := 24) (tgt := 10) C dJ7_fill_fda19_24 (by decide) ?_
      refine g_lv [1, 2, 3, 0] (lv2 := [(0, .ref (G.2.2 k0)), (2, .int v2), (3, .int v3), (4, .int (v4 + 1))]) rfl ?_
      exact ih h
set_option maxHeartbeats 4000000 in
set_option maxRecDepth 100000 in
theorem M_J7_fill_fda19 {l : Launch} {G : Gp} (hD : Dj shC G) {k0 : Nat} {n0 : Nat} {v1 : Int32} {v2 : Int32} {v3 : Int32} {σ : St} {K : St → Prop} (hk0 : shC[k0]? = some (10, n0, 0)) (h : wp_J7_fill_fda19 k0 n0 v1 v2 v3 σ K) : MC l shC G yJ7_fill_fda19 cJ7_fill_fda19 5 none 2 [.ref (G.2.2 k0), .int v1, .int v2, .int v3] σ (RV K) := by
  unfold wp_J7_fill_fda19 at h
  refine MC.of (by decide) hD (Nat.le_of_ble_eq_true rfl) ?_
  intro p e s m args below meth c C
  replace C : Cx p (rmD 2) s m args meth c shC G cJ7_fill_fda19 5 2 RJ7 none 0 0 := C
  show Go p l e (rmD 2) s m args below meth c shC G 5 0 0 (MQ below (Qw shC G (RV K)) args s 0 0 (Fr shC G)) 0 [(0, .ref (G.2.2 k0)), (1, .int v1), (2, .int v2), (3, .int v3)] [] σ
  refine g_aload_n (pc := 0) C 0 dJ7_fill_fda19_0 rfl rfl ?_
  refine g_alen10 (pc := 1) C hk0 dJ7_fill_fda19_1 ?_
  refine g_iload_n (pc := 2) C 1 dJ7_fill_fda19_2 rfl rfl ?_
  refine g_iload_n (pc := 3) C 2 dJ7_fill_fda19_3 rfl rfl ?_
  refine g_callSvp (pc := 4) (As := [.int (nI n0), .int v1, .int v2]) (rest := []) C (M_J7_rangeCheck_23922 C.2.2.1  h) CyJ7_rangeCheck_23922 tw_265 tw_266 (by decide) rfl rfl (Nat.le_of_ble_eq_true rfl) dJ7_fill_fda19_4 (fun h => ?_)
  refine g_iload_n (pc := 7) C 1 dJ7_fill_fda19_7 rfl rfl ?_
  refine g_istore (pc := 8) (lv2 := [(4, .int v1), (0, .ref (G.2.2 k0)), (1, .int v1), (2, .int v2), (3, .int v3)]) C dJ7_fill_fda19_8 (by decide) rfl ?_
  refine g_lv [1, 3, 4, 0] (lv2 := [(0, .ref (G.2.2 k0)), (2, .int v2), (3, .int v3), (4, .int v1)]) rfl ?_
  exact k_J7_fill_fda19_10 C hk0 h
set_option maxHeartbeats 4000000 in
set_option maxRecDepth 100000 in
theorem M_X6_begin {l : Launch} {G : Gp} (hD : Dj shC G) {k0 : Nat} {n0 : Nat} {v1 : Int32} {v2 : Int32} {σ : St} {K : St → Prop} (hk0 : shC[k0]? = some (6, n0, 0)) (h : wp_X6_begin k0 n0 v1 v2 σ K) : MC l shC G yX6_begin cX6_begin 3 none 3 [.ref (G.2.2 k0), .int v1, .int v2] σ (RV K) := by
  unfold wp_X6_begin at h
  refine MC.of (by decide) hD (Nat.le_of_ble_eq_true rfl) ?_
  intro p e s m args below meth c C
  replace C : Cx p (rmD 3) s m args meth c shC G cX6_begin 3 3 RX6 none 0 0 := C
  show Go p l e (rmD 3) s m args below meth c shC G 3 0 0 (MQ below (Qw shC G (RV K)) args s 0 0 (Fr shC G)) 0 [(0, .ref (G.2.2 k0)), (1, .int v1), (2, .int v2)] [] σ
  refine g_aload_n (pc := 0) C 0 dX6_begin_0 rfl rfl ?_
  refine g_iconst (pc := 1) (v := 1) C dX6_begin_1 ic_1 ?_
  refine put_X6_1 (pc := 2) C hk0 (by first | exact Or.inl rfl | exact Or.inr rfl) tw_182 dX6_begin_2 ?_
  refine g_aload_n (pc := 5) C 0 dX6_begin_5 rfl rfl ?_
  refine g_iconst (pc := 6) (v := 0) C dX6_begin_6 ic_0 ?_
  refine g_iload_n (pc := 7) C 1 dX6_begin_7 rfl rfl ?_
  refine g_aload_n (pc := 8) C 0 dX6_begin_8 rfl rfl ?_
  refine get_X6_0 (pc := 9) C hk0 tw_179 dX6_begin_9 ?_
  refine g_alen10 (pc := 12) C (sh6_0 hk0) dX6_begin_12 ?_
  refine g_min (pc := 13) C dX6_begin_13 tw_259 tw_260 tw_10 tw_261 (by decide) (Nat.le_of_ble_eq_true rfl) ?_
  refine g_max (pc := 16) C dX6_begin_16 tw_176 tw_177 tw_10 tw_178 (by decide) (Nat.le_of_ble_eq_true rfl) ?_
  refine put_X6_2 (pc := 19) C hk0 tw_184 dX6_begin_19 ?_
  refine g_aload_n (pc := 22) C 0 dX6_begin_22 rfl rfl ?_
  refine get_X6_0 (pc := 23) C hk0 tw_179 dX6_begin_23 ?_
  refine g_iconst (pc := 26) (v := 0) C dX6_begin_26 ic_0 ?_
  refine g_aload_n (pc := 27) C 0 dX6_begin_27 rfl rfl ?_
  refine get_X6_2 (pc := 28) C hk0 tw_184 dX6_begin_28 ?_
  refine g_iload_n (pc := 31) C 2 dX6_begin_31 rfl rfl ?_
  refine g_callSv (pc := 32) (As := [.ref (G.2.2 (k0 + 1)), .int 0, .int ((uI (uI σ k0 1 1) k0 2 (imax 0 (imin v1 (nI n0)))).1 k0 2), .int v2]) (rest := []) C (M_J7_fill_fda19 C.2.2.1 (sh6_0 hk0) h) CyJ7_fill_fda19 tw_262 tw_263 (by decide) rfl rfl (Nat.le_of_ble_eq_true rfl) dX6_begin_32 (fun t32 h => ?_)
  exact g_vret (pc := 35) C dX6_begin_35 ⟨rfl, h⟩
set_option maxHeartbeats 4000000 in
set_option maxRecDepth 100000 in
theorem M_X8_anew {l : Launch} {G : Gp} (hD : Dj shC G) {k1 : Nat} {n1 : Nat} {v2 : Int32} {v3 : Int32} {σ : St} {K : Int32 → St → Prop} (hk1 : shC[k1]? = some (6, n1, 0)) (h : wp_X8_anew k1 n1 v2 v3 σ K) : MC l shC G yX8_anew cX8_anew 4 (some .int) 4 [.ref (G.2.2 0), .ref (G.2.2 k1), .int v2, .int v3] σ (RI K) := by
  unfold wp_X8_anew at h
  refine MC.of (by decide) hD (Nat.le_of_ble_eq_true rfl) ?_
  intro p e s m args below meth c C
  replace C : Cx p (rmD 4) s m args meth c shC G cX8_anew 4 4 RX8 (some .int) 0 0 := C
  show Go p l e (rmD 4) s m args below meth c shC G 4 0 0 (MQ below (Qw shC G (RI K)) args s 0 0 (Fr shC G)) 0 [(0, .ref (G.2.2 0)), (1, .ref (G.2.2 k1)), (2, .int v2), (3, .int v3)] [] σ
  refine g_iload_n (pc := 0) C 2 dX8_anew_0 rfl rfl ?_
  refine g_aload_n (pc := 1) C 1 dX8_anew_1 rfl rfl ?_
  refine get_X6_0 (pc := 2) C hk1 tw_180 dX8_anew_2 ?_
  refine g_alen10 (pc := 5) C (sh6_0 hk1) dX8_anew_5 ?_
  refine g_icmp_le (pc := 6) (tgt := 11) C dX8_anew_6 (by decide) (fun c_ => ?_) (fun c_ => ?_)
  · replace h := ite_t h c_
    refine g_iload_n (pc := 11) C 2 dX8_anew_11 rfl rfl ?_
    refine g_if_ge (pc := 12) (tgt := 21) C dX8_anew_12 (by decide) (fun c_ => ?_) (fun c_ => ?_)
    · replace h := ite_t h c_
      refine g_aload_n (pc := 21) C 1 dX8_anew_21 rfl rfl ?_
      refine g_iload_n (pc := 22) C 2 dX8_anew_22 rfl rfl ?_
      refine g_iload_n (pc := 23) C 3 dX8_anew_23 rfl rfl ?_
      refine g_callVv (pc := 24) (As := [.int v2, .int v3]) (rest := []) C hk1 rfl rfl rfl (M_X6_begin C.2.2.1 hk1 h) CyX6_begin tw_255 tw_256 tw_257 (by decide) rfl rfl (Nat.le_of_ble_eq_true rfl) dX8_anew_24 (fun t24 h => ?_)
      refine g_iload_n (pc := 27) C 2 dX8_anew_27 rfl rfl ?_
      exact g_iret (pc := 28) C dX8_anew_28 ⟨_, rfl, h⟩
    · replace h := ite_f h c_
      refine g_aload_n (pc := 15) C 0 dX8_anew_15 rfl rfl ?_
      refine g_iconst (pc := 16) (v := 5) C dX8_anew_16 ic_5 ?_
      refine g_callVi (pc := 17) (As := [.int 5]) (rest := []) C rfl rfl rfl rfl (M_X8_find C.2.2.1  h) CyX8_find tw_251 tw_253 ts_1 (by decide) rfl rfl (Nat.le_of_ble_eq_true rfl) dX8_anew_17 (fun r17 t17 h => ?_)
      exact g_iret (pc := 20) C dX8_anew_20 ⟨_, rfl, h⟩
  · replace h := ite_f h c_
    refine g_iconst (pc := 9) (v := -1) C dX8_anew_9 ic_m1 ?_
    exact g_iret (pc := 10) C dX8_anew_10 ⟨_, rfl, h⟩
set_option maxHeartbeats 4000000 in
set_option maxRecDepth 100000 in
theorem k_X8_isRow_15 {w0 : Int32} {σ : St} {K : Int32 → Prop} (C : Cx p R s m args meth c shC G cX8_isRow 1 1 RX8 (some .boolean) 0 0) (h : J_X8_isRow_15 w0 K) : Go p l e R s m args below meth c shC G 1 0 0 (MQ below (Qw shC G (RI (fun r t => t = σ ∧ K r))) args s 0 0 (Fr shC G)) 15 [] [.int w0] σ := by
  unfold J_X8_isRow_15 at h
  obtain ⟨g_, h⟩ := h
  exact g_zret (pc := 15) C g_ dX8_isRow_15 ⟨_, rfl, ⟨rfl, h⟩⟩
set_option maxHeartbeats 4000000 in
set_option maxRecDepth 100000 in
theorem k_X8_isRow_14 {σ : St} {K : Int32 → Prop} (C : Cx p R s m args meth c shC G cX8_isRow 1 1 RX8 (some .boolean) 0 0) (h : J_X8_isRow_14 K) : Go p l e R s m args below meth c shC G 1 0 0 (MQ below (Qw shC G (RI (fun r t => t = σ ∧ K r))) args s 0 0 (Fr shC G)) 14 [] [] σ := by
  unfold J_X8_isRow_14 at h
  refine g_iconst (pc := 14) (v := 0) C dX8_isRow_14 ic_0 ?_
  refine g_lv [] (lv2 := []) rfl ?_
  exact k_X8_isRow_15 C  h
set_option maxHeartbeats 4000000 in
set_option maxRecDepth 100000 in
theorem M_X8_isRow {l : Launch} {G : Gp} (hD : Dj shC G) {v0 : Int32} {σ : St} {K : Int32 → Prop} (h : wp_X8_isRow v0 K) : MC l shC G yX8_isRow cX8_isRow 1 (some .boolean) 1 [.int v0] σ (RI (fun r t => t = σ ∧ K r)) := by
  unfold wp_X8_isRow at h
  refine MC.of (by decide) hD (Nat.le_of_ble_eq_true rfl) ?_
  intro p e s m args below meth c C
  replace C : Cx p (rmD 1) s m args meth c shC G cX8_isRow 1 1 RX8 (some .boolean) 0 0 := C
  show Go p l e (rmD 1) s m args below meth c shC G 1 0 0 (MQ below (Qw shC G (RI (fun r t => t = σ ∧ K r))) args s 0 0 (Fr shC G)) 0 [(0, .int v0)] [] σ
  refine g_iload_n (pc := 0) C 0 dX8_isRow_0 rfl rfl ?_
  refine g_if_lt (pc := 1) (tgt := 14) C dX8_isRow_1 (by decide) (fun c_ => ?_) (fun c_ => ?_)
  · replace h := ite_t h c_
    refine g_lv [] (lv2 := []) rfl ?_
    exact k_X8_isRow_14 C  h
  · replace h := ite_f h c_
    refine g_iload_n (pc := 4) C 0 dX8_isRow_4 rfl rfl ?_
    refine g_bipush (pc := 5) (v := 6) C dX8_isRow_5 bp_6 ?_
    refine g_icmp_ge (pc := 7) (tgt := 14) C dX8_isRow_7 (by decide) (fun c_ => ?_) (fun c_ => ?_)
    · replace h := ite_t h c_
      refine g_lv [] (lv2 := []) rfl ?_
      exact k_X8_isRow_14 C  h
    · replace h := ite_f h c_
      refine g_iconst (pc := 10) (v := 1) C dX8_isRow_10 ic_1 ?_
      refine g_goto (pc := 11) (tgt := 15) C dX8_isRow_11 (by decide) ?_
      refine g_lv [] (lv2 := []) rfl ?_
      exact k_X8_isRow_15 C  h
set_option maxHeartbeats 4000000 in
set_option maxRecDepth 100000 in
theorem k_X7_has_17 {w0 : Int32} {σ : St} {K : Int32 → Prop} (C : Cx p R s m args meth c shC G cX7_has 2 1 RX7 (some .boolean) 0 0) (h : J_X7_has_17 w0 σ K) : Go p l e R s m args below meth c shC G 2 0 0 (MQ below (Qw shC G (RI (fun r t => t = σ ∧ K r))) args s 0 0 (Fr shC G)) 17 [] [.int w0] σ := by
  unfold J_X7_has_17 at h
  obtain ⟨g_, h⟩ := h
  exact g_zret (pc := 17) C g_ dX7_has_17 ⟨_, rfl, ⟨rfl, h⟩⟩
set_option maxHeartbeats 4000000 in
set_option maxRecDepth 100000 in
theorem k_X7_has_16 {σ : St} {K : Int32 → Prop} (C : Cx p R s m args meth c shC G cX7_has 2 1 RX7 (some .boolean) 0 0) (h : J_X7_has_16 σ K) : Go p l e R s m args below meth c shC G 2 0 0 (MQ below (Qw shC G (RI (fun r t => t = σ ∧ K r))) args s 0 0 (Fr shC G)) 16 [] [] σ := by
  unfold J_X7_has_16 at h
  refine g_iconst (pc := 16) (v := 0) C dX7_has_16 ic_0 ?_
  refine g_lv [] (lv2 := []) rfl ?_
  exact k_X7_has_17 C  h
set_option maxHeartbeats 4000000 in
set_option maxRecDepth 100000 in
theorem M_X7_has {l : Launch} {G : Gp} (hD : Dj shC G) {k0 : Nat} {v1 : Int32} {σ : St} {K : Int32 → Prop} (hk0 : shC[k0]? = some (7, 0, 0)) (h : wp_X7_has k0 v1 σ K) : MC l shC G yX7_has cX7_has 2 (some .boolean) 1 [.ref (G.2.2 k0), .int v1] σ (RI (fun r t => t = σ ∧ K r)) := by
  unfold wp_X7_has at h
  refine MC.of (by decide) hD (Nat.le_of_ble_eq_true rfl) ?_
  intro p e s m args below meth c C
  replace C : Cx p (rmD 1) s m args meth c shC G cX7_has 2 1 RX7 (some .boolean) 0 0 := C
  show Go p l e (rmD 1) s m args below meth c shC G 2 0 0 (MQ below (Qw shC G (RI (fun r t => t = σ ∧ K r))) args s 0 0 (Fr shC G)) 0 [(0, .ref (G.2.2 k0)), (1, .int v1)] [] σ
  refine g_iload_n (pc := 0) C 1 dX7_has_0 rfl rfl ?_
  refine g_if_lt (pc := 1) (tgt := 16) C dX7_has_1 (by decide) (fun c_ => ?_) (fun c_ => ?_)
  · replace h := ite_t h c_
    refine g_lv [] (lv2 := []) rfl ?_
    exact k_X7_has_16 C  h
  · replace h := ite_f h c_
    refine g_iload_n (pc := 4) C 1 dX7_has_4 rfl rfl ?_
    refine g_aload_n (pc := 5) C 0 dX7_has_5 rfl rfl ?_
    refine get_X7_2 (pc := 6) C hk0 tw_75 dX7_has_6 ?_
    refine g_icmp_ge (pc := 9) (tgt := 16) C dX7_has_9 (by decide) (fun c_ => ?_) (fun c_ => ?_)
    · replace h := ite_t h c_
      refine g_lv [] (lv2 := []) rfl ?_
      exact k_X7_has_16 C  h
    · replace h := ite_f h c_
      refine g_iconst (pc := 12) (v := 1) C dX7_has_12 ic_1 ?_
      refine g_goto (pc := 13) (tgt := 17) C dX7_has_13 (by decide) ?_
      refine g_lv [] (lv2 := []) rfl ?_
      exact k_X7_has_17 C  h
set_option maxHeartbeats 4000000 in
set_option maxRecDepth 100000 in
theorem k_X8_refuseBell_34 {w0 : Int32} {σ : St} {K : Int32 → Prop} (C : Cx p R s m args meth c shC G cX8_refuseBell 2 2 RX8 (some .int) 0 0) (h : J_X8_refuseBell_34 w0 σ K) : Go p l e R s m args below meth c shC G 2 0 0 (MQ below (Qw shC G (RI (fun r t => t = σ ∧ K r))) args s 0 0 (Fr shC G)) 34 [] [.int w0] σ := by
  unfold J_X8_refuseBell_34 at h
  exact g_iret (pc := 34) C dX8_refuseBell_34 ⟨_, rfl, ⟨rfl, h⟩⟩
set_option maxHeartbeats 4000000 in
set_option maxRecDepth 100000 in
theorem M_X8_refuseBell {l : Launch} {G : Gp} (hD : Dj shC G) {v1 : Int32} {σ : St} {K : Int32 → Prop} (h : wp_X8_refuseBell v1 σ K) : MC l shC G yX8_refuseBell cX8_refuseBell 2 (some .int) 2 [.ref (G.2.2 0), .int v1] σ (RI (fun r t => t = σ ∧ K r)) := by
  unfold wp_X8_refuseBell at h
  refine MC.of (by decide) hD (Nat.le_of_ble_eq_true rfl) ?_
  intro p e s m args below meth c C
  replace C : Cx p (rmD 2) s m args meth c shC G cX8_refuseBell 2 2 RX8 (some .int) 0 0 := C
  show Go p l e (rmD 2) s m args below meth c shC G 2 0 0 (MQ below (Qw shC G (RI (fun r t => t = σ ∧ K r))) args s 0 0 (Fr shC G)) 0 [(0, .ref (G.2.2 0)), (1, .int v1)] [] σ
  refine g_aload_n (pc := 0) C 0 dX8_refuseBell_0 rfl rfl ?_
  refine get_X8_3 (pc := 1) C rfl tw_197 dX8_refuseBell_1 ?_
  refine g_iload_n (pc := 4) C 1 dX8_refuseBell_4 rfl rfl ?_
  refine g_callVip (pc := 5) (As := [.int v1]) (rest := []) C rfl rfl rfl rfl (M_X7_has C.2.2.1 rfl h) CyX7_has tw_381 tw_382 tw_383 (by decide) rfl rfl (Nat.le_of_ble_eq_true rfl) dX8_refuseBell_5 (fun r5 h => ?_)
  refine g_if_ne (pc := 8) (tgt := 13) C dX8_refuseBell_8 (by decide) (fun c_ => ?_) (fun c_ => ?_)
  · replace h := ite_f h c_
    refine g_aload_n (pc := 13) C 0 dX8_refuseBell_13 rfl rfl ?_
    refine get_X8_3 (pc := 14) C rfl tw_197 dX8_refuseBell_14 ?_
    refine get_X7_0 (pc := 17) C rfl tw_72 dX8_refuseBell_17 ?_
    refine g_iload_n (pc := 20) C 1 dX8_refuseBell_20 rfl rfl ?_
    obtain ⟨g_, h⟩ := h
    have hs21_ : shC[(28 + v1.toNatClampNeg)]? = some (0, 0, 0) := sh7_e (k := 25) rfl g_
    refine g_aldB (pc := 21) C (sh7_0 rfl) g_ dX8_refuseBell_21 ?_
    refine get_X0_5 (pc := 22) C hs21_ tw_55 dX8_refuseBell_22 ?_
    refine g_if_eq (pc := 25) (tgt := 33) C dX8_refuseBell_25 (by decide) (fun c_ => ?_) (fun c_ => ?_)
    · replace h := ite_t h c_
      refine g_iconst (pc := 33) (v := 0) C dX8_refuseBell_33 ic_0 ?_
      refine g_lv [] (lv2 := []) rfl ?_
      exact k_X8_refuseBell_34 C  h
    · replace h := ite_f h c_
      refine g_bipush (pc := 28) (v := -4) C dX8_refuseBell_28 bp_m4 ?_
      refine g_goto (pc := 30) (tgt := 34) C dX8_refuseBell_30 (by decide) ?_
      refine g_lv [] (lv2 := []) rfl ?_
      exact k_X8_refuseBell_34 C  h
  · replace h := ite_t h c_
    refine g_iconst (pc := 11) (v := -1) C dX8_refuseBell_11 ic_m1 ?_
    exact g_iret (pc := 12) C dX8_refuseBell_12 ⟨_, rfl, ⟨rfl, h⟩⟩
set_option maxHeartbeats 4000000 in
set_option maxRecDepth 100000 in
theorem k_X4_armsFrom_20 {σ : St} {K : Int32 → Prop} (C : Cx p R s m args meth c shC G cX4_armsFrom 3 1 RX4 (some .int) 0 0) (h : J_X4_armsFrom_20 σ K) : Go p l e R s m args below meth c shC G 3 0 0 (MQ below (Qw shC G (RI (fun r t => t = σ ∧ K r))) args s 0 0 (Fr shC G)) 20 [] [] σ := by
  unfold J_X4_armsFrom_20 at h
  refine g_bipush (pc := 20) (v := -9) C dX4_armsFrom_20 bp_m9 ?_
  exact g_iret (pc := 22) C dX4_armsFrom_22 ⟨_, rfl, ⟨rfl, h⟩⟩
set_option maxHeartbeats 4000000 in
set_option maxRecDepth 100000 in
theorem M_X4_armsFrom {l : Launch} {G : Gp} (hD : Dj shC G) {v1 : Int32} {v2 : Int32} {σ : St} {K : Int32 → Prop} (h : wp_X4_armsFrom v1 v2 σ K) : MC l shC G yX4_armsFrom cX4_armsFrom 3 (some .int) 1 [.ref (G.2.2 76), .int v1, .int v2] σ (RI (fun r t => t = σ ∧ K r)) := by
  unfold wp_X4_armsFrom at h
  refine MC.of (by decide) hD (Nat.le_of_ble_eq_true rfl) ?_
  intro p e s m args below meth c C
  replace C : Cx p (rmD 1) s m args meth c shC G cX4_armsFrom 3 1 RX4 (some .int) 0 0 := C
  show Go p l e (rmD 1) s m args below meth c shC G 3 0 0 (MQ below (Qw shC G (RI (fun r t => t = σ ∧ K r))) args s 0 0 (Fr shC G)) 0 [(0, .ref (G.2.2 76)), (1, .int v1), (2, .int v2)] [] σ
  refine g_iload_n (pc := 0) C 1 dX4_armsFrom_0 rfl rfl ?_
  refine g_if_lt (pc := 1) (tgt := 20) C dX4_armsFrom_1 (by decide) (fun c_ => ?_) (fun c_ => ?_)
  · replace h := ite_t h c_
    refine g_lv [] (lv2 := []) rfl ?_
    exact k_X4_armsFrom_20 C  h
  · replace h := ite_f h c_
    refine g_iload_n (pc := 4) C 1 dX4_armsFrom_4 rfl rfl ?_
    refine g_bipush (pc := 5) (v := 12) C dX4_armsFrom_5 bp_12 ?_
    refine g_icmp_gt (pc := 7) (tgt := 20) C dX4_armsFrom_7 (by decide) (fun c_ => ?_) (fun c_ => ?_)
    · replace h := ite_t h c_
      refine g_lv [] (lv2 := []) rfl ?_
      exact k_X4_armsFrom_20 C  h
    · replace h := ite_f h c_
      refine g_iload_n (pc := 10) C 2 dX4_armsFrom_10 rfl rfl ?_
      refine g_if_lt (pc := 11) (tgt := 20) C dX4_armsFrom_11 (by decide) (fun c_ => ?_) (fun c_ => ?_)
      · replace h := ite_t h c_
        refine g_lv [] (lv2 := []) rfl ?_
        exact k_X4_armsFrom_20 C  h
      · replace h := ite_f h c_
        refine g_iload_n (pc := 14) C 2 dX4_armsFrom_14 rfl rfl ?_
        refine g_bipush (pc := 15) (v := 21) C dX4_armsFrom_15 bp_21 ?_
        refine g_icmp_lt (pc := 17) (tgt := 23) C dX4_armsFrom_17 (by decide) (fun c_ => ?_) (fun c_ => ?_)
        · replace h := ite_t h c_
          refine g_aload_n (pc := 23) C 0 dX4_armsFrom_23 rfl rfl ?_
          refine get_X4_1 (pc := 24) C rfl tw_135 dX4_armsFrom_24 ?_
          refine g_iload_n (pc := 27) C 1 dX4_armsFrom_27 rfl rfl ?_
          refine g_bipush (pc := 28) (v := 21) C dX4_armsFrom_28 bp_21 ?_
          refine g_imul (pc := 30) C dX4_armsFrom_30 ?_
          refine g_iload_n (pc := 31) C 2 dX4_armsFrom_31 rfl rfl ?_
          refine g_iadd (pc := 32) C dX4_armsFrom_32 ?_
          obtain ⟨g_, h⟩ := h
          refine g_iald (pc := 33) C rfl g_ dX4_armsFrom_33 ?_
          exact g_iret (pc := 34) C dX4_armsFrom_34 ⟨_, rfl, ⟨rfl, h⟩⟩
        · replace h := ite_f h c_
          refine g_lv [] (lv2 := []) rfl ?_
          exact k_X4_armsFrom_20 C  h
set_option maxHeartbeats 4000000 in
set_option maxRecDepth 100000 in
theorem k_X4_sumBy_48 {w0 : Int32} {σ : St} {K : Int32 → Prop} (C : Cx p R s m args meth c shC G cX4_sumBy 7 3 RX4 (some .int) 0 0) (h : J_X4_sumBy_48 w0 σ K) : Go p l e R s m args below meth c shC G 7 0 0 (MQ below (Qw shC G (RI (fun r t => t = σ ∧ K r))) args s 0 0 (Fr shC G)) 48 [] [.int w0] σ := by
  unfold J_X4_sumBy_48 at h
  exact g_iret (pc := 48) C dX4_sumBy_48 ⟨_, rfl, ⟨rfl, h⟩⟩
set_option maxHeartbeats 4000000 in
set_option maxRecDepth 100000 in
theorem k_X4_sumBy_29 {v4 : Int32} {w0 : Int32} {σ : St} {K : Int32 → Prop} (C : Cx p R s m args meth c shC G cX4_sumBy 7 3 RX4 (some .int) 0 0) (h : J_X4_sumBy_29 v4 w0 σ K) : Go p l e R s m args below meth c shC G 7 0 0 (MQ below (Qw shC G (RI (fun r t => t = σ ∧ K r))) args s 0 0 (Fr shC G)) 29 [(4, .int v4)] [.int w0] σ := by
  unfold J_X4_sumBy_29 at h
  refine g_istore (pc := 29) (lv2 := [(6, .int w0), (4, .int v4)]) C dX4_sumBy_29 (by decide) rfl ?_
  refine g_iload (pc := 31) C 0 dX4_sumBy_31 rfl ?_
  refine g_bipush (pc := 33) (v := -9) C dX4_sumBy_33 bp_m9 ?_
  refine g_icmp_ne (pc := 35) (tgt := 43) C dX4_sumBy_35 (by decide) (fun c_ => ?_) (fun c_ => ?_)
  · replace h := ite_f h c_
    refine g_iload (pc := 43) C 1 dX4_sumBy_43 rfl ?_
    refine g_iload (pc := 45) C 0 dX4_sumBy_45 rfl ?_
    refine g_iadd (pc := 47) C dX4_sumBy_47 ?_
    refine g_lv [] (lv2 := []) rfl ?_
    exact k_X4_sumBy_48 C  h
  · replace h := ite_t h c_
    refine g_bipush (pc := 38) (v := -9) C dX4_sumBy_38 bp_m9 ?_
    refine g_goto (pc := 40) (tgt := 48) C dX4_sumBy_40 (by decide) ?_
    refine g_lv [] (lv2 := []) rfl ?_
    exact k_X4_sumBy_48 C  h
set_option maxHeartbeats 4000000 in
set_option maxRecDepth 100000 in
theorem M_X4_sumBy {l : Launch} {G : Gp} (hD : Dj shC G) {v1 : Int32} {v2 : Int32} {v3 : Int32} {v4 : Int32} {σ : St} {K : Int32 → Prop} (h : wp_X4_sumBy v1 v2 v3 v4 σ K) : MC l shC G yX4_sumBy cX4_sumBy 7 (some .int) 3 [.ref (G.2.2 76), .int v1, .int v2, .int v3, .int v4] σ (RI (fun r t => t = σ ∧ K r)) := by
  unfold wp_X4_sumBy at h
  refine MC.of (by decide) hD (Nat.le_of_ble_eq_true rfl) ?_
  intro p e s m args below meth c C
  replace C : Cx p (rmD 3) s m args meth c shC G cX4_sumBy 7 3 RX4 (some .int) 0 0 := C
  show Go p l e (rmD 3) s m args below meth c shC G 7 0 0 (MQ below (Qw shC G (RI (fun r t => t = σ ∧ K r))) args s 0 0 (Fr shC G)) 0 [(0, .ref (G.2.2 76)), (1, .int v1), (2, .int v2), (3, .int v3), (4, .int v4)] [] σ
  refine g_iload_n (pc := 0) C 1 dX4_sumBy_0 rfl rfl ?_
  refine g_iload_n (pc := 1) C 3 dX4_sumBy_1 rfl rfl ?_
  refine g_iload (pc := 2) C 4 dX4_sumBy_2 rfl ?_
  refine g_callSNip (pc := 4) (As := [.int v1, .int v3, .int v4]) (rest := []) C (M_X8_after C.2.2.1  h) CyX8_after (List.mem_of_getElem? (i := 9) rfl) tw_401 (by decide) rfl rfl (Nat.le_of_ble_eq_true rfl) dX4_sumBy_4 (fun r4 h => ?_)
  refine g_istore (pc := 7) (lv2 := [(5, .int r4), (0, .ref (G.2.2 76)), (1, .int v1), (2, .int v2), (3, .int v3), (4, .int v4)]) C dX4_sumBy_7 (by decide) rfl ?_
  refine g_iload (pc := 9) C 0 dX4_sumBy_9 rfl ?_
  refine g_iconst (pc := 11) (v := -1) C dX4_sumBy_11 ic_m1 ?_
  refine g_icmp_ne (pc := 12) (tgt := 20) C dX4_sumBy_12 (by decide) (fun c_ => ?_) (fun c_ => ?_)
  · replace h := ite_f h c_
    refine g_aload_n (pc := 20) C 1 dX4_sumBy_20 rfl rfl ?_
    refine g_iload_n (pc := 21) C 3 dX4_sumBy_21 rfl rfl ?_
    refine g_iconst (pc := 22) (v := 1) C dX4_sumBy_22 ic_1 ?_
    refine g_isub (pc := 23) C dX4_sumBy_23 ?_
    refine g_iload (pc := 24) C 0 dX4_sumBy_24 rfl ?_
    refine g_callVip (pc := 26) (As := [.int (v2 - 1), .int r4]) (rest := []) C rfl rfl rfl rfl (M_X4_armsFrom C.2.2.1  h) CyX4_armsFrom tw_607 tw_608 tw_609 (by decide) rfl rfl (Nat.le_of_ble_eq_true rfl) dX4_sumBy_26 (fun r26 h => ?_)
    refine g_lv [5] (lv2 := [(4, .int v4)]) rfl ?_
    exact k_X4_sumBy_29 C  h
  · replace h := ite_t h c_
    refine g_bipush (pc := 15) (v := -9) C dX4_sumBy_15 bp_m9 ?_
    refine g_goto (pc := 17) (tgt := 29) C dX4_sumBy_17 (by decide) ?_
    refine g_lv [5] (lv2 := [(4, .int v4)]) rfl ?_
    exact k_X4_sumBy_29 C  h
set_option maxHeartbeats 4000000 in
set_option maxRecDepth 100000 in
theorem k_X4_lightestPull_52 {v1 : Int32} {v2 : Int32} {v3 : Int32} {v4 : Int32} {v5 : Int32} {v6 : Int32} {σ : St} {K : Int32 → Prop} {Φ12 : Int32 → Int32 → Int32 → Prop} (C : Cx p R s m args meth c shC G cX4_lightestPull 8 4 RX4 (some .int) 0 0) (hΦ12 : ∀ (v4' : Int32) (v5' : Int32) (v6' : Int32), Φ12 v4' v5' v6' → Go p l e R s m args below meth c shC G 8 0 0 (MQ below (Qw shC G (RI (fun r t => t = σ ∧ K r))) args s 0 0 (Fr shC G)) 12 [(0, .ref (G.2.2 76)), (1, .int v1), (2, .int v2), (3, .int v3), (4, .int (v4')), (5, .int (v5')), (6, .int (v6'))] [] σ) (h : J_X4_lightestPull_52 v1 v2 v3 v4 v5 v6 σ K Φ12) : Go p l e R s m args below meth c shC G 8 0 0 (MQ below (Qw shC G (RI (fun r t => t = σ ∧ K r))) args s 0 0 (Fr shC G)) 52 [(0, .ref (G.2.2 76)), (1, .int v1), (2, .int v2), (3, .int v3), (4, .int v4), (5, .int v5), (6, .int v6)] [] σ := by
  unfold J_X4_lightestPull_52 at h
  refine g_iinc (pc := 52) (lv2 := [(6, .int (v6 + 1)), (0, .ref (G.2.2 76)), (1, .int v1), (2, .int v2), (3, .int v3), (4, .int v4), (5, .int v5)]) C 6 dX4_lightestPull_52 ic_1 rfl (by decide) rfl ?_
  refine g_goto (pc := 55) (tgt := 12) C dX4_lightestPull_55 (by decide) ?_
  refine g_lv [1, 2, 3, 4, 5, 6, 0] (lv2 := [(0, .ref (G.2.2 76)), (1, .int v1), (2, .int v2), (3, .int v3), (4, .int v4), (5, .int v5), (6, .int (v6 + 1))]) rfl ?_
  exact hΦ12 _ _ _ h
set_option maxHeartbeats 4000000 in
set_option maxRecDepth 100000 in
theorem k_X4_lightestPull_12 {v1 : Int32} {v2 : Int32} {v3 : Int32} {v4 : Int32} {v5 : Int32} {v6 : Int32} {σ : St} {K : Int32 → Prop} (C : Cx p R s m args meth c shC G cX4_lightestPull 8 4 RX4 (some .int) 0 0) (h : L_X4_lightestPull_12 v1 v2 v3 σ K v4 v5 v6) : Go p l e R s m args below meth c shC G 8 0 0 (MQ below (Qw shC G (RI (fun r t => t = σ ∧ K r))) args s 0 0 (Fr shC G)) 12 [(0, .ref (G.2.2 76)), (1, .int v1), (2, .int v2), (3, .int v3), (4, .int v4), (5, .int v5), (6, .int v6)] [] σ := by
  obtain ⟨n_, h⟩ := h
  induction n_ generalizing v4 v5 v6 with
  | zero => exact h.elim
  | succ n_ ih =>
    replace h : B_X4_lightestPull_12 v1 v2 v3 σ K (it3 (B_X4_lightestPull_12 v1 v2 v3 σ K) n_) v4 v5 v6 := h
    unfold B_X4_lightestPull_12 at h
    refine g_iload (pc := 12) C 6 dX4_lightestPull_12 rfl ?_
    refine g_bipush (pc := 14) (v := 7) C dX4_lightestPull_14 bp_7 ?_
    refine g_icmp_ge (pc := 16) (tgt := 58) C dX4_lightestPull_16 (by decide) (fun c_ => ?_) (fun c_ => ?_)
    · replace h := ite_t h c_
      refine g_iload (pc := 58) C 4 dX4_lightestPull_58 rfl ?_
      exact g_iret (pc := 60) C dX4_lightestPull_60 ⟨_, rfl, ⟨rfl, h⟩⟩
    · replace h := ite_f h c_
      refine g_aload_n (pc := 19) C 0 dX4_lightestPull_19 rfl rfl ?_
      refine g_iload_n (pc := 20) C 1 dX4_lightestPull_20 rfl rfl ?_
      refine g_iload_n (pc := 21) C 2 dX4_lightestPull_21 rfl rfl ?_
      refine g_iload_n (pc := 22) C 3 dX4_lightestPull_22 rfl rfl ?_
      refine g_iload (pc := 23) C 6 dX4_lightestPull_23 rfl ?_
      refine g_callVip (pc := 25) (As := [.int v1, .int v2, .int v3, .int v6]) (rest := []) C rfl rfl rfl rfl (M_X4_sumBy C.2.2.1  h) CyX4_sumBy tw_603 tw_605 ts_15 (by decide) rfl rfl (Nat.le_of_ble_eq_true rfl) dX4_lightestPull_25 (fun r25 h => ?_)
      refine g_istore (pc := 28) (lv2 := [(7, .int r25), (0, .ref (G.2.2 76)), (1, .int v1), (2, .int v2), (3, .int v3), (4, .int v4), (5, .int v5), (6, .int v6)]) C dX4_lightestPull_28 (by decide) rfl ?_
      refine g_iload (pc := 30) C 0 dX4_lightestPull_30 rfl ?_
      refine g_bipush (pc := 32) (v := -9) C dX4_lightestPull_32 bp_m9 ?_
      refine g_icmp_eq (pc := 34) (tgt := 52) C dX4_lightestPull_34 (by decide) (fun c_ => ?_) (fun c_ => ?_)
      · replace h := ite_t h c_
        refine g_lv [1, 2, 3, 4, 5, 6, 7] (lv2 := [(0, .ref (G.2.2 76)), (1, .int v1), (2, .int v2), (3, .int v3), (4, .int v4), (5, .int v5), (6, .int v6)]) rfl ?_
        exact k_X4_lightestPull_52 C (fun _ _ _ h_ => ih h_) h
      · replace h := ite_f h c_
        refine g_iload (pc := 37) C 0 dX4_lightestPull_37 rfl ?_
        refine g_iload (pc := 39) C 6 dX4_lightestPull_39 rfl ?_
        refine g_icmp_ge (pc := 41) (tgt := 52) C dX4_lightestPull_41 (by decide) (fun c_ => ?_) (fun c_ => ?_)
        · replace h := ite_t h c_
          refine g_lv [1, 2, 3, 4, 5, 6, 7] (lv2 := [(0, .ref (G.2.2 76)), (1, .int v1), (2, .int v2), (3, .int v3), (4, .int v4), (5, .int v5), (6, .int v6)]) rfl ?_
          exact k_X4_lightestPull_52 C (fun _ _ _ h_ => ih h_) h
        · replace h := ite_f h c_
          refine g_iload (pc := 44) C 0 dX4_lightestPull_44 rfl ?_
          refine g_istore (pc := 46) (lv2 := [(5, .int r25), (7, .int r25), (0, .ref (G.2.2 76)), (1, .int v1), (2, .int v2), (3, .int v3), (4, .int v4), (6, .int v6)]) C dX4_lightestPull_46 (by decide) rfl ?_
          refine g_iload (pc := 48) C 7 dX4_lightestPull_48 rfl ?_
          refine g_istore (pc := 50) (lv2 := [(4, .int v6), (5, .int r25), (7, .int r25), (0, .ref (G.2.2 76)), (1, .int v1), (2, .int v2), (3, .int v3), (6, .int v6)]) C dX4_lightestPull_50 (by decide) rfl ?_
          refine g_lv [3, 4, 5, 6, 0, 1, 7] (lv2 := [(0, .ref (G.2.2 76)), (1, .int v1), (2, .int v2), (3, .int v3), (4, .int v6), (5, .int r25), (6, .int v6)]) rfl ?_
          exact k_X4_lightestPull_52 C (fun _ _ _ h_ => ih h_) h
set_option maxHeartbeats 4000000 in
set_option maxRecDepth 100000 in
theorem M_X4_lightestPull {l : Launch} {G : Gp} (hD : Dj shC G) {v1 : Int32} {v2 : Int32} {v3 : Int32} {σ : St} {K : Int32 → Prop} (h : wp_X4_lightestPull v1 v2 v3 σ K) : MC l shC G yX4_lightestPull cX4_lightestPull 8 (some .int) 4 [.ref (G.2.2 76), .int v1, .int v2, .int v3] σ (RI (fun r t => t = σ ∧ K r)) := by
  unfold wp_X4_lightestPull at h
  refine MC.of (by decide) hD (Nat.le_of_ble_eq_true rfl) ?_
  intro p e s m args below meth c C
  replace C : Cx p (rmD 4) s m args meth c shC G cX4_lightestPull 8 4 RX4 (some .int) 0 0 := C
  show Go p l e (rmD 4) s m args below meth c shC G 8 0 0 (MQ below (Qw shC G (RI (fun r t => t = σ ∧ K r))) args s 0 0 (Fr shC G)) 0 [(0, .ref (G.2.2 76)), (1, .int v1), (2, .int v2), (3, .int v3)] [] σ
  refine g_bipush (pc := 0) (v := -9) C dX4_lightestPull_0 bp_m9 ?_
  refine g_istore (pc := 2) (lv2 := [(4, .int (-9)), (0, .ref (G.2.2 76)), (1, .int v1), (2, .int v2), (3, .int v3)]) C dX4_lightestPull_2 (by decide) rfl ?_
  refine g_sipush (pc := 4) (v := 1000) C dX4_lightestPull_4 sp_1000 ?_
  refine g_istore (pc := 7) (lv2 := [(5, .int 1000), (4, .int (-9)), (0, .ref (G.2.2 76)), (1, .int v1), (2, .int v2), (3, .int v3)]) C dX4_lightestPull_7 (by decide) rfl ?_
  refine g_iconst (pc := 9) (v := 0) C dX4_lightestPull_9 ic_0 ?_
  refine g_istore (pc := 10) (lv2 := [(6, .int 0), (5, .int 1000), (4, .int (-9)), (0, .ref (G.2.2 76)), (1, .int v1), (2, .int v2), (3, .int v3)]) C dX4_lightestPull_10 (by decide) rfl ?_
  refine g_lv [3, 4, 5, 6, 2, 1, 0] (lv2 := [(0, .ref (G.2.2 76)), (1, .int v1), (2, .int v2), (3, .int v3), (4, .int (-9)), (5, .int 1000), (6, .int 0)]) rfl ?_
  exact k_X4_lightestPull_12 C  h
set_option maxHeartbeats 4000000 in
set_option maxRecDepth 100000 in
theorem k_X6_has_17 {w0 : Int32} {σ : St} {K : Int32 → Prop} (C : Cx p R s m args meth c shC G cX6_has 2 1 RX6 (some .boolean) 0 0) (h : J_X6_has_17 w0 σ K) : Go p l e R s m args below meth c shC G 2 0 0 (MQ below (Qw shC G (RI (fun r t => t = σ ∧ K r))) args s 0 0 (Fr shC G)) 17 [] [.int w0] σ := by
  unfold J_X6_has_17 at h
  obtain ⟨g_, h⟩ := h
  exact g_zret (pc := 17) C g_ dX6_has_17 ⟨_, rfl, ⟨rfl, h⟩⟩
set_option maxHeartbeats 4000000 in
set_option maxRecDepth 100000 in
theorem k_X6_has_16 {σ : St} {K : Int32 → Prop} (C : Cx p R s m args meth c shC G cX6_has 2 1 RX6 (some .boolean) 0 0) (h : J_X6_has_16 σ K) : Go p l e R s m args below meth c shC G 2 0 0 (MQ below (Qw shC G (RI (fun r t => t = σ ∧ K r))) args s 0 0 (Fr shC G)) 16 [] [] σ := by
  unfold J_X6_has_16 at h
  refine g_iconst (pc := 16) (v := 0) C dX6_has_16 ic_0 ?_
  refine g_lv [] (lv2 := []) rfl ?_
  exact k_X6_has_17 C  h
set_option maxHeartbeats 4000000 in
set_option maxRecDepth 100000 in
theorem M_X6_has {l : Launch} {G : Gp} (hD : Dj shC G) {k0 : Nat} {n0 : Nat} {v1 : Int32} {σ : St} {K : Int32 → Prop} (hk0 : shC[k0]? = some (6, n0, 0)) (h : wp_X6_has k0 n0 v1 σ K) : MC l shC G yX6_has cX6_has 2 (some .boolean) 1 [.ref (G.2.2 k0), .int v1] σ (RI (fun r t => t = σ ∧ K r)) := by
  unfold wp_X6_has at h
  refine MC.of (by decide) hD (Nat.le_of_ble_eq_true rfl) ?_
  intro p e s m args below meth c C
  replace C : Cx p (rmD 1) s m args meth c shC G cX6_has 2 1 RX6 (some .boolean) 0 0 := C
  show Go p l e (rmD 1) s m args below meth c shC G 2 0 0 (MQ below (Qw shC G (RI (fun r t => t = σ ∧ K r))) args s 0 0 (Fr shC G)) 0 [(0, .ref (G.2.2 k0)), (1, .int v1)] [] σ
  refine g_iload_n (pc := 0) C 1 dX6_has_0 rfl rfl ?_
  refine g_if_lt (pc := 1) (tgt := 16) C dX6_has_1 (by decide) (fun c_ => ?_) (fun c_ => ?_)
  · replace h := ite_t h c_
    refine g_lv [] (lv2 := []) rfl ?_
    exact k_X6_has_16 C  h
  · replace h := ite_f h c_
    refine g_iload_n (pc := 4) C 1 dX6_has_4 rfl rfl ?_
    refine g_aload_n (pc := 5) C 0 dX6_has_5 rfl rfl ?_
    refine get_X6_2 (pc := 6) C hk0 tw_184 dX6_has_6 ?_
    refine g_icmp_ge (pc := 9) (tgt := 16) C dX6_has_9 (by decide) (fun c_ => ?_) (fun c_ => ?_)
    · replace h := ite_t h c_
      refine g_lv [] (lv2 := []) rfl ?_
      exact k_X6_has_16 C  h
    · replace h := ite_f h c_
      refine g_iconst (pc := 12) (v := 1) C dX6_has_12 ic_1 ?_
      refine g_goto (pc := 13) (tgt := 17) C dX6_has_13 (by decide) ?_
      refine g_lv [] (lv2 := []) rfl ?_
      exact k_X6_has_17 C  h
set_option maxHeartbeats 4000000 in
set_option maxRecDepth 100000 in
theorem k_X6_set_15 {σ : St} {K : St → Prop} (C : Cx p R s m args meth c shC G cX6_set 3 2 RX6 none 0 0) (h : J_X6_set_15 σ K) : Go p l e R s m args below meth c shC G 3 0 0 (MQ below (Qw shC G (RV K)) args s 0 0 (Fr shC G)) 15 [] [] σ := by
  unfold J_X6_set_15 at h
  exact g_vret (pc := 15) C dX6_set_15 ⟨rfl, h⟩
set_option maxHeartbeats 4000000 in
set_option maxRecDepth 100000 in
theorem M_X6_set {l : Launch} {G : Gp} (hD : Dj shC G) {k0 : Nat} {n0 : Nat} {v1 : Int32} {v2 : Int32} {σ : St} {K : St → Prop} (hk0 : shC[k0]? = some (6, n0, 0)) (h : wp_X6_set k0 n0 v1 v2 σ K) : MC l shC G yX6_set cX6_set 3 none 2 [.ref (G.2.2 k0), .int v1, .int v2] σ (RV K) := by
  unfold wp_X6_set at h
  refine MC.of (by decide) hD (Nat.le_of_ble_eq_true rfl) ?_
  intro p e s m args below meth c C
  replace C : Cx p (rmD 2) s m args meth c shC G cX6_set 3 2 RX6 none 0 0 := C
  show Go p l e (rmD 2) s m args below meth c shC G 3 0 0 (MQ below (Qw shC G (RV K)) args s 0 0 (Fr shC G)) 0 [(0, .ref (G.2.2 k0)), (1, .int v1), (2, .int v2)] [] σ
  refine g_aload_n (pc := 0) C 0 dX6_set_0 rfl rfl ?_
  refine g_iload_n (pc := 1) C 1 dX6_set_1 rfl rfl ?_
  refine g_callVip (pc := 2) (As := [.int v1]) (rest := []) C hk0 rfl rfl rfl (M_X6_has C.2.2.1 hk0 h) CyX6_has tw_334 tw_277 tw_278 (by decide) rfl rfl (Nat.le_of_ble_eq_true rfl) dX6_set_2 (fun r2 h => ?_)
  refine g_if_eq (pc := 5) (tgt := 15) C dX6_set_5 (by decide) (fun c_ => ?_) (fun c_ => ?_)
  · replace h := ite_t h c_
    refine g_lv [] (lv2 := []) rfl ?_
    exact k_X6_set_15 C  h
  · replace h := ite_f h c_
    refine g_aload_n (pc := 8) C 0 dX6_set_8 rfl rfl ?_
    refine get_X6_0 (pc := 9) C hk0 tw_179 dX6_set_9 ?_
    refine g_iload_n (pc := 12) C 1 dX6_set_12 rfl rfl ?_
    refine g_iload_n (pc := 13) C 2 dX6_set_13 rfl rfl ?_
    obtain ⟨g_, h⟩ := h
    refine g_iast (pc := 14) C (sh6_0 hk0) g_ dX6_set_14 ?_
    refine g_lv [] (lv2 := []) rfl ?_
    exact k_X6_set_15 C  h
set_option maxHeartbeats 4000000 in
set_option maxRecDepth 100000 in
theorem k_X4_layLightest_15 {k1 : Nat} {v2 : Int32} {k3 : Nat} {n3 : Nat} {v4 : Int32} {v5 : Int32} {σ : St} {K : St → Prop} (C : Cx p R s m args meth c shC G cX4_layLightest 7 5 RX4 none 0 0) (hk1 : shC[k1]? = some (0, 0, 0)) (hk3 : shC[k3]? = some (6, n3, 0)) (h : L_X4_layLightest_15 k1 v2 k3 n3 K v4 v5 σ) : Go p l e R s m args below meth c shC G 7 0 0 (MQ below (Qw shC G (RV K)) args s 0 0 (Fr shC G)) 15 [(0, .ref (G.2.2 76)), (1, .ref (G.2.2 k1)), (2, .int v2), (3, .ref (G.2.2 k3)), (4, .int v4), (5, .int v5)] [] σ := by
  obtain ⟨n_, h⟩ := h
  induction n_ generalizing v4 v5 σ with
  | zero => exact h.elim
  | succ n_ ih =>
    replace h : B_X4_layLightest_15 k1 v2 k3 n3 K (it3 (B_X4_layLightest_15 k1 v2 k3 n3 K) n_) v4 v5 σ := h
    unfold B_X4_layLightest_15 at h
    refine g_iload (pc := 15) C 5 dX4_layLightest_15 rfl ?_
    refine g_iload_n (pc := 17) C 2 dX4_layLightest_17 rfl rfl ?_
    refine g_icmp_ge (pc := 18) (tgt := 64) C dX4_layLightest_18 (by decide) (fun c_ => ?_) (fun c_ => ?_)
    · replace h := ite_t h c_
      exact g_vret (pc := 64) C dX4_layLightest_64 ⟨rfl, h⟩
    · replace h := ite_f h c_
      refine g_aload_n (pc := 21) C 0 dX4_layLightest_21 rfl rfl ?_
      refine g_aload_n (pc := 22) C 1 dX4_layLightest_22 rfl rfl ?_
      refine get_X0_0 (pc := 23) C hk1 tw_40 dX4_layLightest_23 ?_
      refine g_iload_n (pc := 26) C 2 dX4_layLightest_26 rfl rfl ?_
      refine g_iload (pc := 27) C 5 dX4_layLightest_27 rfl ?_
      refine g_isub (pc := 29) C dX4_layLightest_29 ?_
      refine g_iload (pc := 30) C 4 dX4_layLightest_30 rfl ?_
      refine g_callVip (pc := 32) (As := [.int (σ.1 k1 0), .int (v2 - v5), .int v4]) (rest := []) C rfl rfl rfl rfl (M_X4_lightestPull C.2.2.1  h) CyX4_lightestPull tw_599 tw_601 ts_14 (by decide) rfl rfl (Nat.le_of_ble_eq_true rfl) dX4_layLightest_32 (fun r32 h => ?_)
      refine g_istore (pc := 35) (lv2 := [(6, .int r32), (0, .ref (G.2.2 76)), (1, .ref (G.2.2 k1)), (2, .int v2), (3, .ref (G.2.2 k3)), (4, .int v4), (5, .int v5)]) C dX4_layLightest_35 (by decide) rfl ?_
      refine g_aload_n (pc := 37) C 4 dX4_layLightest_37 rfl rfl ?_
      refine g_iload (pc := 38) C 6 dX4_layLightest_38 rfl ?_
      refine g_iload (pc := 40) C 0 dX4_layLightest_40 rfl ?_
      refine g_callVv (pc := 42) (As := [.int v5, .int r32]) (rest := []) C hk3 rfl rfl rfl (M_X6_set C.2.2.1 hk3 h) CyX6_set tw_559 tw_560 tw_561 (by decide) rfl rfl (Nat.le_of_ble_eq_true rfl) dX4_layLightest_42 (fun t42 h => ?_)
      refine g_aload_n (pc := 45) C 2 dX4_layLightest_45 rfl rfl ?_
      refine get_X0_0 (pc := 46) C hk1 tw_40 dX4_layLightest_46 ?_
      refine g_iload (pc := 49) C 5 dX4_layLightest_49 rfl ?_
      refine g_iload (pc := 51) C 0 dX4_layLightest_51 rfl ?_
      refine g_callSNip (pc := 53) (As := [.int (t42.1 k1 0), .int v4, .int r32]) (rest := []) C (M_X8_after C.2.2.1  h) CyX8_after (List.mem_of_getElem? (i := 9) rfl) tw_401 (by decide) rfl rfl (Nat.le_of_ble_eq_true rfl) dX4_layLightest_53 (fun r53 h => ?_)
      refine g_istore (pc := 56) (lv2 := [(4, .int r53), (6, .int r32), (0, .ref (G.2.2 76)), (1, .ref (G.2.2 k1)), (2, .int v2), (3, .ref (G.2.2 k3)), (5, .int v5)]) C dX4_layLightest_56 (by decide) rfl ?_
      refine g_iinc (pc := 58) (lv2 := [(5, .int (v5 + 1)), (4, .int r53), (6, .int r32), (0, .ref (G.2.2 76)), (1, .ref (G.2.2 k1)), (2, .int v2), (3, .ref (G.2.2 k3))]) C 6 dX4_layLightest_58 ic_1 rfl (by decide) rfl ?_
      refine g_goto (pc := 61) (tgt := 15) C dX4_layLightest_61 (by decide) ?_
      refine g_lv [3, 4, 5, 6, 1, 0] (lv2 := [(0, .ref (G.2.2 76)), (1, .ref (G.2.2 k1)), (2, .int v2), (3, .ref (G.2.2 k3)), (4, .int r53), (5, .int (v5 + 1))]) rfl ?_
      exact ih h
set_option maxHeartbeats 4000000 in
set_option maxRecDepth 100000 in
theorem M_X4_layLightest {l : Launch} {G : Gp} (hD : Dj shC G) {k1 : Nat} {v2 : Int32} {k3 : Nat} {n3 : Nat} {σ : St} {K : St → Prop} (hk1 : shC[k1]? = some (0, 0, 0)) (hk3 : shC[k3]? = some (6, n3, 0)) (h : wp_X4_layLightest k1 v2 k3 n3 σ K) : MC l shC G yX4_layLightest cX4_layLightest 7 none 5 [.ref (G.2.2 76), .ref (G.2.2 k1), .int v2, .ref (G.2.2 k3)] σ (RV K) := by
  unfold wp_X4_layLightest at h
  refine MC.of (by decide) hD (Nat.le_of_ble_eq_true rfl) ?_
  intro p e s m args below meth c C
  replace C : Cx p (rmD 5) s m args meth c shC G cX4_layLightest 7 5 RX4 none 0 0 := C
  show Go p l e (rmD 5) s m args below meth c shC G 7 0 0 (MQ below (Qw shC G (RV K)) args s 0 0 (Fr shC G)) 0 [(0, .ref (G.2.2 76)), (1, .ref (G.2.2 k1)), (2, .int v2), (3, .ref (G.2.2 k3))] [] σ
  refine g_aload_n (pc := 0) C 3 dX4_layLightest_0 rfl rfl ?_
  refine g_iload_n (pc := 1) C 2 dX4_layLightest_1 rfl rfl ?_
  refine g_iconst (pc := 2) (v := 0) C dX4_layLightest_2 ic_0 ?_
  refine g_callVv (pc := 3) (As := [.int v2, .int 0]) (rest := []) C hk3 rfl rfl rfl (M_X6_begin C.2.2.1 hk3 h) CyX6_begin tw_558 tw_256 tw_257 (by decide) rfl rfl (Nat.le_of_ble_eq_true rfl) dX4_layLightest_3 (fun t3 h => ?_)
  refine g_aload_n (pc := 6) C 1 dX4_layLightest_6 rfl rfl ?_
  refine get_X0_3 (pc := 7) C hk1 tw_48 dX4_layLightest_7 ?_
  refine g_istore (pc := 10) (lv2 := [(4, .int (t3.1 k1 3)), (0, .ref (G.2.2 76)), (1, .ref (G.2.2 k1)), (2, .int v2), (3, .ref (G.2.2 k3))]) C dX4_layLightest_10 (by decide) rfl ?_
  refine g_iconst (pc := 12) (v := 0) C dX4_layLightest_12 ic_0 ?_
  refine g_istore (pc := 13) (lv2 := [(5, .int 0), (4, .int (t3.1 k1 3)), (0, .ref (G.2.2 76)), (1, .ref (G.2.2 k1)), (2, .int v2), (3, .ref (G.2.2 k3))]) C dX4_layLightest_13 (by decide) rfl ?_
  refine g_lv [2, 3, 4, 5, 1, 0] (lv2 := [(0, .ref (G.2.2 76)), (1, .ref (G.2.2 k1)), (2, .int v2), (3, .ref (G.2.2 k3)), (4, .int (t3.1 k1 3)), (5, .int 0)]) rfl ?_
  exact k_X4_layLightest_15 C hk1 hk3 h
set_option maxHeartbeats 4000000 in
set_option maxRecDepth 100000 in
theorem k_X4_weigh_120 {σ : St} {K : St → Prop} (C : Cx p R s m args meth c shC G cX4_weigh 7 5 RX4 none 0 0) (h : J_X4_weigh_120 σ K) : Go p l e R s m args below meth c shC G 7 0 0 (MQ below (Qw shC G (RV K)) args s 0 0 (Fr shC G)) 120 [] [] σ := by
  unfold J_X4_weigh_120 at h
  exact g_vret (pc := 120) C dX4_weigh_120 ⟨rfl, h⟩
set_option maxHeartbeats 4000000 in
set_option maxRecDepth 100000 in
theorem k_X4_weigh_107 {v1 : Int32} {v2 : Int32} {v4 : Int32} {v5 : Int32} {kw0 : Nat} {nw0 : Nat} {w1 : Int32} {w2 : Int32} {σ : St} {K : St → Prop} {Φ38 : Int32 → St → Prop} {Φ54 : Int32 → St → Prop} (C : Cx p R s m args meth c shC G cX4_weigh 7 5 RX4 none 0 0) (hkw0 : shC[kw0]? = some (10, nw0, 0)) (hΦ38 : ∀ (v4' : Int32) (σ' : St), Φ38 v4' σ' → Go p l e R s m args below meth c shC G 7 0 0 (MQ below (Qw shC G (RV K)) args s 0 0 (Fr shC G)) 38 [(0, .ref (G.2.2 76)), (1, .int v1), (2, .int v2), (4, .int (v4'))] [] σ') (hΦ54 : ∀ (v5' : Int32) (σ' : St), Φ54 v5' σ' → Go p l e R s m args below meth c shC G 7 0 0 (MQ below (Qw shC G (RV K)) args s 0 0 (Fr shC G)) 54 [(0, .ref (G.2.2 76)), (1, .int v1), (2, .int v2), (4, .int v4), (5, .int (v5'))] [] σ') (h : J_X4_weigh_107 v1 v2 v4 v5 kw0 nw0 w1 w2 σ K Φ38 Φ54) : Go p l e R s m args below meth c shC G 7 0 0 (MQ below (Qw shC G (RV K)) args s 0 0 (Fr shC G)) 107 [(0, .ref (G.2.2 76)), (1, .int v1), (2, .int v2), (4, .int v4), (5, .int v5)] [.int w2, .int w1, .ref (G.2.2 kw0)] σ := by
  unfold J_X4_weigh_107 at h
  obtain ⟨g_, h⟩ := h
  refine g_iast (pc := 107) C hkw0 g_ dX4_weigh_107 ?_
  refine g_iinc (pc := 108) (lv2 := [(5, .int (v5 + 1)), (0, .ref (G.2.2 76)), (1, .int v1), (2, .int v2), (4, .int v4)]) C 4 dX4_weigh_108 ic_1 rfl (by decide) rfl ?_
  refine g_goto (pc := 111) (tgt := 54) C dX4_weigh_111 (by decide) ?_
  refine g_lv [1, 2, 3, 4, 0] (lv2 := [(0, .ref (G.2.2 76)), (1, .int v1), (2, .int v2), (4, .int v4), (5, .int (v5 + 1))]) rfl ?_
  exact hΦ54 _ _ h
set_option maxHeartbeats 4000000 in
set_option maxRecDepth 100000 in
theorem k_X4_weigh_54 {v1 : Int32} {v2 : Int32} {v4 : Int32} {v5 : Int32} {σ : St} {K : St → Prop} {Φ38 : Int32 → St → Prop} (C : Cx p R s m args meth c shC G cX4_weigh 7 5 RX4 none 0 0) (hΦ38 : ∀ (v4' : Int32) (σ' : St), Φ38 v4' σ' → Go p l e R s m args below meth c shC G 7 0 0 (MQ below (Qw shC G (RV K)) args s 0 0 (Fr shC G)) 38 [(0, .ref (G.2.2 76)), (1, .int v1), (2, .int v2), (4, .int (v4'))] [] σ') (h : L_X4_weigh_54 v1 v2 v4 K Φ38 v5 σ) : Go p l e R s m args below meth c shC G 7 0 0 (MQ below (Qw shC G (RV K)) args s 0 0 (Fr shC G)) 54 [(0, .ref (G.2.2 76)), (1, .int v1), (2, .int v2), (4, .int v4), (5, .int v5)] [] σ := by
  obtain ⟨n_, h⟩ := h
  induction n_ generalizing v5 σ with
  | zero => exact h.elim
  | succ n_ ih =>
    replace h : B_X4_weigh_54 v1 v2 v4 K Φ38 (it2 (B_X4_weigh_54 v1 v2 v4 K Φ38) n_) v5 σ := h
    unfold B_X4_weigh_54 at h
    refine g_iload (pc := 54) C 4 dX4_weigh_54 rfl ?_
    refine g_bipush (pc := 56) (v := 21) C dX4_weigh_56 bp_21 ?_
    refine g_icmp_ge (pc := 58) (tgt := 114) C dX4_weigh_58 (by decide) (fun c_ => ?_) (fun c_ => ?_)
    · replace h := ite_t h c_
      refine g_iinc (pc := 114) (lv2 := [(4, .int (v4 + 1)), (0, .ref (G.2.2 76)), (1, .int v1), (2, .int v2), (5, .int v5)]) C 3 dX4_weigh_114 ic_1 rfl (by decide) rfl ?_
      refine g_goto (pc := 117) (tgt := 38) C dX4_weigh_117 (by decide) ?_
      refine g_lv [1, 2, 3, 0] (lv2 := [(0, .ref (G.2.2 76)), (1, .int v1), (2, .int v2), (4, .int (v4 + 1))]) rfl ?_
      exact hΦ38 _ _ h
    · replace h := ite_f h c_
      refine g_aload_n (pc := 61) C 0 dX4_weigh_61 rfl rfl ?_
      refine g_iload_n (pc := 62) C 1 dX4_weigh_62 rfl rfl ?_
      refine g_iload (pc := 63) C 3 dX4_weigh_63 rfl ?_
      refine g_iload (pc := 65) C 4 dX4_weigh_65 rfl ?_
      refine g_callVip (pc := 67) (As := [.int v1, .int v4, .int v5]) (rest := []) C rfl rfl rfl rfl (M_X4_lightestPull C.2.2.1  h) CyX4_lightestPull tw_599 tw_601 ts_14 (by decide) rfl rfl (Nat.le_of_ble_eq_true rfl) dX4_weigh_67 (fun r67 h => ?_)
      refine g_istore (pc := 70) (lv2 := [(6, .int r67), (0, .ref (G.2.2 76)), (1, .int v1), (2, .int v2), (4, .int v4), (5, .int v5)]) C dX4_weigh_70 (by decide) rfl ?_
      refine g_aload_n (pc := 72) C 1 dX4_weigh_72 rfl rfl ?_
      refine get_X4_1 (pc := 73) C rfl tw_135 dX4_weigh_73 ?_
      refine g_iload (pc := 76) C 4 dX4_weigh_76 rfl ?_
      refine g_bipush (pc := 78) (v := 21) C dX4_weigh_78 bp_21 ?_
      refine g_imul (pc := 80) C dX4_weigh_80 ?_
      refine g_iload (pc := 81) C 5 dX4_weigh_81 rfl ?_
      refine g_iadd (pc := 83) C dX4_weigh_83 ?_
      refine g_iload (pc := 84) C 0 dX4_weigh_84 rfl ?_
      refine g_bipush (pc := 86) (v := -9) C dX4_weigh_86 bp_m9 ?_
      refine g_icmp_ne (pc := 88) (tgt := 96) C dX4_weigh_88 (by decide) (fun c_ => ?_) (fun c_ => ?_)
      · replace h := ite_f h c_
        refine g_aload_n (pc := 96) C 1 dX4_weigh_96 rfl rfl ?_
        refine g_iload_n (pc := 97) C 2 dX4_weigh_97 rfl rfl ?_
        refine g_iload (pc := 98) C 4 dX4_weigh_98 rfl ?_
        refine g_iload (pc := 100) C 5 dX4_weigh_100 rfl ?_
        refine g_iload (pc := 102) C 0 dX4_weigh_102 rfl ?_
        refine g_callVip (pc := 104) (As := [.int v1, .int v4, .int v5, .int r67]) (rest := [.int ((v4 * 21) + v5), .ref (G.2.2 78)]) C rfl rfl rfl rfl (M_X4_sumBy C.2.2.1  h) CyX4_sumBy tw_603 tw_605 ts_15 (by decide) rfl rfl (Nat.le_of_ble_eq_true rfl) dX4_weigh_104 (fun r104 h => ?_)
        refine g_lv [1, 2, 3, 4, 5] (lv2 := [(0, .ref (G.2.2 76)), (1, .int v1), (2, .int v2), (4, .int v4), (5, .int v5)]) rfl ?_
        exact k_X4_weigh_107 C rfl hΦ38 (fun _ _ h_ => ih h_) h
      · replace h := ite_t h c_
        refine g_bipush (pc := 91) (v := -9) C dX4_weigh_91 bp_m9 ?_
        refine g_goto (pc := 93) (tgt := 107) C dX4_weigh_93 (by decide) ?_
        refine g_lv [1, 2, 3, 4, 5] (lv2 := [(0, .ref (G.2.2 76)), (1, .int v1), (2, .int v2), (4, .int v4), (5, .int v5)]) rfl ?_
        exact k_X4_weigh_107 C rfl hΦ38 (fun _ _ h_ => ih h_) h
set_option maxHeartbeats 4000000 in
set_option maxRecDepth 100000 in
theorem k_X4_weigh_38 {v1 : Int32} {v2 : Int32} {v4 : Int32} {σ : St} {K : St → Prop} (C : Cx p R s m args meth c shC G cX4_weigh 7 5 RX4 none 0 0) (h : L_X4_weigh_38 v1 v2 K v4 σ) : Go p l e R s m args below meth c shC G 7 0 0 (MQ below (Qw shC G (RV K)) args s 0 0 (Fr shC G)) 38 [(0, .ref (G.2.2 76)), (1, .int v1), (2, .int v2), (4, .int v4)] [] σ := by
  obtain ⟨n_, h⟩ := h
  induction n_ generalizing v4 σ with
  | zero => exact h.elim
  | succ n_ ih =>
    replace h : B_X4_weigh_38 v1 v2 K (it2 (B_X4_weigh_38 v1 v2 K) n_) v4 σ := h
    unfold B_X4_weigh_38 at h
    refine g_iload (pc := 38) C 3 dX4_weigh_38 rfl ?_
    refine g_iload_n (pc := 40) C 2 dX4_weigh_40 rfl rfl ?_
    refine g_icmp_gt (pc := 41) (tgt := 120) C dX4_weigh_41 (by decide) (fun c_ => ?_) (fun c_ => ?_)
    · replace h := ite_t h c_
      refine g_lv [] (lv2 := []) rfl ?_
      exact k_X4_weigh_120 C  h
    · replace h := ite_f h c_
      refine g_iload (pc := 44) C 3 dX4_weigh_44 rfl ?_
      refine g_bipush (pc := 46) (v := 12) C dX4_weigh_46 bp_12 ?_
      refine g_icmp_gt (pc := 48) (tgt := 120) C dX4_weigh_48 (by decide) (fun c_ => ?_) (fun c_ => ?_)
      · replace h := ite_t h c_
        refine g_lv [] (lv2 := []) rfl ?_
        exact k_X4_weigh_120 C  h
      · replace h := ite_f h c_
        refine g_iconst (pc := 51) (v := 0) C dX4_weigh_51 ic_0 ?_
        refine g_istore (pc := 52) (lv2 := [(5, .int 0), (0, .ref (G.2.2 76)), (1, .int v1), (2, .int v2), (4, .int v4)]) C dX4_weigh_52 (by decide) rfl ?_
        refine g_lv [1, 2, 3, 4, 0] (lv2 := [(0, .ref (G.2.2 76)), (1, .int v1), (2, .int v2), (4, .int v4), (5, .int 0)]) rfl ?_
        exact k_X4_weigh_54 C (fun _ _ h_ => ih h_) h
set_option maxHeartbeats 4000000 in
set_option maxRecDepth 100000 in
theorem k_X4_weigh_28 {v1 : Int32} {v2 : Int32} {v3 : Int32} {v4 : Int32} {kw0 : Nat} {nw0 : Nat} {w1 : Int32} {w2 : Int32} {σ : St} {K : St → Prop} {Φ3 : Int32 → St → Prop} (C : Cx p R s m args meth c shC G cX4_weigh 7 5 RX4 none 0 0) (hkw0 : shC[kw0]? = some (10, nw0, 0)) (hΦ3 : ∀ (v4' : Int32) (σ' : St), Φ3 v4' σ' → Go p l e R s m args below meth c shC G 7 0 0 (MQ below (Qw shC G (RV K)) args s 0 0 (Fr shC G)) 3 [(0, .ref (G.2.2 76)), (1, .int v1), (2, .int v2), (3, .int v3), (4, .int (v4'))] [] σ') (h : J_X4_weigh_28 v1 v2 v3 v4 kw0 nw0 w1 w2 σ K Φ3) : Go p l e R s m args below meth c shC G 7 0 0 (MQ below (Qw shC G (RV K)) args s 0 0 (Fr shC G)) 28 [(0, .ref (G.2.2 76)), (1, .int v1), (2, .int v2), (3, .int v3), (4, .int v4)] [.int w2, .int w1, .ref (G.2.2 kw0)] σ := by
  unfold J_X4_weigh_28 at h
  obtain ⟨g_, h⟩ := h
  refine g_iast (pc := 28) C hkw0 g_ dX4_weigh_28 ?_
  refine g_iinc (pc := 29) (lv2 := [(4, .int (v4 + 1)), (0, .ref (G.2.2 76)), (1, .int v1), (2, .int v2), (3, .int v3)]) C 4 dX4_weigh_29 ic_1 rfl (by decide) rfl ?_
  refine g_goto (pc := 32) (tgt := 3) C dX4_weigh_32 (by decide) ?_
  refine g_lv [1, 2, 3, 4, 0] (lv2 := [(0, .ref (G.2.2 76)), (1, .int v1), (2, .int v2), (3, .int v3), (4, .int (v4 + 1))]) rfl ?_
  exact hΦ3 _ _ h
set_option maxHeartbeats 4000000 in
set_option maxRecDepth 100000 in
theorem k_X4_weigh_3 {v1 : Int32} {v2 : Int32} {v3 : Int32} {v4 : Int32} {σ : St} {K : St → Prop} (C : Cx p R s m args meth c shC G cX4_weigh 7 5 RX4 none 0 0) (h : L_X4_weigh_3 v1 v2 v3 K v4 σ) : Go p l e R s m args below meth c shC G 7 0 0 (MQ below (Qw shC G (RV K)) args s 0 0 (Fr shC G)) 3 [(0, .ref (G.2.2 76)), (1, .int v1), (2, .int v2), (3, .int v3), (4, .int v4)] [] σ := by
  obtain ⟨n_, h⟩ := h
  induction n_ generalizing v4 σ with
  | zero => exact h.elim
  | succ n_ ih =>
    replace h : B_X4_weigh_3 v1 v2 v3 K (it2 (B_X4_weigh_3 v1 v2 v3 K) n_) v4 σ := h
    unfold B_X4_weigh_3 at h
    refine g_iload (pc := 3) C 4 dX4_weigh_3 rfl ?_
    refine g_bipush (pc := 5) (v := 21) C dX4_weigh_5 bp_21 ?_
    refine g_icmp_ge (pc := 7) (tgt := 35) C dX4_weigh_7 (by decide) (fun c_ => ?_) (fun c_ => ?_)
    · replace h := ite_t h c_
      refine g_iconst (pc := 35) (v := 1) C dX4_weigh_35 ic_1 ?_
      refine g_istore (pc := 36) (lv2 := [(4, .int 1), (0, .ref (G.2.2 76)), (1, .int v1), (2, .int v2), (3, .int v3)]) C dX4_weigh_36 (by decide) rfl ?_
      refine g_lv [1, 2, 3, 0] (lv2 := [(0, .ref (G.2.2 76)), (1, .int v1), (2, .int v2), (4, .int 1)]) rfl ?_
      exact k_X4_weigh_38 C  h
    · replace h := ite_f h c_
      refine g_aload_n (pc := 10) C 0 dX4_weigh_10 rfl rfl ?_
      refine get_X4_1 (pc := 11) C rfl tw_135 dX4_weigh_11 ?_
      refine g_iload (pc := 14) C 4 dX4_weigh_14 rfl ?_
      refine g_iload (pc := 16) C 4 dX4_weigh_16 rfl ?_
      refine g_iload_n (pc := 18) C 3 dX4_weigh_18 rfl rfl ?_
      refine g_icmp_ne (pc := 19) (tgt := 26) C dX4_weigh_19 (by decide) (fun c_ => ?_) (fun c_ => ?_)
      · replace h := ite_f h c_
        refine g_bipush (pc := 26) (v := -9) C dX4_weigh_26 bp_m9 ?_
        refine g_lv [0, 1, 2, 3, 4] (lv2 := [(0, .ref (G.2.2 76)), (1, .int v1), (2, .int v2), (3, .int v3), (4, .int v4)]) rfl ?_
        exact k_X4_weigh_28 C rfl (fun _ _ h_ => ih h_) h
      · replace h := ite_t h c_
        refine g_iconst (pc := 22) (v := 0) C dX4_weigh_22 ic_0 ?_
        refine g_goto (pc := 23) (tgt := 28) C dX4_weigh_23 (by decide) ?_
        refine g_lv [0, 1, 2, 3, 4] (lv2 := [(0, .ref (G.2.2 76)), (1, .int v1), (2, .int v2), (3, .int v3), (4, .int v4)]) rfl ?_
        exact k_X4_weigh_28 C rfl (fun _ _ h_ => ih h_) h
set_option maxHeartbeats 4000000 in
set_option maxRecDepth 100000 in
theorem M_X4_weigh {l : Launch} {G : Gp} (hD : Dj shC G) {v1 : Int32} {v2 : Int32} {v3 : Int32} {σ : St} {K : St → Prop} (h : wp_X4_weigh v1 v2 v3 σ K) : MC l shC G yX4_weigh cX4_weigh 7 none 5 [.ref (G.2.2 76), .int v1, .int v2, .int v3] σ (RV K) := by
  unfold wp_X4_weigh at h
  refine MC.of (by decide) hD (Nat.le_of_ble_eq_true rfl) ?_
  intro p e s m args below meth c C
  replace C : Cx p (rmD 5) s m args meth c shC G cX4_weigh 7 5 RX4 none 0 0 := C
  show Go p l e (rmD 5) s m args below meth c shC G 7 0 0 (MQ below (Qw shC G (RV K)) args s 0 0 (Fr shC G)) 0 [(0, .ref (G.2.2 76)), (1, .int v1), (2, .int v2), (3, .int v3)] [] σ
  refine g_iconst (pc := 0) (v := 0) C dX4_weigh_0 ic_0 ?_
  refine g_istore (pc := 1) (lv2 := [(4, .int 0), (0, .ref (G.2.2 76)), (1, .int v1), (2, .int v2), (3, .int v3)]) C dX4_weigh_1 (by decide) rfl ?_
  refine g_lv [1, 2, 3, 4, 0] (lv2 := [(0, .ref (G.2.2 76)), (1, .int v1), (2, .int v2), (3, .int v3), (4, .int 0)]) rfl ?_
  exact k_X4_weigh_3 C  h
set_option maxHeartbeats 4000000 in
set_option maxRecDepth 100000 in
theorem k_X8_arms_28 {σ : St} {K : Int32 → St → Prop} (C : Cx p R s m args meth c shC G cX8_arms 8 6 RX8 (some .int) 0 0) (h : J_X8_arms_28 σ K) : Go p l e R s m args below meth c shC G 8 0 0 (MQ below (Qw shC G (RI K)) args s 0 0 (Fr shC G)) 28 [] [] σ := by
  unfold J_X8_arms_28 at h
  refine g_iconst (pc := 28) (v := -1) C dX8_arms_28 ic_m1 ?_
  exact g_iret (pc := 29) C dX8_arms_29 ⟨_, rfl, h⟩
set_option maxHeartbeats 4000000 in
set_option maxRecDepth 100000 in
theorem k_X8_arms_109 {v7 : Int32} {σ : St} {K : Int32 → St → Prop} (C : Cx p R s m args meth c shC G cX8_arms 8 6 RX8 (some .int) 0 0) (h : J_X8_arms_109 v7 σ K) : Go p l e R s m args below meth c shC G 8 0 0 (MQ below (Qw shC G (RI K)) args s 0 0 (Fr shC G)) 109 [(7, .int v7)] [] σ := by
  unfold J_X8_arms_109 at h
  refine g_iload (pc := 109) C 0 dX8_arms_109 rfl ?_
  exact g_iret (pc := 111) C dX8_arms_111 ⟨_, rfl, h⟩
set_option maxHeartbeats 4000000 in
set_option maxRecDepth 100000 in
theorem M_X8_arms {l : Launch} {G : Gp} (hD : Dj shC G) {v1 : Int32} {v2 : Int32} {v3 : Int32} {v4 : Int32} {σ : St} {K : Int32 → St → Prop} (h : wp_X8_arms v1 v2 v3 v4 σ K) : MC l shC G yX8_arms cX8_arms 8 (some .int) 6 [.ref (G.2.2 0), .int v1, .int v2, .int v3, .int v4] σ (RI K) := by
  unfold wp_X8_arms at h
  refine MC.of (by decide) hD (Nat.le_of_ble_eq_true rfl) ?_
  intro p e s m args below meth c C
  replace C : Cx p (rmD 6) s m args meth c shC G cX8_arms 8 6 RX8 (some .int) 0 0 := C
  show Go p l e (rmD 6) s m args below meth c shC G 8 0 0 (MQ below (Qw shC G (RI K)) args s 0 0 (Fr shC G)) 0 [(0, .ref (G.2.2 0)), (1, .int v1), (2, .int v2), (3, .int v3), (4, .int v4)] [] σ
  refine g_iload_n (pc := 0) C 2 dX8_arms_0 rfl rfl ?_
  refine g_if_lt (pc := 1) (tgt := 28) C dX8_arms_1 (by decide) (fun c_ => ?_) (fun c_ => ?_)
  · replace h := ite_t h c_
    refine g_lv [] (lv2 := []) rfl ?_
    exact k_X8_arms_28 C  h
  · replace h := ite_f h c_
    refine g_iload_n (pc := 4) C 2 dX8_arms_4 rfl rfl ?_
    refine g_bipush (pc := 5) (v := 12) C dX8_arms_5 bp_12 ?_
    refine g_icmp_gt (pc := 7) (tgt := 28) C dX8_arms_7 (by decide) (fun c_ => ?_) (fun c_ => ?_)
    · replace h := ite_t h c_
      refine g_lv [] (lv2 := []) rfl ?_
      exact k_X8_arms_28 C  h
    · replace h := ite_f h c_
      refine g_iload_n (pc := 10) C 3 dX8_arms_10 rfl rfl ?_
      refine g_if_lt (pc := 11) (tgt := 28) C dX8_arms_11 (by decide) (fun c_ => ?_) (fun c_ => ?_)
      · replace h := ite_t h c_
        refine g_lv [] (lv2 := []) rfl ?_
        exact k_X8_arms_28 C  h
      · replace h := ite_f h c_
        refine g_iload_n (pc := 14) C 3 dX8_arms_14 rfl rfl ?_
        refine g_bipush (pc := 15) (v := 20) C dX8_arms_15 bp_20 ?_
        refine g_icmp_gt (pc := 17) (tgt := 28) C dX8_arms_17 (by decide) (fun c_ => ?_) (fun c_ => ?_)
        · replace h := ite_t h c_
          refine g_lv [] (lv2 := []) rfl ?_
          exact k_X8_arms_28 C  h
        · replace h := ite_f h c_
          refine g_iload (pc := 20) C 4 dX8_arms_20 rfl ?_
          refine g_callSip (pc := 22) (As := [.int v4]) (rest := []) C (M_X8_isRow C.2.2.1  h) CyX8_isRow tw_244 tw_245 (by decide) rfl rfl (Nat.le_of_ble_eq_true rfl) dX8_arms_22 (fun r22 h => ?_)
          refine g_if_ne (pc := 25) (tgt := 30) C dX8_arms_25 (by decide) (fun c_ => ?_) (fun c_ => ?_)
          · replace h := ite_f h c_
            refine g_aload_n (pc := 30) C 0 dX8_arms_30 rfl rfl ?_
            refine g_iload_n (pc := 31) C 1 dX8_arms_31 rfl rfl ?_
            refine g_callVip (pc := 32) (As := [.int v1]) (rest := []) C rfl rfl rfl rfl (M_X8_refuseBell C.2.2.1  h) CyX8_refuseBell tw_435 tw_437 ts_7 (by decide) rfl rfl (Nat.le_of_ble_eq_true rfl) dX8_arms_32 (fun r32 h => ?_)
            refine g_istore (pc := 35) (lv2 := [(5, .int r32), (0, .ref (G.2.2 0)), (1, .int v1), (2, .int v2), (3, .int v3), (4, .int v4)]) C dX8_arms_35 (by decide) rfl ?_
            refine g_iload (pc := 37) C 0 dX8_arms_37 rfl ?_
            refine g_if_eq (pc := 39) (tgt := 45) C dX8_arms_39 (by decide) (fun c_ => ?_) (fun c_ => ?_)
            · replace h := ite_t h c_
              refine g_aload_n (pc := 45) C 1 dX8_arms_45 rfl rfl ?_
              refine get_X8_3 (pc := 46) C rfl tw_197 dX8_arms_46 ?_
              refine get_X7_0 (pc := 49) C rfl tw_72 dX8_arms_49 ?_
              refine g_iload_n (pc := 52) C 2 dX8_arms_52 rfl rfl ?_
              obtain ⟨g_, h⟩ := h
              have hs53_ : shC[(28 + v1.toNatClampNeg)]? = some (0, 0, 0) := sh7_e (k := 25) rfl g_
              refine g_aldB (pc := 53) C (sh7_0 rfl) g_ dX8_arms_53 ?_
              refine g_astore (pc := 54) (lv2 := [(6, .ref (G.2.2 (28 + v1.toNatClampNeg))), (5, .int r32), (0, .ref (G.2.2 0)), (1, .int v1), (2, .int v2), (3, .int v3), (4, .int v4)]) C dX8_arms_54 (by decide) rfl ?_
              refine g_aload_n (pc := 56) C 2 dX8_arms_56 rfl rfl ?_
              refine get_X8_7 (pc := 57) C rfl tw_201 dX8_arms_57 ?_
              refine g_aload (pc := 60) C 0 dX8_arms_60 rfl ?_
              refine get_X0_0 (pc := 62) C hs53_ tw_42 dX8_arms_62 ?_
              refine g_iload_n (pc := 65) C 4 dX8_arms_65 rfl rfl ?_
              refine g_iload_n (pc := 66) C 5 dX8_arms_66 rfl rfl ?_
              refine g_callVv (pc := 67) (As := [.int (σ.1 (28 + v1.toNatClampNeg) 0), .int v2, .int v3]) (rest := []) C rfl rfl rfl rfl (M_X4_weigh C.2.2.1  h) CyX4_weigh tw_595 tw_596 tw_597 (by decide) rfl rfl (Nat.le_of_ble_eq_true rfl) dX8_arms_67 (fun t67 h => ?_)
              refine g_aload_n (pc := 70) C 2 dX8_arms_70 rfl rfl ?_
              refine get_X8_7 (pc := 71) C rfl tw_201 dX8_arms_71 ?_
              refine g_iload_n (pc := 74) C 4 dX8_arms_74 rfl rfl ?_
              refine g_aload (pc := 75) C 0 dX8_arms_75 rfl ?_
              refine get_X0_3 (pc := 77) C hs53_ tw_50 dX8_arms_77 ?_
              refine g_callVip (pc := 80) (As := [.int v2, .int (t67.1 (28 + v1.toNatClampNeg) 3)]) (rest := []) C rfl rfl rfl rfl (M_X4_armsFrom C.2.2.1  h) CyX4_armsFrom tw_611 tw_608 tw_609 (by decide) rfl rfl (Nat.le_of_ble_eq_true rfl) dX8_arms_80 (fun r80 h => ?_)
              refine g_istore (pc := 83) (lv2 := [(7, .int r80), (6, .ref (G.2.2 (28 + v1.toNatClampNeg))), (5, .int r32), (0, .ref (G.2.2 0)), (1, .int v1), (2, .int v2), (3, .int v3), (4, .int v4)]) C dX8_arms_83 (by decide) rfl ?_
              refine g_iload (pc := 85) C 0 dX8_arms_85 rfl ?_
              refine g_bipush (pc := 87) (v := -9) C dX8_arms_87 bp_m9 ?_
              refine g_icmp_eq (pc := 89) (tgt := 109) C dX8_arms_89 (by decide) (fun c_ => ?_) (fun c_ => ?_)
              · replace h := ite_t h c_
                refine g_lv [0] (lv2 := [(7, .int r80)]) rfl ?_
                exact k_X8_arms_109 C  h
              · replace h := ite_f h c_
                refine g_aload_n (pc := 92) C 3 dX8_arms_92 rfl rfl ?_
                refine get_X8_7 (pc := 93) C rfl tw_201 dX8_arms_93 ?_
                refine g_aload (pc := 96) C 1 dX8_arms_96 rfl ?_
                refine g_iload_n (pc := 98) C 5 dX8_arms_98 rfl rfl ?_
                refine g_aload_n (pc := 99) C 3 dX8_arms_99 rfl rfl ?_
                refine get_X8_0 (pc := 100) C rfl tw_194 dX8_arms_100 ?_
                refine g_iload (pc := 103) C 7 dX8_arms_103 rfl ?_
                obtain ⟨g_, h⟩ := h
                have hs105_ : shC[(5 + 2 * v4.toNatClampNeg)]? = some (6, 40, 0) := shR5 g_
                refine g_aldR (pc := 105) C rfl g_ dX8_arms_105 ?_
                refine g_callVv (pc := 106) (As := [.ref (G.2.2 (28 + v1.toNatClampNeg)), .int v2, .ref (G.2.2 (5 + 2 * v4.toNatClampNeg))]) (rest := []) C rfl rfl rfl rfl (M_X4_layLightest C.2.2.1 hs53_ hs105_ h) CyX4_layLightest tw_612 tw_613 tw_614 (by decide) rfl rfl (Nat.le_of_ble_eq_true rfl) dX8_arms_106 (fun t106 h => ?_)
                refine g_lv [0] (lv2 := [(7, .int r80)]) rfl ?_
                exact k_X8_arms_109 C  h
            · replace h := ite_f h c_
              refine g_iload (pc := 42) C 0 dX8_arms_42 rfl ?_
              exact g_iret (pc := 44) C dX8_arms_44 ⟨_, rfl, h⟩
          · replace h := ite_t h c_
            refine g_lv [] (lv2 := []) rfl ?_
            exact k_X8_arms_28 C  h
set_option maxHeartbeats 4000000 in
set_option maxRecDepth 100000 in
theorem M_X8_asked {l : Launch} {G : Gp} (hD : Dj shC G) {σ : St} {K : Int32 → Prop} (h : wp_X8_asked σ K) : MC l shC G yX8_asked cX8_asked 1 (some .int) 1 [.ref (G.2.2 0)] σ (RI (fun r t => t = σ ∧ K r)) := by
  unfold wp_X8_asked at h
  refine MC.of (by decide) hD (Nat.le_of_ble_eq_true rfl) ?_
  intro p e s m args below meth c C
  replace C : Cx p (rmD 1) s m args meth c shC G cX8_asked 1 1 RX8 (some .int) 0 0 := C
  show Go p l e (rmD 1) s m args below meth c shC G 1 0 0 (MQ below (Qw shC G (RI (fun r t => t = σ ∧ K r))) args s 0 0 (Fr shC G)) 0 [(0, .ref (G.2.2 0))] [] σ
  refine g_aload_n (pc := 0) C 0 dX8_asked_0 rfl rfl ?_
  refine get_X8_12 (pc := 1) C rfl tw_206 dX8_asked_1 ?_
  exact g_iret (pc := 4) C dX8_asked_4 ⟨_, rfl, ⟨rfl, h⟩⟩
set_option maxHeartbeats 4000000 in
set_option maxRecDepth 100000 in
theorem k_X8_refusePlace_49 {w0 : Int32} {σ : St} {K : Int32 → St → Prop} (C : Cx p R s m args meth c shC G cX8_refusePlace 3 2 RX8 (some .int) 0 0) (h : J_X8_refusePlace_49 w0 σ K) : Go p l e R s m args below meth c shC G 3 0 0 (MQ below (Qw shC G (RI K)) args s 0 0 (Fr shC G)) 49 [] [.int w0] σ := by
  unfold J_X8_refusePlace_49 at h
  exact g_iret (pc := 49) C dX8_refusePlace_49 ⟨_, rfl, h⟩
set_option maxHeartbeats 4000000 in
set_option maxRecDepth 100000 in
theorem M_X8_refusePlace {l : Launch} {G : Gp} (hD : Dj shC G) {v1 : Int32} {v2 : Int32} {σ : St} {K : Int32 → St → Prop} (h : wp_X8_refusePlace v1 v2 σ K) : MC l shC G yX8_refusePlace cX8_refusePlace 3 (some .int) 2 [.ref (G.2.2 0), .int v1, .int v2] σ (RI K) := by
  unfold wp_X8_refusePlace at h
  refine MC.of (by decide) hD (Nat.le_of_ble_eq_true rfl) ?_
  intro p e s m args below meth c C
  replace C : Cx p (rmD 2) s m args meth c shC G cX8_refusePlace 3 2 RX8 (some .int) 0 0 := C
  show Go p l e (rmD 2) s m args below meth c shC G 3 0 0 (MQ below (Qw shC G (RI K)) args s 0 0 (Fr shC G)) 0 [(0, .ref (G.2.2 0)), (1, .int v1), (2, .int v2)] [] σ
  refine g_iload_n (pc := 0) C 1 dX8_refusePlace_0 rfl rfl ?_
  refine g_callSip (pc := 1) (As := [.int v1]) (rest := []) C (M_X8_isRow C.2.2.1  h) CyX8_isRow tw_244 tw_245 (by decide) rfl rfl (Nat.le_of_ble_eq_true rfl) dX8_refusePlace_1 (fun r1 h => ?_)
  refine g_if_ne (pc := 4) (tgt := 9) C dX8_refusePlace_4 (by decide) (fun c_ => ?_) (fun c_ => ?_)
  · replace h := ite_f h c_
    refine g_aload_n (pc := 9) C 0 dX8_refusePlace_9 rfl rfl ?_
    refine get_X8_0 (pc := 10) C rfl tw_194 dX8_refusePlace_10 ?_
    refine g_iload_n (pc := 13) C 1 dX8_refusePlace_13 rfl rfl ?_
    obtain ⟨g_, h⟩ := h
    have hs14_ : shC[(5 + 2 * v1.toNatClampNeg)]? = some (6, 40, 0) := shR5 g_
    refine g_aldR (pc := 14) C rfl g_ dX8_refusePlace_14 ?_
    refine get_X6_1 (pc := 15) C hs14_ tw_183 dX8_refusePlace_15 ?_
    refine g_if_ne (pc := 18) (tgt := 27) C dX8_refusePlace_18 (by decide) (fun c_ => ?_) (fun c_ => ?_)
    · replace h := ite_f h c_
      refine g_aload_n (pc := 27) C 0 dX8_refusePlace_27 rfl rfl ?_
      refine get_X8_0 (pc := 28) C rfl tw_194 dX8_refusePlace_28 ?_
      refine g_iload_n (pc := 31) C 1 dX8_refusePlace_31 rfl rfl ?_
      obtain ⟨g_, h⟩ := h
      have hs32_ : shC[(5 + 2 * v1.toNatClampNeg)]? = some (6, 40, 0) := shR5 g_
      refine g_aldR (pc := 32) C rfl g_ dX8_refusePlace_32 ?_
      refine g_iload_n (pc := 33) C 2 dX8_refusePlace_33 rfl rfl ?_
      refine g_callVip (pc := 34) (As := [.int v2]) (rest := []) C hs32_ rfl rfl rfl (M_X6_has C.2.2.1 hs32_ h) CyX6_has tw_276 tw_277 tw_278 (by decide) rfl rfl (Nat.le_of_ble_eq_true rfl) dX8_refusePlace_34 (fun r34 h => ?_)
      refine g_if_eq (pc := 37) (tgt := 44) C dX8_refusePlace_37 (by decide) (fun c_ => ?_) (fun c_ => ?_)
      · replace h := ite_t h c_
        refine g_aload_n (pc := 44) C 0 dX8_refusePlace_44 rfl rfl ?_
        refine g_iconst (pc := 45) (v := 2) C dX8_refusePlace_45 ic_2 ?_
        refine g_callVi (pc := 46) (As := [.int 2]) (rest := []) C rfl rfl rfl rfl (M_X8_find C.2.2.1  h) CyX8_find tw_251 tw_253 ts_1 (by decide) rfl rfl (Nat.le_of_ble_eq_true rfl) dX8_refusePlace_46 (fun r46 t46 h => ?_)
        refine g_lv [] (lv2 := []) rfl ?_
        exact k_X8_refusePlace_49 C  h
      · replace h := ite_f h c_
        refine g_iconst (pc := 40) (v := 0) C dX8_refusePlace_40 ic_0 ?_
        refine g_goto (pc := 41) (tgt := 49) C dX8_refusePlace_41 (by decide) ?_
        refine g_lv [] (lv2 := []) rfl ?_
        exact k_X8_refusePlace_49 C  h
    · replace h := ite_t h c_
      refine g_aload_n (pc := 21) C 0 dX8_refusePlace_21 rfl rfl ?_
      refine g_iconst (pc := 22) (v := 1) C dX8_refusePlace_22 ic_1 ?_
      refine g_callVi (pc := 23) (As := [.int 1]) (rest := []) C rfl rfl rfl rfl (M_X8_find C.2.2.1  h) CyX8_find tw_251 tw_253 ts_1 (by decide) rfl rfl (Nat.le_of_ble_eq_true rfl) dX8_refusePlace_23 (fun r23 t23 h => ?_)
      exact g_iret (pc := 26) C dX8_refusePlace_26 ⟨_, rfl, h⟩
  · replace h := ite_t h c_
    refine g_iconst (pc := 7) (v := -1) C dX8_refusePlace_7 ic_m1 ?_
    exact g_iret (pc := 8) C dX8_refusePlace_8 ⟨_, rfl, h⟩
set_option maxHeartbeats 4000000 in
set_option maxRecDepth 100000 in
theorem M_X8_at {l : Launch} {G : Gp} (hD : Dj shC G) {v1 : Int32} {v2 : Int32} {σ : St} {K : Int32 → St → Prop} (h : wp_X8_at v1 v2 σ K) : MC l shC G yX8_at cX8_at 4 (some .int) 3 [.ref (G.2.2 0), .int v1, .int v2] σ (RI K) := by
  unfold wp_X8_at at h
  refine MC.of (by decide) hD (Nat.le_of_ble_eq_true rfl) ?_
  intro p e s m args below meth c C
  replace C : Cx p (rmD 3) s m args meth c shC G cX8_at 4 3 RX8 (some .int) 0 0 := C
  show Go p l e (rmD 3) s m args below meth c shC G 4 0 0 (MQ below (Qw shC G (RI K)) args s 0 0 (Fr shC G)) 0 [(0, .ref (G.2.2 0)), (1, .int v1), (2, .int v2)] [] σ
  refine g_aload_n (pc := 0) C 0 dX8_at_0 rfl rfl ?_
  refine g_iload_n (pc := 1) C 1 dX8_at_1 rfl rfl ?_
  refine g_iload_n (pc := 2) C 2 dX8_at_2 rfl rfl ?_
  refine g_callVi (pc := 3) (As := [.int v1, .int v2]) (rest := []) C rfl rfl rfl rfl (M_X8_refusePlace C.2.2.1  h) CyX8_refusePlace tw_272 tw_274 ts_2 (by decide) rfl rfl (Nat.le_of_ble_eq_true rfl) dX8_at_3 (fun r3 t3 h => ?_)
  refine g_istore_n (pc := 6) (lv2 := [(3, .int r3), (0, .ref (G.2.2 0)), (1, .int v1), (2, .int v2)]) C dX8_at_6 rfl (by decide) rfl ?_
  refine g_iload_n (pc := 7) C 0 dX8_at_7 rfl rfl ?_
  refine g_if_eq (pc := 8) (tgt := 13) C dX8_at_8 (by decide) (fun c_ => ?_) (fun c_ => ?_)
  · replace h := ite_t h c_
    refine g_aload_n (pc := 13) C 1 dX8_at_13 rfl rfl ?_
    refine g_aload_n (pc := 14) C 1 dX8_at_14 rfl rfl ?_
    refine get_X8_0 (pc := 15) C rfl tw_194 dX8_at_15 ?_
    refine g_iload_n (pc := 18) C 2 dX8_at_18 rfl rfl ?_
    obtain ⟨g_, h⟩ := h
    have hs19_ : shC[(5 + 2 * v1.toNatClampNeg)]? = some (6, 40, 0) := shR5 g_
    refine g_aldR (pc := 19) C rfl g_ dX8_at_19 ?_
    refine get_X6_0 (pc := 20) C hs19_ tw_180 dX8_at_20 ?_
    refine g_iload_n (pc := 23) C 3 dX8_at_23 rfl rfl ?_
    obtain ⟨g_, h⟩ := h
    refine g_iald (pc := 24) C (sh6_0 hs19_) g_ dX8_at_24 ?_
    refine put_X8_12 (pc := 25) C rfl tw_206 dX8_at_25 ?_
    refine g_iconst (pc := 28) (v := 1) C dX8_at_28 ic_1 ?_
    exact g_iret (pc := 29) C dX8_at_29 ⟨_, rfl, h⟩
  · replace h := ite_f h c_
    refine g_iload_n (pc := 11) C 0 dX8_at_11 rfl rfl ?_
    exact g_iret (pc := 12) C dX8_at_12 ⟨_, rfl, h⟩
set_option maxHeartbeats 4000000 in
set_option maxRecDepth 100000 in
theorem k_X4_strokesFrom_21 {w0 : Int32} {σ : St} {K : Int32 → Prop} (C : Cx p R s m args meth c shC G cX4_strokesFrom 2 1 RX4 (some .int) 0 0) (h : J_X4_strokesFrom_21 w0 σ K) : Go p l e R s m args below meth c shC G 2 0 0 (MQ below (Qw shC G (RI (fun r t => t = σ ∧ K r))) args s 0 0 (Fr shC G)) 21 [] [.int w0] σ := by
  unfold J_X4_strokesFrom_21 at h
  exact g_iret (pc := 21) C dX4_strokesFrom_21 ⟨_, rfl, ⟨rfl, h⟩⟩
set_option maxHeartbeats 4000000 in
set_option maxRecDepth 100000 in
theorem k_X4_strokesFrom_19 {σ : St} {K : Int32 → Prop} (C : Cx p R s m args meth c shC G cX4_strokesFrom 2 1 RX4 (some .int) 0 0) (h : J_X4_strokesFrom_19 σ K) : Go p l e R s m args below meth c shC G 2 0 0 (MQ below (Qw shC G (RI (fun r t => t = σ ∧ K r))) args s 0 0 (Fr shC G)) 19 [] [] σ := by
  unfold J_X4_strokesFrom_19 at h
  refine g_bipush (pc := 19) (v := -9) C dX4_strokesFrom_19 bp_m9 ?_
  refine g_lv [] (lv2 := []) rfl ?_
  exact k_X4_strokesFrom_21 C  h
set_option maxHeartbeats 4000000 in
set_option maxRecDepth 100000 in
theorem M_X4_strokesFrom {l : Launch} {G : Gp} (hD : Dj shC G) {v1 : Int32} {σ : St} {K : Int32 → Prop} (h : wp_X4_strokesFrom v1 σ K) : MC l shC G yX4_strokesFrom cX4_strokesFrom 2 (some .int) 1 [.ref (G.2.2 76), .int v1] σ (RI (fun r t => t = σ ∧ K r)) := by
  unfold wp_X4_strokesFrom at h
  refine MC.of (by decide) hD (Nat.le_of_ble_eq_true rfl) ?_
  intro p e s m args below meth c C
  replace C : Cx p (rmD 1) s m args meth c shC G cX4_strokesFrom 2 1 RX4 (some .int) 0 0 := C
  show Go p l e (rmD 1) s m args below meth c shC G 2 0 0 (MQ below (Qw shC G (RI (fun r t => t = σ ∧ K r))) args s 0 0 (Fr shC G)) 0 [(0, .ref (G.2.2 76)), (1, .int v1)] [] σ
  refine g_iload_n (pc := 0) C 1 dX4_strokesFrom_0 rfl rfl ?_
  refine g_if_lt (pc := 1) (tgt := 19) C dX4_strokesFrom_1 (by decide) (fun c_ => ?_) (fun c_ => ?_)
  · replace h := ite_t h c_
    refine g_lv [] (lv2 := []) rfl ?_
    exact k_X4_strokesFrom_19 C  h
  · replace h := ite_f h c_
    refine g_iload_n (pc := 4) C 1 dX4_strokesFrom_4 rfl rfl ?_
    refine g_bipush (pc := 5) (v := 21) C dX4_strokesFrom_5 bp_21 ?_
    refine g_icmp_ge (pc := 7) (tgt := 19) C dX4_strokesFrom_7 (by decide) (fun c_ => ?_) (fun c_ => ?_)
    · replace h := ite_t h c_
      refine g_lv [] (lv2 := []) rfl ?_
      exact k_X4_strokesFrom_19 C  h
    · replace h := ite_f h c_
      refine g_aload_n (pc := 10) C 0 dX4_strokesFrom_10 rfl rfl ?_
      refine get_X4_0 (pc := 11) C rfl tw_134 dX4_strokesFrom_11 ?_
      refine g_iload_n (pc := 14) C 1 dX4_strokesFrom_14 rfl rfl ?_
      obtain ⟨g_, h⟩ := h
      refine g_iald (pc := 15) C rfl g_ dX4_strokesFrom_15 ?_
      refine g_goto (pc := 16) (tgt := 21) C dX4_strokesFrom_16 (by decide) ?_
      refine g_lv [] (lv2 := []) rfl ?_
      exact k_X4_strokesFrom_21 C  h
set_option maxHeartbeats 4000000 in
set_option maxRecDepth 100000 in
theorem k_X4_pullToward_38 {v1 : Int32} {v2 : Int32} {v3 : Int32} {v4 : Int32} {σ : St} {K : Int32 → Prop} {Φ3 : Int32 → Prop} (C : Cx p R s m args meth c shC G cX4_pullToward 6 3 RX4 (some .int) 0 0) (hΦ3 : ∀ (v4' : Int32), Φ3 v4' → Go p l e R s m args below meth c shC G 6 0 0 (MQ below (Qw shC G (RI (fun r t => t = σ ∧ K r))) args s 0 0 (Fr shC G)) 3 [(0, .ref (G.2.2 76)), (1, .int v1), (2, .int v2), (3, .int v3), (4, .int (v4'))] [] σ) (h : J_X4_pullToward_38 v1 v2 v3 v4 σ K Φ3) : Go p l e R s m args below meth c shC G 6 0 0 (MQ below (Qw shC G (RI (fun r t => t = σ ∧ K r))) args s 0 0 (Fr shC G)) 38 [(0, .ref (G.2.2 76)), (1, .int v1), (2, .int v2), (3, .int v3), (4, .int v4)] [] σ := by
  unfold J_X4_pullToward_38 at h
  refine g_iinc (pc := 38) (lv2 := [(4, .int (v4 + 1)), (0, .ref (G.2.2 76)), (1, .int v1), (2, .int v2), (3, .int v3)]) C 4 dX4_pullToward_38 ic_1 rfl (by decide) rfl ?_
  refine g_goto (pc := 41) (tgt := 3) C dX4_pullToward_41 (by decide) ?_
  refine g_lv [1, 2, 3, 4, 0] (lv2 := [(0, .ref (G.2.2 76)), (1, .int v1), (2, .int v2), (3, .int v3), (4, .int (v4 + 1))]) rfl ?_
  exact hΦ3 _ h
set_option maxHeartbeats 4000000 in
set_option maxRecDepth 100000 in
theorem k_X4_pullToward_3 {v1 : Int32} {v2 : Int32} {v3 : Int32} {v4 : Int32} {σ : St} {K : Int32 → Prop} (C : Cx p R s m args meth c shC G cX4_pullToward 6 3 RX4 (some .int) 0 0) (h : L_X4_pullToward_3 v1 v2 v3 σ K v4) : Go p l e R s m args below meth c shC G 6 0 0 (MQ below (Qw shC G (RI (fun r t => t = σ ∧ K r))) args s 0 0 (Fr shC G)) 3 [(0, .ref (G.2.2 76)), (1, .int v1), (2, .int v2), (3, .int v3), (4, .int v4)] [] σ := by
  obtain ⟨n_, h⟩ := h
  induction n_ generalizing v4 with
  | zero => exact h.elim
  | succ n_ ih =>
    replace h : B_X4_pullToward_3 v1 v2 v3 σ K (it1 (B_X4_pullToward_3 v1 v2 v3 σ K) n_) v4 := h
    unfold B_X4_pullToward_3 at h
    refine g_iload (pc := 3) C 4 dX4_pullToward_3 rfl ?_
    refine g_bipush (pc := 5) (v := 7) C dX4_pullToward_5 bp_7 ?_
    refine g_icmp_ge (pc := 7) (tgt := 44) C dX4_pullToward_7 (by decide) (fun c_ => ?_) (fun c_ => ?_)
    · replace h := ite_t h c_
      refine g_bipush (pc := 44) (v := -9) C dX4_pullToward_44 bp_m9 ?_
      exact g_iret (pc := 46) C dX4_pullToward_46 ⟨_, rfl, ⟨rfl, h⟩⟩
    · replace h := ite_f h c_
      refine g_iload_n (pc := 10) C 1 dX4_pullToward_10 rfl rfl ?_
      refine g_iload_n (pc := 11) C 2 dX4_pullToward_11 rfl rfl ?_
      refine g_iload (pc := 12) C 4 dX4_pullToward_12 rfl ?_
      refine g_callSNip (pc := 14) (As := [.int v1, .int v2, .int v4]) (rest := []) C (M_X8_after C.2.2.1  h) CyX8_after (List.mem_of_getElem? (i := 9) rfl) tw_401 (by decide) rfl rfl (Nat.le_of_ble_eq_true rfl) dX4_pullToward_14 (fun r14 h => ?_)
      refine g_istore (pc := 17) (lv2 := [(5, .int r14), (0, .ref (G.2.2 76)), (1, .int v1), (2, .int v2), (3, .int v3), (4, .int v4)]) C dX4_pullToward_17 (by decide) rfl ?_
      refine g_iload (pc := 19) C 0 dX4_pullToward_19 rfl ?_
      refine g_iconst (pc := 21) (v := -1) C dX4_pullToward_21 ic_m1 ?_
      refine g_icmp_eq (pc := 22) (tgt := 38) C dX4_pullToward_22 (by decide) (fun c_ => ?_) (fun c_ => ?_)
      · replace h := ite_t h c_
        refine g_lv [1, 2, 3, 4, 5] (lv2 := [(0, .ref (G.2.2 76)), (1, .int v1), (2, .int v2), (3, .int v3), (4, .int v4)]) rfl ?_
        exact k_X4_pullToward_38 C (fun _ h_ => ih h_) h
      · replace h := ite_f h c_
        refine g_aload_n (pc := 25) C 1 dX4_pullToward_25 rfl rfl ?_
        refine g_iload (pc := 26) C 0 dX4_pullToward_26 rfl ?_
        refine g_callVip (pc := 28) (As := [.int r14]) (rest := []) C rfl rfl rfl rfl (M_X4_strokesFrom C.2.2.1  h) CyX4_strokesFrom tw_549 tw_550 tw_551 (by decide) rfl rfl (Nat.le_of_ble_eq_true rfl) dX4_pullToward_28 (fun r28 h => ?_)
        refine g_iload_n (pc := 31) C 4 dX4_pullToward_31 rfl rfl ?_
        refine g_icmp_ne (pc := 32) (tgt := 38) C dX4_pullToward_32 (by decide) (fun c_ => ?_) (fun c_ => ?_)
        · replace h := ite_f h c_
          refine g_lv [1, 2, 3, 4, 5] (lv2 := [(0, .ref (G.2.2 76)), (1, .int v1), (2, .int v2), (3, .int v3), (4, .int v4)]) rfl ?_
          exact k_X4_pullToward_38 C (fun _ h_ => ih h_) h
        · replace h := ite_t h c_
          refine g_iload (pc := 35) C 5 dX4_pullToward_35 rfl ?_
          exact g_iret (pc := 37) C dX4_pullToward_37 ⟨_, rfl, ⟨rfl, h⟩⟩
set_option maxHeartbeats 4000000 in
set_option maxRecDepth 100000 in
theorem M_X4_pullToward {l : Launch} {G : Gp} (hD : Dj shC G) {v1 : Int32} {v2 : Int32} {v3 : Int32} {σ : St} {K : Int32 → Prop} (h : wp_X4_pullToward v1 v2 v3 σ K) : MC l shC G yX4_pullToward cX4_pullToward 6 (some .int) 3 [.ref (G.2.2 76), .int v1, .int v2, .int v3] σ (RI (fun r t => t = σ ∧ K r)) := by
  unfold wp_X4_pullToward at h
  refine MC.of (by decide) hD (Nat.le_of_ble_eq_true rfl) ?_
  intro p e s m args below meth c C
  replace C : Cx p (rmD 3) s m args meth c shC G cX4_pullToward 6 3 RX4 (some .int) 0 0 := C
  show Go p l e (rmD 3) s m args below meth c shC G 6 0 0 (MQ below (Qw shC G (RI (fun r t => t = σ ∧ K r))) args s 0 0 (Fr shC G)) 0 [(0, .ref (G.2.2 76)), (1, .int v1), (2, .int v2), (3, .int v3)] [] σ
  refine g_iconst (pc := 0) (v := 0) C dX4_pullToward_0 ic_0 ?_
  refine g_istore (pc := 1) (lv2 := [(4, .int 0), (0, .ref (G.2.2 76)), (1, .int v1), (2, .int v2), (3, .int v3)]) C dX4_pullToward_1 (by decide) rfl ?_
  refine g_lv [1, 2, 3, 4, 0] (lv2 := [(0, .ref (G.2.2 76)), (1, .int v1), (2, .int v2), (3, .int v3), (4, .int 0)]) rfl ?_
  exact k_X4_pullToward_3 C  h
set_option maxHeartbeats 4000000 in
set_option maxRecDepth 100000 in
theorem k_X4_measure_84 {v1 : Int32} {v3 : Int32} {v4 : Int32} {σ : St} {K : St → Prop} {Φ33 : Int32 → St → Prop} {Φ42 : Int32 → St → Prop} (C : Cx p R s m args meth c shC G cX4_measure 5 4 RX4 none 0 0) (hΦ33 : ∀ (v3' : Int32) (σ' : St), Φ33 v3' σ' → Go p l e R s m args below meth c shC G 5 0 0 (MQ below (Qw shC G (RV K)) args s 0 0 (Fr shC G)) 33 [(0, .ref (G.2.2 76)), (1, .int v1), (3, .int (v3'))] [] σ') (hΦ42 : ∀ (v4' : Int32) (σ' : St), Φ42 v4' σ' → Go p l e R s m args below meth c shC G 5 0 0 (MQ below (Qw shC G (RV K)) args s 0 0 (Fr shC G)) 42 [(0, .ref (G.2.2 76)), (1, .int v1), (3, .int v3), (4, .int (v4'))] [] σ') (h : J_X4_measure_84 v1 v3 v4 σ K Φ33 Φ42) : Go p l e R s m args below meth c shC G 5 0 0 (MQ below (Qw shC G (RV K)) args s 0 0 (Fr shC G)) 84 [(0, .ref (G.2.2 76)), (1, .int v1), (3, .int v3), (4, .int v4)] [] σ := by
  unfold J_X4_measure_84 at h
  refine g_iinc (pc := 84) (lv2 := [(4, .int (v4 + 1)), (0, .ref (G.2.2 76)), (1, .int v1), (3, .int v3)]) C 3 dX4_measure_84 ic_1 rfl (by decide) rfl ?_
  refine g_goto (pc := 87) (tgt := 42) C dX4_measure_87 (by decide) ?_
  refine g_lv [1, 2, 3, 0] (lv2 := [(0, .ref (G.2.2 76)), (1, .int v1), (3, .int v3), (4, .int (v4 + 1))]) rfl ?_
  exact hΦ42 _ _ h
set_option maxHeartbeats 4000000 in
set_option maxRecDepth 100000 in
theorem k_X4_measure_42 {v1 : Int32} {v3 : Int32} {v4 : Int32} {σ : St} {K : St → Prop} {Φ33 : Int32 → St → Prop} (C : Cx p R s m args meth c shC G cX4_measure 5 4 RX4 none 0 0) (hΦ33 : ∀ (v3' : Int32) (σ' : St), Φ33 v3' σ' → Go p l e R s m args below meth c shC G 5 0 0 (MQ below (Qw shC G (RV K)) args s 0 0 (Fr shC G)) 33 [(0, .ref (G.2.2 76)), (1, .int v1), (3, .int (v3'))] [] σ') (h : L_X4_measure_42 v1 v3 K Φ33 v4 σ) : Go p l e R s m args below meth c shC G 5 0 0 (MQ below (Qw shC G (RV K)) args s 0 0 (Fr shC G)) 42 [(0, .ref (G.2.2 76)), (1, .int v1), (3, .int v3), (4, .int v4)] [] σ := by
  obtain ⟨n_, h⟩ := h
  induction n_ generalizing v4 σ with
  | zero => exact h.elim
  | succ n_ ih =>
    replace h : B_X4_measure_42 v1 v3 K Φ33 (it2 (B_X4_measure_42 v1 v3 K Φ33) n_) v4 σ := h
    unfold B_X4_measure_42 at h
    refine g_iload (pc := 42) C 3 dX4_measure_42 rfl ?_
    refine g_bipush (pc := 44) (v := 21) C dX4_measure_44 bp_21 ?_
    refine g_icmp_ge (pc := 46) (tgt := 90) C dX4_measure_46 (by decide) (fun c_ => ?_) (fun c_ => ?_)
    · replace h := ite_t h c_
      refine g_iinc (pc := 90) (lv2 := [(3, .int (v3 + 1)), (0, .ref (G.2.2 76)), (1, .int v1), (4, .int v4)]) C 2 dX4_measure_90 ic_1 rfl (by decide) rfl ?_
      refine g_goto (pc := 93) (tgt := 33) C dX4_measure_93 (by decide) ?_
      refine g_lv [1, 2, 0] (lv2 := [(0, .ref (G.2.2 76)), (1, .int v1), (3, .int (v3 + 1))]) rfl ?_
      exact hΦ33 _ _ h
    · replace h := ite_f h c_
      refine g_aload_n (pc := 49) C 0 dX4_measure_49 rfl rfl ?_
      refine get_X4_0 (pc := 50) C rfl tw_134 dX4_measure_50 ?_
      refine g_iload (pc := 53) C 3 dX4_measure_53 rfl ?_
      obtain ⟨g_, h⟩ := h
      refine g_iald (pc := 55) C rfl g_ dX4_measure_55 ?_
      refine g_bipush (pc := 56) (v := -9) C dX4_measure_56 bp_m9 ?_
      refine g_icmp_ne (pc := 58) (tgt := 84) C dX4_measure_58 (by decide) (fun c_ => ?_) (fun c_ => ?_)
      · replace h := ite_f h c_
        refine g_lv [0, 1, 2, 3] (lv2 := [(0, .ref (G.2.2 76)), (1, .int v1), (3, .int v3), (4, .int v4)]) rfl ?_
        exact k_X4_measure_84 C hΦ33 (fun _ _ h_ => ih h_) h
      · replace h := ite_t h c_
        refine g_aload_n (pc := 61) C 0 dX4_measure_61 rfl rfl ?_
        refine g_iload_n (pc := 62) C 1 dX4_measure_62 rfl rfl ?_
        refine g_iload (pc := 63) C 3 dX4_measure_63 rfl ?_
        refine g_iload_n (pc := 65) C 2 dX4_measure_65 rfl rfl ?_
        refine g_iconst (pc := 66) (v := 1) C dX4_measure_66 ic_1 ?_
        refine g_isub (pc := 67) C dX4_measure_67 ?_
        refine g_callVip (pc := 68) (As := [.int v1, .int v4, .int (v3 - 1)]) (rest := []) C rfl rfl rfl rfl (M_X4_pullToward C.2.2.1  h) CyX4_pullToward tw_544 tw_546 ts_12 (by decide) rfl rfl (Nat.le_of_ble_eq_true rfl) dX4_measure_68 (fun r68 h => ?_)
        refine g_bipush (pc := 71) (v := -9) C dX4_measure_71 bp_m9 ?_
        refine g_icmp_eq (pc := 73) (tgt := 84) C dX4_measure_73 (by decide) (fun c_ => ?_) (fun c_ => ?_)
        · replace h := ite_t h c_
          refine g_lv [0, 1, 2, 3] (lv2 := [(0, .ref (G.2.2 76)), (1, .int v1), (3, .int v3), (4, .int v4)]) rfl ?_
          exact k_X4_measure_84 C hΦ33 (fun _ _ h_ => ih h_) h
        · replace h := ite_f h c_
          refine g_aload_n (pc := 76) C 0 dX4_measure_76 rfl rfl ?_
          refine get_X4_0 (pc := 77) C rfl tw_134 dX4_measure_77 ?_
          refine g_iload (pc := 80) C 3 dX4_measure_80 rfl ?_
          refine g_iload_n (pc := 82) C 2 dX4_measure_82 rfl rfl ?_
          obtain ⟨g_, h⟩ := h
          refine g_iast (pc := 83) C rfl g_ dX4_measure_83 ?_
          refine g_lv [0, 1, 2, 3] (lv2 := [(0, .ref (G.2.2 76)), (1, .int v1), (3, .int v3), (4, .int v4)]) rfl ?_
          exact k_X4_measure_84 C hΦ33 (fun _ _ h_ => ih h_) h
set_option maxHeartbeats 4000000 in
set_option maxRecDepth 100000 in
theorem k_X4_measure_33 {v1 : Int32} {v3 : Int32} {σ : St} {K : St → Prop} (C : Cx p R s m args meth c shC G cX4_measure 5 4 RX4 none 0 0) (h : L_X4_measure_33 v1 K v3 σ) : Go p l e R s m args below meth c shC G 5 0 0 (MQ below (Qw shC G (RV K)) args s 0 0 (Fr shC G)) 33 [(0, .ref (G.2.2 76)), (1, .int v1), (3, .int v3)] [] σ := by
  obtain ⟨n_, h⟩ := h
  induction n_ generalizing v3 σ with
  | zero => exact h.elim
  | succ n_ ih =>
    replace h : B_X4_measure_33 v1 K (it2 (B_X4_measure_33 v1 K) n_) v3 σ := h
    unfold B_X4_measure_33 at h
    refine g_iload_n (pc := 33) C 2 dX4_measure_33 rfl rfl ?_
    refine g_bipush (pc := 34) (v := 30) C dX4_measure_34 bp_30 ?_
    refine g_icmp_gt (pc := 36) (tgt := 96) C dX4_measure_36 (by decide) (fun c_ => ?_) (fun c_ => ?_)
    · replace h := ite_t h c_
      exact g_vret (pc := 96) C dX4_measure_96 ⟨rfl, h⟩
    · replace h := ite_f h c_
      refine g_iconst (pc := 39) (v := 0) C dX4_measure_39 ic_0 ?_
      refine g_istore (pc := 40) (lv2 := [(4, .int 0), (0, .ref (G.2.2 76)), (1, .int v1), (3, .int v3)]) C dX4_measure_40 (by decide) rfl ?_
      refine g_lv [1, 2, 3, 0] (lv2 := [(0, .ref (G.2.2 76)), (1, .int v1), (3, .int v3), (4, .int 0)]) rfl ?_
      exact k_X4_measure_42 C (fun _ _ h_ => ih h_) h
set_option maxHeartbeats 4000000 in
set_option maxRecDepth 100000 in
theorem k_X4_measure_24 {v1 : Int32} {v2 : Int32} {v3 : Int32} {kw0 : Nat} {nw0 : Nat} {w1 : Int32} {w2 : Int32} {σ : St} {K : St → Prop} {Φ2 : Int32 → St → Prop} (C : Cx p R s m args meth c shC G cX4_measure 5 4 RX4 none 0 0) (hkw0 : shC[kw0]? = some (10, nw0, 0)) (hΦ2 : ∀ (v3' : Int32) (σ' : St), Φ2 v3' σ' → Go p l e R s m args below meth c shC G 5 0 0 (MQ below (Qw shC G (RV K)) args s 0 0 (Fr shC G)) 2 [(0, .ref (G.2.2 76)), (1, .int v1), (2, .int v2), (3, .int (v3'))] [] σ') (h : J_X4_measure_24 v1 v2 v3 kw0 nw0 w1 w2 σ K Φ2) : Go p l e R s m args below meth c shC G 5 0 0 (MQ below (Qw shC G (RV K)) args s 0 0 (Fr shC G)) 24 [(0, .ref (G.2.2 76)), (1, .int v1), (2, .int v2), (3, .int v3)] [.int w2, .int w1, .ref (G.2.2 kw0)] σ := by
  unfold J_X4_measure_24 at h
  obtain ⟨g_, h⟩ := h
  refine g_iast (pc := 24) C hkw0 g_ dX4_measure_24 ?_
  refine g_iinc (pc := 25) (lv2 := [(3, .int (v3 + 1)), (0, .ref (G.2.2 76)), (1, .int v1), (2, .int v2)]) C 3 dX4_measure_25 ic_1 rfl (by decide) rfl ?_
  refine g_goto (pc := 28) (tgt := 2) C dX4_measure_28 (by decide) ?_
  refine g_lv [1, 2, 3, 0] (lv2 := [(0, .ref (G.2.2 76)), (1, .int v1), (2, .int v2), (3, .int (v3 + 1))]) rfl ?_
  exact hΦ2 _ _ h
set_option maxHeartbeats 4000000 in
set_option maxRecDepth 100000 in
theorem k_X4_measure_2 {v1 : Int32} {v2 : Int32} {v3 : Int32} {σ : St} {K : St → Prop} (C : Cx p R s m args meth c shC G cX4_measure 5 4 RX4 none 0 0) (h : L_X4_measure_2 v1 v2 K v3 σ) : Go p l e R s m args below meth c shC G 5 0 0 (MQ below (Qw shC G (RV K)) args s 0 0 (Fr shC G)) 2 [(0, .ref (G.2.2 76)), (1, .int v1), (2, .int v2), (3, .int v3)] [] σ := by
  obtain ⟨n_, h⟩ := h
  induction n_ generalizing v3 σ with
  | zero => exact h.elim
  | succ n_ ih =>
    replace h : B_X4_measure_2 v1 v2 K (it2 (B_X4_measure_2 v1 v2 K) n_) v3 σ := h
    unfold B_X4_measure_2 at h
    refine g_iload_n (pc := 2) C 3 dX4_measure_2 rfl rfl ?_
    refine g_bipush (pc := 3) (v := 21) C dX4_measure_3 bp_21 ?_
    refine g_icmp_ge (pc := 5) (tgt := 31) C dX4_measure_5 (by decide) (fun c_ => ?_) (fun c_ => ?_)
    · replace h := ite_t h c_
      refine g_iconst (pc := 31) (v := 1) C dX4_measure_31 ic_1 ?_
      refine g_istore_n (pc := 32) (lv2 := [(3, .int 1), (0, .ref (G.2.2 76)), (1, .int v1), (2, .int v2)]) C dX4_measure_32 rfl (by decide) rfl ?_
      refine g_lv [1, 2, 0] (lv2 := [(0, .ref (G.2.2 76)), (1, .int v1), (3, .int 1)]) rfl ?_
      exact k_X4_measure_33 C  h
    · replace h := ite_f h c_
      refine g_aload_n (pc := 8) C 0 dX4_measure_8 rfl rfl ?_
      refine get_X4_0 (pc := 9) C rfl tw_134 dX4_measure_9 ?_
      refine g_iload_n (pc := 12) C 3 dX4_measure_12 rfl rfl ?_
      refine g_iload_n (pc := 13) C 3 dX4_measure_13 rfl rfl ?_
      refine g_iload_n (pc := 14) C 2 dX4_measure_14 rfl rfl ?_
      refine g_icmp_lt (pc := 15) (tgt := 22) C dX4_measure_15 (by decide) (fun c_ => ?_) (fun c_ => ?_)
      · replace h := ite_t h c_
        refine g_bipush (pc := 22) (v := -9) C dX4_measure_22 bp_m9 ?_
        refine g_lv [0, 1, 2, 3] (lv2 := [(0, .ref (G.2.2 76)), (1, .int v1), (2, .int v2), (3, .int v3)]) rfl ?_
        exact k_X4_measure_24 C rfl (fun _ _ h_ => ih h_) h
      · replace h := ite_f h c_
        refine g_iconst (pc := 18) (v := 0) C dX4_measure_18 ic_0 ?_
        refine g_goto (pc := 19) (tgt := 24) C dX4_measure_19 (by decide) ?_
        refine g_lv [0, 1, 2, 3] (lv2 := [(0, .ref (G.2.2 76)), (1, .int v1), (2, .int v2), (3, .int v3)]) rfl ?_
        exact k_X4_measure_24 C rfl (fun _ _ h_ => ih h_) h
set_option maxHeartbeats 4000000 in
set_option maxRecDepth 100000 in
theorem M_X4_measure {l : Launch} {G : Gp} (hD : Dj shC G) {v1 : Int32} {v2 : Int32} {σ : St} {K : St → Prop} (h : wp_X4_measure v1 v2 σ K) : MC l shC G yX4_measure cX4_measure 5 none 4 [.ref (G.2.2 76), .int v1, .int v2] σ (RV K) := by
  unfold wp_X4_measure at h
  refine MC.of (by decide) hD (Nat.le_of_ble_eq_true rfl) ?_
  intro p e s m args below meth c C
  replace C : Cx p (rmD 4) s m args meth c shC G cX4_measure 5 4 RX4 none 0 0 := C
  show Go p l e (rmD 4) s m args below meth c shC G 5 0 0 (MQ below (Qw shC G (RV K)) args s 0 0 (Fr shC G)) 0 [(0, .ref (G.2.2 76)), (1, .int v1), (2, .int v2)] [] σ
  refine g_iconst (pc := 0) (v := 0) C dX4_measure_0 ic_0 ?_
  refine g_istore_n (pc := 1) (lv2 := [(3, .int 0), (0, .ref (G.2.2 76)), (1, .int v1), (2, .int v2)]) C dX4_measure_1 rfl (by decide) rfl ?_
  refine g_lv [1, 2, 3, 0] (lv2 := [(0, .ref (G.2.2 76)), (1, .int v1), (2, .int v2), (3, .int 0)]) rfl ?_
  exact k_X4_measure_2 C  h
set_option maxHeartbeats 4000000 in
set_option maxRecDepth 100000 in
theorem M_X8_back {l : Launch} {G : Gp} (hD : Dj shC G) {v1 : Int32} {σ : St} {K : Int32 → St → Prop} (h : wp_X8_back v1 σ K) : MC l shC G yX8_back cX8_back 3 (some .int) 5 [.ref (G.2.2 0), .int v1] σ (RI K) := by
  unfold wp_X8_back at h
  refine MC.of (by decide) hD (Nat.le_of_ble_eq_true rfl) ?_
  intro p e s m args below meth c C
  replace C : Cx p (rmD 5) s m args meth c shC G cX8_back 3 5 RX8 (some .int) 0 0 := C
  show Go p l e (rmD 5) s m args below meth c shC G 3 0 0 (MQ below (Qw shC G (RI K)) args s 0 0 (Fr shC G)) 0 [(0, .ref (G.2.2 0)), (1, .int v1)] [] σ
  refine g_aload_n (pc := 0) C 0 dX8_back_0 rfl rfl ?_
  refine g_iload_n (pc := 1) C 1 dX8_back_1 rfl rfl ?_
  refine g_callVip (pc := 2) (As := [.int v1]) (rest := []) C rfl rfl rfl rfl (M_X8_refuseBell C.2.2.1  h) CyX8_refuseBell tw_435 tw_437 ts_7 (by decide) rfl rfl (Nat.le_of_ble_eq_true rfl) dX8_back_2 (fun r2 h => ?_)
  refine g_istore_n (pc := 5) (lv2 := [(2, .int r2), (0, .ref (G.2.2 0)), (1, .int v1)]) C dX8_back_5 rfl (by decide) rfl ?_
  refine g_iload_n (pc := 6) C 0 dX8_back_6 rfl rfl ?_
  refine g_if_eq (pc := 7) (tgt := 12) C dX8_back_7 (by decide) (fun c_ => ?_) (fun c_ => ?_)
  · replace h := ite_t h c_
    refine g_aload_n (pc := 12) C 1 dX8_back_12 rfl rfl ?_
    refine get_X8_7 (pc := 13) C rfl tw_201 dX8_back_13 ?_
    refine g_aload_n (pc := 16) C 1 dX8_back_16 rfl rfl ?_
    refine get_X8_3 (pc := 17) C rfl tw_197 dX8_back_17 ?_
    refine get_X7_0 (pc := 20) C rfl tw_72 dX8_back_20 ?_
    refine g_iload_n (pc := 23) C 2 dX8_back_23 rfl rfl ?_
    obtain ⟨g_, h⟩ := h
    have hs24_ : shC[(28 + v1.toNatClampNeg)]? = some (0, 0, 0) := sh7_e (k := 25) rfl g_
    refine g_aldB (pc := 24) C (sh7_0 rfl) g_ dX8_back_24 ?_
    refine get_X0_0 (pc := 25) C hs24_ tw_42 dX8_back_25 ?_
    refine g_iconst (pc := 28) (v := 5) C dX8_back_28 ic_5 ?_
    refine g_callVv (pc := 29) (As := [.int (σ.1 (28 + v1.toNatClampNeg) 0), .int 5]) (rest := []) C rfl rfl rfl rfl (M_X4_measure C.2.2.1  h) CyX4_measure tw_540 tw_541 tw_542 (by decide) rfl rfl (Nat.le_of_ble_eq_true rfl) dX8_back_29 (fun t29 h => ?_)
    refine g_aload_n (pc := 32) C 1 dX8_back_32 rfl rfl ?_
    refine get_X8_7 (pc := 33) C rfl tw_201 dX8_back_33 ?_
    refine g_aload_n (pc := 36) C 1 dX8_back_36 rfl rfl ?_
    refine get_X8_3 (pc := 37) C rfl tw_197 dX8_back_37 ?_
    refine get_X7_0 (pc := 40) C rfl tw_72 dX8_back_40 ?_
    refine g_iload_n (pc := 43) C 2 dX8_back_43 rfl rfl ?_
    obtain ⟨g_, h⟩ := h
    have hs44_ : shC[(28 + v1.toNatClampNeg)]? = some (0, 0, 0) := sh7_e (k := 25) rfl g_
    refine g_aldB (pc := 44) C (sh7_0 rfl) g_ dX8_back_44 ?_
    refine get_X0_3 (pc := 45) C hs44_ tw_50 dX8_back_45 ?_
    refine g_callVip (pc := 48) (As := [.int (t29.1 (28 + v1.toNatClampNeg) 3)]) (rest := []) C rfl rfl rfl rfl (M_X4_strokesFrom C.2.2.1  h) CyX4_strokesFrom tw_553 tw_550 tw_551 (by decide) rfl rfl (Nat.le_of_ble_eq_true rfl) dX8_back_48 (fun r48 h => ?_)
    exact g_iret (pc := 51) C dX8_back_51 ⟨_, rfl, h⟩
  · replace h := ite_f h c_
    refine g_iload_n (pc := 10) C 0 dX8_back_10 rfl rfl ?_
    exact g_iret (pc := 11) C dX8_back_11 ⟨_, rfl, h⟩
set_option maxHeartbeats 4000000 in
set_option maxRecDepth 100000 in
theorem k_X0_tell_63 {w0 : Int32} {σ : St} {K : Int32 → Prop} (C : Cx p R s m args meth c shC G cX0_tell 2 1 RX0 (some .int) 0 0) (h : J_X0_tell_63 w0 σ K) : Go p l e R s m args below meth c shC G 2 0 0 (MQ below (Qw shC G (RI (fun r t => t = σ ∧ K r))) args s 0 0 (Fr shC G)) 63 [] [.int w0] σ := by
  unfold J_X0_tell_63 at h
  exact g_iret (pc := 63) C dX0_tell_63 ⟨_, rfl, ⟨rfl, h⟩⟩
set_option maxHeartbeats 4000000 in
set_option maxRecDepth 100000 in
theorem k_X0_tell_78 {w0 : Int32} {σ : St} {K : Int32 → Prop} (C : Cx p R s m args meth c shC G cX0_tell 2 1 RX0 (some .int) 0 0) (h : J_X0_tell_78 w0 σ K) : Go p l e R s m args below meth c shC G 2 0 0 (MQ below (Qw shC G (RI (fun r t => t = σ ∧ K r))) args s 0 0 (Fr shC G)) 78 [] [.int w0] σ := by
  unfold J_X0_tell_78 at h
  exact g_iret (pc := 78) C dX0_tell_78 ⟨_, rfl, ⟨rfl, h⟩⟩
set_option maxHeartbeats 4000000 in
set_option maxRecDepth 100000 in
theorem M_X0_tell {l : Launch} {G : Gp} (hD : Dj shC G) {k0 : Nat} {v1 : Int32} {σ : St} {K : Int32 → Prop} (hk0 : shC[k0]? = some (0, 0, 0)) (h : wp_X0_tell k0 v1 σ K) : MC l shC G yX0_tell cX0_tell 2 (some .int) 1 [.ref (G.2.2 k0), .int v1] σ (RI (fun r t => t = σ ∧ K r)) := by
  unfold wp_X0_tell at h
  refine MC.of (by decide) hD (Nat.le_of_ble_eq_true rfl) ?_
  intro p e s m args below meth c C
  replace C : Cx p (rmD 1) s m args meth c shC G cX0_tell 2 1 RX0 (some .int) 0 0 := C
  show Go p l e (rmD 1) s m args below meth c shC G 2 0 0 (MQ below (Qw shC G (RI (fun r t => t = σ ∧ K r))) args s 0 0 (Fr shC G)) 0 [(0, .ref (G.2.2 k0)), (1, .int v1)] [] σ
  refine g_iload_n (pc := 0) C 1 dX0_tell_0 rfl rfl ?_
  by_cases c0_ : v1 = 0
  · replace h := ite_t h c0_
    refine g_tabIn (pc := 1) (tgt := 36) (v := 0) C dX0_tell_1 (by rw [c0_]; rfl) (by decide) (by decide) rfl (by decide) ?_
    refine g_aload_n (pc := 36) C 0 dX0_tell_36 rfl rfl ?_
    refine get_X0_0 (pc := 37) C hk0 tw_39 dX0_tell_37 ?_
    exact g_iret (pc := 40) C dX0_tell_40 ⟨_, rfl, ⟨rfl, h⟩⟩
  replace h := ite_f h c0_
  by_cases c1_ : v1 = 1
  · replace h := ite_t h c1_
    refine g_tabIn (pc := 1) (tgt := 41) (v := 1) C dX0_tell_1 (by rw [c1_]; rfl) (by decide) (by decide) rfl (by decide) ?_
    refine g_aload_n (pc := 41) C 0 dX0_tell_41 rfl rfl ?_
    refine get_X0_1 (pc := 42) C hk0 tw_43 dX0_tell_42 ?_
    exact g_iret (pc := 45) C dX0_tell_45 ⟨_, rfl, ⟨rfl, h⟩⟩
  replace h := ite_f h c1_
  by_cases c2_ : v1 = 2
  · replace h := ite_t h c2_
    refine g_tabIn (pc := 1) (tgt := 46) (v := 2) C dX0_tell_1 (by rw [c2_]; rfl) (by decide) (by decide) rfl (by decide) ?_
    refine g_aload_n (pc := 46) C 0 dX0_tell_46 rfl rfl ?_
    refine get_X0_3 (pc := 47) C hk0 tw_47 dX0_tell_47 ?_
    exact g_iret (pc := 50) C dX0_tell_50 ⟨_, rfl, ⟨rfl, h⟩⟩
  replace h := ite_f h c2_
  by_cases c3_ : v1 = 3
  · replace h := ite_t h c3_
    refine g_tabIn (pc := 1) (tgt := 51) (v := 3) C dX0_tell_1 (by rw [c3_]; rfl) (by decide) (by decide) rfl (by decide) ?_
    refine g_aload_n (pc := 51) C 0 dX0_tell_51 rfl rfl ?_
    refine get_X0_5 (pc := 52) C hk0 tw_52 dX0_tell_52 ?_
    refine g_if_eq (pc := 55) (tgt := 62) C dX0_tell_55 (by decide) (fun c_ => ?_) (fun c_ => ?_)
    · replace h := ite_t h c_
      refine g_iconst (pc := 62) (v := 0) C dX0_tell_62 ic_0 ?_
      refine g_lv [] (lv2 := []) rfl ?_
      exact k_X0_tell_63 C  h
    · replace h := ite_f h c_
      refine g_iconst (pc := 58) (v := 1) C dX0_tell_58 ic_1 ?_
      refine g_goto (pc := 59) (tgt := 63) C dX0_tell_59 (by decide) ?_
      refine g_lv [] (lv2 := []) rfl ?_
      exact k_X0_tell_63 C  h
  replace h := ite_f h c3_
  by_cases c4_ : v1 = 4
  · replace h := ite_t h c4_
    refine g_tabIn (pc := 1) (tgt := 64) (v := 4) C dX0_tell_1 (by rw [c4_]; rfl) (by decide) (by decide) rfl (by decide) ?_
    refine g_aload_n (pc := 64) C 0 dX0_tell_64 rfl rfl ?_
    refine get_X0_3 (pc := 65) C hk0 tw_47 dX0_tell_65 ?_
    refine g_bipush (pc := 68) (v := 20) C dX0_tell_68 bp_20 ?_
    refine g_icmp_ne (pc := 70) (tgt := 77) C dX0_tell_70 (by decide) (fun c_ => ?_) (fun c_ => ?_)
    · replace h := ite_f h c_
      refine g_iconst (pc := 77) (v := 0) C dX0_tell_77 ic_0 ?_
      refine g_lv [] (lv2 := []) rfl ?_
      exact k_X0_tell_78 C  h
    · replace h := ite_t h c_
      refine g_iconst (pc := 73) (v := 1) C dX0_tell_73 ic_1 ?_
      refine g_goto (pc := 74) (tgt := 78) C dX0_tell_74 (by decide) ?_
      refine g_lv [] (lv2 := []) rfl ?_
      exact k_X0_tell_78 C  h
  replace h := ite_f h c4_
  refine g_tabOut (pc := 1) (tgt := 79) C dX0_tell_1 (by have e0_ := lv_neT c0_ (a := 0) (by decide); have e1_ := lv_neT c1_ (a := 1) (by decide); have e2_ := lv_neT c2_ (a := 2) (by decide); have e3_ := lv_neT c3_ (a := 3) (by decide); have e4_ := lv_neT c4_ (a := 4) (by decide); omega) (by decide) ?_
  refine g_aload_n (pc := 79) C 0 dX0_tell_79 rfl rfl ?_
  refine get_X0_4 (pc := 80) C hk0 tw_51 dX0_tell_80 ?_
  exact g_iret (pc := 83) C dX0_tell_83 ⟨_, rfl, ⟨rfl, h⟩⟩
set_option maxHeartbeats 4000000 in
set_option maxRecDepth 100000 in
theorem k_X8_bell_21 {σ : St} {K : Int32 → St → Prop} (C : Cx p R s m args meth c shC G cX8_bell 3 2 RX8 (some .int) 0 0) (h : J_X8_bell_21 σ K) : Go p l e R s m args below meth c shC G 3 0 0 (MQ below (Qw shC G (RI K)) args s 0 0 (Fr shC G)) 21 [] [] σ := by
  unfold J_X8_bell_21 at h
  refine g_iconst (pc := 21) (v := -1) C dX8_bell_21 ic_m1 ?_
  exact g_iret (pc := 22) C dX8_bell_22 ⟨_, rfl, h⟩
set_option maxHeartbeats 4000000 in
set_option maxRecDepth 100000 in
theorem M_X8_bell {l : Launch} {G : Gp} (hD : Dj shC G) {v1 : Int32} {v2 : Int32} {σ : St} {K : Int32 → St → Prop} (h : wp_X8_bell v1 v2 σ K) : MC l shC G yX8_bell cX8_bell 3 (some .int) 2 [.ref (G.2.2 0), .int v1, .int v2] σ (RI K) := by
  unfold wp_X8_bell at h
  refine MC.of (by decide) hD (Nat.le_of_ble_eq_true rfl) ?_
  intro p e s m args below meth c C
  replace C : Cx p (rmD 2) s m args meth c shC G cX8_bell 3 2 RX8 (some .int) 0 0 := C
  show Go p l e (rmD 2) s m args below meth c shC G 3 0 0 (MQ below (Qw shC G (RI K)) args s 0 0 (Fr shC G)) 0 [(0, .ref (G.2.2 0)), (1, .int v1), (2, .int v2)] [] σ
  refine g_aload_n (pc := 0) C 0 dX8_bell_0 rfl rfl ?_
  refine get_X8_3 (pc := 1) C rfl tw_197 dX8_bell_1 ?_
  refine g_iload_n (pc := 4) C 1 dX8_bell_4 rfl rfl ?_
  refine g_callVip (pc := 5) (As := [.int v1]) (rest := []) C rfl rfl rfl rfl (M_X7_has C.2.2.1 rfl h) CyX7_has tw_381 tw_382 tw_383 (by decide) rfl rfl (Nat.le_of_ble_eq_true rfl) dX8_bell_5 (fun r5 h => ?_)
  refine g_if_eq (pc := 8) (tgt := 21) C dX8_bell_8 (by decide) (fun c_ => ?_) (fun c_ => ?_)
  · replace h := ite_t h c_
    refine g_lv [] (lv2 := []) rfl ?_
    exact k_X8_bell_21 C  h
  · replace h := ite_f h c_
    refine g_iload_n (pc := 11) C 2 dX8_bell_11 rfl rfl ?_
    refine g_if_lt (pc := 12) (tgt := 21) C dX8_bell_12 (by decide) (fun c_ => ?_) (fun c_ => ?_)
    · replace h := ite_t h c_
      refine g_lv [] (lv2 := []) rfl ?_
      exact k_X8_bell_21 C  h
    · replace h := ite_f h c_
      refine g_iload_n (pc := 15) C 2 dX8_bell_15 rfl rfl ?_
      refine g_bipush (pc := 16) (v := 6) C dX8_bell_16 bp_6 ?_
      refine g_icmp_lt (pc := 18) (tgt := 23) C dX8_bell_18 (by decide) (fun c_ => ?_) (fun c_ => ?_)
      · replace h := ite_t h c_
        refine g_aload_n (pc := 23) C 0 dX8_bell_23 rfl rfl ?_
        refine g_aload_n (pc := 24) C 0 dX8_bell_24 rfl rfl ?_
        refine get_X8_3 (pc := 25) C rfl tw_197 dX8_bell_25 ?_
        refine get_X7_0 (pc := 28) C rfl tw_72 dX8_bell_28 ?_
        refine g_iload_n (pc := 31) C 1 dX8_bell_31 rfl rfl ?_
        obtain ⟨g_, h⟩ := h
        have hs32_ : shC[(28 + v1.toNatClampNeg)]? = some (0, 0, 0) := sh7_e (k := 25) rfl g_
        refine g_aldB (pc := 32) C (sh7_0 rfl) g_ dX8_bell_32 ?_
        refine g_iload_n (pc := 33) C 2 dX8_bell_33 rfl rfl ?_
        refine g_callVip (pc := 34) (As := [.int v2]) (rest := [.ref (G.2.2 0)]) C hs32_ rfl rfl rfl (M_X0_tell C.2.2.1 hs32_ h) CyX0_tell tw_385 tw_386 tw_387 (by decide) rfl rfl (Nat.le_of_ble_eq_true rfl) dX8_bell_34 (fun r34 h => ?_)
        refine put_X8_12 (pc := 37) C rfl tw_206 dX8_bell_37 ?_
        refine g_iconst (pc := 40) (v := 1) C dX8_bell_40 ic_1 ?_
        exact g_iret (pc := 41) C dX8_bell_41 ⟨_, rfl, h⟩
      · replace h := ite_f h c_
        refine g_lv [] (lv2 := []) rfl ?_
        exact k_X8_bell_21 C  h
set_option maxHeartbeats 4000000 in
set_option maxRecDepth 100000 in
theorem k_X8_isPull_15 {w0 : Int32} {σ : St} {K : Int32 → Prop} (C : Cx p R s m args meth c shC G cX8_isPull 1 1 RX8 (some .boolean) 0 0) (h : J_X8_isPull_15 w0 K) : Go p l e R s m args below meth c shC G 1 0 0 (MQ below (Qw shC G (RI (fun r t => t = σ ∧ K r))) args s 0 0 (Fr shC G)) 15 [] [.int w0] σ := by
  unfold J_X8_isPull_15 at h
  obtain ⟨g_, h⟩ := h
  exact g_zret (pc := 15) C g_ dX8_isPull_15 ⟨_, rfl, ⟨rfl, h⟩⟩
set_option maxHeartbeats 4000000 in
set_option maxRecDepth 100000 in
theorem k_X8_isPull_14 {σ : St} {K : Int32 → Prop} (C : Cx p R s m args meth c shC G cX8_isPull 1 1 RX8 (some .boolean) 0 0) (h : J_X8_isPull_14 K) : Go p l e R s m args below meth c shC G 1 0 0 (MQ below (Qw shC G (RI (fun r t => t = σ ∧ K r))) args s 0 0 (Fr shC G)) 14 [] [] σ := by
  unfold J_X8_isPull_14 at h
  refine g_iconst (pc := 14) (v := 0) C dX8_isPull_14 ic_0 ?_
  refine g_lv [] (lv2 := []) rfl ?_
  exact k_X8_isPull_15 C  h
set_option maxHeartbeats 4000000 in
set_option maxRecDepth 100000 in
theorem M_X8_isPull {l : Launch} {G : Gp} (hD : Dj shC G) {v0 : Int32} {σ : St} {K : Int32 → Prop} (h : wp_X8_isPull v0 K) : MC l shC G yX8_isPull cX8_isPull 1 (some .boolean) 1 [.int v0] σ (RI (fun r t => t = σ ∧ K r)) := by
  unfold wp_X8_isPull at h
  refine MC.of (by decide) hD (Nat.le_of_ble_eq_true rfl) ?_
  intro p e s m args below meth c C
  replace C : Cx p (rmD 1) s m args meth c shC G cX8_isPull 1 1 RX8 (some .boolean) 0 0 := C
  show Go p l e (rmD 1) s m args below meth c shC G 1 0 0 (MQ below (Qw shC G (RI (fun r t => t = σ ∧ K r))) args s 0 0 (Fr shC G)) 0 [(0, .int v0)] [] σ
  refine g_iload_n (pc := 0) C 0 dX8_isPull_0 rfl rfl ?_
  refine g_if_lt (pc := 1) (tgt := 14) C dX8_isPull_1 (by decide) (fun c_ => ?_) (fun c_ => ?_)
  · replace h := ite_t h c_
    refine g_lv [] (lv2 := []) rfl ?_
    exact k_X8_isPull_14 C  h
  · replace h := ite_f h c_
    refine g_iload_n (pc := 4) C 0 dX8_isPull_4 rfl rfl ?_
    refine g_bipush (pc := 5) (v := 7) C dX8_isPull_5 bp_7 ?_
    refine g_icmp_ge (pc := 7) (tgt := 14) C dX8_isPull_7 (by decide) (fun c_ => ?_) (fun c_ => ?_)
    · replace h := ite_t h c_
      refine g_lv [] (lv2 := []) rfl ?_
      exact k_X8_isPull_14 C  h
    · replace h := ite_f h c_
      refine g_iconst (pc := 10) (v := 1) C dX8_isPull_10 ic_1 ?_
      refine g_goto (pc := 11) (tgt := 15) C dX8_isPull_11 (by decide) ?_
      refine g_lv [] (lv2 := []) rfl ?_
      exact k_X8_isPull_15 C  h
set_option maxHeartbeats 4000000 in
set_option maxRecDepth 100000 in
theorem k_X6_hasPulls_2 {k0 : Nat} {n0 : Nat} {v1 : Int32} {v2 : Int32} {σ : St} {K : Int32 → Prop} (C : Cx p R s m args meth c shC G cX6_hasPulls 3 2 RX6 (some .boolean) 0 0) (hk0 : shC[k0]? = some (6, n0, 0)) (h : L_X6_hasPulls_2 k0 n0 v1 σ K v2) : Go p l e R s m args below meth c shC G 3 0 0 (MQ below (Qw shC G (RI (fun r t => t = σ ∧ K r))) args s 0 0 (Fr shC G)) 2 [(0, .ref (G.2.2 k0)), (1, .int v1), (2, .int v2)] [] σ := by
  obtain ⟨n_, h⟩ := h
  induction n_ generalizing v2 with
  | zero => exact h.elim
  | succ n_ ih =>
    replace h : B_X6_hasPulls_2 k0 n0 v1 σ K (it1 (B_X6_hasPulls_2 k0 n0 v1 σ K) n_) v2 := h
    unfold B_X6_hasPulls_2 at h
    refine g_iload_n (pc := 2) C 2 dX6_hasPulls_2 rfl rfl ?_
    refine g_aload_n (pc := 3) C 0 dX6_hasPulls_3 rfl rfl ?_
    refine get_X6_2 (pc := 4) C hk0 tw_184 dX6_hasPulls_4 ?_
    refine g_icmp_ge (pc := 7) (tgt := 35) C dX6_hasPulls_7 (by decide) (fun c_ => ?_) (fun c_ => ?_)
    · replace h := ite_t h c_
      refine g_iconst (pc := 35) (v := 1) C dX6_hasPulls_35 ic_1 ?_
      exact g_zret (pc := 36) C (by first | exact Or.inl rfl | exact Or.inr rfl) dX6_hasPulls_36 ⟨_, rfl, ⟨rfl, h⟩⟩
    · replace h := ite_f h c_
      refine g_aload_n (pc := 10) C 0 dX6_hasPulls_10 rfl rfl ?_
      refine get_X6_0 (pc := 11) C hk0 tw_179 dX6_hasPulls_11 ?_
      refine g_iload_n (pc := 14) C 2 dX6_hasPulls_14 rfl rfl ?_
      obtain ⟨g_, h⟩ := h
      refine g_iald (pc := 15) C (sh6_0 hk0) g_ dX6_hasPulls_15 ?_
      refine g_callSNip (pc := 16) (As := [.int (σ.1 (k0 + 1) v2.toNatClampNeg)]) (rest := []) C (M_X8_isPull C.2.2.1  h) CyX8_isPull (List.mem_of_getElem? (i := 11) rfl) tw_433 (by decide) rfl rfl (Nat.le_of_ble_eq_true rfl) dX6_hasPulls_16 (fun r16 h => ?_)
      refine g_if_ne (pc := 19) (tgt := 24) C dX6_hasPulls_19 (by decide) (fun c_ => ?_) (fun c_ => ?_)
      · replace h := ite_f h c_
        refine g_iload_n (pc := 24) C 2 dX6_hasPulls_24 rfl rfl ?_
        refine g_iconst (pc := 25) (v := 1) C dX6_hasPulls_25 ic_1 ?_
        refine g_iload_n (pc := 26) C 1 dX6_hasPulls_26 rfl rfl ?_
        refine g_max (pc := 27) C dX6_hasPulls_27 tw_176 tw_177 tw_10 tw_178 (by decide) (Nat.le_of_ble_eq_true rfl) ?_
        refine g_iadd (pc := 30) C dX6_hasPulls_30 ?_
        refine g_istore_n (pc := 31) (lv2 := [(2, .int (v2 + (imax 1 v1))), (0, .ref (G.2.2 k0)), (1, .int v1)]) C dX6_hasPulls_31 rfl (by decide) rfl ?_
        refine g_goto (pc := 32) (tgt := 2) C dX6_hasPulls_32 (by decide) ?_
        refine g_lv [1, 2, 0] (lv2 := [(0, .ref (G.2.2 k0)), (1, .int v1), (2, .int (v2 + (imax 1 v1)))]) rfl ?_
        exact ih h
      · replace h := ite_t h c_
        refine g_iconst (pc := 22) (v := 0) C dX6_hasPulls_22 ic_0 ?_
        exact g_zret (pc := 23) C (by first | exact Or.inl rfl | exact Or.inr rfl) dX6_hasPulls_23 ⟨_, rfl, ⟨rfl, h⟩⟩
set_option maxHeartbeats 4000000 in
set_option maxRecDepth 100000 in
theorem M_X6_hasPulls {l : Launch} {G : Gp} (hD : Dj shC G) {k0 : Nat} {n0 : Nat} {v1 : Int32} {σ : St} {K : Int32 → Prop} (hk0 : shC[k0]? = some (6, n0, 0)) (h : wp_X6_hasPulls k0 n0 v1 σ K) : MC l shC G yX6_hasPulls cX6_hasPulls 3 (some .boolean) 2 [.ref (G.2.2 k0), .int v1] σ (RI (fun r t => t = σ ∧ K r)) := by
  unfold wp_X6_hasPulls at h
  refine MC.of (by decide) hD (Nat.le_of_ble_eq_true rfl) ?_
  intro p e s m args below meth c C
  replace C : Cx p (rmD 2) s m args meth c shC G cX6_hasPulls 3 2 RX6 (some .boolean) 0 0 := C
  show Go p l e (rmD 2) s m args below meth c shC G 3 0 0 (MQ below (Qw shC G (RI (fun r t => t = σ ∧ K r))) args s 0 0 (Fr shC G)) 0 [(0, .ref (G.2.2 k0)), (1, .int v1)] [] σ
  refine g_iconst (pc := 0) (v := 0) C dX6_hasPulls_0 ic_0 ?_
  refine g_istore_n (pc := 1) (lv2 := [(2, .int 0), (0, .ref (G.2.2 k0)), (1, .int v1)]) C dX6_hasPulls_1 rfl (by decide) rfl ?_
  refine g_lv [1, 2, 0] (lv2 := [(0, .ref (G.2.2 k0)), (1, .int v1), (2, .int 0)]) rfl ?_
  exact k_X6_hasPulls_2 C hk0 h
set_option maxHeartbeats 4000000 in
set_option maxRecDepth 100000 in
theorem k_X8_broke_77 {v1 : Int32} {k4 : Nat} {n4 : Nat} {v5 : Int32} {v6 : Int32} {σ : St} {K : Int32 → St → Prop} (C : Cx p R s m args meth c shC G cX8_broke 7 3 RX8 (some .int) 0 0) (hk4 : shC[k4]? = some (6, n4, 0)) (h : L_X8_broke_77 v1 k4 n4 σ K v5 v6) : Go p l e R s m args below meth c shC G 7 0 0 (MQ below (Qw shC G (RI K)) args s 0 0 (Fr shC G)) 77 [(0, .ref (G.2.2 0)), (1, .int v1), (4, .ref (G.2.2 k4)), (5, .int v5), (6, .int v6)] [] σ := by
  obtain ⟨n_, h⟩ := h
  induction n_ generalizing v5 v6 with
  | zero => exact h.elim
  | succ n_ ih =>
    replace h : B_X8_broke_77 v1 k4 n4 σ K (it2 (B_X8_broke_77 v1 k4 n4 σ K) n_) v5 v6 := h
    unfold B_X8_broke_77 at h
    refine g_iload (pc := 77) C 4 dX8_broke_77 rfl ?_
    refine g_aload (pc := 79) C 2 dX8_broke_79 rfl ?_
    refine get_X6_2 (pc := 81) C hk4 tw_186 dX8_broke_81 ?_
    refine g_icmp_ge (pc := 84) (tgt := 137) C dX8_broke_84 (by decide) (fun c_ => ?_) (fun c_ => ?_)
    · replace h := ite_t h c_
      refine g_bipush (pc := 137) (v := -9) C dX8_broke_137 bp_m9 ?_
      exact g_iret (pc := 139) C dX8_broke_139 ⟨_, rfl, h⟩
    · replace h := ite_f h c_
      refine g_aload_n (pc := 87) C 0 dX8_broke_87 rfl rfl ?_
      refine get_X8_3 (pc := 88) C rfl tw_197 dX8_broke_88 ?_
      refine get_X7_0 (pc := 91) C rfl tw_72 dX8_broke_91 ?_
      refine g_iload_n (pc := 94) C 1 dX8_broke_94 rfl rfl ?_
      obtain ⟨g_, h⟩ := h
      have hs95_ : shC[(28 + v1.toNatClampNeg)]? = some (0, 0, 0) := sh7_e (k := 25) rfl g_
      refine g_aldB (pc := 95) C (sh7_0 rfl) g_ dX8_broke_95 ?_
      refine get_X0_0 (pc := 96) C hs95_ tw_42 dX8_broke_96 ?_
      refine g_iload (pc := 99) C 3 dX8_broke_99 rfl ?_
      refine g_aload (pc := 101) C 2 dX8_broke_101 rfl ?_
      refine get_X6_0 (pc := 103) C hk4 tw_180 dX8_broke_103 ?_
      refine g_iload (pc := 106) C 4 dX8_broke_106 rfl ?_
      obtain ⟨g_, h⟩ := h
      refine g_iald (pc := 108) C (sh6_0 hk4) g_ dX8_broke_108 ?_
      refine g_callSip (pc := 109) (As := [.int (σ.1 (28 + v1.toNatClampNeg) 0), .int v5, .int (σ.1 (k4 + 1) v6.toNatClampNeg)]) (rest := []) C (M_X8_after C.2.2.1  h) CyX8_after tw_400 tw_401 (by decide) rfl rfl (Nat.le_of_ble_eq_true rfl) dX8_broke_109 (fun r109 h => ?_)
      refine g_istore (pc := 112) (lv2 := [(5, .int r109), (0, .ref (G.2.2 0)), (1, .int v1), (4, .ref (G.2.2 k4)), (6, .int v6)]) C dX8_broke_112 (by decide) rfl ?_
      refine g_iload (pc := 114) C 0 dX8_broke_114 rfl ?_
      refine g_iconst (pc := 116) (v := -1) C dX8_broke_116 ic_m1 ?_
      refine g_icmp_ne (pc := 117) (tgt := 131) C dX8_broke_117 (by decide) (fun c_ => ?_) (fun c_ => ?_)
      · replace h := ite_f h c_
        refine g_iinc (pc := 131) (lv2 := [(6, .int (v6 + 1)), (5, .int r109), (0, .ref (G.2.2 0)), (1, .int v1), (4, .ref (G.2.2 k4))]) C 4 dX8_broke_131 ic_1 rfl (by decide) rfl ?_
        refine g_goto (pc := 134) (tgt := 77) C dX8_broke_134 (by decide) ?_
        refine g_lv [2, 3, 4, 1, 0] (lv2 := [(0, .ref (G.2.2 0)), (1, .int v1), (4, .ref (G.2.2 k4)), (5, .int r109), (6, .int (v6 + 1))]) rfl ?_
        exact ih h
      · replace h := ite_t h c_
        refine g_aload_n (pc := 120) C 1 dX8_broke_120 rfl rfl ?_
        refine g_iload (pc := 121) C 4 dX8_broke_121 rfl ?_
        refine g_iconst (pc := 123) (v := 2) C dX8_broke_123 ic_2 ?_
        refine g_irem (pc := 124) C dX8_broke_124 (by decide) ?_
        refine put_X8_12 (pc := 125) C rfl tw_206 dX8_broke_125 ?_
        refine g_iload (pc := 128) C 4 dX8_broke_128 rfl ?_
        exact g_iret (pc := 130) C dX8_broke_130 ⟨_, rfl, h⟩
set_option maxHeartbeats 4000000 in
set_option maxRecDepth 100000 in
theorem k_X8_broke_16 {v1 : Int32} {v2 : Int32} {w0 : Int32} {σ : St} {K : Int32 → St → Prop} (C : Cx p R s m args meth c shC G cX8_broke 7 3 RX8 (some .int) 0 0) (h : J_X8_broke_16 v1 v2 w0 σ K) : Go p l e R s m args below meth c shC G 7 0 0 (MQ below (Qw shC G (RI K)) args s 0 0 (Fr shC G)) 16 [(0, .ref (G.2.2 0)), (1, .int v1), (2, .int v2)] [.int w0] σ := by
  unfold J_X8_broke_16 at h
  refine g_istore_n (pc := 16) (lv2 := [(3, .int w0), (0, .ref (G.2.2 0)), (1, .int v1), (2, .int v2)]) C dX8_broke_16 rfl (by decide) rfl ?_
  refine g_iload_n (pc := 17) C 0 dX8_broke_17 rfl rfl ?_
  refine g_if_eq (pc := 18) (tgt := 23) C dX8_broke_18 (by decide) (fun c_ => ?_) (fun c_ => ?_)
  · replace h := ite_t h c_
    refine g_aload_n (pc := 23) C 1 dX8_broke_23 rfl rfl ?_
    refine get_X8_0 (pc := 24) C rfl tw_194 dX8_broke_24 ?_
    refine g_iload_n (pc := 27) C 3 dX8_broke_27 rfl rfl ?_
    obtain ⟨g_, h⟩ := h
    have hs28_ : shC[(5 + 2 * v2.toNatClampNeg)]? = some (6, 40, 0) := shR5 g_
    refine g_aldR (pc := 28) C rfl g_ dX8_broke_28 ?_
    refine g_astore (pc := 29) (lv2 := [(4, .ref (G.2.2 (5 + 2 * v2.toNatClampNeg))), (3, .int w0), (0, .ref (G.2.2 0)), (1, .int v1), (2, .int v2)]) C dX8_broke_29 (by decide) rfl ?_
    refine g_aload (pc := 31) C 0 dX8_broke_31 rfl ?_
    refine get_X6_1 (pc := 33) C hs28_ tw_183 dX8_broke_33 ?_
    refine g_if_ne (pc := 36) (tgt := 45) C dX8_broke_36 (by decide) (fun c_ => ?_) (fun c_ => ?_)
    · replace h := ite_f h c_
      refine g_aload (pc := 45) C 0 dX8_broke_45 rfl ?_
      refine g_iconst (pc := 47) (v := 1) C dX8_broke_47 ic_1 ?_
      refine g_callVip (pc := 48) (As := [.int 1]) (rest := []) C hs28_ rfl rfl rfl (M_X6_hasPulls C.2.2.1 hs28_ h) CyX6_hasPulls tw_471 tw_472 tw_473 (by decide) rfl rfl (Nat.le_of_ble_eq_true rfl) dX8_broke_48 (fun r48 h => ?_)
      refine g_if_ne (pc := 51) (tgt := 60) C dX8_broke_51 (by decide) (fun c_ => ?_) (fun c_ => ?_)
      · replace h := ite_f h c_
        refine g_aload_n (pc := 60) C 2 dX8_broke_60 rfl rfl ?_
        refine get_X8_3 (pc := 61) C rfl tw_197 dX8_broke_61 ?_
        refine get_X7_0 (pc := 64) C rfl tw_72 dX8_broke_64 ?_
        refine g_iload_n (pc := 67) C 3 dX8_broke_67 rfl rfl ?_
        obtain ⟨g_, h⟩ := h
        have hs68_ : shC[(28 + v1.toNatClampNeg)]? = some (0, 0, 0) := sh7_e (k := 25) rfl g_
        refine g_aldB (pc := 68) C (sh7_0 rfl) g_ dX8_broke_68 ?_
        refine get_X0_3 (pc := 69) C hs68_ tw_50 dX8_broke_69 ?_
        refine g_istore (pc := 72) (lv2 := [(5, .int (σ.1 (28 + v1.toNatClampNeg) 3)), (4, .ref (G.2.2 (5 + 2 * v2.toNatClampNeg))), (3, .int w0), (0, .ref (G.2.2 0)), (1, .int v1), (2, .int v2)]) C dX8_broke_72 (by decide) rfl ?_
        refine g_iconst (pc := 74) (v := 0) C dX8_broke_74 ic_0 ?_
        refine g_istore (pc := 75) (lv2 := [(6, .int 0), (5, .int (σ.1 (28 + v1.toNatClampNeg) 3)), (4, .ref (G.2.2 (5 + 2 * v2.toNatClampNeg))), (3, .int w0), (0, .ref (G.2.2 0)), (1, .int v1), (2, .int v2)]) C dX8_broke_75 (by decide) rfl ?_
        refine g_lv [4, 5, 2, 1, 0] (lv2 := [(0, .ref (G.2.2 0)), (1, .int v1), (4, .ref (G.2.2 (5 + 2 * v2.toNatClampNeg))), (5, .int (σ.1 (28 + v1.toNatClampNeg) 3)), (6, .int 0)]) rfl ?_
        exact k_X8_broke_77 C hs28_ h
      · replace h := ite_t h c_
        refine g_aload_n (pc := 54) C 2 dX8_broke_54 rfl rfl ?_
        refine g_iconst (pc := 55) (v := 3) C dX8_broke_55 ic_3 ?_
        refine g_callVi (pc := 56) (As := [.int 3]) (rest := []) C rfl rfl rfl rfl (M_X8_find C.2.2.1  h) CyX8_find tw_251 tw_253 ts_1 (by decide) rfl rfl (Nat.le_of_ble_eq_true rfl) dX8_broke_56 (fun r56 t56 h => ?_)
        exact g_iret (pc := 59) C dX8_broke_59 ⟨_, rfl, h⟩
    · replace h := ite_t h c_
      refine g_aload_n (pc := 39) C 2 dX8_broke_39 rfl rfl ?_
      refine g_iconst (pc := 40) (v := 1) C dX8_broke_40 ic_1 ?_
      refine g_callVi (pc := 41) (As := [.int 1]) (rest := []) C rfl rfl rfl rfl (M_X8_find C.2.2.1  h) CyX8_find tw_251 tw_253 ts_1 (by decide) rfl rfl (Nat.le_of_ble_eq_true rfl) dX8_broke_41 (fun r41 t41 h => ?_)
      exact g_iret (pc := 44) C dX8_broke_44 ⟨_, rfl, h⟩
  · replace h := ite_f h c_
    refine g_iload_n (pc := 21) C 0 dX8_broke_21 rfl rfl ?_
    exact g_iret (pc := 22) C dX8_broke_22 ⟨_, rfl, h⟩
set_option maxHeartbeats 4000000 in
set_option maxRecDepth 100000 in
theorem M_X8_broke {l : Launch} {G : Gp} (hD : Dj shC G) {v1 : Int32} {v2 : Int32} {σ : St} {K : Int32 → St → Prop} (h : wp_X8_broke v1 v2 σ K) : MC l shC G yX8_broke cX8_broke 7 (some .int) 3 [.ref (G.2.2 0), .int v1, .int v2] σ (RI K) := by
  unfold wp_X8_broke at h
  refine MC.of (by decide) hD (Nat.le_of_ble_eq_true rfl) ?_
  intro p e s m args below meth c C
  replace C : Cx p (rmD 3) s m args meth c shC G cX8_broke 7 3 RX8 (some .int) 0 0 := C
  show Go p l e (rmD 3) s m args below meth c shC G 7 0 0 (MQ below (Qw shC G (RI K)) args s 0 0 (Fr shC G)) 0 [(0, .ref (G.2.2 0)), (1, .int v1), (2, .int v2)] [] σ
  refine g_iload_n (pc := 0) C 2 dX8_broke_0 rfl rfl ?_
  refine g_callSip (pc := 1) (As := [.int v2]) (rest := []) C (M_X8_isRow C.2.2.1  h) CyX8_isRow tw_244 tw_245 (by decide) rfl rfl (Nat.le_of_ble_eq_true rfl) dX8_broke_1 (fun r1 h => ?_)
  refine g_if_eq (pc := 4) (tgt := 15) C dX8_broke_4 (by decide) (fun c_ => ?_) (fun c_ => ?_)
  · replace h := ite_t h c_
    refine g_iconst (pc := 15) (v := -1) C dX8_broke_15 ic_m1 ?_
    refine g_lv [0, 1, 2] (lv2 := [(0, .ref (G.2.2 0)), (1, .int v1), (2, .int v2)]) rfl ?_
    exact k_X8_broke_16 C  h
  · replace h := ite_f h c_
    refine g_aload_n (pc := 7) C 0 dX8_broke_7 rfl rfl ?_
    refine g_iload_n (pc := 8) C 1 dX8_broke_8 rfl rfl ?_
    refine g_callVip (pc := 9) (As := [.int v1]) (rest := []) C rfl rfl rfl rfl (M_X8_refuseBell C.2.2.1  h) CyX8_refuseBell tw_435 tw_437 ts_7 (by decide) rfl rfl (Nat.le_of_ble_eq_true rfl) dX8_broke_9 (fun r9 h => ?_)
    refine g_goto (pc := 12) (tgt := 16) C dX8_broke_12 (by decide) ?_
    refine g_lv [0, 1, 2] (lv2 := [(0, .ref (G.2.2 0)), (1, .int v1), (2, .int v2)]) rfl ?_
    exact k_X8_broke_16 C  h
set_option maxHeartbeats 4000000 in
set_option maxRecDepth 100000 in
theorem k_X1_layBest_36 {σ : St} {K : St → Prop} (C : Cx p R s m args meth c shC G cX1_layBest 4 4 RX1 none 0 0) (h : J_X1_layBest_36 σ K) : Go p l e R s m args below meth c shC G 4 0 0 (MQ below (Qw shC G (RV K)) args s 0 0 (Fr shC G)) 36 [] [] σ := by
  unfold J_X1_layBest_36 at h
  exact g_vret (pc := 36) C dX1_layBest_36 ⟨rfl, h⟩
set_option maxHeartbeats 4000000 in
set_option maxRecDepth 100000 in
theorem k_X1_layBest_8 {v1 : Int32} {k2 : Nat} {n2 : Nat} {v3 : Int32} {σ : St} {K : St → Prop} (C : Cx p R s m args meth c shC G cX1_layBest 4 4 RX1 none 0 0) (hk2 : shC[k2]? = some (6, n2, 0)) (h : L_X1_layBest_8 v1 k2 n2 K v3 σ) : Go p l e R s m args below meth c shC G 4 0 0 (MQ below (Qw shC G (RV K)) args s 0 0 (Fr shC G)) 8 [(0, .ref (G.2.2 73)), (1, .int v1), (2, .ref (G.2.2 k2)), (3, .int v3)] [] σ := by
  obtain ⟨n_, h⟩ := h
  induction n_ generalizing v3 σ with
  | zero => exact h.elim
  | succ n_ ih =>
    replace h : B_X1_layBest_8 v1 k2 n2 K (it2 (B_X1_layBest_8 v1 k2 n2 K) n_) v3 σ := h
    unfold B_X1_layBest_8 at h
    refine g_iload_n (pc := 8) C 3 dX1_layBest_8 rfl rfl ?_
    refine g_iload_n (pc := 9) C 1 dX1_layBest_9 rfl rfl ?_
    refine g_icmp_ge (pc := 10) (tgt := 36) C dX1_layBest_10 (by decide) (fun c_ => ?_) (fun c_ => ?_)
    · replace h := ite_t h c_
      refine g_lv [] (lv2 := []) rfl ?_
      exact k_X1_layBest_36 C  h
    · replace h := ite_f h c_
      refine g_iload_n (pc := 13) C 3 dX1_layBest_13 rfl rfl ?_
      refine g_bipush (pc := 14) (v := 6) C dX1_layBest_14 bp_6 ?_
      refine g_icmp_ge (pc := 16) (tgt := 36) C dX1_layBest_16 (by decide) (fun c_ => ?_) (fun c_ => ?_)
      · replace h := ite_t h c_
        refine g_lv [] (lv2 := []) rfl ?_
        exact k_X1_layBest_36 C  h
      · replace h := ite_f h c_
        refine g_aload_n (pc := 19) C 2 dX1_layBest_19 rfl rfl ?_
        refine g_iload_n (pc := 20) C 3 dX1_layBest_20 rfl rfl ?_
        refine g_aload_n (pc := 21) C 0 dX1_layBest_21 rfl rfl ?_
        refine get_X1_1 (pc := 22) C rfl tw_118 dX1_layBest_22 ?_
        refine g_iload_n (pc := 25) C 3 dX1_layBest_25 rfl rfl ?_
        obtain ⟨g_, h⟩ := h
        refine g_iald (pc := 26) C rfl g_ dX1_layBest_26 ?_
        refine g_callVv (pc := 27) (As := [.int v3, .int (σ.1 75 v3.toNatClampNeg)]) (rest := []) C hk2 rfl rfl rfl (M_X6_set C.2.2.1 hk2 h) CyX6_set tw_674 tw_560 tw_561 (by decide) rfl rfl (Nat.le_of_ble_eq_true rfl) dX1_layBest_27 (fun t27 h => ?_)
        refine g_iinc (pc := 30) (lv2 := [(3, .int (v3 + 1)), (0, .ref (G.2.2 73)), (1, .int v1), (2, .ref (G.2.2 k2))]) C 3 dX1_layBest_30 ic_1 rfl (by decide) rfl ?_
        refine g_goto (pc := 33) (tgt := 8) C dX1_layBest_33 (by decide) ?_
        refine g_lv [1, 2, 3, 0] (lv2 := [(0, .ref (G.2.2 73)), (1, .int v1), (2, .ref (G.2.2 k2)), (3, .int (v3 + 1))]) rfl ?_
        exact ih h
set_option maxHeartbeats 4000000 in
set_option maxRecDepth 100000 in
theorem M_X1_layBest {l : Launch} {G : Gp} (hD : Dj shC G) {v1 : Int32} {k2 : Nat} {n2 : Nat} {σ : St} {K : St → Prop} (hk2 : shC[k2]? = some (6, n2, 0)) (h : wp_X1_layBest v1 k2 n2 σ K) : MC l shC G yX1_layBest cX1_layBest 4 none 4 [.ref (G.2.2 73), .int v1, .ref (G.2.2 k2)] σ (RV K) := by
  unfold wp_X1_layBest at h
  refine MC.of (by decide) hD (Nat.le_of_ble_eq_true rfl) ?_
  intro p e s m args below meth c C
  replace C : Cx p (rmD 4) s m args meth c shC G cX1_layBest 4 4 RX1 none 0 0 := C
  show Go p l e (rmD 4) s m args below meth c shC G 4 0 0 (MQ below (Qw shC G (RV K)) args s 0 0 (Fr shC G)) 0 [(0, .ref (G.2.2 73)), (1, .int v1), (2, .ref (G.2.2 k2))] [] σ
  refine g_aload_n (pc := 0) C 2 dX1_layBest_0 rfl rfl ?_
  refine g_iload_n (pc := 1) C 1 dX1_layBest_1 rfl rfl ?_
  refine g_iconst (pc := 2) (v := 0) C dX1_layBest_2 ic_0 ?_
  refine g_callVv (pc := 3) (As := [.int v1, .int 0]) (rest := []) C hk2 rfl rfl rfl (M_X6_begin C.2.2.1 hk2 h) CyX6_begin tw_673 tw_256 tw_257 (by decide) rfl rfl (Nat.le_of_ble_eq_true rfl) dX1_layBest_3 (fun t3 h => ?_)
  refine g_iconst (pc := 6) (v := 0) C dX1_layBest_6 ic_0 ?_
  refine g_istore_n (pc := 7) (lv2 := [(3, .int 0), (0, .ref (G.2.2 73)), (1, .int v1), (2, .ref (G.2.2 k2))]) C dX1_layBest_7 rfl (by decide) rfl ?_
  refine g_lv [1, 2, 3, 0] (lv2 := [(0, .ref (G.2.2 73)), (1, .int v1), (2, .ref (G.2.2 k2)), (3, .int 0)]) rfl ?_
  exact k_X1_layBest_8 C hk2 h
set_option maxHeartbeats 4000000 in
set_option maxRecDepth 100000 in
theorem k_X1_setBest_17 {σ : St} {K : St → Prop} (C : Cx p R s m args meth c shC G cX1_setBest 3 1 RX1 none 0 0) (h : J_X1_setBest_17 σ K) : Go p l e R s m args below meth c shC G 3 0 0 (MQ below (Qw shC G (RV K)) args s 0 0 (Fr shC G)) 17 [] [] σ := by
  unfold J_X1_setBest_17 at h
  exact g_vret (pc := 17) C dX1_setBest_17 ⟨rfl, h⟩
set_option maxHeartbeats 4000000 in
set_option maxRecDepth 100000 in
theorem M_X1_setBest {l : Launch} {G : Gp} (hD : Dj shC G) {v1 : Int32} {v2 : Int32} {σ : St} {K : St → Prop} (h : wp_X1_setBest v1 v2 σ K) : MC l shC G yX1_setBest cX1_setBest 3 none 1 [.ref (G.2.2 73), .int v1, .int v2] σ (RV K) := by
  unfold wp_X1_setBest at h
  refine MC.of (by decide) hD (Nat.le_of_ble_eq_true rfl) ?_
  intro p e s m args below meth c C
  replace C : Cx p (rmD 1) s m args meth c shC G cX1_setBest 3 1 RX1 none 0 0 := C
  show Go p l e (rmD 1) s m args below meth c shC G 3 0 0 (MQ below (Qw shC G (RV K)) args s 0 0 (Fr shC G)) 0 [(0, .ref (G.2.2 73)), (1, .int v1), (2, .int v2)] [] σ
  refine g_iload_n (pc := 0) C 1 dX1_setBest_0 rfl rfl ?_
  refine g_if_lt (pc := 1) (tgt := 17) C dX1_setBest_1 (by decide) (fun c_ => ?_) (fun c_ => ?_)
  · replace h := ite_t h c_
    refine g_lv [] (lv2 := []) rfl ?_
    exact k_X1_setBest_17 C  h
  · replace h := ite_f h c_
    refine g_iload_n (pc := 4) C 1 dX1_setBest_4 rfl rfl ?_
    refine g_bipush (pc := 5) (v := 6) C dX1_setBest_5 bp_6 ?_
    refine g_icmp_ge (pc := 7) (tgt := 17) C dX1_setBest_7 (by decide) (fun c_ => ?_) (fun c_ => ?_)
    · replace h := ite_t h c_
      refine g_lv [] (lv2 := []) rfl ?_
      exact k_X1_setBest_17 C  h
    · replace h := ite_f h c_
      refine g_aload_n (pc := 10) C 0 dX1_setBest_10 rfl rfl ?_
      refine get_X1_1 (pc := 11) C rfl tw_118 dX1_setBest_11 ?_
      refine g_iload_n (pc := 14) C 1 dX1_setBest_14 rfl rfl ?_
      refine g_iload_n (pc := 15) C 2 dX1_setBest_15 rfl rfl ?_
      obtain ⟨g_, h⟩ := h
      refine g_iast (pc := 16) C rfl g_ dX1_setBest_16 ?_
      refine g_lv [] (lv2 := []) rfl ?_
      exact k_X1_setBest_17 C  h
set_option maxHeartbeats 4000000 in
set_option maxRecDepth 100000 in
theorem M_X3_clear {l : Launch} {G : Gp} (hD : Dj shC G) {σ : St} {K : St → Prop} (h : wp_X3_clear σ K) : MC l shC G yX3_clear cX3_clear 1 none 1 [.ref (G.2.2 70)] σ (RV K) := by
  unfold wp_X3_clear at h
  refine MC.of (by decide) hD (Nat.le_of_ble_eq_true rfl) ?_
  intro p e s m args below meth c C
  replace C : Cx p (rmD 1) s m args meth c shC G cX3_clear 1 1 RX3 none 0 0 := C
  show Go p l e (rmD 1) s m args below meth c shC G 1 0 0 (MQ below (Qw shC G (RV K)) args s 0 0 (Fr shC G)) 0 [(0, .ref (G.2.2 70))] [] σ
  refine g_aload_n (pc := 0) C 0 dX3_clear_0 rfl rfl ?_
  refine g_iconst (pc := 1) (v := 0) C dX3_clear_1 ic_0 ?_
  refine put_X3_2 (pc := 2) C rfl tw_102 dX3_clear_2 ?_
  exact g_vret (pc := 5) C dX3_clear_5 ⟨rfl, h⟩
set_option maxHeartbeats 4000000 in
set_option maxRecDepth 100000 in
theorem k_X3_isBehind_35 {w0 : Int32} {σ : St} {K : Int32 → Prop} (C : Cx p R s m args meth c shC G cX3_isBehind 4 1 RX3 (some .boolean) 0 0) (h : J_X3_isBehind_35 w0 σ K) : Go p l e R s m args below meth c shC G 4 0 0 (MQ below (Qw shC G (RI (fun r t => t = σ ∧ K r))) args s 0 0 (Fr shC G)) 35 [] [.int w0] σ := by
  unfold J_X3_isBehind_35 at h
  obtain ⟨g_, h⟩ := h
  exact g_zret (pc := 35) C g_ dX3_isBehind_35 ⟨_, rfl, ⟨rfl, h⟩⟩
set_option maxHeartbeats 4000000 in
set_option maxRecDepth 100000 in
theorem k_X3_isBehind_30 {σ : St} {K : Int32 → Prop} (C : Cx p R s m args meth c shC G cX3_isBehind 4 1 RX3 (some .boolean) 0 0) (h : J_X3_isBehind_30 σ K) : Go p l e R s m args below meth c shC G 4 0 0 (MQ below (Qw shC G (RI (fun r t => t = σ ∧ K r))) args s 0 0 (Fr shC G)) 30 [] [] σ := by
  unfold J_X3_isBehind_30 at h
  refine g_iconst (pc := 30) (v := 1) C dX3_isBehind_30 ic_1 ?_
  refine g_goto (pc := 31) (tgt := 35) C dX3_isBehind_31 (by decide) ?_
  refine g_lv [] (lv2 := []) rfl ?_
  exact k_X3_isBehind_35 C  h
set_option maxHeartbeats 4000000 in
set_option maxRecDepth 100000 in
theorem k_X3_isBehind_34 {σ : St} {K : Int32 → Prop} (C : Cx p R s m args meth c shC G cX3_isBehind 4 1 RX3 (some .boolean) 0 0) (h : J_X3_isBehind_34 σ K) : Go p l e R s m args below meth c shC G 4 0 0 (MQ below (Qw shC G (RI (fun r t => t = σ ∧ K r))) args s 0 0 (Fr shC G)) 34 [] [] σ := by
  unfold J_X3_isBehind_34 at h
  refine g_iconst (pc := 34) (v := 0) C dX3_isBehind_34 ic_0 ?_
  refine g_lv [] (lv2 := []) rfl ?_
  exact k_X3_isBehind_35 C  h
set_option maxHeartbeats 4000000 in
set_option maxRecDepth 100000 in
theorem M_X3_isBehind {l : Launch} {G : Gp} (hD : Dj shC G) {v1 : Int32} {v2 : Int32} {v3 : Int32} {σ : St} {K : Int32 → Prop} (h : wp_X3_isBehind v1 v2 v3 σ K) : MC l shC G yX3_isBehind cX3_isBehind 4 (some .boolean) 1 [.ref (G.2.2 70), .int v1, .int v2, .int v3] σ (RI (fun r t => t = σ ∧ K r)) := by
  unfold wp_X3_isBehind at h
  refine MC.of (by decide) hD (Nat.le_of_ble_eq_true rfl) ?_
  intro p e s m args below meth c C
  replace C : Cx p (rmD 1) s m args meth c shC G cX3_isBehind 4 1 RX3 (some .boolean) 0 0 := C
  show Go p l e (rmD 1) s m args below meth c shC G 4 0 0 (MQ below (Qw shC G (RI (fun r t => t = σ ∧ K r))) args s 0 0 (Fr shC G)) 0 [(0, .ref (G.2.2 70)), (1, .int v1), (2, .int v2), (3, .int v3)] [] σ
  refine g_aload_n (pc := 0) C 0 dX3_isBehind_0 rfl rfl ?_
  refine get_X3_1 (pc := 1) C rfl tw_100 dX3_isBehind_1 ?_
  refine g_iload_n (pc := 4) C 1 dX3_isBehind_4 rfl rfl ?_
  obtain ⟨g_, h⟩ := h
  refine g_iald (pc := 5) C rfl g_ dX3_isBehind_5 ?_
  refine g_iload_n (pc := 6) C 3 dX3_isBehind_6 rfl rfl ?_
  refine g_icmp_gt (pc := 7) (tgt := 30) C dX3_isBehind_7 (by decide) (fun c_ => ?_) (fun c_ => ?_)
  · replace h := ite_t h c_
    refine g_lv [] (lv2 := []) rfl ?_
    exact k_X3_isBehind_30 C  h
  · replace h := ite_f h c_
    refine g_aload_n (pc := 10) C 0 dX3_isBehind_10 rfl rfl ?_
    refine get_X3_1 (pc := 11) C rfl tw_100 dX3_isBehind_11 ?_
    refine g_iload_n (pc := 14) C 1 dX3_isBehind_14 rfl rfl ?_
    obtain ⟨g_, h⟩ := h
    refine g_iald (pc := 15) C rfl g_ dX3_isBehind_15 ?_
    refine g_iload_n (pc := 16) C 3 dX3_isBehind_16 rfl rfl ?_
    refine g_icmp_ne (pc := 17) (tgt := 34) C dX3_isBehind_17 (by decide) (fun c_ => ?_) (fun c_ => ?_)
    · replace h := ite_f h c_
      refine g_lv [] (lv2 := []) rfl ?_
      exact k_X3_isBehind_34 C  h
    · replace h := ite_t h c_
      refine g_aload_n (pc := 20) C 0 dX3_isBehind_20 rfl rfl ?_
      refine get_X3_0 (pc := 21) C rfl tw_98 dX3_isBehind_21 ?_
      refine g_iload_n (pc := 24) C 1 dX3_isBehind_24 rfl rfl ?_
      obtain ⟨g_, h⟩ := h
      refine g_iald (pc := 25) C rfl g_ dX3_isBehind_25 ?_
      refine g_iload_n (pc := 26) C 2 dX3_isBehind_26 rfl rfl ?_
      refine g_icmp_le (pc := 27) (tgt := 34) C dX3_isBehind_27 (by decide) (fun c_ => ?_) (fun c_ => ?_)
      · replace h := ite_t h c_
        refine g_lv [] (lv2 := []) rfl ?_
        exact k_X3_isBehind_34 C  h
      · replace h := ite_f h c_
        refine g_lv [] (lv2 := []) rfl ?_
        exact k_X3_isBehind_30 C  h
set_option maxHeartbeats 4000000 in
set_option maxRecDepth 100000 in
theorem k_X3_enter_65 {v1 : Int32} {v2 : Int32} {v3 : Int32} {σ : St} {K : St → Prop} (C : Cx p R s m args meth c shC G cX3_enter 4 2 RX3 none 0 0) (h : J_X3_enter_65 v1 v2 v3 σ K) : Go p l e R s m args below meth c shC G 4 0 0 (MQ below (Qw shC G (RV K)) args s 0 0 (Fr shC G)) 65 [(0, .ref (G.2.2 70)), (1, .int v1), (2, .int v2), (3, .int v3)] [] σ := by
  unfold J_X3_enter_65 at h
  refine g_aload_n (pc := 65) C 0 dX3_enter_65 rfl rfl ?_
  refine get_X3_0 (pc := 66) C rfl tw_98 dX3_enter_66 ?_
  refine g_iload_n (pc := 69) C 3 dX3_enter_69 rfl rfl ?_
  refine g_iload_n (pc := 70) C 1 dX3_enter_70 rfl rfl ?_
  obtain ⟨g_, h⟩ := h
  refine g_iast (pc := 71) C rfl g_ dX3_enter_71 ?_
  refine g_aload_n (pc := 72) C 0 dX3_enter_72 rfl rfl ?_
  refine get_X3_1 (pc := 73) C rfl tw_100 dX3_enter_73 ?_
  refine g_iload_n (pc := 76) C 3 dX3_enter_76 rfl rfl ?_
  refine g_iload_n (pc := 77) C 2 dX3_enter_77 rfl rfl ?_
  obtain ⟨g_, h⟩ := h
  refine g_iast (pc := 78) C rfl g_ dX3_enter_78 ?_
  refine g_aload_n (pc := 79) C 0 dX3_enter_79 rfl rfl ?_
  refine g_dup (pc := 80) C dX3_enter_80 rfl ?_
  refine get_X3_2 (pc := 81) C rfl tw_102 dX3_enter_81 ?_
  refine g_iconst (pc := 84) (v := 1) C dX3_enter_84 ic_1 ?_
  refine g_iadd (pc := 85) C dX3_enter_85 ?_
  refine put_X3_2 (pc := 86) C rfl tw_102 dX3_enter_86 ?_
  exact g_vret (pc := 89) C dX3_enter_89 ⟨rfl, h⟩
set_option maxHeartbeats 4000000 in
set_option maxRecDepth 100000 in
theorem k_X3_enter_15 {v1 : Int32} {v2 : Int32} {v3 : Int32} {σ : St} {K : St → Prop} (C : Cx p R s m args meth c shC G cX3_enter 4 2 RX3 none 0 0) (h : L_X3_enter_15 v1 v2 K v3 σ) : Go p l e R s m args below meth c shC G 4 0 0 (MQ below (Qw shC G (RV K)) args s 0 0 (Fr shC G)) 15 [(0, .ref (G.2.2 70)), (1, .int v1), (2, .int v2), (3, .int v3)] [] σ := by
  obtain ⟨n_, h⟩ := h
  induction n_ generalizing v3 σ with
  | zero => exact h.elim
  | succ n_ ih =>
    replace h : B_X3_enter_15 v1 v2 K (it2 (B_X3_enter_15 v1 v2 K) n_) v3 σ := h
    unfold B_X3_enter_15 at h
    refine g_iload_n (pc := 15) C 3 dX3_enter_15 rfl rfl ?_
    refine g_if_le (pc := 16) (tgt := 65) C dX3_enter_16 (by decide) (fun c_ => ?_) (fun c_ => ?_)
    · replace h := ite_t h c_
      refine g_lv [0, 1, 2, 3] (lv2 := [(0, .ref (G.2.2 70)), (1, .int v1), (2, .int v2), (3, .int v3)]) rfl ?_
      exact k_X3_enter_65 C  h
    · replace h := ite_f h c_
      refine g_aload_n (pc := 19) C 0 dX3_enter_19 rfl rfl ?_
      refine g_iload_n (pc := 20) C 3 dX3_enter_20 rfl rfl ?_
      refine g_iconst (pc := 21) (v := 1) C dX3_enter_21 ic_1 ?_
      refine g_isub (pc := 22) C dX3_enter_22 ?_
      refine g_iload_n (pc := 23) C 1 dX3_enter_23 rfl rfl ?_
      refine g_iload_n (pc := 24) C 2 dX3_enter_24 rfl rfl ?_
      refine g_callVip (pc := 25) (As := [.int (v3 - 1), .int v1, .int v2]) (rest := []) C rfl rfl rfl rfl (M_X3_isBehind C.2.2.1  h) CyX3_isBehind tw_488 tw_490 ts_11 (by decide) rfl rfl (Nat.le_of_ble_eq_true rfl) dX3_enter_25 (fun r25 h => ?_)
      refine g_if_eq (pc := 28) (tgt := 65) C dX3_enter_28 (by decide) (fun c_ => ?_) (fun c_ => ?_)
      · replace h := ite_t h c_
        refine g_lv [0, 1, 2, 3] (lv2 := [(0, .ref (G.2.2 70)), (1, .int v1), (2, .int v2), (3, .int v3)]) rfl ?_
        exact k_X3_enter_65 C  h
      · replace h := ite_f h c_
        refine g_aload_n (pc := 31) C 0 dX3_enter_31 rfl rfl ?_
        refine get_X3_0 (pc := 32) C rfl tw_98 dX3_enter_32 ?_
        refine g_iload_n (pc := 35) C 3 dX3_enter_35 rfl rfl ?_
        refine g_aload_n (pc := 36) C 0 dX3_enter_36 rfl rfl ?_
        refine get_X3_0 (pc := 37) C rfl tw_98 dX3_enter_37 ?_
        refine g_iload_n (pc := 40) C 3 dX3_enter_40 rfl rfl ?_
        refine g_iconst (pc := 41) (v := 1) C dX3_enter_41 ic_1 ?_
        refine g_isub (pc := 42) C dX3_enter_42 ?_
        obtain ⟨g_, h⟩ := h
        refine g_iald (pc := 43) C rfl g_ dX3_enter_43 ?_
        obtain ⟨g_, h⟩ := h
        refine g_iast (pc := 44) C rfl g_ dX3_enter_44 ?_
        refine g_aload_n (pc := 45) C 0 dX3_enter_45 rfl rfl ?_
        refine get_X3_1 (pc := 46) C rfl tw_100 dX3_enter_46 ?_
        refine g_iload_n (pc := 49) C 3 dX3_enter_49 rfl rfl ?_
        refine g_aload_n (pc := 50) C 0 dX3_enter_50 rfl rfl ?_
        refine get_X3_1 (pc := 51) C rfl tw_100 dX3_enter_51 ?_
        refine g_iload_n (pc := 54) C 3 dX3_enter_54 rfl rfl ?_
        refine g_iconst (pc := 55) (v := 1) C dX3_enter_55 ic_1 ?_
        refine g_isub (pc := 56) C dX3_enter_56 ?_
        obtain ⟨g_, h⟩ := h
        refine g_iald (pc := 57) C rfl g_ dX3_enter_57 ?_
        obtain ⟨g_, h⟩ := h
        refine g_iast (pc := 58) C rfl g_ dX3_enter_58 ?_
        refine g_iinc (pc := 59) (lv2 := [(3, .int (v3 + (-1))), (0, .ref (G.2.2 70)), (1, .int v1), (2, .int v2)]) C 3 dX3_enter_59 ic_m1 rfl (by decide) rfl ?_
        refine g_goto (pc := 62) (tgt := 15) C dX3_enter_62 (by decide) ?_
        refine g_lv [1, 2, 3, 0] (lv2 := [(0, .ref (G.2.2 70)), (1, .int v1), (2, .int v2), (3, .int (v3 + (-1)))]) rfl ?_
        exact ih h
set_option maxHeartbeats 4000000 in
set_option maxRecDepth 100000 in
theorem M_X3_enter {l : Launch} {G : Gp} (hD : Dj shC G) {v1 : Int32} {v2 : Int32} {σ : St} {K : St → Prop} (h : wp_X3_enter v1 v2 σ K) : MC l shC G yX3_enter cX3_enter 4 none 2 [.ref (G.2.2 70), .int v1, .int v2] σ (RV K) := by
  unfold wp_X3_enter at h
  refine MC.of (by decide) hD (Nat.le_of_ble_eq_true rfl) ?_
  intro p e s m args below meth c C
  replace C : Cx p (rmD 2) s m args meth c shC G cX3_enter 4 2 RX3 none 0 0 := C
  show Go p l e (rmD 2) s m args below meth c shC G 4 0 0 (MQ below (Qw shC G (RV K)) args s 0 0 (Fr shC G)) 0 [(0, .ref (G.2.2 70)), (1, .int v1), (2, .int v2)] [] σ
  refine g_aload_n (pc := 0) C 0 dX3_enter_0 rfl rfl ?_
  refine get_X3_2 (pc := 1) C rfl tw_102 dX3_enter_1 ?_
  refine g_bipush (pc := 4) (v := 6) C dX3_enter_4 bp_6 ?_
  refine g_icmp_lt (pc := 6) (tgt := 10) C dX3_enter_6 (by decide) (fun c_ => ?_) (fun c_ => ?_)
  · replace h := ite_t h c_
    refine g_aload_n (pc := 10) C 0 dX3_enter_10 rfl rfl ?_
    refine get_X3_2 (pc := 11) C rfl tw_102 dX3_enter_11 ?_
    refine g_istore_n (pc := 14) (lv2 := [(3, .int (σ.1 70 2)), (0, .ref (G.2.2 70)), (1, .int v1), (2, .int v2)]) C dX3_enter_14 rfl (by decide) rfl ?_
    refine g_lv [1, 2, 3, 0] (lv2 := [(0, .ref (G.2.2 70)), (1, .int v1), (2, .int v2), (3, .int (σ.1 70 2))]) rfl ?_
    exact k_X3_enter_15 C  h
  · replace h := ite_f h c_
    exact g_vret (pc := 9) C dX3_enter_9 ⟨rfl, h⟩
set_option maxHeartbeats 4000000 in
set_option maxRecDepth 100000 in
theorem k_X3_unevenness_4 {v1 : Int32} {v2 : Int32} {σ : St} {K : Int32 → Prop} (C : Cx p R s m args meth c shC G cX3_unevenness 3 1 RX3 (some .int) 0 0) (h : L_X3_unevenness_4 σ K v1 v2) : Go p l e R s m args below meth c shC G 3 0 0 (MQ below (Qw shC G (RI (fun r t => t = σ ∧ K r))) args s 0 0 (Fr shC G)) 4 [(0, .ref (G.2.2 70)), (1, .int v1), (2, .int v2)] [] σ := by
  obtain ⟨n_, h⟩ := h
  induction n_ generalizing v1 v2 with
  | zero => exact h.elim
  | succ n_ ih =>
    replace h : B_X3_unevenness_4 σ K (it2 (B_X3_unevenness_4 σ K) n_) v1 v2 := h
    unfold B_X3_unevenness_4 at h
    refine g_iload_n (pc := 4) C 2 dX3_unevenness_4 rfl rfl ?_
    refine g_aload_n (pc := 5) C 0 dX3_unevenness_5 rfl rfl ?_
    refine get_X3_2 (pc := 6) C rfl tw_102 dX3_unevenness_6 ?_
    refine g_icmp_ge (pc := 9) (tgt := 41) C dX3_unevenness_9 (by decide) (fun c_ => ?_) (fun c_ => ?_)
    · replace h := ite_t h c_
      refine g_iload_n (pc := 41) C 1 dX3_unevenness_41 rfl rfl ?_
      exact g_iret (pc := 42) C dX3_unevenness_42 ⟨_, rfl, ⟨rfl, h⟩⟩
    · replace h := ite_f h c_
      refine g_iload_n (pc := 12) C 1 dX3_unevenness_12 rfl rfl ?_
      refine g_aload_n (pc := 13) C 0 dX3_unevenness_13 rfl rfl ?_
      refine get_X3_1 (pc := 14) C rfl tw_100 dX3_unevenness_14 ?_
      refine g_iload_n (pc := 17) C 2 dX3_unevenness_17 rfl rfl ?_
      obtain ⟨g_, h⟩ := h
      refine g_iald (pc := 18) C rfl g_ dX3_unevenness_18 ?_
      refine g_aload_n (pc := 19) C 0 dX3_unevenness_19 rfl rfl ?_
      refine get_X3_1 (pc := 20) C rfl tw_100 dX3_unevenness_20 ?_
      refine g_iload_n (pc := 23) C 2 dX3_unevenness_23 rfl rfl ?_
      refine g_iconst (pc := 24) (v := 1) C dX3_unevenness_24 ic_1 ?_
      refine g_isub (pc := 25) C dX3_unevenness_25 ?_
      obtain ⟨g_, h⟩ := h
      refine g_iald (pc := 26) C rfl g_ dX3_unevenness_26 ?_
      refine g_isub (pc := 27) C dX3_unevenness_27 ?_
      refine g_iconst (pc := 28) (v := 2) C dX3_unevenness_28 ic_2 ?_
      refine g_isub (pc := 29) C dX3_unevenness_29 ?_
      refine g_abs (pc := 30) C dX3_unevenness_30 tw_639 tw_621 tw_10 tw_622 (by decide) (Nat.le_of_ble_eq_true rfl) ?_
      refine g_iadd (pc := 33) C dX3_unevenness_33 ?_
      refine g_istore_n (pc := 34) (lv2 := [(1, .int (v1 + (iabs (((σ.1 72 v2.toNatClampNeg) - (σ.1 72 (v2 - 1).toNatClampNeg)) - 2)))), (0, .ref (G.2.2 70)), (2, .int v2)]) C dX3_unevenness_34 rfl (by decide) rfl ?_
      refine g_iinc (pc := 35) (lv2 := [(2, .int (v2 + 1)), (1, .int (v1 + (iabs (((σ.1 72 v2.toNatClampNeg) - (σ.1 72 (v2 - 1).toNatClampNeg)) - 2)))), (0, .ref (G.2.2 70))]) C 2 dX3_unevenness_35 ic_1 rfl (by decide) rfl ?_
      refine g_goto (pc := 38) (tgt := 4) C dX3_unevenness_38 (by decide) ?_
      refine g_lv [2, 1, 0] (lv2 := [(0, .ref (G.2.2 70)), (1, .int (v1 + (iabs (((σ.1 72 v2.toNatClampNeg) - (σ.1 72 (v2 - 1).toNatClampNeg)) - 2)))), (2, .int (v2 + 1))]) rfl ?_
      exact ih h
set_option maxHeartbeats 4000000 in
set_option maxRecDepth 100000 in
theorem M_X3_unevenness {l : Launch} {G : Gp} (hD : Dj shC G) {σ : St} {K : Int32 → Prop} (h : wp_X3_unevenness σ K) : MC l shC G yX3_unevenness cX3_unevenness 3 (some .int) 1 [.ref (G.2.2 70)] σ (RI (fun r t => t = σ ∧ K r)) := by
  unfold wp_X3_unevenness at h
  refine MC.of (by decide) hD (Nat.le_of_ble_eq_true rfl) ?_
  intro p e s m args below meth c C
  replace C : Cx p (rmD 1) s m args meth c shC G cX3_unevenness 3 1 RX3 (some .int) 0 0 := C
  show Go p l e (rmD 1) s m args below meth c shC G 3 0 0 (MQ below (Qw shC G (RI (fun r t => t = σ ∧ K r))) args s 0 0 (Fr shC G)) 0 [(0, .ref (G.2.2 70))] [] σ
  refine g_iconst (pc := 0) (v := 0) C dX3_unevenness_0 ic_0 ?_
  refine g_istore_n (pc := 1) (lv2 := [(1, .int 0), (0, .ref (G.2.2 70))]) C dX3_unevenness_1 rfl (by decide) rfl ?_
  refine g_iconst (pc := 2) (v := 1) C dX3_unevenness_2 ic_1 ?_
  refine g_istore_n (pc := 3) (lv2 := [(2, .int 1), (1, .int 0), (0, .ref (G.2.2 70))]) C dX3_unevenness_3 rfl (by decide) rfl ?_
  refine g_lv [2, 1, 0] (lv2 := [(0, .ref (G.2.2 70)), (1, .int 0), (2, .int 1)]) rfl ?_
  exact k_X3_unevenness_4 C  h
set_option maxHeartbeats 4000000 in
set_option maxRecDepth 100000 in
theorem M_X8_lag {l : Launch} {G : Gp} (hD : Dj shC G) {v0 : Int32} {σ : St} {K : Int32 → Prop} (h : wp_X8_lag v0 K) : MC l shC G yX8_lag cX8_lag 1 (some .int) 1 [.int v0] σ (RI (fun r t => t = σ ∧ K r)) := by
  unfold wp_X8_lag at h
  refine MC.of (by decide) hD (Nat.le_of_ble_eq_true rfl) ?_
  intro p e s m args below meth c C
  replace C : Cx p (rmD 1) s m args meth c shC G cX8_lag 1 1 RX8 (some .int) 0 0 := C
  show Go p l e (rmD 1) s m args below meth c shC G 1 0 0 (MQ below (Qw shC G (RI (fun r t => t = σ ∧ K r))) args s 0 0 (Fr shC G)) 0 [(0, .int v0)] [] σ
  refine g_iload_n (pc := 0) C 0 dX8_lag_0 rfl rfl ?_
  by_cases c0_ : v0 = 3
  · replace h := ite_t h c0_
    refine g_tabIn (pc := 1) (tgt := 28) (v := 3) C dX8_lag_1 (by rw [c0_]; rfl) (by decide) (by decide) rfl (by decide) ?_
    refine g_iconst (pc := 28) (v := 1) C dX8_lag_28 ic_1 ?_
    exact g_iret (pc := 29) C dX8_lag_29 ⟨_, rfl, ⟨rfl, h⟩⟩
  replace h := ite_f h c0_
  by_cases c1_ : v0 = 4
  · replace h := ite_t h c1_
    refine g_tabIn (pc := 1) (tgt := 30) (v := 4) C dX8_lag_1 (by rw [c1_]; rfl) (by decide) (by decide) rfl (by decide) ?_
    refine g_iconst (pc := 30) (v := 2) C dX8_lag_30 ic_2 ?_
    exact g_iret (pc := 31) C dX8_lag_31 ⟨_, rfl, ⟨rfl, h⟩⟩
  replace h := ite_f h c1_
  by_cases c2_ : v0 = 5
  · replace h := ite_t h c2_
    refine g_tabIn (pc := 1) (tgt := 32) (v := 5) C dX8_lag_1 (by rw [c2_]; rfl) (by decide) (by decide) rfl (by decide) ?_
    refine g_iconst (pc := 32) (v := -1) C dX8_lag_32 ic_m1 ?_
    exact g_iret (pc := 33) C dX8_lag_33 ⟨_, rfl, ⟨rfl, h⟩⟩
  replace h := ite_f h c2_
  refine g_tabOut (pc := 1) (tgt := 34) C dX8_lag_1 (by have e0_ := lv_neT c0_ (a := 3) (by decide); have e1_ := lv_neT c1_ (a := 4) (by decide); have e2_ := lv_neT c2_ (a := 5) (by decide); omega) (by decide) ?_
  refine g_iconst (pc := 34) (v := 0) C dX8_lag_34 ic_0 ?_
  exact g_iret (pc := 35) C dX8_lag_35 ⟨_, rfl, ⟨rfl, h⟩⟩
set_option maxHeartbeats 4000000 in
set_option maxRecDepth 100000 in
theorem M_X8_tenths {l : Launch} {G : Gp} (hD : Dj shC G) {v0 : Int32} {v1 : Int32} {v2 : Int32} {v3 : Int32} {σ : St} {K : Int32 → Prop} (h : wp_X8_tenths v0 v1 v2 v3 K) : MC l shC G yX8_tenths cX8_tenths 4 (some .int) 2 [.int v0, .int v1, .int v2, .int v3] σ (RI (fun r t => t = σ ∧ K r)) := by
  unfold wp_X8_tenths at h
  refine MC.of (by decide) hD (Nat.le_of_ble_eq_true rfl) ?_
  intro p e s m args below meth c C
  replace C : Cx p (rmD 2) s m args meth c shC G cX8_tenths 4 2 RX8 (some .int) 0 0 := C
  show Go p l e (rmD 2) s m args below meth c shC G 4 0 0 (MQ below (Qw shC G (RI (fun r t => t = σ ∧ K r))) args s 0 0 (Fr shC G)) 0 [(0, .int v0), (1, .int v1), (2, .int v2), (3, .int v3)] [] σ
  refine g_iload_n (pc := 0) C 3 dX8_tenths_0 rfl rfl ?_
  refine g_iconst (pc := 1) (v := 5) C dX8_tenths_1 ic_5 ?_
  refine g_icmp_ge (pc := 2) (tgt := 8) C dX8_tenths_2 (by decide) (fun c_ => ?_) (fun c_ => ?_)
  · replace h := ite_t h c_
    refine g_bipush (pc := 8) (v := 10) C dX8_tenths_8 bp_10 ?_
    refine g_iload_n (pc := 10) C 3 dX8_tenths_10 rfl rfl ?_
    refine g_iconst (pc := 11) (v := 2) C dX8_tenths_11 ic_2 ?_
    refine g_idiv (pc := 12) C dX8_tenths_12 (by decide) ?_
    refine g_iadd (pc := 13) C dX8_tenths_13 ?_
    refine g_iload_n (pc := 14) C 1 dX8_tenths_14 rfl rfl ?_
    refine g_iconst (pc := 15) (v := 3) C dX8_tenths_15 ic_3 ?_
    refine g_idiv (pc := 16) C dX8_tenths_16 (by decide) ?_
    refine g_iadd (pc := 17) C dX8_tenths_17 ?_
    refine g_iload_n (pc := 18) C 2 dX8_tenths_18 rfl rfl ?_
    refine g_isub (pc := 19) C dX8_tenths_19 ?_
    refine g_iload_n (pc := 20) C 0 dX8_tenths_20 rfl rfl ?_
    refine g_callSip (pc := 21) (As := [.int v0]) (rest := [.int (((10 + (v3 / 2)) + (v1 / 3)) - v2)]) C (M_X8_lag C.2.2.1  h) CyX8_lag tw_413 tw_414 (by decide) rfl rfl (Nat.le_of_ble_eq_true rfl) dX8_tenths_21 (fun r21 h => ?_)
    refine g_iadd (pc := 24) C dX8_tenths_24 ?_
    exact g_iret (pc := 25) C dX8_tenths_25 ⟨_, rfl, ⟨rfl, h⟩⟩
  · replace h := ite_f h c_
    refine g_bipush (pc := 5) (v := -9) C dX8_tenths_5 bp_m9 ?_
    exact g_iret (pc := 7) C dX8_tenths_7 ⟨_, rfl, ⟨rfl, h⟩⟩
set_option maxHeartbeats 4000000 in
set_option maxRecDepth 100000 in
theorem M_X7_tenthsBy {l : Launch} {G : Gp} (hD : Dj shC G) {k0 : Nat} {v1 : Int32} {v2 : Int32} {σ : St} {K : Int32 → Prop} (hk0 : shC[k0]? = some (7, 0, 0)) (h : wp_X7_tenthsBy k0 v1 v2 σ K) : MC l shC G yX7_tenthsBy cX7_tenthsBy 4 (some .int) 3 [.ref (G.2.2 k0), .int v1, .int v2] σ (RI (fun r t => t = σ ∧ K r)) := by
  unfold wp_X7_tenthsBy at h
  refine MC.of (by decide) hD (Nat.le_of_ble_eq_true rfl) ?_
  intro p e s m args below meth c C
  replace C : Cx p (rmD 3) s m args meth c shC G cX7_tenthsBy 4 3 RX7 (some .int) 0 0 := C
  show Go p l e (rmD 3) s m args below meth c shC G 4 0 0 (MQ below (Qw shC G (RI (fun r t => t = σ ∧ K r))) args s 0 0 (Fr shC G)) 0 [(0, .ref (G.2.2 k0)), (1, .int v1), (2, .int v2)] [] σ
  refine g_aload_n (pc := 0) C 0 dX7_tenthsBy_0 rfl rfl ?_
  refine g_iload_n (pc := 1) C 1 dX7_tenthsBy_1 rfl rfl ?_
  refine g_callVip (pc := 2) (As := [.int v1]) (rest := []) C hk0 rfl rfl rfl (M_X7_has C.2.2.1 hk0 h) CyX7_has tw_408 tw_382 tw_383 (by decide) rfl rfl (Nat.le_of_ble_eq_true rfl) dX7_tenthsBy_2 (fun r2 h => ?_)
  refine g_if_ne (pc := 5) (tgt := 11) C dX7_tenthsBy_5 (by decide) (fun c_ => ?_) (fun c_ => ?_)
  · replace h := ite_f h c_
    refine g_aload_n (pc := 11) C 0 dX7_tenthsBy_11 rfl rfl ?_
    refine get_X7_0 (pc := 12) C hk0 tw_70 dX7_tenthsBy_12 ?_
    refine g_iload_n (pc := 15) C 1 dX7_tenthsBy_15 rfl rfl ?_
    obtain ⟨g_, h⟩ := h
    have hs16_ : shC[((k0 + 3) + v1.toNatClampNeg)]? = some (0, 0, 0) := sh7_e (k := k0) hk0 g_
    refine g_aldB (pc := 16) C (sh7_0 hk0) g_ dX7_tenthsBy_16 ?_
    refine g_astore_n (pc := 17) (lv2 := [(3, .ref (G.2.2 ((k0 + 3) + v1.toNatClampNeg))), (0, .ref (G.2.2 k0)), (1, .int v1), (2, .int v2)]) C dX7_tenthsBy_17 rfl (by decide) rfl ?_
    refine g_aload_n (pc := 18) C 0 dX7_tenthsBy_18 rfl rfl ?_
    refine get_X0_0 (pc := 19) C hs16_ tw_41 dX7_tenthsBy_19 ?_
    refine g_aload_n (pc := 22) C 0 dX7_tenthsBy_22 rfl rfl ?_
    refine get_X0_1 (pc := 23) C hs16_ tw_44 dX7_tenthsBy_23 ?_
    refine g_aload_n (pc := 26) C 1 dX7_tenthsBy_26 rfl rfl ?_
    refine get_X7_3 (pc := 27) C hk0 tw_77 dX7_tenthsBy_27 ?_
    refine g_aload_n (pc := 30) C 0 dX7_tenthsBy_30 rfl rfl ?_
    refine get_X0_0 (pc := 31) C hs16_ tw_41 dX7_tenthsBy_31 ?_
    refine g_aload_n (pc := 34) C 0 dX7_tenthsBy_34 rfl rfl ?_
    refine get_X0_3 (pc := 35) C hs16_ tw_49 dX7_tenthsBy_35 ?_
    refine g_iload_n (pc := 38) C 3 dX7_tenthsBy_38 rfl rfl ?_
    refine g_callSNip (pc := 39) (As := [.int (σ.1 ((k0 + 3) + v1.toNatClampNeg) 0), .int (σ.1 ((k0 + 3) + v1.toNatClampNeg) 3), .int v2]) (rest := [.int (σ.1 k0 3), .int (σ.1 ((k0 + 3) + v1.toNatClampNeg) 1), .int (σ.1 ((k0 + 3) + v1.toNatClampNeg) 0)]) C (M_X8_after C.2.2.1  h) CyX8_after (List.mem_of_getElem? (i := 14) rfl) tw_401 (by decide) rfl rfl (Nat.le_of_ble_eq_true rfl) dX7_tenthsBy_39 (fun r39 h => ?_)
    refine g_callSNip (pc := 42) (As := [.int (σ.1 ((k0 + 3) + v1.toNatClampNeg) 0), .int (σ.1 ((k0 + 3) + v1.toNatClampNeg) 1), .int (σ.1 k0 3), .int r39]) (rest := []) C (M_X8_tenths C.2.2.1  h) CyX8_tenths (List.mem_of_getElem? (i := 15) rfl) tw_411 (by decide) rfl rfl (Nat.le_of_ble_eq_true rfl) dX7_tenthsBy_42 (fun r42 h => ?_)
    exact g_iret (pc := 45) C dX7_tenthsBy_45 ⟨_, rfl, ⟨rfl, h⟩⟩
  · replace h := ite_t h c_
    refine g_bipush (pc := 8) (v := -9) C dX7_tenthsBy_8 bp_m9 ?_
    exact g_iret (pc := 10) C dX7_tenthsBy_10 ⟨_, rfl, ⟨rfl, h⟩⟩
set_option maxHeartbeats 4000000 in
set_option maxRecDepth 100000 in
theorem k_X7_rankBy_28 {w0 : Int32} {σ : St} {K : Int32 → Prop} (C : Cx p R s m args meth c shC G cX7_rankBy 4 4 RX7 (some .int) 0 0) (h : J_X7_rankBy_28 w0 σ K) : Go p l e R s m args below meth c shC G 4 0 0 (MQ below (Qw shC G (RI (fun r t => t = σ ∧ K r))) args s 0 0 (Fr shC G)) 28 [] [.int w0] σ := by
  unfold J_X7_rankBy_28 at h
  exact g_iret (pc := 28) C dX7_rankBy_28 ⟨_, rfl, ⟨rfl, h⟩⟩
set_option maxHeartbeats 4000000 in
set_option maxRecDepth 100000 in
theorem M_X7_rankBy {l : Launch} {G : Gp} (hD : Dj shC G) {k0 : Nat} {v1 : Int32} {v2 : Int32} {σ : St} {K : Int32 → Prop} (hk0 : shC[k0]? = some (7, 0, 0)) (h : wp_X7_rankBy k0 v1 v2 σ K) : MC l shC G yX7_rankBy cX7_rankBy 4 (some .int) 4 [.ref (G.2.2 k0), .int v1, .int v2] σ (RI (fun r t => t = σ ∧ K r)) := by
  unfold wp_X7_rankBy at h
  refine MC.of (by decide) hD (Nat.le_of_ble_eq_true rfl) ?_
  intro p e s m args below meth c C
  replace C : Cx p (rmD 4) s m args meth c shC G cX7_rankBy 4 4 RX7 (some .int) 0 0 := C
  show Go p l e (rmD 4) s m args below meth c shC G 4 0 0 (MQ below (Qw shC G (RI (fun r t => t = σ ∧ K r))) args s 0 0 (Fr shC G)) 0 [(0, .ref (G.2.2 k0)), (1, .int v1), (2, .int v2)] [] σ
  refine g_aload_n (pc := 0) C 0 dX7_rankBy_0 rfl rfl ?_
  refine g_iload_n (pc := 1) C 1 dX7_rankBy_1 rfl rfl ?_
  refine g_iload_n (pc := 2) C 2 dX7_rankBy_2 rfl rfl ?_
  refine g_callVip (pc := 3) (As := [.int v1, .int v2]) (rest := []) C hk0 rfl rfl rfl (M_X7_tenthsBy C.2.2.1 hk0 h) CyX7_tenthsBy tw_709 tw_405 tw_406 (by decide) rfl rfl (Nat.le_of_ble_eq_true rfl) dX7_rankBy_3 (fun r3 h => ?_)
  refine g_istore_n (pc := 6) (lv2 := [(3, .int r3), (0, .ref (G.2.2 k0)), (1, .int v1), (2, .int v2)]) C dX7_rankBy_6 rfl (by decide) rfl ?_
  refine g_iload_n (pc := 7) C 0 dX7_rankBy_7 rfl rfl ?_
  refine g_bipush (pc := 8) (v := -9) C dX7_rankBy_8 bp_m9 ?_
  refine g_icmp_ne (pc := 10) (tgt := 18) C dX7_rankBy_10 (by decide) (fun c_ => ?_) (fun c_ => ?_)
  · replace h := ite_f h c_
    refine g_iconst (pc := 18) (v := 2) C dX7_rankBy_18 ic_2 ?_
    refine g_iload_n (pc := 19) C 2 dX7_rankBy_19 rfl rfl ?_
    refine g_imul (pc := 20) C dX7_rankBy_20 ?_
    refine g_iload_n (pc := 21) C 0 dX7_rankBy_21 rfl rfl ?_
    refine g_iadd (pc := 22) C dX7_rankBy_22 ?_
    refine g_bipush (pc := 23) (v := 6) C dX7_rankBy_23 bp_6 ?_
    refine g_imul (pc := 25) C dX7_rankBy_25 ?_
    refine g_iload_n (pc := 26) C 2 dX7_rankBy_26 rfl rfl ?_
    refine g_iadd (pc := 27) C dX7_rankBy_27 ?_
    refine g_lv [] (lv2 := []) rfl ?_
    exact k_X7_rankBy_28 C  h
  · replace h := ite_t h c_
    refine g_bipush (pc := 13) (v := -9) C dX7_rankBy_13 bp_m9 ?_
    refine g_goto (pc := 15) (tgt := 28) C dX7_rankBy_15 (by decide) ?_
    refine g_lv [] (lv2 := []) rfl ?_
    exact k_X7_rankBy_28 C  h
set_option maxHeartbeats 4000000 in
set_option maxRecDepth 100000 in
theorem k_X7_soonestPull_2 {k0 : Nat} {v1 : Int32} {v2 : Int32} {v3 : Int32} {σ : St} {K : Int32 → Prop} (C : Cx p R s m args meth c shC G cX7_soonestPull 4 5 RX7 (some .int) 0 0) (hk0 : shC[k0]? = some (7, 0, 0)) (h : L_X7_soonestPull_2 k0 v1 v2 σ K v3) : Go p l e R s m args below meth c shC G 4 0 0 (MQ below (Qw shC G (RI (fun r t => t = σ ∧ K r))) args s 0 0 (Fr shC G)) 2 [(0, .ref (G.2.2 k0)), (1, .int v1), (2, .int v2), (3, .int v3)] [] σ := by
  obtain ⟨n_, h⟩ := h
  induction n_ generalizing v3 with
  | zero => exact h.elim
  | succ n_ ih =>
    replace h : B_X7_soonestPull_2 k0 v1 v2 σ K (it1 (B_X7_soonestPull_2 k0 v1 v2 σ K) n_) v3 := h
    unfold B_X7_soonestPull_2 at h
    refine g_iload_n (pc := 2) C 3 dX7_soonestPull_2 rfl rfl ?_
    refine g_bipush (pc := 3) (v := 7) C dX7_soonestPull_3 bp_7 ?_
    refine g_icmp_ge (pc := 5) (tgt := 26) C dX7_soonestPull_5 (by decide) (fun c_ => ?_) (fun c_ => ?_)
    · replace h := ite_t h c_
      refine g_bipush (pc := 26) (v := -9) C dX7_soonestPull_26 bp_m9 ?_
      exact g_iret (pc := 28) C dX7_soonestPull_28 ⟨_, rfl, ⟨rfl, h⟩⟩
    · replace h := ite_f h c_
      refine g_aload_n (pc := 8) C 0 dX7_soonestPull_8 rfl rfl ?_
      refine g_iload_n (pc := 9) C 1 dX7_soonestPull_9 rfl rfl ?_
      refine g_iload_n (pc := 10) C 3 dX7_soonestPull_10 rfl rfl ?_
      refine g_callVip (pc := 11) (As := [.int v1, .int v3]) (rest := []) C hk0 rfl rfl rfl (M_X7_rankBy C.2.2.1 hk0 h) CyX7_rankBy tw_705 tw_706 tw_707 (by decide) rfl rfl (Nat.le_of_ble_eq_true rfl) dX7_soonestPull_11 (fun r11 h => ?_)
      refine g_iload_n (pc := 14) C 2 dX7_soonestPull_14 rfl rfl ?_
      refine g_icmp_le (pc := 15) (tgt := 20) C dX7_soonestPull_15 (by decide) (fun c_ => ?_) (fun c_ => ?_)
      · replace h := ite_t h c_
        refine g_iinc (pc := 20) (lv2 := [(3, .int (v3 + 1)), (0, .ref (G.2.2 k0)), (1, .int v1), (2, .int v2)]) C 3 dX7_soonestPull_20 ic_1 rfl (by decide) rfl ?_
        refine g_goto (pc := 23) (tgt := 2) C dX7_soonestPull_23 (by decide) ?_
        refine g_lv [1, 2, 3, 0] (lv2 := [(0, .ref (G.2.2 k0)), (1, .int v1), (2, .int v2), (3, .int (v3 + 1))]) rfl ?_
        exact ih h
      · replace h := ite_f h c_
        refine g_iload_n (pc := 18) C 3 dX7_soonestPull_18 rfl rfl ?_
        exact g_iret (pc := 19) C dX7_soonestPull_19 ⟨_, rfl, ⟨rfl, h⟩⟩
set_option maxHeartbeats 4000000 in
set_option maxRecDepth 100000 in
theorem M_X7_soonestPull {l : Launch} {G : Gp} (hD : Dj shC G) {k0 : Nat} {v1 : Int32} {v2 : Int32} {σ : St} {K : Int32 → Prop} (hk0 : shC[k0]? = some (7, 0, 0)) (h : wp_X7_soonestPull k0 v1 v2 σ K) : MC l shC G yX7_soonestPull cX7_soonestPull 4 (some .int) 5 [.ref (G.2.2 k0), .int v1, .int v2] σ (RI (fun r t => t = σ ∧ K r)) := by
  unfold wp_X7_soonestPull at h
  refine MC.of (by decide) hD (Nat.le_of_ble_eq_true rfl) ?_
  intro p e s m args below meth c C
  replace C : Cx p (rmD 5) s m args meth c shC G cX7_soonestPull 4 5 RX7 (some .int) 0 0 := C
  show Go p l e (rmD 5) s m args below meth c shC G 4 0 0 (MQ below (Qw shC G (RI (fun r t => t = σ ∧ K r))) args s 0 0 (Fr shC G)) 0 [(0, .ref (G.2.2 k0)), (1, .int v1), (2, .int v2)] [] σ
  refine g_iconst (pc := 0) (v := 0) C dX7_soonestPull_0 ic_0 ?_
  refine g_istore_n (pc := 1) (lv2 := [(3, .int 0), (0, .ref (G.2.2 k0)), (1, .int v1), (2, .int v2)]) C dX7_soonestPull_1 rfl (by decide) rfl ?_
  refine g_lv [1, 2, 3, 0] (lv2 := [(0, .ref (G.2.2 k0)), (1, .int v1), (2, .int v2), (3, .int 0)]) rfl ?_
  exact k_X7_soonestPull_2 C hk0 h
set_option maxHeartbeats 4000000 in
set_option maxRecDepth 100000 in
theorem k_X8_ringOrder_148 {k2 : Nat} {n2 : Nat} {v4 : Int32} {σ : St} {K : Int32 → St → Prop} {Φ110 : Int32 → St → Prop} (C : Cx p R s m args meth c shC G cX8_ringOrder 7 6 RX8 (some .int) 0 0) (hk2 : shC[k2]? = some (6, n2, 0)) (hΦ110 : ∀ (v4' : Int32) (σ' : St), Φ110 v4' σ' → Go p l e R s m args below meth c shC G 7 0 0 (MQ below (Qw shC G (RI K)) args s 0 0 (Fr shC G)) 110 [(0, .ref (G.2.2 0)), (2, .ref (G.2.2 k2)), (4, .int (v4'))] [] σ') (h : J_X8_ringOrder_148 k2 n2 v4 σ K Φ110) : Go p l e R s m args below meth c shC G 7 0 0 (MQ below (Qw shC G (RI K)) args s 0 0 (Fr shC G)) 148 [(0, .ref (G.2.2 0)), (2, .ref (G.2.2 k2)), (4, .int v4)] [] σ := by
  unfold J_X8_ringOrder_148 at h
  refine g_iinc (pc := 148) (lv2 := [(4, .int (v4 + 1)), (0, .ref (G.2.2 0)), (2, .ref (G.2.2 k2))]) C 2 dX8_ringOrder_148 ic_1 rfl (by decide) rfl ?_
  refine g_goto (pc := 151) (tgt := 110) C dX8_ringOrder_151 (by decide) ?_
  refine g_lv [1, 2, 0] (lv2 := [(0, .ref (G.2.2 0)), (2, .ref (G.2.2 k2)), (4, .int (v4 + 1))]) rfl ?_
  exact hΦ110 _ _ h
set_option maxHeartbeats 4000000 in
set_option maxRecDepth 100000 in
theorem k_X8_ringOrder_110 {k2 : Nat} {n2 : Nat} {v4 : Int32} {σ : St} {K : Int32 → St → Prop} (C : Cx p R s m args meth c shC G cX8_ringOrder 7 6 RX8 (some .int) 0 0) (hk2 : shC[k2]? = some (6, n2, 0)) (h : L_X8_ringOrder_110 k2 n2 K v4 σ) : Go p l e R s m args below meth c shC G 7 0 0 (MQ below (Qw shC G (RI K)) args s 0 0 (Fr shC G)) 110 [(0, .ref (G.2.2 0)), (2, .ref (G.2.2 k2)), (4, .int v4)] [] σ := by
  obtain ⟨n_, h⟩ := h
  induction n_ generalizing v4 σ with
  | zero => exact h.elim
  | succ n_ ih =>
    replace h : B_X8_ringOrder_110 k2 n2 K (it2 (B_X8_ringOrder_110 k2 n2 K) n_) v4 σ := h
    unfold B_X8_ringOrder_110 at h
    refine g_iload (pc := 110) C 2 dX8_ringOrder_110 rfl ?_
    refine g_aload_n (pc := 112) C 0 dX8_ringOrder_112 rfl rfl ?_
    refine get_X8_3 (pc := 113) C rfl tw_197 dX8_ringOrder_113 ?_
    refine get_X7_2 (pc := 116) C rfl tw_76 dX8_ringOrder_116 ?_
    refine g_icmp_ge (pc := 119) (tgt := 154) C dX8_ringOrder_119 (by decide) (fun c_ => ?_) (fun c_ => ?_)
    · replace h := ite_t h c_
      refine g_aload_n (pc := 154) C 0 dX8_ringOrder_154 rfl rfl ?_
      refine get_X8_6 (pc := 155) C rfl tw_200 dX8_ringOrder_155 ?_
      refine g_aload_n (pc := 158) C 0 dX8_ringOrder_158 rfl rfl ?_
      refine get_X8_3 (pc := 159) C rfl tw_197 dX8_ringOrder_159 ?_
      refine get_X7_2 (pc := 162) C rfl tw_76 dX8_ringOrder_162 ?_
      refine g_aload_n (pc := 165) C 1 dX8_ringOrder_165 rfl rfl ?_
      refine g_callVv (pc := 166) (As := [.int (σ.1 25 2), .ref (G.2.2 k2)]) (rest := []) C rfl rfl rfl rfl (M_X1_layBest C.2.2.1 hk2 h) CyX1_layBest tw_669 tw_670 tw_671 (by decide) rfl rfl (Nat.le_of_ble_eq_true rfl) dX8_ringOrder_166 (fun t166 h => ?_)
      refine g_aload_n (pc := 169) C 0 dX8_ringOrder_169 rfl rfl ?_
      refine get_X8_5 (pc := 170) C rfl tw_199 dX8_ringOrder_170 ?_
      refine g_callVip (pc := 173) (As := []) (rest := []) C rfl rfl rfl rfl (M_X3_unevenness C.2.2.1  h) CyX3_unevenness tw_635 tw_636 tw_637 (by decide) rfl rfl (Nat.le_of_ble_eq_true rfl) dX8_ringOrder_173 (fun r173 h => ?_)
      exact g_iret (pc := 176) C dX8_ringOrder_176 ⟨_, rfl, h⟩
    · replace h := ite_f h c_
      refine g_aload_n (pc := 122) C 0 dX8_ringOrder_122 rfl rfl ?_
      refine get_X8_3 (pc := 123) C rfl tw_197 dX8_ringOrder_123 ?_
      refine get_X7_0 (pc := 126) C rfl tw_72 dX8_ringOrder_126 ?_
      refine g_iload (pc := 129) C 2 dX8_ringOrder_129 rfl ?_
      obtain ⟨g_, h⟩ := h
      have hs131_ : shC[(28 + v4.toNatClampNeg)]? = some (0, 0, 0) := sh7_e (k := 25) rfl g_
      refine g_aldB (pc := 131) C (sh7_0 rfl) g_ dX8_ringOrder_131 ?_
      refine get_X0_5 (pc := 132) C hs131_ tw_55 dX8_ringOrder_132 ?_
      refine g_if_eq (pc := 135) (tgt := 148) C dX8_ringOrder_135 (by decide) (fun c_ => ?_) (fun c_ => ?_)
      · replace h := ite_t h c_
        refine g_lv [0, 1, 2] (lv2 := [(0, .ref (G.2.2 0)), (2, .ref (G.2.2 k2)), (4, .int v4)]) rfl ?_
        exact k_X8_ringOrder_148 C hk2 (fun _ _ h_ => ih h_) h
      · replace h := ite_f h c_
        refine g_aload_n (pc := 138) C 0 dX8_ringOrder_138 rfl rfl ?_
        refine get_X8_6 (pc := 139) C rfl tw_200 dX8_ringOrder_139 ?_
        refine g_iload (pc := 142) C 2 dX8_ringOrder_142 rfl ?_
        refine g_iconst (pc := 144) (v := 0) C dX8_ringOrder_144 ic_0 ?_
        refine g_callVv (pc := 145) (As := [.int v4, .int 0]) (rest := []) C rfl rfl rfl rfl (M_X1_setBest C.2.2.1  h) CyX1_setBest tw_711 tw_712 tw_713 (by decide) rfl rfl (Nat.le_of_ble_eq_true rfl) dX8_ringOrder_145 (fun t145 h => ?_)
        refine g_lv [0, 1, 2] (lv2 := [(0, .ref (G.2.2 0)), (2, .ref (G.2.2 k2)), (4, .int v4)]) rfl ?_
        exact k_X8_ringOrder_148 C hk2 (fun _ _ h_ => ih h_) h
set_option maxHeartbeats 4000000 in
set_option maxRecDepth 100000 in
theorem k_X8_ringOrder_13 {k1 : Nat} {n1 : Nat} {k2 : Nat} {n2 : Nat} {v3 : Int32} {v4 : Int32} {σ : St} {K : Int32 → St → Prop} (C : Cx p R s m args meth c shC G cX8_ringOrder 7 6 RX8 (some .int) 0 0) (hk1 : shC[k1]? = some (6, n1, 0)) (hk2 : shC[k2]? = some (6, n2, 0)) (h : L_X8_ringOrder_13 k1 n1 k2 n2 K v3 v4 σ) : Go p l e R s m args below meth c shC G 7 0 0 (MQ below (Qw shC G (RI K)) args s 0 0 (Fr shC G)) 13 [(0, .ref (G.2.2 0)), (1, .ref (G.2.2 k1)), (2, .ref (G.2.2 k2)), (3, .int v3), (4, .int v4)] [] σ := by
  obtain ⟨n_, h⟩ := h
  induction n_ generalizing v3 v4 σ with
  | zero => exact h.elim
  | succ n_ ih =>
    replace h : B_X8_ringOrder_13 k1 n1 k2 n2 K (it3 (B_X8_ringOrder_13 k1 n1 k2 n2 K) n_) v3 v4 σ := h
    unfold B_X8_ringOrder_13 at h
    refine g_iload (pc := 13) C 4 dX8_ringOrder_13 rfl ?_
    refine g_aload_n (pc := 15) C 1 dX8_ringOrder_15 rfl rfl ?_
    refine get_X6_2 (pc := 16) C hk1 tw_186 dX8_ringOrder_16 ?_
    refine g_icmp_ge (pc := 19) (tgt := 107) C dX8_ringOrder_19 (by decide) (fun c_ => ?_) (fun c_ => ?_)
    · replace h := ite_t h c_
      refine g_iconst (pc := 107) (v := 0) C dX8_ringOrder_107 ic_0 ?_
      refine g_istore (pc := 108) (lv2 := [(4, .int 0), (0, .ref (G.2.2 0)), (1, .ref (G.2.2 k1)), (2, .ref (G.2.2 k2)), (3, .int v3)]) C dX8_ringOrder_108 (by decide) rfl ?_
      refine g_lv [1, 3, 0] (lv2 := [(0, .ref (G.2.2 0)), (2, .ref (G.2.2 k2)), (4, .int 0)]) rfl ?_
      exact k_X8_ringOrder_110 C hk2 h
    · replace h := ite_f h c_
      refine g_aload_n (pc := 22) C 1 dX8_ringOrder_22 rfl rfl ?_
      refine get_X6_0 (pc := 23) C hk1 tw_180 dX8_ringOrder_23 ?_
      refine g_iload (pc := 26) C 4 dX8_ringOrder_26 rfl ?_
      obtain ⟨g_, h⟩ := h
      refine g_iald (pc := 28) C (sh6_0 hk1) g_ dX8_ringOrder_28 ?_
      refine g_istore (pc := 29) (lv2 := [(5, .int (σ.1 (k1 + 1) v4.toNatClampNeg)), (0, .ref (G.2.2 0)), (1, .ref (G.2.2 k1)), (2, .ref (G.2.2 k2)), (3, .int v3), (4, .int v4)]) C dX8_ringOrder_29 (by decide) rfl ?_
      refine g_aload_n (pc := 31) C 1 dX8_ringOrder_31 rfl rfl ?_
      refine get_X8_3 (pc := 32) C rfl tw_197 dX8_ringOrder_32 ?_
      refine g_iload (pc := 35) C 0 dX8_ringOrder_35 rfl ?_
      refine g_iload_n (pc := 37) C 4 dX8_ringOrder_37 rfl rfl ?_
      refine g_callVip (pc := 38) (As := [.int (σ.1 (k1 + 1) v4.toNatClampNeg), .int v3]) (rest := []) C rfl rfl rfl rfl (M_X7_soonestPull C.2.2.1 rfl h) CyX7_soonestPull tw_701 tw_702 tw_703 (by decide) rfl rfl (Nat.le_of_ble_eq_true rfl) dX8_ringOrder_38 (fun r38 h => ?_)
      refine g_istore (pc := 41) (lv2 := [(6, .int r38), (5, .int (σ.1 (k1 + 1) v4.toNatClampNeg)), (0, .ref (G.2.2 0)), (1, .ref (G.2.2 k1)), (2, .ref (G.2.2 k2)), (3, .int v3), (4, .int v4)]) C dX8_ringOrder_41 (by decide) rfl ?_
      refine g_iload (pc := 43) C 0 dX8_ringOrder_43 rfl ?_
      refine g_bipush (pc := 45) (v := -9) C dX8_ringOrder_45 bp_m9 ?_
      refine g_icmp_ne (pc := 47) (tgt := 53) C dX8_ringOrder_47 (by decide) (fun c_ => ?_) (fun c_ => ?_)
      · replace h := ite_f h c_
        refine g_aload_n (pc := 53) C 2 dX8_ringOrder_53 rfl rfl ?_
        refine get_X8_3 (pc := 54) C rfl tw_197 dX8_ringOrder_54 ?_
        refine g_iload (pc := 57) C 1 dX8_ringOrder_57 rfl ?_
        refine g_iload (pc := 59) C 0 dX8_ringOrder_59 rfl ?_
        refine g_callVip (pc := 61) (As := [.int (σ.1 (k1 + 1) v4.toNatClampNeg), .int r38]) (rest := []) C rfl rfl rfl rfl (M_X7_rankBy C.2.2.1 rfl h) CyX7_rankBy tw_710 tw_706 tw_707 (by decide) rfl rfl (Nat.le_of_ble_eq_true rfl) dX8_ringOrder_61 (fun r61 h => ?_)
        refine g_istore_n (pc := 64) (lv2 := [(3, .int r61), (6, .int r38), (5, .int (σ.1 (k1 + 1) v4.toNatClampNeg)), (0, .ref (G.2.2 0)), (1, .ref (G.2.2 k1)), (2, .ref (G.2.2 k2)), (4, .int v4)]) C dX8_ringOrder_64 rfl (by decide) rfl ?_
        refine g_aload_n (pc := 65) C 3 dX8_ringOrder_65 rfl rfl ?_
        refine get_X8_5 (pc := 66) C rfl tw_199 dX8_ringOrder_66 ?_
        refine g_iload (pc := 69) C 2 dX8_ringOrder_69 rfl ?_
        refine g_iconst (pc := 71) (v := 2) C dX8_ringOrder_71 ic_2 ?_
        refine g_iload (pc := 72) C 2 dX8_ringOrder_72 rfl ?_
        refine g_imul (pc := 74) C dX8_ringOrder_74 ?_
        refine g_aload_n (pc := 75) C 3 dX8_ringOrder_75 rfl rfl ?_
        refine get_X8_3 (pc := 76) C rfl tw_197 dX8_ringOrder_76 ?_
        refine g_iload (pc := 79) C 2 dX8_ringOrder_79 rfl ?_
        refine g_iload (pc := 81) C 1 dX8_ringOrder_81 rfl ?_
        refine g_callVip (pc := 83) (As := [.int (σ.1 (k1 + 1) v4.toNatClampNeg), .int r38]) (rest := [.int (2 * (σ.1 (k1 + 1) v4.toNatClampNeg)), .int (σ.1 (k1 + 1) v4.toNatClampNeg), .ref (G.2.2 70)]) C rfl rfl rfl rfl (M_X7_tenthsBy C.2.2.1 rfl h) CyX7_tenthsBy tw_404 tw_405 tw_406 (by decide) rfl rfl (Nat.le_of_ble_eq_true rfl) dX8_ringOrder_83 (fun r83 h => ?_)
        refine g_iadd (pc := 86) C dX8_ringOrder_86 ?_
        refine g_callVv (pc := 87) (As := [.int (σ.1 (k1 + 1) v4.toNatClampNeg), .int ((2 * (σ.1 (k1 + 1) v4.toNatClampNeg)) + r83)]) (rest := []) C rfl rfl rfl rfl (M_X3_enter C.2.2.1  h) CyX3_enter tw_484 tw_485 tw_486 (by decide) rfl rfl (Nat.le_of_ble_eq_true rfl) dX8_ringOrder_87 (fun t87 h => ?_)
        refine g_aload_n (pc := 90) C 3 dX8_ringOrder_90 rfl rfl ?_
        refine get_X8_6 (pc := 91) C rfl tw_200 dX8_ringOrder_91 ?_
        refine g_iload (pc := 94) C 2 dX8_ringOrder_94 rfl ?_
        refine g_iload (pc := 96) C 1 dX8_ringOrder_96 rfl ?_
        refine g_callVv (pc := 98) (As := [.int (σ.1 (k1 + 1) v4.toNatClampNeg), .int r38]) (rest := []) C rfl rfl rfl rfl (M_X1_setBest C.2.2.1  h) CyX1_setBest tw_711 tw_712 tw_713 (by decide) rfl rfl (Nat.le_of_ble_eq_true rfl) dX8_ringOrder_98 (fun t98 h => ?_)
        refine g_iinc (pc := 101) (lv2 := [(4, .int (v4 + 1)), (3, .int r61), (6, .int r38), (5, .int (σ.1 (k1 + 1) v4.toNatClampNeg)), (0, .ref (G.2.2 0)), (1, .ref (G.2.2 k1)), (2, .ref (G.2.2 k2))]) C 6 dX8_ringOrder_101 ic_1 rfl (by decide) rfl ?_
        refine g_goto (pc := 104) (tgt := 13) C dX8_ringOrder_104 (by decide) ?_
        refine g_lv [4, 5, 6, 1, 0] (lv2 := [(0, .ref (G.2.2 0)), (1, .ref (G.2.2 k1)), (2, .ref (G.2.2 k2)), (3, .int r61), (4, .int (v4 + 1))]) rfl ?_
        exact ih h
      · replace h := ite_t h c_
        refine g_bipush (pc := 50) (v := -9) C dX8_ringOrder_50 bp_m9 ?_
        exact g_iret (pc := 52) C dX8_ringOrder_52 ⟨_, rfl, h⟩
set_option maxHeartbeats 4000000 in
set_option maxRecDepth 100000 in
theorem M_X8_ringOrder {l : Launch} {G : Gp} (hD : Dj shC G) {k1 : Nat} {n1 : Nat} {k2 : Nat} {n2 : Nat} {σ : St} {K : Int32 → St → Prop} (hk1 : shC[k1]? = some (6, n1, 0)) (hk2 : shC[k2]? = some (6, n2, 0)) (h : wp_X8_ringOrder k1 n1 k2 n2 σ K) : MC l shC G yX8_ringOrder cX8_ringOrder 7 (some .int) 6 [.ref (G.2.2 0), .ref (G.2.2 k1), .ref (G.2.2 k2)] σ (RI K) := by
  unfold wp_X8_ringOrder at h
  refine MC.of (by decide) hD (Nat.le_of_ble_eq_true rfl) ?_
  intro p e s m args below meth c C
  replace C : Cx p (rmD 6) s m args meth c shC G cX8_ringOrder 7 6 RX8 (some .int) 0 0 := C
  show Go p l e (rmD 6) s m args below meth c shC G 7 0 0 (MQ below (Qw shC G (RI K)) args s 0 0 (Fr shC G)) 0 [(0, .ref (G.2.2 0)), (1, .ref (G.2.2 k1)), (2, .ref (G.2.2 k2))] [] σ
  refine g_aload_n (pc := 0) C 0 dX8_ringOrder_0 rfl rfl ?_
  refine get_X8_5 (pc := 1) C rfl tw_199 dX8_ringOrder_1 ?_
  refine g_callVv (pc := 4) (As := []) (rest := []) C rfl rfl rfl rfl (M_X3_clear C.2.2.1  h) CyX3_clear tw_480 tw_481 tw_482 (by decide) rfl rfl (Nat.le_of_ble_eq_true rfl) dX8_ringOrder_4 (fun t4 h => ?_)
  refine g_bipush (pc := 7) (v := -9) C dX8_ringOrder_7 bp_m9 ?_
  refine g_istore_n (pc := 9) (lv2 := [(3, .int (-9)), (0, .ref (G.2.2 0)), (1, .ref (G.2.2 k1)), (2, .ref (G.2.2 k2))]) C dX8_ringOrder_9 rfl (by decide) rfl ?_
  refine g_iconst (pc := 10) (v := 0) C dX8_ringOrder_10 ic_0 ?_
  refine g_istore (pc := 11) (lv2 := [(4, .int 0), (3, .int (-9)), (0, .ref (G.2.2 0)), (1, .ref (G.2.2 k1)), (2, .ref (G.2.2 k2))]) C dX8_ringOrder_11 (by decide) rfl ?_
  refine g_lv [2, 3, 4, 1, 0] (lv2 := [(0, .ref (G.2.2 0)), (1, .ref (G.2.2 k1)), (2, .ref (G.2.2 k2)), (3, .int (-9)), (4, .int 0)]) rfl ?_
  exact k_X8_ringOrder_13 C hk1 hk2 h
set_option maxHeartbeats 4000000 in
set_option maxRecDepth 100000 in
theorem k_X7_overBits_30 {k0 : Nat} {v1 : Int32} {v2 : Int32} {σ : St} {K : Int32 → Prop} {Φ4 : Int32 → Int32 → Prop} (C : Cx p R s m args meth c shC G cX7_overBits 3 1 RX7 (some .int) 0 0) (hk0 : shC[k0]? = some (7, 0, 0)) (hΦ4 : ∀ (v1' : Int32) (v2' : Int32), Φ4 v1' v2' → Go p l e R s m args below meth c shC G 3 0 0 (MQ below (Qw shC G (RI (fun r t => t = σ ∧ K r))) args s 0 0 (Fr shC G)) 4 [(0, .ref (G.2.2 k0)), (1, .int (v1')), (2, .int (v2'))] [] σ) (h : J_X7_overBits_30 k0 v1 v2 σ K Φ4) : Go p l e R s m args below meth c shC G 3 0 0 (MQ below (Qw shC G (RI (fun r t => t = σ ∧ K r))) args s 0 0 (Fr shC G)) 30 [(0, .ref (G.2.2 k0)), (1, .int v1), (2, .int v2)] [] σ := by
  unfold J_X7_overBits_30 at h
  refine g_iinc (pc := 30) (lv2 := [(2, .int (v2 + 1)), (0, .ref (G.2.2 k0)), (1, .int v1)]) C 2 dX7_overBits_30 ic_1 rfl (by decide) rfl ?_
  refine g_goto (pc := 33) (tgt := 4) C dX7_overBits_33 (by decide) ?_
  refine g_lv [1, 2, 0] (lv2 := [(0, .ref (G.2.2 k0)), (1, .int v1), (2, .int (v2 + 1))]) rfl ?_
  exact hΦ4 _ _ h
set_option maxHeartbeats 4000000 in
set_option maxRecDepth 100000 in
theorem k_X7_overBits_4 {k0 : Nat} {v1 : Int32} {v2 : Int32} {σ : St} {K : Int32 → Prop} (C : Cx p R s m args meth c shC G cX7_overBits 3 1 RX7 (some .int) 0 0) (hk0 : shC[k0]? = some (7, 0, 0)) (h : L_X7_overBits_4 k0 σ K v1 v2) : Go p l e R s m args below meth c shC G 3 0 0 (MQ below (Qw shC G (RI (fun r t => t = σ ∧ K r))) args s 0 0 (Fr shC G)) 4 [(0, .ref (G.2.2 k0)), (1, .int v1), (2, .int v2)] [] σ := by
  obtain ⟨n_, h⟩ := h
  induction n_ generalizing v1 v2 with
  | zero => exact h.elim
  | succ n_ ih =>
    replace h : B_X7_overBits_4 k0 σ K (it2 (B_X7_overBits_4 k0 σ K) n_) v1 v2 := h
    unfold B_X7_overBits_4 at h
    refine g_iload_n (pc := 4) C 2 dX7_overBits_4 rfl rfl ?_
    refine g_aload_n (pc := 5) C 0 dX7_overBits_5 rfl rfl ?_
    refine get_X7_2 (pc := 6) C hk0 tw_75 dX7_overBits_6 ?_
    refine g_icmp_ge (pc := 9) (tgt := 36) C dX7_overBits_9 (by decide) (fun c_ => ?_) (fun c_ => ?_)
    · replace h := ite_t h c_
      refine g_iload_n (pc := 36) C 1 dX7_overBits_36 rfl rfl ?_
      exact g_iret (pc := 37) C dX7_overBits_37 ⟨_, rfl, ⟨rfl, h⟩⟩
    · replace h := ite_f h c_
      refine g_aload_n (pc := 12) C 0 dX7_overBits_12 rfl rfl ?_
      refine get_X7_0 (pc := 13) C hk0 tw_70 dX7_overBits_13 ?_
      refine g_iload_n (pc := 16) C 2 dX7_overBits_16 rfl rfl ?_
      obtain ⟨g_, h⟩ := h
      have hs17_ : shC[((k0 + 3) + v2.toNatClampNeg)]? = some (0, 0, 0) := sh7_e (k := k0) hk0 g_
      refine g_aldB (pc := 17) C (sh7_0 hk0) g_ dX7_overBits_17 ?_
      refine get_X0_5 (pc := 18) C hs17_ tw_54 dX7_overBits_18 ?_
      refine g_if_eq (pc := 21) (tgt := 30) C dX7_overBits_21 (by decide) (fun c_ => ?_) (fun c_ => ?_)
      · replace h := ite_t h c_
        refine g_lv [0, 1, 2] (lv2 := [(0, .ref (G.2.2 k0)), (1, .int v1), (2, .int v2)]) rfl ?_
        exact k_X7_overBits_30 C hk0 (fun _ _ h_ => ih h_) h
      · replace h := ite_f h c_
        refine g_iload_n (pc := 24) C 1 dX7_overBits_24 rfl rfl ?_
        refine g_iconst (pc := 25) (v := 1) C dX7_overBits_25 ic_1 ?_
        refine g_iload_n (pc := 26) C 2 dX7_overBits_26 rfl rfl ?_
        refine g_ishl (pc := 27) C dX7_overBits_27 ?_
        refine g_ior (pc := 28) C dX7_overBits_28 ?_
        refine g_istore_n (pc := 29) (lv2 := [(1, .int (v1 ||| (shl 1 v2))), (0, .ref (G.2.2 k0)), (2, .int v2)]) C dX7_overBits_29 rfl (by decide) rfl ?_
        refine g_lv [1, 0, 2] (lv2 := [(0, .ref (G.2.2 k0)), (1, .int (v1 ||| (shl 1 v2))), (2, .int v2)]) rfl ?_
        exact k_X7_overBits_30 C hk0 (fun _ _ h_ => ih h_) h
set_option maxHeartbeats 4000000 in
set_option maxRecDepth 100000 in
theorem M_X7_overBits {l : Launch} {G : Gp} (hD : Dj shC G) {k0 : Nat} {σ : St} {K : Int32 → Prop} (hk0 : shC[k0]? = some (7, 0, 0)) (h : wp_X7_overBits k0 σ K) : MC l shC G yX7_overBits cX7_overBits 3 (some .int) 1 [.ref (G.2.2 k0)] σ (RI (fun r t => t = σ ∧ K r)) := by
  unfold wp_X7_overBits at h
  refine MC.of (by decide) hD (Nat.le_of_ble_eq_true rfl) ?_
  intro p e s m args below meth c C
  replace C : Cx p (rmD 1) s m args meth c shC G cX7_overBits 3 1 RX7 (some .int) 0 0 := C
  show Go p l e (rmD 1) s m args below meth c shC G 3 0 0 (MQ below (Qw shC G (RI (fun r t => t = σ ∧ K r))) args s 0 0 (Fr shC G)) 0 [(0, .ref (G.2.2 k0))] [] σ
  refine g_iconst (pc := 0) (v := 0) C dX7_overBits_0 ic_0 ?_
  refine g_istore_n (pc := 1) (lv2 := [(1, .int 0), (0, .ref (G.2.2 k0))]) C dX7_overBits_1 rfl (by decide) rfl ?_
  refine g_iconst (pc := 2) (v := 0) C dX7_overBits_2 ic_0 ?_
  refine g_istore_n (pc := 3) (lv2 := [(2, .int 0), (1, .int 0), (0, .ref (G.2.2 k0))]) C dX7_overBits_3 rfl (by decide) rfl ?_
  refine g_lv [2, 1, 0] (lv2 := [(0, .ref (G.2.2 k0)), (1, .int 0), (2, .int 0)]) rfl ?_
  exact k_X7_overBits_4 C hk0 h
set_option maxHeartbeats 4000000 in
set_option maxRecDepth 100000 in
theorem k_X7_isOrder_41 {σ : St} {K : Int32 → Prop} (C : Cx p R s m args meth c shC G cX7_isOrder 5 2 RX7 (some .boolean) 0 0) (h : J_X7_isOrder_41 σ K) : Go p l e R s m args below meth c shC G 5 0 0 (MQ below (Qw shC G (RI (fun r t => t = σ ∧ K r))) args s 0 0 (Fr shC G)) 41 [] [] σ := by
  unfold J_X7_isOrder_41 at h
  refine g_iconst (pc := 41) (v := 0) C dX7_isOrder_41 ic_0 ?_
  exact g_zret (pc := 42) C (by first | exact Or.inl rfl | exact Or.inr rfl) dX7_isOrder_42 ⟨_, rfl, ⟨rfl, h⟩⟩
set_option maxHeartbeats 4000000 in
set_option maxRecDepth 100000 in
theorem k_X7_isOrder_7 {k0 : Nat} {k1 : Nat} {n1 : Nat} {v2 : Int32} {v3 : Int32} {σ : St} {K : Int32 → Prop} (C : Cx p R s m args meth c shC G cX7_isOrder 5 2 RX7 (some .boolean) 0 0) (hk0 : shC[k0]? = some (7, 0, 0)) (hk1 : shC[k1]? = some (6, n1, 0)) (h : L_X7_isOrder_7 k0 k1 n1 σ K v2 v3) : Go p l e R s m args below meth c shC G 5 0 0 (MQ below (Qw shC G (RI (fun r t => t = σ ∧ K r))) args s 0 0 (Fr shC G)) 7 [(0, .ref (G.2.2 k0)), (1, .ref (G.2.2 k1)), (2, .int v2), (3, .int v3)] [] σ := by
  obtain ⟨n_, h⟩ := h
  induction n_ generalizing v2 v3 with
  | zero => exact h.elim
  | succ n_ ih =>
    replace h : B_X7_isOrder_7 k0 k1 n1 σ K (it2 (B_X7_isOrder_7 k0 k1 n1 σ K) n_) v2 v3 := h
    unfold B_X7_isOrder_7 at h
    refine g_iload_n (pc := 7) C 3 dX7_isOrder_7 rfl rfl ?_
    refine g_aload_n (pc := 8) C 1 dX7_isOrder_8 rfl rfl ?_
    refine get_X6_2 (pc := 9) C hk1 tw_185 dX7_isOrder_9 ?_
    refine g_icmp_ge (pc := 12) (tgt := 56) C dX7_isOrder_12 (by decide) (fun c_ => ?_) (fun c_ => ?_)
    · replace h := ite_t h c_
      refine g_iconst (pc := 56) (v := 1) C dX7_isOrder_56 ic_1 ?_
      exact g_zret (pc := 57) C (by first | exact Or.inl rfl | exact Or.inr rfl) dX7_isOrder_57 ⟨_, rfl, ⟨rfl, h⟩⟩
    · replace h := ite_f h c_
      refine g_aload_n (pc := 15) C 1 dX7_isOrder_15 rfl rfl ?_
      refine get_X6_0 (pc := 16) C hk1 tw_181 dX7_isOrder_16 ?_
      refine g_iload_n (pc := 19) C 3 dX7_isOrder_19 rfl rfl ?_
      obtain ⟨g_, h⟩ := h
      refine g_iald (pc := 20) C (sh6_0 hk1) g_ dX7_isOrder_20 ?_
      refine g_istore (pc := 21) (lv2 := [(4, .int (σ.1 (k1 + 1) v3.toNatClampNeg)), (0, .ref (G.2.2 k0)), (1, .ref (G.2.2 k1)), (2, .int v2), (3, .int v3)]) C dX7_isOrder_21 (by decide) rfl ?_
      refine g_aload_n (pc := 23) C 1 dX7_isOrder_23 rfl rfl ?_
      refine g_iload (pc := 24) C 0 dX7_isOrder_24 rfl ?_
      refine g_callVip (pc := 26) (As := [.int (σ.1 (k1 + 1) v3.toNatClampNeg)]) (rest := []) C hk0 rfl rfl rfl (M_X7_has C.2.2.1 hk0 h) CyX7_has tw_408 tw_382 tw_383 (by decide) rfl rfl (Nat.le_of_ble_eq_true rfl) dX7_isOrder_26 (fun r26 h => ?_)
      refine g_if_eq (pc := 29) (tgt := 41) C dX7_isOrder_29 (by decide) (fun c_ => ?_) (fun c_ => ?_)
      · replace h := ite_t h c_
        refine g_lv [] (lv2 := []) rfl ?_
        exact k_X7_isOrder_41 C  h
      · replace h := ite_f h c_
        refine g_iload_n (pc := 32) C 3 dX7_isOrder_32 rfl rfl ?_
        refine g_iload (pc := 33) C 0 dX7_isOrder_33 rfl ?_
        refine g_ishr (pc := 35) C dX7_isOrder_35 ?_
        refine g_iconst (pc := 36) (v := 1) C dX7_isOrder_36 ic_1 ?_
        refine g_iand (pc := 37) C dX7_isOrder_37 ?_
        refine g_if_eq (pc := 38) (tgt := 43) C dX7_isOrder_38 (by decide) (fun c_ => ?_) (fun c_ => ?_)
        · replace h := ite_t h c_
          refine g_iload_n (pc := 43) C 3 dX7_isOrder_43 rfl rfl ?_
          refine g_iconst (pc := 44) (v := 1) C dX7_isOrder_44 ic_1 ?_
          refine g_iload (pc := 45) C 0 dX7_isOrder_45 rfl ?_
          refine g_ishl (pc := 47) C dX7_isOrder_47 ?_
          refine g_ior (pc := 48) C dX7_isOrder_48 ?_
          refine g_istore_n (pc := 49) (lv2 := [(2, .int (v2 ||| (shl 1 (σ.1 (k1 + 1) v3.toNatClampNeg)))), (4, .int (σ.1 (k1 + 1) v3.toNatClampNeg)), (0, .ref (G.2.2 k0)), (1, .ref (G.2.2 k1)), (3, .int v3)]) C dX7_isOrder_49 rfl (by decide) rfl ?_
          refine g_iinc (pc := 50) (lv2 := [(3, .int (v3 + 1)), (2, .int (v2 ||| (shl 1 (σ.1 (k1 + 1) v3.toNatClampNeg)))), (4, .int (σ.1 (k1 + 1) v3.toNatClampNeg)), (0, .ref (G.2.2 k0)), (1, .ref (G.2.2 k1))]) C 4 dX7_isOrder_50 ic_1 rfl (by decide) rfl ?_
          refine g_goto (pc := 53) (tgt := 7) C dX7_isOrder_53 (by decide) ?_
          refine g_lv [3, 4, 1, 0] (lv2 := [(0, .ref (G.2.2 k0)), (1, .ref (G.2.2 k1)), (2, .int (v2 ||| (shl 1 (σ.1 (k1 + 1) v3.toNatClampNeg)))), (3, .int (v3 + 1))]) rfl ?_
          exact ih h
        · replace h := ite_f h c_
          refine g_lv [] (lv2 := []) rfl ?_
          exact k_X7_isOrder_41 C  h
set_option maxHeartbeats 4000000 in
set_option maxRecDepth 100000 in
theorem M_X7_isOrder {l : Launch} {G : Gp} (hD : Dj shC G) {k0 : Nat} {k1 : Nat} {n1 : Nat} {σ : St} {K : Int32 → Prop} (hk0 : shC[k0]? = some (7, 0, 0)) (hk1 : shC[k1]? = some (6, n1, 0)) (h : wp_X7_isOrder k0 k1 n1 σ K) : MC l shC G yX7_isOrder cX7_isOrder 5 (some .boolean) 2 [.ref (G.2.2 k0), .ref (G.2.2 k1)] σ (RI (fun r t => t = σ ∧ K r)) := by
  unfold wp_X7_isOrder at h
  refine MC.of (by decide) hD (Nat.le_of_ble_eq_true rfl) ?_
  intro p e s m args below meth c C
  replace C : Cx p (rmD 2) s m args meth c shC G cX7_isOrder 5 2 RX7 (some .boolean) 0 0 := C
  show Go p l e (rmD 2) s m args below meth c shC G 5 0 0 (MQ below (Qw shC G (RI (fun r t => t = σ ∧ K r))) args s 0 0 (Fr shC G)) 0 [(0, .ref (G.2.2 k0)), (1, .ref (G.2.2 k1))] [] σ
  refine g_aload_n (pc := 0) C 0 dX7_isOrder_0 rfl rfl ?_
  refine g_callVip (pc := 1) (As := []) (rest := []) C hk0 rfl rfl rfl (M_X7_overBits C.2.2.1 hk0 h) CyX7_overBits tw_683 tw_684 tw_685 (by decide) rfl rfl (Nat.le_of_ble_eq_true rfl) dX7_isOrder_1 (fun r1 h => ?_)
  refine g_istore_n (pc := 4) (lv2 := [(2, .int r1), (0, .ref (G.2.2 k0)), (1, .ref (G.2.2 k1))]) C dX7_isOrder_4 rfl (by decide) rfl ?_
  refine g_iconst (pc := 5) (v := 0) C dX7_isOrder_5 ic_0 ?_
  refine g_istore_n (pc := 6) (lv2 := [(3, .int 0), (2, .int r1), (0, .ref (G.2.2 k0)), (1, .ref (G.2.2 k1))]) C dX7_isOrder_6 rfl (by decide) rfl ?_
  refine g_lv [2, 3, 1, 0] (lv2 := [(0, .ref (G.2.2 k0)), (1, .ref (G.2.2 k1)), (2, .int r1), (3, .int 0)]) rfl ?_
  exact k_X7_isOrder_7 C hk0 hk1 h
set_option maxHeartbeats 4000000 in
set_option maxRecDepth 100000 in
theorem M_J6_bitCount_0f7a4 {l : Launch} {G : Gp} (hD : Dj shC G) {v0 : Int32} {σ : St} {K : Int32 → Prop} (h : wp_J6_bitCount_0f7a4 v0 K) : MC l shC G yJ6_bitCount_0f7a4 cJ6_bitCount_0f7a4 1 (some .int) 1 [.int v0] σ (RI (fun r t => t = σ ∧ K r)) := by
  unfold wp_J6_bitCount_0f7a4 at h
  refine MC.of (by decide) hD (Nat.le_of_ble_eq_true rfl) ?_
  intro p e s m args below meth c C
  replace C : Cx p (rmD 1) s m args meth c shC G cJ6_bitCount_0f7a4 1 1 RJ6 (some .int) 0 0 := C
  show Go p l e (rmD 1) s m args below meth c shC G 1 0 0 (MQ below (Qw shC G (RI (fun r t => t = σ ∧ K r))) args s 0 0 (Fr shC G)) 0 [(0, .int v0)] [] σ
  refine g_iload_n (pc := 0) C 0 dJ6_bitCount_0f7a4_0 rfl rfl ?_
  refine g_iload_n (pc := 1) C 0 dJ6_bitCount_0f7a4_1 rfl rfl ?_
  refine g_iconst (pc := 2) (v := 1) C dJ6_bitCount_0f7a4_2 ic_1 ?_
  refine g_iushr (pc := 3) C dJ6_bitCount_0f7a4_3 ?_
  refine g_ldcw (pc := 4) (v := 1431655765) C dJ6_bitCount_0f7a4_4 tw_690 ?_
  refine g_iand (pc := 7) C dJ6_bitCount_0f7a4_7 ?_
  refine g_isub (pc := 8) C dJ6_bitCount_0f7a4_8 ?_
  refine g_istore_n (pc := 9) (lv2 := [(0, .int (v0 - ((ushr v0 1) &&& 1431655765)))]) C dJ6_bitCount_0f7a4_9 rfl (by decide) rfl ?_
  refine g_iload_n (pc := 10) C 0 dJ6_bitCount_0f7a4_10 rfl rfl ?_
  refine g_ldcw (pc := 11) (v := 858993459) C dJ6_bitCount_0f7a4_11 tw_691 ?_
  refine g_iand (pc := 14) C dJ6_bitCount_0f7a4_14 ?_
  refine g_iload_n (pc := 15) C 0 dJ6_bitCount_0f7a4_15 rfl rfl ?_
  refine g_iconst (pc := 16) (v := 2) C dJ6_bitCount_0f7a4_16 ic_2 ?_
  refine g_iushr (pc := 17) C dJ6_bitCount_0f7a4_17 ?_
  refine g_ldcw (pc := 18) (v := 858993459) C dJ6_bitCount_0f7a4_18 tw_691 ?_
  refine g_iand (pc := 21) C dJ6_bitCount_0f7a4_21 ?_
  refine g_iadd (pc := 22) C dJ6_bitCount_0f7a4_22 ?_
  refine g_istore_n (pc := 23) (lv2 := [(0, .int (((v0 - ((ushr v0 1) &&& 1431655765)) &&& 858993459) + ((ushr (v0 - ((ushr v0 1) &&& 1431655765)) 2) &&& 858993459)))]) C dJ6_bitCount_0f7a4_23 rfl (by decide) rfl ?_
  refine g_iload_n (pc := 24) C 0 dJ6_bitCount_0f7a4_24 rfl rfl ?_
  refine g_iload_n (pc := 25) C 0 dJ6_bitCount_0f7a4_25 rfl rfl ?_
  refine g_iconst (pc := 26) (v := 4) C dJ6_bitCount_0f7a4_26 ic_4 ?_
  refine g_iushr (pc := 27) C dJ6_bitCount_0f7a4_27 ?_
  refine g_iadd (pc := 28) C dJ6_bitCount_0f7a4_28 ?_
  refine g_ldcw (pc := 29) (v := 252645135) C dJ6_bitCount_0f7a4_29 tw_692 ?_
  refine g_iand (pc := 32) C dJ6_bitCount_0f7a4_32 ?_
  refine g_istore_n (pc := 33) (lv2 := [(0, .int (((((v0 - ((ushr v0 1) &&& 1431655765)) &&& 858993459) + ((ushr (v0 - ((ushr v0 1) &&& 1431655765)) 2) &&& 858993459)) + (ushr (((v0 - ((ushr v0 1) &&& 1431655765)) &&& 858993459) + ((ushr (v0 - ((ushr v0 1) &&& 1431655765)) 2) &&& 858993459)) 4)) &&& 252645135))]) C dJ6_bitCount_0f7a4_33 rfl (by decide) rfl ?_
  refine g_iload_n (pc := 34) C 0 dJ6_bitCount_0f7a4_34 rfl rfl ?_
  refine g_iload_n (pc := 35) C 0 dJ6_bitCount_0f7a4_35 rfl rfl ?_
  refine g_bipush (pc := 36) (v := 8) C dJ6_bitCount_0f7a4_36 bp_8 ?_
  refine g_iushr (pc := 38) C dJ6_bitCount_0f7a4_38 ?_
  refine g_iadd (pc := 39) C dJ6_bitCount_0f7a4_39 ?_
  refine g_istore_n (pc := 40) (lv2 := [(0, .int ((((((v0 - ((ushr v0 1) &&& 1431655765)) &&& 858993459) + ((ushr (v0 - ((ushr v0 1) &&& 1431655765)) 2) &&& 858993459)) + (ushr (((v0 - ((ushr v0 1) &&& 1431655765)) &&& 858993459) + ((ushr (v0 - ((ushr v0 1) &&& 1431655765)) 2) &&& 858993459)) 4)) &&& 252645135) + (ushr (((((v0 - ((ushr v0 1) &&& 1431655765)) &&& 858993459) + ((ushr (v0 - ((ushr v0 1) &&& 1431655765)) 2) &&& 858993459)) + (ushr (((v0 - ((ushr v0 1) &&& 1431655765)) &&& 858993459) + ((ushr (v0 - ((ushr v0 1) &&& 1431655765)) 2) &&& 858993459)) 4)) &&& 252645135) 8)))]) C dJ6_bitCount_0f7a4_40 rfl (by decide) rfl ?_
  refine g_iload_n (pc := 41) C 0 dJ6_bitCount_0f7a4_41 rfl rfl ?_
  refine g_iload_n (pc := 42) C 0 dJ6_bitCount_0f7a4_42 rfl rfl ?_
  refine g_bipush (pc := 43) (v := 16) C dJ6_bitCount_0f7a4_43 bp_16 ?_
  refine g_iushr (pc := 45) C dJ6_bitCount_0f7a4_45 ?_
  refine g_iadd (pc := 46) C dJ6_bitCount_0f7a4_46 ?_
  refine g_istore_n (pc := 47) (lv2 := [(0, .int (((((((v0 - ((ushr v0 1) &&& 1431655765)) &&& 858993459) + ((ushr (v0 - ((ushr v0 1) &&& 1431655765)) 2) &&& 858993459)) + (ushr (((v0 - ((ushr v0 1) &&& 1431655765)) &&& 858993459) + ((ushr (v0 - ((ushr v0 1) &&& 1431655765)) 2) &&& 858993459)) 4)) &&& 252645135) + (ushr (((((v0 - ((ushr v0 1) &&& 1431655765)) &&& 858993459) + ((ushr (v0 - ((ushr v0 1) &&& 1431655765)) 2) &&& 858993459)) + (ushr (((v0 - ((ushr v0 1) &&& 1431655765)) &&& 858993459) + ((ushr (v0 - ((ushr v0 1) &&& 1431655765)) 2) &&& 858993459)) 4)) &&& 252645135) 8)) + (ushr ((((((v0 - ((ushr v0 1) &&& 1431655765)) &&& 858993459) + ((ushr (v0 - ((ushr v0 1) &&& 1431655765)) 2) &&& 858993459)) + (ushr (((v0 - ((ushr v0 1) &&& 1431655765)) &&& 858993459) + ((ushr (v0 - ((ushr v0 1) &&& 1431655765)) 2) &&& 858993459)) 4)) &&& 252645135) + (ushr (((((v0 - ((ushr v0 1) &&& 1431655765)) &&& 858993459) + ((ushr (v0 - ((ushr v0 1) &&& 1431655765)) 2) &&& 858993459)) + (ushr (((v0 - ((ushr v0 1) &&& 1431655765)) &&& 858993459) + ((ushr (v0 - ((ushr v0 1) &&& 1431655765)) 2) &&& 858993459)) 4)) &&& 252645135) 8)) 16)))]) C dJ6_bitCount_0f7a4_47 rfl (by decide) rfl ?_
  refine g_iload_n (pc := 48) C 0 dJ6_bitCount_0f7a4_48 rfl rfl ?_
  refine g_bipush (pc := 49) (v := 63) C dJ6_bitCount_0f7a4_49 bp_63 ?_
  refine g_iand (pc := 51) C dJ6_bitCount_0f7a4_51 ?_
  exact g_iret (pc := 52) C dJ6_bitCount_0f7a4_52 ⟨_, rfl, ⟨rfl, h⟩⟩
set_option maxHeartbeats 4000000 in
set_option maxRecDepth 100000 in
theorem M_X7_ringing {l : Launch} {G : Gp} (hD : Dj shC G) {k0 : Nat} {σ : St} {K : Int32 → Prop} (hk0 : shC[k0]? = some (7, 0, 0)) (h : wp_X7_ringing k0 σ K) : MC l shC G yX7_ringing cX7_ringing 1 (some .int) 2 [.ref (G.2.2 k0)] σ (RI (fun r t => t = σ ∧ K r)) := by
  unfold wp_X7_ringing at h
  refine MC.of (by decide) hD (Nat.le_of_ble_eq_true rfl) ?_
  intro p e s m args below meth c C
  replace C : Cx p (rmD 2) s m args meth c shC G cX7_ringing 1 2 RX7 (some .int) 0 0 := C
  show Go p l e (rmD 2) s m args below meth c shC G 1 0 0 (MQ below (Qw shC G (RI (fun r t => t = σ ∧ K r))) args s 0 0 (Fr shC G)) 0 [(0, .ref (G.2.2 k0))] [] σ
  refine g_aload_n (pc := 0) C 0 dX7_ringing_0 rfl rfl ?_
  refine get_X7_2 (pc := 1) C hk0 tw_75 dX7_ringing_1 ?_
  refine g_aload_n (pc := 4) C 0 dX7_ringing_4 rfl rfl ?_
  refine g_callVip (pc := 5) (As := []) (rest := [.int (σ.1 k0 2)]) C hk0 rfl rfl rfl (M_X7_overBits C.2.2.1 hk0 h) CyX7_overBits tw_683 tw_684 tw_685 (by decide) rfl rfl (Nat.le_of_ble_eq_true rfl) dX7_ringing_5 (fun r5 h => ?_)
  refine g_callSip (pc := 8) (As := [.int r5]) (rest := [.int (σ.1 k0 2)]) C (M_J6_bitCount_0f7a4 C.2.2.1  h) CyJ6_bitCount_0f7a4 tw_687 tw_688 (by decide) rfl rfl (Nat.le_of_ble_eq_true rfl) dX7_ringing_8 (fun r8 h => ?_)
  refine g_isub (pc := 11) C dX7_ringing_11 ?_
  exact g_iret (pc := 12) C dX7_ringing_12 ⟨_, rfl, ⟨rfl, h⟩⟩
set_option maxHeartbeats 4000000 in
set_option maxRecDepth 100000 in
theorem k_X8_change_14 {σ : St} {K : Int32 → St → Prop} (C : Cx p R s m args meth c shC G cX8_change 4 7 RX8 (some .int) 0 0) (h : J_X8_change_14 σ K) : Go p l e R s m args below meth c shC G 4 0 0 (MQ below (Qw shC G (RI K)) args s 0 0 (Fr shC G)) 14 [] [] σ := by
  unfold J_X8_change_14 at h
  refine g_iconst (pc := 14) (v := -1) C dX8_change_14 ic_m1 ?_
  exact g_iret (pc := 15) C dX8_change_15 ⟨_, rfl, h⟩
set_option maxHeartbeats 4000000 in
set_option maxRecDepth 100000 in
theorem M_X8_change {l : Launch} {G : Gp} (hD : Dj shC G) {v1 : Int32} {v2 : Int32} {σ : St} {K : Int32 → St → Prop} (h : wp_X8_change v1 v2 σ K) : MC l shC G yX8_change cX8_change 4 (some .int) 7 [.ref (G.2.2 0), .int v1, .int v2] σ (RI K) := by
  unfold wp_X8_change at h
  refine MC.of (by decide) hD (Nat.le_of_ble_eq_true rfl) ?_
  intro p e s m args below meth c C
  replace C : Cx p (rmD 7) s m args meth c shC G cX8_change 4 7 RX8 (some .int) 0 0 := C
  show Go p l e (rmD 7) s m args below meth c shC G 4 0 0 (MQ below (Qw shC G (RI K)) args s 0 0 (Fr shC G)) 0 [(0, .ref (G.2.2 0)), (1, .int v1), (2, .int v2)] [] σ
  refine g_iload_n (pc := 0) C 1 dX8_change_0 rfl rfl ?_
  refine g_callSip (pc := 1) (As := [.int v1]) (rest := []) C (M_X8_isRow C.2.2.1  h) CyX8_isRow tw_244 tw_245 (by decide) rfl rfl (Nat.le_of_ble_eq_true rfl) dX8_change_1 (fun r1 h => ?_)
  refine g_if_eq (pc := 4) (tgt := 14) C dX8_change_4 (by decide) (fun c_ => ?_) (fun c_ => ?_)
  · replace h := ite_t h c_
    refine g_lv [] (lv2 := []) rfl ?_
    exact k_X8_change_14 C  h
  · replace h := ite_f h c_
    refine g_iload_n (pc := 7) C 2 dX8_change_7 rfl rfl ?_
    refine g_callSip (pc := 8) (As := [.int v2]) (rest := []) C (M_X8_isRow C.2.2.1  h) CyX8_isRow tw_244 tw_245 (by decide) rfl rfl (Nat.le_of_ble_eq_true rfl) dX8_change_8 (fun r8 h => ?_)
    refine g_if_ne (pc := 11) (tgt := 16) C dX8_change_11 (by decide) (fun c_ => ?_) (fun c_ => ?_)
    · replace h := ite_f h c_
      refine g_aload_n (pc := 16) C 0 dX8_change_16 rfl rfl ?_
      refine get_X8_3 (pc := 17) C rfl tw_197 dX8_change_17 ?_
      refine get_X7_2 (pc := 20) C rfl tw_76 dX8_change_20 ?_
      refine g_if_ne (pc := 23) (tgt := 29) C dX8_change_23 (by decide) (fun c_ => ?_) (fun c_ => ?_)
      · replace h := ite_f h c_
        refine g_aload_n (pc := 29) C 0 dX8_change_29 rfl rfl ?_
        refine get_X8_0 (pc := 30) C rfl tw_194 dX8_change_30 ?_
        refine g_iload_n (pc := 33) C 1 dX8_change_33 rfl rfl ?_
        obtain ⟨g_, h⟩ := h
        have hs34_ : shC[(5 + 2 * v1.toNatClampNeg)]? = some (6, 40, 0) := shR5 g_
        refine g_aldR (pc := 34) C rfl g_ dX8_change_34 ?_
        refine g_astore_n (pc := 35) (lv2 := [(3, .ref (G.2.2 (5 + 2 * v1.toNatClampNeg))), (0, .ref (G.2.2 0)), (1, .int v1), (2, .int v2)]) C dX8_change_35 rfl (by decide) rfl ?_
        refine g_aload_n (pc := 36) C 0 dX8_change_36 rfl rfl ?_
        refine get_X6_1 (pc := 37) C hs34_ tw_183 dX8_change_37 ?_
        refine g_if_ne (pc := 40) (tgt := 49) C dX8_change_40 (by decide) (fun c_ => ?_) (fun c_ => ?_)
        · replace h := ite_f h c_
          refine g_aload_n (pc := 49) C 0 dX8_change_49 rfl rfl ?_
          refine get_X6_2 (pc := 50) C hs34_ tw_186 dX8_change_50 ?_
          refine g_aload_n (pc := 53) C 1 dX8_change_53 rfl rfl ?_
          refine get_X8_3 (pc := 54) C rfl tw_197 dX8_change_54 ?_
          refine g_callVip (pc := 57) (As := []) (rest := [.int (σ.1 (5 + 2 * v1.toNatClampNeg) 2)]) C rfl rfl rfl rfl (M_X7_ringing C.2.2.1 rfl h) CyX7_ringing tw_679 tw_680 tw_681 (by decide) rfl rfl (Nat.le_of_ble_eq_true rfl) dX8_change_57 (fun r57 h => ?_)
          refine g_icmp_eq (pc := 60) (tgt := 69) C dX8_change_60 (by decide) (fun c_ => ?_) (fun c_ => ?_)
          · replace h := ite_t h c_
            refine g_aload_n (pc := 69) C 1 dX8_change_69 rfl rfl ?_
            refine get_X8_3 (pc := 70) C rfl tw_197 dX8_change_70 ?_
            refine g_aload_n (pc := 73) C 0 dX8_change_73 rfl rfl ?_
            refine g_callVip (pc := 74) (As := [.ref (G.2.2 (5 + 2 * v1.toNatClampNeg))]) (rest := []) C rfl rfl rfl rfl (M_X7_isOrder C.2.2.1 rfl hs34_ h) CyX7_isOrder tw_693 tw_694 tw_695 (by decide) rfl rfl (Nat.le_of_ble_eq_true rfl) dX8_change_74 (fun r74 h => ?_)
            refine g_if_ne (pc := 77) (tgt := 86) C dX8_change_77 (by decide) (fun c_ => ?_) (fun c_ => ?_)
            · replace h := ite_f h c_
              refine g_aload_n (pc := 86) C 1 dX8_change_86 rfl rfl ?_
              refine g_aload_n (pc := 87) C 0 dX8_change_87 rfl rfl ?_
              refine g_aload_n (pc := 88) C 1 dX8_change_88 rfl rfl ?_
              refine get_X8_0 (pc := 89) C rfl tw_194 dX8_change_89 ?_
              refine g_iload_n (pc := 92) C 3 dX8_change_92 rfl rfl ?_
              obtain ⟨g_, h⟩ := h
              have hs93_ : shC[(5 + 2 * v2.toNatClampNeg)]? = some (6, 40, 0) := shR5 g_
              refine g_aldR (pc := 93) C rfl g_ dX8_change_93 ?_
              refine g_callVi (pc := 94) (As := [.ref (G.2.2 (5 + 2 * v1.toNatClampNeg)), .ref (G.2.2 (5 + 2 * v2.toNatClampNeg))]) (rest := []) C rfl rfl rfl rfl (M_X8_ringOrder C.2.2.1 hs34_ hs93_ h) CyX8_ringOrder tw_697 tw_699 ts_18 (by decide) rfl rfl (Nat.le_of_ble_eq_true rfl) dX8_change_94 (fun r94 t94 h => ?_)
              exact g_iret (pc := 97) C dX8_change_97 ⟨_, rfl, h⟩
            · replace h := ite_t h c_
              refine g_aload_n (pc := 80) C 1 dX8_change_80 rfl rfl ?_
              refine g_iconst (pc := 81) (v := 3) C dX8_change_81 ic_3 ?_
              refine g_callVi (pc := 82) (As := [.int 3]) (rest := []) C rfl rfl rfl rfl (M_X8_find C.2.2.1  h) CyX8_find tw_251 tw_253 ts_1 (by decide) rfl rfl (Nat.le_of_ble_eq_true rfl) dX8_change_82 (fun r82 t82 h => ?_)
              exact g_iret (pc := 85) C dX8_change_85 ⟨_, rfl, h⟩
          · replace h := ite_f h c_
            refine g_aload_n (pc := 63) C 1 dX8_change_63 rfl rfl ?_
            refine g_iconst (pc := 64) (v := 5) C dX8_change_64 ic_5 ?_
            refine g_callVi (pc := 65) (As := [.int 5]) (rest := []) C rfl rfl rfl rfl (M_X8_find C.2.2.1  h) CyX8_find tw_251 tw_253 ts_1 (by decide) rfl rfl (Nat.le_of_ble_eq_true rfl) dX8_change_65 (fun r65 t65 h => ?_)
            exact g_iret (pc := 68) C dX8_change_68 ⟨_, rfl, h⟩
        · replace h := ite_t h c_
          refine g_aload_n (pc := 43) C 1 dX8_change_43 rfl rfl ?_
          refine g_iconst (pc := 44) (v := 1) C dX8_change_44 ic_1 ?_
          refine g_callVi (pc := 45) (As := [.int 1]) (rest := []) C rfl rfl rfl rfl (M_X8_find C.2.2.1  h) CyX8_find tw_251 tw_253 ts_1 (by decide) rfl rfl (Nat.le_of_ble_eq_true rfl) dX8_change_45 (fun r45 t45 h => ?_)
          exact g_iret (pc := 48) C dX8_change_48 ⟨_, rfl, h⟩
      · replace h := ite_t h c_
        refine g_bipush (pc := 26) (v := -4) C dX8_change_26 bp_m4 ?_
        exact g_iret (pc := 28) C dX8_change_28 ⟨_, rfl, h⟩
    · replace h := ite_t h c_
      refine g_lv [] (lv2 := []) rfl ?_
      exact k_X8_change_14 C  h
end MM

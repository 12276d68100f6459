section MM
variable {p : Program} {l : Launch} {e : Env} {R : Room} {s : State} {m : MethodId} {args : Array Value} {below : List Frame} {meth : Method} {c : Code} {G : Gp}
set_option maxHeartbeats 4000000 in
set_option maxRecDepth 100000 in
theorem k_X9_chance_6 {v1 : Int64} {v3 : Int64} {v5 : Int64} {v7 : Int64} {σ : St} {K : Int32 → St → Prop} (C : Cx p R s m args meth c shM G cX9_chance 11 1 RX9 (some .int) 0 0) (h : L_X9_chance_6 v1 v3 σ K v5 v7) : Go p l e R s m args below meth c shM G 11 0 0 (MQ below (Qw shM G (RI K)) args s 0 0 (Fr shM G)) 6 [(0, .ref (G.2.2 0)), (1, .long v1), (3, .long v3), (5, .long v5), (7, .long v7)] [] σ := by
  obtain ⟨n_, h⟩ := h
  induction n_ generalizing v5 v7 with
  | zero => exact h.elim
  | succ n_ ih =>
    replace h : B_X9_chance_6 v1 v3 σ K (it2 (B_X9_chance_6 v1 v3 σ K) n_) v5 v7 := h
    unfold B_X9_chance_6 at h
    refine g_lload (pc := 6) C 4 dX9_chance_6 rfl ?_
    refine g_lconst (pc := 8) (v := 0) C dX9_chance_8 lc_0 ?_
    refine g_lcmp (pc := 9) C dX9_chance_9 ?_
    refine g_if_eq (pc := 10) (tgt := 31) C dX9_chance_10 (by decide) (fun c_ => ?_) (fun c_ => ?_)
    · replace h := ite_t h c_
      refine g_aload_n (pc := 31) C 0 dX9_chance_31 rfl rfl ?_
      refine g_lload_n (pc := 32) C 1 dX9_chance_32 rfl rfl ?_
      refine g_lload (pc := 33) C 3 dX9_chance_33 rfl ?_
      obtain ⟨g_, h⟩ := h
      refine g_ldiv (pc := 35) C dX9_chance_35 g_ ?_
      refine put_X9_11 (pc := 36) C rfl tw_873 dX9_chance_36 ?_
      refine g_aload_n (pc := 39) C 0 dX9_chance_39 rfl rfl ?_
      refine g_lload_n (pc := 40) C 2 dX9_chance_40 rfl rfl ?_
      refine g_lload (pc := 41) C 3 dX9_chance_41 rfl ?_
      obtain ⟨g_, h⟩ := h
      refine g_ldiv (pc := 43) C dX9_chance_43 g_ ?_
      refine put_X9_12 (pc := 44) C rfl tw_874 dX9_chance_44 ?_
      refine g_iconst (pc := 47) (v := 1) C dX9_chance_47 ic_1 ?_
      exact g_iret (pc := 48) C dX9_chance_48 ⟨_, rfl, h⟩
    · replace h := ite_f h c_
      refine g_lload (pc := 13) C 3 dX9_chance_13 rfl ?_
      refine g_lload (pc := 15) C 4 dX9_chance_15 rfl ?_
      obtain ⟨g_, h⟩ := h
      refine g_lrem (pc := 17) C dX9_chance_17 g_ ?_
      refine g_lstore (pc := 18) (lv2 := [(9, .long (lrm v5 v7)), (0, .ref (G.2.2 0)), (1, .long v1), (3, .long v3), (5, .long v5), (7, .long v7)]) C dX9_chance_18 (by decide) rfl ?_
      refine g_lload (pc := 20) C 5 dX9_chance_20 rfl ?_
      refine g_lstore (pc := 22) (lv2 := [(5, .long v7), (9, .long (lrm v5 v7)), (0, .ref (G.2.2 0)), (1, .long v1), (3, .long v3), (7, .long v7)]) C dX9_chance_22 (by decide) rfl ?_
      refine g_lload (pc := 24) C 1 dX9_chance_24 rfl ?_
      refine g_lstore (pc := 26) (lv2 := [(7, .long (lrm v5 v7)), (5, .long v7), (9, .long (lrm v5 v7)), (0, .ref (G.2.2 0)), (1, .long v1), (3, .long v3)]) C dX9_chance_26 (by decide) rfl ?_
      refine g_goto (pc := 28) (tgt := 6) C dX9_chance_28 (by decide) ?_
      refine g_lv [3, 4, 5, 1, 0] (lv2 := [(0, .ref (G.2.2 0)), (1, .long v1), (3, .long v3), (5, .long v7), (7, .long (lrm v5 v7))]) rfl ?_
      exact ih h
set_option maxHeartbeats 4000000 in
set_option maxRecDepth 100000 in
theorem M_X9_chance {l : Launch} {G : Gp} (hD : Dj shM G) {v1 : Int64} {v3 : Int64} {σ : St} {K : Int32 → St → Prop} (h : wp_X9_chance v1 v3 σ K) : MC l shM G yX9_chance cX9_chance 11 (some .int) 1 [.ref (G.2.2 0), .long v1, .long v3] σ (RI K) := by
  unfold wp_X9_chance at h
  refine MC.of (by decide) hD (Nat.le_of_ble_eq_true rfl) ?_
  intro p e s m args below meth c C
  replace C : Cx p (rmD 1) s m args meth c shM G cX9_chance 11 1 RX9 (some .int) 0 0 := C
  show Go p l e (rmD 1) s m args below meth c shM G 11 0 0 (MQ below (Qw shM G (RI K)) args s 0 0 (Fr shM G)) 0 [(0, .ref (G.2.2 0)), (1, .long v1), (3, .long v3)] [] σ
  refine g_lload_n (pc := 0) C 1 dX9_chance_0 rfl rfl ?_
  refine g_lstore (pc := 1) (lv2 := [(5, .long v1), (0, .ref (G.2.2 0)), (1, .long v1), (3, .long v3)]) C dX9_chance_1 (by decide) rfl ?_
  refine g_lload_n (pc := 3) C 3 dX9_chance_3 rfl rfl ?_
  refine g_lstore (pc := 4) (lv2 := [(7, .long v3), (5, .long v1), (0, .ref (G.2.2 0)), (1, .long v1), (3, .long v3)]) C dX9_chance_4 (by decide) rfl ?_
  refine g_lv [2, 3, 4, 1, 0] (lv2 := [(0, .ref (G.2.2 0)), (1, .long v1), (3, .long v3), (5, .long v1), (7, .long v3)]) rfl ?_
  exact k_X9_chance_6 C  h
set_option maxHeartbeats 4000000 in
set_option maxRecDepth 100000 in
theorem M_X9_gap {l : Launch} {G : Gp} (hD : Dj shM G) {v1 : Int32} {σ : St} {K : Int32 → Prop} (h : wp_X9_gap v1 σ K) : MC l shM G yX9_gap cX9_gap 2 (some .int) 1 [.ref (G.2.2 0), .int v1] σ (RI (fun r t => t = σ ∧ K r)) := by
  unfold wp_X9_gap at h
  refine MC.of (by decide) hD (Nat.le_of_ble_eq_true rfl) ?_
  intro p e s m args below meth c C
  replace C : Cx p (rmD 1) s m args meth c shM G cX9_gap 2 1 RX9 (some .int) 0 0 := C
  show Go p l e (rmD 1) s m args below meth c shM G 2 0 0 (MQ below (Qw shM G (RI (fun r t => t = σ ∧ K r))) args s 0 0 (Fr shM G)) 0 [(0, .ref (G.2.2 0)), (1, .int v1)] [] σ
  refine g_aload_n (pc := 0) C 0 dX9_gap_0 rfl rfl ?_
  refine get_X9_15 (pc := 1) C rfl tw_877 dX9_gap_1 ?_
  refine g_aload_n (pc := 4) C 0 dX9_gap_4 rfl rfl ?_
  refine get_X9_16 (pc := 5) C rfl tw_878 dX9_gap_5 ?_
  refine g_iload_n (pc := 8) C 1 dX9_gap_8 rfl rfl ?_
  obtain ⟨g_, h⟩ := h
  refine g_iald (pc := 9) C rfl g_ dX9_gap_9 ?_
  obtain ⟨g_, h⟩ := h
  refine g_iald (pc := 10) C rfl g_ dX9_gap_10 ?_
  refine g_aload_n (pc := 11) C 0 dX9_gap_11 rfl rfl ?_
  refine get_X9_15 (pc := 12) C rfl tw_877 dX9_gap_12 ?_
  refine g_aload_n (pc := 15) C 0 dX9_gap_15 rfl rfl ?_
  refine get_X9_16 (pc := 16) C rfl tw_878 dX9_gap_16 ?_
  refine g_iload_n (pc := 19) C 1 dX9_gap_19 rfl rfl ?_
  refine g_iconst (pc := 20) (v := 1) C dX9_gap_20 ic_1 ?_
  refine g_isub (pc := 21) C dX9_gap_21 ?_
  obtain ⟨g_, h⟩ := h
  refine g_iald (pc := 22) C rfl g_ dX9_gap_22 ?_
  obtain ⟨g_, h⟩ := h
  refine g_iald (pc := 23) C rfl g_ dX9_gap_23 ?_
  refine g_isub (pc := 24) C dX9_gap_24 ?_
  exact g_iret (pc := 25) C dX9_gap_25 ⟨_, rfl, ⟨rfl, h⟩⟩
set_option maxHeartbeats 4000000 in
set_option maxRecDepth 100000 in
theorem k_X9_errorNow_39 {v2 : Int32} {w0 : Int32} {w1 : Int32} {σ : St} {K : Int32 → Prop} {Φ4 : Int32 → Int32 → Prop} (C : Cx p R s m args meth c shM G cX9_errorNow 3 2 RX9 (some .int) 0 0) (hΦ4 : ∀ (v1' : Int32) (v2' : Int32), Φ4 v1' v2' → Go p l e R s m args below meth c shM G 3 0 0 (MQ below (Qw shM G (RI (fun r t => t = σ ∧ K r))) args s 0 0 (Fr shM G)) 4 [(0, .ref (G.2.2 0)), (1, .int (v1')), (2, .int (v2'))] [] σ) (h : J_X9_errorNow_39 v2 w0 w1 σ K Φ4) : Go p l e R s m args below meth c shM G 3 0 0 (MQ below (Qw shM G (RI (fun r t => t = σ ∧ K r))) args s 0 0 (Fr shM G)) 39 [(0, .ref (G.2.2 0)), (2, .int v2)] [.int w1, .int w0] σ := by
  unfold J_X9_errorNow_39 at h
  refine g_iadd (pc := 39) C dX9_errorNow_39 ?_
  refine g_istore_n (pc := 40) (lv2 := [(1, .int (w0 + w1)), (0, .ref (G.2.2 0)), (2, .int v2)]) C dX9_errorNow_40 rfl (by decide) rfl ?_
  refine g_iinc (pc := 41) (lv2 := [(2, .int (v2 + 1)), (1, .int (w0 + w1)), (0, .ref (G.2.2 0))]) C 2 dX9_errorNow_41 ic_1 rfl (by decide) rfl ?_
  refine g_goto (pc := 44) (tgt := 4) C dX9_errorNow_44 (by decide) ?_
  refine g_lv [2, 1, 0] (lv2 := [(0, .ref (G.2.2 0)), (1, .int (w0 + w1)), (2, .int (v2 + 1))]) rfl ?_
  exact hΦ4 _ _ h
set_option maxHeartbeats 4000000 in
set_option maxRecDepth 100000 in
theorem k_X9_errorNow_4 {v1 : Int32} {v2 : Int32} {σ : St} {K : Int32 → Prop} (C : Cx p R s m args meth c shM G cX9_errorNow 3 2 RX9 (some .int) 0 0) (h : L_X9_errorNow_4 σ K v1 v2) : Go p l e R s m args below meth c shM G 3 0 0 (MQ below (Qw shM G (RI (fun r t => t = σ ∧ K r))) args s 0 0 (Fr shM G)) 4 [(0, .ref (G.2.2 0)), (1, .int v1), (2, .int v2)] [] σ := by
  obtain ⟨n_, h⟩ := h
  induction n_ generalizing v1 v2 with
  | zero => exact h.elim
  | succ n_ ih =>
    replace h : B_X9_errorNow_4 σ K (it2 (B_X9_errorNow_4 σ K) n_) v1 v2 := h
    unfold B_X9_errorNow_4 at h
    refine g_iload_n (pc := 4) C 2 dX9_errorNow_4 rfl rfl ?_
    refine g_aload_n (pc := 5) C 0 dX9_errorNow_5 rfl rfl ?_
    refine get_X9_18 (pc := 6) C rfl tw_880 dX9_errorNow_6 ?_
    refine g_icmp_ge (pc := 9) (tgt := 47) C dX9_errorNow_9 (by decide) (fun c_ => ?_) (fun c_ => ?_)
    · replace h := ite_t h c_
      refine g_iload_n (pc := 47) C 1 dX9_errorNow_47 rfl rfl ?_
      exact g_iret (pc := 48) C dX9_errorNow_48 ⟨_, rfl, ⟨rfl, h⟩⟩
    · replace h := ite_f h c_
      refine g_iload_n (pc := 12) C 1 dX9_errorNow_12 rfl rfl ?_
      refine g_aload_n (pc := 13) C 0 dX9_errorNow_13 rfl rfl ?_
      refine g_iload_n (pc := 14) C 2 dX9_errorNow_14 rfl rfl ?_
      refine g_callVip (pc := 15) (As := [.int v2]) (rest := [.int v1]) C rfl rfl rfl rfl (M_X9_gap C.2.2.1  h) CyX9_gap tw_1186 tw_1188 ts_47 (by decide) rfl rfl (Nat.le_of_ble_eq_true rfl) dX9_errorNow_15 (fun r15 h => ?_)
      refine g_iconst (pc := 18) (v := 2) C dX9_errorNow_18 ic_2 ?_
      refine g_icmp_le (pc := 19) (tgt := 32) C dX9_errorNow_19 (by decide) (fun c_ => ?_) (fun c_ => ?_)
      · replace h := ite_t h c_
        refine g_iconst (pc := 32) (v := 2) C dX9_errorNow_32 ic_2 ?_
        refine g_aload_n (pc := 33) C 0 dX9_errorNow_33 rfl rfl ?_
        refine g_iload_n (pc := 34) C 2 dX9_errorNow_34 rfl rfl ?_
        refine g_callVip (pc := 35) (As := [.int v2]) (rest := [.int 2, .int v1]) C rfl rfl rfl rfl (M_X9_gap C.2.2.1  h) CyX9_gap tw_1186 tw_1188 ts_47 (by decide) rfl rfl (Nat.le_of_ble_eq_true rfl) dX9_errorNow_35 (fun r35 h => ?_)
        refine g_isub (pc := 38) C dX9_errorNow_38 ?_
        refine g_lv [0, 2] (lv2 := [(0, .ref (G.2.2 0)), (2, .int v2)]) rfl ?_
        exact k_X9_errorNow_39 C (fun _ _ h_ => ih h_) h
      · replace h := ite_f h c_
        refine g_aload_n (pc := 22) C 0 dX9_errorNow_22 rfl rfl ?_
        refine g_iload_n (pc := 23) C 2 dX9_errorNow_23 rfl rfl ?_
        refine g_callVip (pc := 24) (As := [.int v2]) (rest := [.int v1]) C rfl rfl rfl rfl (M_X9_gap C.2.2.1  h) CyX9_gap tw_1186 tw_1188 ts_47 (by decide) rfl rfl (Nat.le_of_ble_eq_true rfl) dX9_errorNow_24 (fun r24 h => ?_)
        refine g_iconst (pc := 27) (v := 2) C dX9_errorNow_27 ic_2 ?_
        refine g_isub (pc := 28) C dX9_errorNow_28 ?_
        refine g_goto (pc := 29) (tgt := 39) C dX9_errorNow_29 (by decide) ?_
        refine g_lv [0, 2] (lv2 := [(0, .ref (G.2.2 0)), (2, .int v2)]) rfl ?_
        exact k_X9_errorNow_39 C (fun _ _ h_ => ih h_) h
set_option maxHeartbeats 4000000 in
set_option maxRecDepth 100000 in
theorem M_X9_errorNow {l : Launch} {G : Gp} (hD : Dj shM G) {σ : St} {K : Int32 → Prop} (h : wp_X9_errorNow σ K) : MC l shM G yX9_errorNow cX9_errorNow 3 (some .int) 2 [.ref (G.2.2 0)] σ (RI (fun r t => t = σ ∧ K r)) := by
  unfold wp_X9_errorNow at h
  refine MC.of (by decide) hD (Nat.le_of_ble_eq_true rfl) ?_
  intro p e s m args below meth c C
  replace C : Cx p (rmD 2) s m args meth c shM G cX9_errorNow 3 2 RX9 (some .int) 0 0 := C
  show Go p l e (rmD 2) s m args below meth c shM G 3 0 0 (MQ below (Qw shM G (RI (fun r t => t = σ ∧ K r))) args s 0 0 (Fr shM G)) 0 [(0, .ref (G.2.2 0))] [] σ
  refine g_iconst (pc := 0) (v := 0) C dX9_errorNow_0 ic_0 ?_
  refine g_istore_n (pc := 1) (lv2 := [(1, .int 0), (0, .ref (G.2.2 0))]) C dX9_errorNow_1 rfl (by decide) rfl ?_
  refine g_iconst (pc := 2) (v := 1) C dX9_errorNow_2 ic_1 ?_
  refine g_istore_n (pc := 3) (lv2 := [(2, .int 1), (1, .int 0), (0, .ref (G.2.2 0))]) C dX9_errorNow_3 rfl (by decide) rfl ?_
  refine g_lv [2, 1, 0] (lv2 := [(0, .ref (G.2.2 0)), (1, .int 0), (2, .int 1)]) rfl ?_
  exact k_X9_errorNow_4 C  h
set_option maxHeartbeats 4000000 in
set_option maxRecDepth 100000 in
theorem k_X9_has_14 {w0 : Int32} {σ : St} {K : Int32 → Prop} (C : Cx p R s m args meth c shM G cX9_has 2 1 RX9 (some .boolean) 0 0) (h : J_X9_has_14 w0 K) : Go p l e R s m args below meth c shM G 2 0 0 (MQ below (Qw shM G (RI (fun r t => t = σ ∧ K r))) args s 0 0 (Fr shM G)) 14 [] [.int w0] σ := by
  unfold J_X9_has_14 at h
  obtain ⟨g_, h⟩ := h
  exact g_zret (pc := 14) C g_ dX9_has_14 ⟨_, rfl, ⟨rfl, h⟩⟩
set_option maxHeartbeats 4000000 in
set_option maxRecDepth 100000 in
theorem M_X9_has {l : Launch} {G : Gp} (hD : Dj shM G) {v0 : Int32} {v1 : Int32} {σ : St} {K : Int32 → Prop} (h : wp_X9_has v0 v1 K) : MC l shM G yX9_has cX9_has 2 (some .boolean) 1 [.int v0, .int v1] σ (RI (fun r t => t = σ ∧ K r)) := by
  unfold wp_X9_has at h
  refine MC.of (by decide) hD (Nat.le_of_ble_eq_true rfl) ?_
  intro p e s m args below meth c C
  replace C : Cx p (rmD 1) s m args meth c shM G cX9_has 2 1 RX9 (some .boolean) 0 0 := C
  show Go p l e (rmD 1) s m args below meth c shM G 2 0 0 (MQ below (Qw shM G (RI (fun r t => t = σ ∧ K r))) args s 0 0 (Fr shM G)) 0 [(0, .int v0), (1, .int v1)] [] σ
  refine g_iload_n (pc := 0) C 0 dX9_has_0 rfl rfl ?_
  refine g_iload_n (pc := 1) C 1 dX9_has_1 rfl rfl ?_
  refine g_ishr (pc := 2) C dX9_has_2 ?_
  refine g_iconst (pc := 3) (v := 1) C dX9_has_3 ic_1 ?_
  refine g_iand (pc := 4) C dX9_has_4 ?_
  refine g_iconst (pc := 5) (v := 1) C dX9_has_5 ic_1 ?_
  refine g_icmp_ne (pc := 6) (tgt := 13) C dX9_has_6 (by decide) (fun c_ => ?_) (fun c_ => ?_)
  · replace h := ite_f h c_
    refine g_iconst (pc := 13) (v := 0) C dX9_has_13 ic_0 ?_
    refine g_lv [] (lv2 := []) rfl ?_
    exact k_X9_has_14 C  h
  · replace h := ite_t h c_
    refine g_iconst (pc := 9) (v := 1) C dX9_has_9 ic_1 ?_
    refine g_goto (pc := 10) (tgt := 14) C dX9_has_10 (by decide) ?_
    refine g_lv [] (lv2 := []) rfl ?_
    exact k_X9_has_14 C  h
set_option maxHeartbeats 4000000 in
set_option maxRecDepth 100000 in
theorem k_X9_tenthsOf_55 {w0 : Int32} {σ : St} {K : Int32 → Prop} (C : Cx p R s m args meth c shM G cX9_tenthsOf 5 1 RX9 (some .int) 0 0) (h : J_X9_tenthsOf_55 w0 K) : Go p l e R s m args below meth c shM G 5 0 0 (MQ below (Qw shM G (RI (fun r t => t = σ ∧ K r))) args s 0 0 (Fr shM G)) 55 [] [.int w0] σ := by
  unfold J_X9_tenthsOf_55 at h
  exact g_iret (pc := 55) C dX9_tenthsOf_55 ⟨_, rfl, ⟨rfl, h⟩⟩
set_option maxHeartbeats 4000000 in
set_option maxRecDepth 100000 in
theorem k_X9_tenthsOf_28 {v1 : Int32} {v2 : Int32} {v3 : Int32} {w0 : Int32} {σ : St} {K : Int32 → Prop} (C : Cx p R s m args meth c shM G cX9_tenthsOf 5 1 RX9 (some .int) 0 0) (h : J_X9_tenthsOf_28 v1 v2 v3 w0 K) : Go p l e R s m args below meth c shM G 5 0 0 (MQ below (Qw shM G (RI (fun r t => t = σ ∧ K r))) args s 0 0 (Fr shM G)) 28 [(1, .int v1), (2, .int v2), (3, .int v3)] [.int w0] σ := by
  unfold J_X9_tenthsOf_28 at h
  refine g_istore (pc := 28) (lv2 := [(4, .int w0), (1, .int v1), (2, .int v2), (3, .int v3)]) C dX9_tenthsOf_28 (by decide) rfl ?_
  refine g_iload_n (pc := 30) C 2 dX9_tenthsOf_30 rfl rfl ?_
  refine g_iconst (pc := 31) (v := 5) C dX9_tenthsOf_31 ic_5 ?_
  refine g_icmp_ge (pc := 32) (tgt := 40) C dX9_tenthsOf_32 (by decide) (fun c_ => ?_) (fun c_ => ?_)
  · replace h := ite_t h c_
    refine g_bipush (pc := 40) (v := 10) C dX9_tenthsOf_40 bp_10 ?_
    refine g_iload_n (pc := 42) C 2 dX9_tenthsOf_42 rfl rfl ?_
    refine g_iconst (pc := 43) (v := 2) C dX9_tenthsOf_43 ic_2 ?_
    refine g_idiv (pc := 44) C dX9_tenthsOf_44 (by decide) ?_
    refine g_iadd (pc := 45) C dX9_tenthsOf_45 ?_
    refine g_iload_n (pc := 46) C 1 dX9_tenthsOf_46 rfl rfl ?_
    refine g_iconst (pc := 47) (v := 3) C dX9_tenthsOf_47 ic_3 ?_
    refine g_idiv (pc := 48) C dX9_tenthsOf_48 (by decide) ?_
    refine g_iadd (pc := 49) C dX9_tenthsOf_49 ?_
    refine g_iload_n (pc := 50) C 3 dX9_tenthsOf_50 rfl rfl ?_
    refine g_isub (pc := 51) C dX9_tenthsOf_51 ?_
    refine g_iload (pc := 52) C 0 dX9_tenthsOf_52 rfl ?_
    refine g_iadd (pc := 54) C dX9_tenthsOf_54 ?_
    refine g_lv [] (lv2 := []) rfl ?_
    exact k_X9_tenthsOf_55 C  h
  · replace h := ite_f h c_
    refine g_bipush (pc := 35) (v := -9) C dX9_tenthsOf_35 bp_m9 ?_
    refine g_goto (pc := 37) (tgt := 55) C dX9_tenthsOf_37 (by decide) ?_
    refine g_lv [] (lv2 := []) rfl ?_
    exact k_X9_tenthsOf_55 C  h
set_option maxHeartbeats 4000000 in
set_option maxRecDepth 100000 in
theorem M_X9_tenthsOf {l : Launch} {G : Gp} (hD : Dj shM G) {v0 : Int32} {v1 : Int32} {v2 : Int32} {v3 : Int32} {σ : St} {K : Int32 → Prop} (h : wp_X9_tenthsOf v0 v1 v2 v3 K) : MC l shM G yX9_tenthsOf cX9_tenthsOf 5 (some .int) 1 [.int v0, .int v1, .int v2, .int v3] σ (RI (fun r t => t = σ ∧ K r)) := by
  unfold wp_X9_tenthsOf at h
  refine MC.of (by decide) hD (Nat.le_of_ble_eq_true rfl) ?_
  intro p e s m args below meth c C
  replace C : Cx p (rmD 1) s m args meth c shM G cX9_tenthsOf 5 1 RX9 (some .int) 0 0 := C
  show Go p l e (rmD 1) s m args below meth c shM G 5 0 0 (MQ below (Qw shM G (RI (fun r t => t = σ ∧ K r))) args s 0 0 (Fr shM G)) 0 [(0, .int v0), (1, .int v1), (2, .int v2), (3, .int v3)] [] σ
  refine g_iload_n (pc := 0) C 0 dX9_tenthsOf_0 rfl rfl ?_
  refine g_iconst (pc := 1) (v := 3) C dX9_tenthsOf_1 ic_3 ?_
  refine g_icmp_ne (pc := 2) (tgt := 9) C dX9_tenthsOf_2 (by decide) (fun c_ => ?_) (fun c_ => ?_)
  · replace h := ite_f h c_
    refine g_iload_n (pc := 9) C 0 dX9_tenthsOf_9 rfl rfl ?_
    refine g_iconst (pc := 10) (v := 4) C dX9_tenthsOf_10 ic_4 ?_
    refine g_icmp_ne (pc := 11) (tgt := 18) C dX9_tenthsOf_11 (by decide) (fun c_ => ?_) (fun c_ => ?_)
    · replace h := ite_f h c_
      refine g_iload_n (pc := 18) C 0 dX9_tenthsOf_18 rfl rfl ?_
      refine g_iconst (pc := 19) (v := 5) C dX9_tenthsOf_19 ic_5 ?_
      refine g_icmp_ne (pc := 20) (tgt := 27) C dX9_tenthsOf_20 (by decide) (fun c_ => ?_) (fun c_ => ?_)
      · replace h := ite_f h c_
        refine g_iconst (pc := 27) (v := 0) C dX9_tenthsOf_27 ic_0 ?_
        refine g_lv [1, 2, 3] (lv2 := [(1, .int v1), (2, .int v2), (3, .int v3)]) rfl ?_
        exact k_X9_tenthsOf_28 C  h
      · replace h := ite_t h c_
        refine g_iconst (pc := 23) (v := -1) C dX9_tenthsOf_23 ic_m1 ?_
        refine g_goto (pc := 24) (tgt := 28) C dX9_tenthsOf_24 (by decide) ?_
        refine g_lv [1, 2, 3] (lv2 := [(1, .int v1), (2, .int v2), (3, .int v3)]) rfl ?_
        exact k_X9_tenthsOf_28 C  h
    · replace h := ite_t h c_
      refine g_iconst (pc := 14) (v := 2) C dX9_tenthsOf_14 ic_2 ?_
      refine g_goto (pc := 15) (tgt := 28) C dX9_tenthsOf_15 (by decide) ?_
      refine g_lv [1, 2, 3] (lv2 := [(1, .int v1), (2, .int v2), (3, .int v3)]) rfl ?_
      exact k_X9_tenthsOf_28 C  h
  · replace h := ite_t h c_
    refine g_iconst (pc := 5) (v := 1) C dX9_tenthsOf_5 ic_1 ?_
    refine g_goto (pc := 6) (tgt := 28) C dX9_tenthsOf_6 (by decide) ?_
    refine g_lv [1, 2, 3] (lv2 := [(1, .int v1), (2, .int v2), (3, .int v3)]) rfl ?_
    exact k_X9_tenthsOf_28 C  h
set_option maxHeartbeats 4000000 in
set_option maxRecDepth 100000 in
theorem k_X9_rings_225 {v1 : Int32} {σ : St} {K : St → Prop} {Φ12 : Int32 → St → Prop} (C : Cx p R s m args meth c shM G cX9_rings 5 3 RX9 none 0 0) (hΦ12 : ∀ (v1' : Int32) (σ' : St), Φ12 v1' σ' → Go p l e R s m args below meth c shM G 5 0 0 (MQ below (Qw shM G (RV K)) args s 0 0 (Fr shM G)) 12 [(0, .ref (G.2.2 0)), (1, .int (v1'))] [] σ') (h : J_X9_rings_225 v1 σ K Φ12) : Go p l e R s m args below meth c shM G 5 0 0 (MQ below (Qw shM G (RV K)) args s 0 0 (Fr shM G)) 225 [(0, .ref (G.2.2 0)), (1, .int v1)] [] σ := by
  unfold J_X9_rings_225 at h
  refine g_iinc (pc := 225) (lv2 := [(1, .int (v1 + 1)), (0, .ref (G.2.2 0))]) C 1 dX9_rings_225 ic_1 rfl (by decide) rfl ?_
  refine g_goto (pc := 228) (tgt := 12) C dX9_rings_228 (by decide) ?_
  refine g_lv [1, 0] (lv2 := [(0, .ref (G.2.2 0)), (1, .int (v1 + 1))]) rfl ?_
  exact hΦ12 _ _ h
set_option maxHeartbeats 4000000 in
set_option maxRecDepth 100000 in
theorem k_X9_rings_207 {v1 : Int32} {v4 : Int32} {σ : St} {K : St → Prop} {Φ12 : Int32 → St → Prop} (C : Cx p R s m args meth c shM G cX9_rings 5 3 RX9 none 0 0) (hΦ12 : ∀ (v1' : Int32) (σ' : St), Φ12 v1' σ' → Go p l e R s m args below meth c shM G 5 0 0 (MQ below (Qw shM G (RV K)) args s 0 0 (Fr shM G)) 12 [(0, .ref (G.2.2 0)), (1, .int (v1'))] [] σ') (h : J_X9_rings_207 v1 v4 σ K Φ12) : Go p l e R s m args below meth c shM G 5 0 0 (MQ below (Qw shM G (RV K)) args s 0 0 (Fr shM G)) 207 [(0, .ref (G.2.2 0)), (1, .int v1), (4, .int v4)] [] σ := by
  unfold J_X9_rings_207 at h
  refine g_aload_n (pc := 207) C 0 dX9_rings_207 rfl rfl ?_
  refine get_X9_16 (pc := 208) C rfl tw_878 dX9_rings_208 ?_
  refine g_iload (pc := 211) C 2 dX9_rings_211 rfl ?_
  refine g_iload_n (pc := 213) C 1 dX9_rings_213 rfl rfl ?_
  obtain ⟨g_, h⟩ := h
  refine g_iast (pc := 214) C rfl g_ dX9_rings_214 ?_
  refine g_aload_n (pc := 215) C 0 dX9_rings_215 rfl rfl ?_
  refine g_dup (pc := 216) C dX9_rings_216 rfl ?_
  refine get_X9_18 (pc := 217) C rfl tw_880 dX9_rings_217 ?_
  refine g_iconst (pc := 220) (v := 1) C dX9_rings_220 ic_1 ?_
  refine g_iadd (pc := 221) C dX9_rings_221 ?_
  refine put_X9_18 (pc := 222) C rfl tw_880 dX9_rings_222 ?_
  refine g_lv [0, 1] (lv2 := [(0, .ref (G.2.2 0)), (1, .int v1)]) rfl ?_
  exact k_X9_rings_225 C hΦ12 h
set_option maxHeartbeats 4000000 in
set_option maxRecDepth 100000 in
theorem k_X9_rings_157 {v1 : Int32} {v4 : Int32} {σ : St} {K : St → Prop} {Φ12 : Int32 → St → Prop} (C : Cx p R s m args meth c shM G cX9_rings 5 3 RX9 none 0 0) (hΦ12 : ∀ (v1' : Int32) (σ' : St), Φ12 v1' σ' → Go p l e R s m args below meth c shM G 5 0 0 (MQ below (Qw shM G (RV K)) args s 0 0 (Fr shM G)) 12 [(0, .ref (G.2.2 0)), (1, .int (v1'))] [] σ') (h : L_X9_rings_157 v1 K Φ12 v4 σ) : Go p l e R s m args below meth c shM G 5 0 0 (MQ below (Qw shM G (RV K)) args s 0 0 (Fr shM G)) 157 [(0, .ref (G.2.2 0)), (1, .int v1), (4, .int v4)] [] σ := by
  obtain ⟨n_, h⟩ := h
  induction n_ generalizing v4 σ with
  | zero => exact h.elim
  | succ n_ ih =>
    replace h : B_X9_rings_157 v1 K Φ12 (it2 (B_X9_rings_157 v1 K Φ12) n_) v4 σ := h
    unfold B_X9_rings_157 at h
    refine g_iload (pc := 157) C 2 dX9_rings_157 rfl ?_
    refine g_if_le (pc := 159) (tgt := 207) C dX9_rings_159 (by decide) (fun c_ => ?_) (fun c_ => ?_)
    · replace h := ite_t h c_
      refine g_lv [0, 1, 2] (lv2 := [(0, .ref (G.2.2 0)), (1, .int v1), (4, .int v4)]) rfl ?_
      exact k_X9_rings_207 C hΦ12 h
    · replace h := ite_f h c_
      refine g_aload_n (pc := 162) C 0 dX9_rings_162 rfl rfl ?_
      refine get_X9_15 (pc := 163) C rfl tw_877 dX9_rings_163 ?_
      refine g_aload_n (pc := 166) C 0 dX9_rings_166 rfl rfl ?_
      refine get_X9_16 (pc := 167) C rfl tw_878 dX9_rings_167 ?_
      refine g_iload (pc := 170) C 2 dX9_rings_170 rfl ?_
      refine g_iconst (pc := 172) (v := 1) C dX9_rings_172 ic_1 ?_
      refine g_isub (pc := 173) C dX9_rings_173 ?_
      obtain ⟨g_, h⟩ := h
      refine g_iald (pc := 174) C rfl g_ dX9_rings_174 ?_
      obtain ⟨g_, h⟩ := h
      refine g_iald (pc := 175) C rfl g_ dX9_rings_175 ?_
      refine g_aload_n (pc := 176) C 0 dX9_rings_176 rfl rfl ?_
      refine get_X9_15 (pc := 177) C rfl tw_877 dX9_rings_177 ?_
      refine g_iload_n (pc := 180) C 1 dX9_rings_180 rfl rfl ?_
      obtain ⟨g_, h⟩ := h
      refine g_iald (pc := 181) C rfl g_ dX9_rings_181 ?_
      refine g_icmp_le (pc := 182) (tgt := 207) C dX9_rings_182 (by decide) (fun c_ => ?_) (fun c_ => ?_)
      · replace h := ite_t h c_
        refine g_lv [0, 1, 2] (lv2 := [(0, .ref (G.2.2 0)), (1, .int v1), (4, .int v4)]) rfl ?_
        exact k_X9_rings_207 C hΦ12 h
      · replace h := ite_f h c_
        refine g_aload_n (pc := 185) C 0 dX9_rings_185 rfl rfl ?_
        refine get_X9_16 (pc := 186) C rfl tw_878 dX9_rings_186 ?_
        refine g_iload (pc := 189) C 2 dX9_rings_189 rfl ?_
        refine g_aload_n (pc := 191) C 0 dX9_rings_191 rfl rfl ?_
        refine get_X9_16 (pc := 192) C rfl tw_878 dX9_rings_192 ?_
        refine g_iload (pc := 195) C 2 dX9_rings_195 rfl ?_
        refine g_iconst (pc := 197) (v := 1) C dX9_rings_197 ic_1 ?_
        refine g_isub (pc := 198) C dX9_rings_198 ?_
        obtain ⟨g_, h⟩ := h
        refine g_iald (pc := 199) C rfl g_ dX9_rings_199 ?_
        obtain ⟨g_, h⟩ := h
        refine g_iast (pc := 200) C rfl g_ dX9_rings_200 ?_
        refine g_iinc (pc := 201) (lv2 := [(4, .int (v4 + (-1))), (0, .ref (G.2.2 0)), (1, .int v1)]) C 2 dX9_rings_201 ic_m1 rfl (by decide) rfl ?_
        refine g_goto (pc := 204) (tgt := 157) C dX9_rings_204 (by decide) ?_
        refine g_lv [1, 2, 0] (lv2 := [(0, .ref (G.2.2 0)), (1, .int v1), (4, .int (v4 + (-1)))]) rfl ?_
        exact ih h
set_option maxHeartbeats 4000000 in
set_option maxRecDepth 100000 in
theorem k_X9_rings_144 {v1 : Int32} {v3 : Int32} {kw0 : Nat} {nw0 : Nat} {w1 : Int32} {w2 : Int32} {σ : St} {K : St → Prop} {Φ12 : Int32 → St → Prop} (C : Cx p R s m args meth c shM G cX9_rings 5 3 RX9 none 0 0) (hkw0 : shM[kw0]? = some (10, nw0, 0)) (hΦ12 : ∀ (v1' : Int32) (σ' : St), Φ12 v1' σ' → Go p l e R s m args below meth c shM G 5 0 0 (MQ below (Qw shM G (RV K)) args s 0 0 (Fr shM G)) 12 [(0, .ref (G.2.2 0)), (1, .int (v1'))] [] σ') (h : J_X9_rings_144 v1 v3 kw0 nw0 w1 w2 σ K Φ12) : Go p l e R s m args below meth c shM G 5 0 0 (MQ below (Qw shM G (RV K)) args s 0 0 (Fr shM G)) 144 [(0, .ref (G.2.2 0)), (1, .int v1), (3, .int v3)] [.int w2, .int w1, .ref (G.2.2 kw0)] σ := by
  unfold J_X9_rings_144 at h
  obtain ⟨g_, h⟩ := h
  refine g_iast (pc := 144) C hkw0 g_ dX9_rings_144 ?_
  refine g_iload_n (pc := 145) C 2 dX9_rings_145 rfl rfl ?_
  refine g_bipush (pc := 146) (v := -9) C dX9_rings_146 bp_m9 ?_
  refine g_icmp_eq (pc := 148) (tgt := 225) C dX9_rings_148 (by decide) (fun c_ => ?_) (fun c_ => ?_)
  · replace h := ite_t h c_
    refine g_lv [0, 1] (lv2 := [(0, .ref (G.2.2 0)), (1, .int v1)]) rfl ?_
    exact k_X9_rings_225 C hΦ12 h
  · replace h := ite_f h c_
    refine g_aload_n (pc := 151) C 0 dX9_rings_151 rfl rfl ?_
    refine get_X9_18 (pc := 152) C rfl tw_880 dX9_rings_152 ?_
    refine g_istore (pc := 155) (lv2 := [(4, .int ((uI σ kw0 w1.toNatClampNeg w2).1 0 18)), (0, .ref (G.2.2 0)), (1, .int v1), (3, .int v3)]) C dX9_rings_155 (by decide) rfl ?_
    refine g_lv [1, 2, 0] (lv2 := [(0, .ref (G.2.2 0)), (1, .int v1), (4, .int ((uI σ kw0 w1.toNatClampNeg w2).1 0 18))]) rfl ?_
    exact k_X9_rings_157 C hΦ12 h
set_option maxHeartbeats 4000000 in
set_option maxRecDepth 100000 in
theorem k_X9_rings_122 {v1 : Int32} {w0 : Int32} {σ : St} {K : St → Prop} {Φ12 : Int32 → St → Prop} (C : Cx p R s m args meth c shM G cX9_rings 5 3 RX9 none 0 0) (hΦ12 : ∀ (v1' : Int32) (σ' : St), Φ12 v1' σ' → Go p l e R s m args below meth c shM G 5 0 0 (MQ below (Qw shM G (RV K)) args s 0 0 (Fr shM G)) 12 [(0, .ref (G.2.2 0)), (1, .int (v1'))] [] σ') (h : J_X9_rings_122 v1 w0 σ K Φ12) : Go p l e R s m args below meth c shM G 5 0 0 (MQ below (Qw shM G (RV K)) args s 0 0 (Fr shM G)) 122 [(0, .ref (G.2.2 0)), (1, .int v1)] [.int w0] σ := by
  unfold J_X9_rings_122 at h
  refine g_istore_n (pc := 122) (lv2 := [(3, .int w0), (0, .ref (G.2.2 0)), (1, .int v1)]) C dX9_rings_122 rfl (by decide) rfl ?_
  refine g_aload_n (pc := 123) C 1 dX9_rings_123 rfl rfl ?_
  refine get_X9_15 (pc := 124) C rfl tw_877 dX9_rings_124 ?_
  refine g_iload_n (pc := 127) C 2 dX9_rings_127 rfl rfl ?_
  refine g_iload_n (pc := 128) C 0 dX9_rings_128 rfl rfl ?_
  refine g_bipush (pc := 129) (v := -9) C dX9_rings_129 bp_m9 ?_
  refine g_icmp_ne (pc := 131) (tgt := 139) C dX9_rings_131 (by decide) (fun c_ => ?_) (fun c_ => ?_)
  · replace h := ite_f h c_
    refine g_iconst (pc := 139) (v := 2) C dX9_rings_139 ic_2 ?_
    refine g_iload_n (pc := 140) C 2 dX9_rings_140 rfl rfl ?_
    refine g_imul (pc := 141) C dX9_rings_141 ?_
    refine g_iload_n (pc := 142) C 0 dX9_rings_142 rfl rfl ?_
    refine g_iadd (pc := 143) C dX9_rings_143 ?_
    refine g_lv [1, 2, 0] (lv2 := [(0, .ref (G.2.2 0)), (1, .int v1), (3, .int w0)]) rfl ?_
    exact k_X9_rings_144 C rfl hΦ12 h
  · replace h := ite_t h c_
    refine g_bipush (pc := 134) (v := -9) C dX9_rings_134 bp_m9 ?_
    refine g_goto (pc := 136) (tgt := 144) C dX9_rings_136 (by decide) ?_
    refine g_lv [1, 2, 0] (lv2 := [(0, .ref (G.2.2 0)), (1, .int v1), (3, .int w0)]) rfl ?_
    exact k_X9_rings_144 C rfl hΦ12 h
set_option maxHeartbeats 4000000 in
set_option maxRecDepth 100000 in
theorem k_X9_rings_79 {v1 : Int32} {v2 : Int32} {w1 : Int32} {σ : St} {K : St → Prop} {Φ12 : Int32 → St → Prop} (C : Cx p R s m args meth c shM G cX9_rings 5 3 RX9 none 0 0) (hΦ12 : ∀ (v1' : Int32) (σ' : St), Φ12 v1' σ' → Go p l e R s m args below meth c shM G 5 0 0 (MQ below (Qw shM G (RV K)) args s 0 0 (Fr shM G)) 12 [(0, .ref (G.2.2 0)), (1, .int (v1'))] [] σ') (h : J_X9_rings_79 v1 v2 w1 σ K Φ12) : Go p l e R s m args below meth c shM G 5 0 0 (MQ below (Qw shM G (RV K)) args s 0 0 (Fr shM G)) 79 [(0, .ref (G.2.2 0)), (1, .int v1), (2, .int v2)] [.int w1, .ref (G.2.2 0)] σ := by
  unfold J_X9_rings_79 at h
  obtain ⟨g_, h⟩ := h
  refine put_X9_17 (pc := 79) C rfl g_ tw_879 dX9_rings_79 ?_
  refine g_aload_n (pc := 82) C 0 dX9_rings_82 rfl rfl ?_
  refine g_iload_n (pc := 83) C 1 dX9_rings_83 rfl rfl ?_
  refine g_callVip (pc := 84) (As := [.int v1]) (rest := []) C rfl rfl rfl rfl (M_X9_isOver C.2.2.1  h) CyX9_isOver tw_1089 tw_1091 ts_38 (by decide) rfl rfl (Nat.le_of_ble_eq_true rfl) dX9_rings_84 (fun r84 h => ?_)
  refine g_if_eq (pc := 87) (tgt := 95) C dX9_rings_87 (by decide) (fun c_ => ?_) (fun c_ => ?_)
  · replace h := ite_t h c_
    refine g_aload_n (pc := 95) C 0 dX9_rings_95 rfl rfl ?_
    refine get_X9_0 (pc := 96) C rfl tw_862 dX9_rings_96 ?_
    refine g_iconst (pc := 99) (v := 2) C dX9_rings_99 ic_2 ?_
    refine g_iload_n (pc := 100) C 1 dX9_rings_100 rfl rfl ?_
    refine g_iadd (pc := 101) C dX9_rings_101 ?_
    obtain ⟨g_, h⟩ := h
    refine g_iald (pc := 102) C rfl g_ dX9_rings_102 ?_
    refine g_aload_n (pc := 103) C 0 dX9_rings_103 rfl rfl ?_
    refine get_X9_0 (pc := 104) C rfl tw_862 dX9_rings_104 ?_
    refine g_bipush (pc := 107) (v := 8) C dX9_rings_107 bp_8 ?_
    refine g_iload_n (pc := 109) C 1 dX9_rings_109 rfl rfl ?_
    refine g_iadd (pc := 110) C dX9_rings_110 ?_
    obtain ⟨g_, h⟩ := h
    refine g_iald (pc := 111) C rfl g_ dX9_rings_111 ?_
    refine g_iload_n (pc := 112) C 2 dX9_rings_112 rfl rfl ?_
    refine g_aload_n (pc := 113) C 0 dX9_rings_113 rfl rfl ?_
    refine get_X9_0 (pc := 114) C rfl tw_862 dX9_rings_114 ?_
    refine g_iconst (pc := 117) (v := 1) C dX9_rings_117 ic_1 ?_
    obtain ⟨g_, h⟩ := h
    refine g_iald (pc := 118) C rfl g_ dX9_rings_118 ?_
    refine g_callSip (pc := 119) (As := [.int ((uI σ 0 17 w1).1 1 (2 + v1).toNatClampNeg), .int ((uI σ 0 17 w1).1 1 (8 + v1).toNatClampNeg), .int v2, .int ((uI σ 0 17 w1).1 1 (1 : Int32).toNatClampNeg)]) (rest := []) C (M_X9_tenthsOf C.2.2.1  h) CyX9_tenthsOf tw_1074 tw_1075 (by decide) rfl rfl (Nat.le_of_ble_eq_true rfl) dX9_rings_119 (fun r119 h => ?_)
    refine g_lv [0, 1] (lv2 := [(0, .ref (G.2.2 0)), (1, .int v1)]) rfl ?_
    exact k_X9_rings_122 C hΦ12 h
  · replace h := ite_f h c_
    refine g_bipush (pc := 90) (v := -9) C dX9_rings_90 bp_m9 ?_
    refine g_goto (pc := 92) (tgt := 122) C dX9_rings_92 (by decide) ?_
    refine g_lv [0, 1] (lv2 := [(0, .ref (G.2.2 0)), (1, .int v1)]) rfl ?_
    exact k_X9_rings_122 C hΦ12 h
set_option maxHeartbeats 4000000 in
set_option maxRecDepth 100000 in
theorem k_X9_rings_74 {v1 : Int32} {v2 : Int32} {σ : St} {K : St → Prop} {Φ12 : Int32 → St → Prop} (C : Cx p R s m args meth c shM G cX9_rings 5 3 RX9 none 0 0) (hΦ12 : ∀ (v1' : Int32) (σ' : St), Φ12 v1' σ' → Go p l e R s m args below meth c shM G 5 0 0 (MQ below (Qw shM G (RV K)) args s 0 0 (Fr shM G)) 12 [(0, .ref (G.2.2 0)), (1, .int (v1'))] [] σ') (h : J_X9_rings_74 v1 v2 σ K Φ12) : Go p l e R s m args below meth c shM G 5 0 0 (MQ below (Qw shM G (RV K)) args s 0 0 (Fr shM G)) 74 [(0, .ref (G.2.2 0)), (1, .int v1), (2, .int v2)] [.ref (G.2.2 0)] σ := by
  unfold J_X9_rings_74 at h
  refine g_iconst (pc := 74) (v := 1) C dX9_rings_74 ic_1 ?_
  refine g_goto (pc := 75) (tgt := 79) C dX9_rings_75 (by decide) ?_
  refine g_lv [0, 1, 2] (lv2 := [(0, .ref (G.2.2 0)), (1, .int v1), (2, .int v2)]) rfl ?_
  exact k_X9_rings_79 C hΦ12 h
set_option maxHeartbeats 4000000 in
set_option maxRecDepth 100000 in
theorem k_X9_rings_60 {v1 : Int32} {w0 : Int32} {σ : St} {K : St → Prop} {Φ12 : Int32 → St → Prop} (C : Cx p R s m args meth c shM G cX9_rings 5 3 RX9 none 0 0) (hΦ12 : ∀ (v1' : Int32) (σ' : St), Φ12 v1' σ' → Go p l e R s m args below meth c shM G 5 0 0 (MQ below (Qw shM G (RV K)) args s 0 0 (Fr shM G)) 12 [(0, .ref (G.2.2 0)), (1, .int (v1'))] [] σ') (h : J_X9_rings_60 v1 w0 σ K Φ12) : Go p l e R s m args below meth c shM G 5 0 0 (MQ below (Qw shM G (RV K)) args s 0 0 (Fr shM G)) 60 [(0, .ref (G.2.2 0)), (1, .int v1)] [.int w0] σ := by
  unfold J_X9_rings_60 at h
  refine g_istore_n (pc := 60) (lv2 := [(2, .int w0), (0, .ref (G.2.2 0)), (1, .int v1)]) C dX9_rings_60 rfl (by decide) rfl ?_
  refine g_aload_n (pc := 61) C 1 dX9_rings_61 rfl rfl ?_
  refine g_aload_n (pc := 62) C 1 dX9_rings_62 rfl rfl ?_
  refine get_X9_17 (pc := 63) C rfl tw_879 dX9_rings_63 ?_
  refine g_if_ne (pc := 66) (tgt := 74) C dX9_rings_66 (by decide) (fun c_ => ?_) (fun c_ => ?_)
  · replace h := ite_f h c_
    refine g_lv [1, 2, 0] (lv2 := [(0, .ref (G.2.2 0)), (1, .int v1), (2, .int w0)]) rfl ?_
    exact k_X9_rings_74 C hΦ12 h
  · replace h := ite_t h c_
    refine g_iload_n (pc := 69) C 0 dX9_rings_69 rfl rfl ?_
    refine g_iconst (pc := 70) (v := -1) C dX9_rings_70 ic_m1 ?_
    refine g_icmp_ne (pc := 71) (tgt := 78) C dX9_rings_71 (by decide) (fun c_ => ?_) (fun c_ => ?_)
    · replace h := ite_f h c_
      refine g_iconst (pc := 78) (v := 0) C dX9_rings_78 ic_0 ?_
      refine g_lv [1, 2, 0] (lv2 := [(0, .ref (G.2.2 0)), (1, .int v1), (2, .int w0)]) rfl ?_
      exact k_X9_rings_79 C hΦ12 h
    · replace h := ite_t h c_
      refine g_lv [1, 2, 0] (lv2 := [(0, .ref (G.2.2 0)), (1, .int v1), (2, .int w0)]) rfl ?_
      exact k_X9_rings_74 C hΦ12 h
set_option maxHeartbeats 4000000 in
set_option maxRecDepth 100000 in
theorem k_X9_rings_12 {v1 : Int32} {σ : St} {K : St → Prop} (C : Cx p R s m args meth c shM G cX9_rings 5 3 RX9 none 0 0) (h : L_X9_rings_12 K v1 σ) : Go p l e R s m args below meth c shM G 5 0 0 (MQ below (Qw shM G (RV K)) args s 0 0 (Fr shM G)) 12 [(0, .ref (G.2.2 0)), (1, .int v1)] [] σ := by
  obtain ⟨n_, h⟩ := h
  induction n_ generalizing v1 σ with
  | zero => exact h.elim
  | succ n_ ih =>
    replace h : B_X9_rings_12 K (it2 (B_X9_rings_12 K) n_) v1 σ := h
    unfold B_X9_rings_12 at h
    refine g_iload_n (pc := 12) C 1 dX9_rings_12 rfl rfl ?_
    refine g_aload_n (pc := 13) C 0 dX9_rings_13 rfl rfl ?_
    refine get_X9_0 (pc := 14) C rfl tw_862 dX9_rings_14 ?_
    refine g_iconst (pc := 17) (v := 0) C dX9_rings_17 ic_0 ?_
    obtain ⟨g_, h⟩ := h
    refine g_iald (pc := 18) C rfl g_ dX9_rings_18 ?_
    refine g_icmp_ge (pc := 19) (tgt := 231) C dX9_rings_19 (by decide) (fun c_ => ?_) (fun c_ => ?_)
    · replace h := ite_t h c_
      exact g_vret (pc := 231) C dX9_rings_231 ⟨rfl, h⟩
    · replace h := ite_f h c_
      refine g_aload_n (pc := 22) C 0 dX9_rings_22 rfl rfl ?_
      refine g_iload_n (pc := 23) C 1 dX9_rings_23 rfl rfl ?_
      refine g_callVip (pc := 24) (As := [.int v1]) (rest := []) C rfl rfl rfl rfl (M_X9_isOver C.2.2.1  h) CyX9_isOver tw_1089 tw_1091 ts_38 (by decide) rfl rfl (Nat.le_of_ble_eq_true rfl) dX9_rings_24 (fun r24 h => ?_)
      refine g_if_eq (pc := 27) (tgt := 34) C dX9_rings_27 (by decide) (fun c_ => ?_) (fun c_ => ?_)
      · replace h := ite_t h c_
        refine g_aload_n (pc := 34) C 0 dX9_rings_34 rfl rfl ?_
        refine get_X9_0 (pc := 35) C rfl tw_862 dX9_rings_35 ?_
        refine g_iconst (pc := 38) (v := 2) C dX9_rings_38 ic_2 ?_
        refine g_iload_n (pc := 39) C 1 dX9_rings_39 rfl rfl ?_
        refine g_iadd (pc := 40) C dX9_rings_40 ?_
        obtain ⟨g_, h⟩ := h
        refine g_iald (pc := 41) C rfl g_ dX9_rings_41 ?_
        refine g_aload_n (pc := 42) C 0 dX9_rings_42 rfl rfl ?_
        refine get_X9_0 (pc := 43) C rfl tw_862 dX9_rings_43 ?_
        refine g_bipush (pc := 46) (v := 14) C dX9_rings_46 bp_14 ?_
        refine g_iload_n (pc := 48) C 1 dX9_rings_48 rfl rfl ?_
        refine g_iadd (pc := 49) C dX9_rings_49 ?_
        obtain ⟨g_, h⟩ := h
        refine g_iald (pc := 50) C rfl g_ dX9_rings_50 ?_
        refine g_aload_n (pc := 51) C 0 dX9_rings_51 rfl rfl ?_
        refine get_X9_14 (pc := 52) C rfl tw_876 dX9_rings_52 ?_
        refine g_iload_n (pc := 55) C 1 dX9_rings_55 rfl rfl ?_
        obtain ⟨g_, h⟩ := h
        refine g_iald (pc := 56) C rfl g_ dX9_rings_56 ?_
        refine g_callSip (pc := 57) (As := [.int (σ.1 1 (2 + v1).toNatClampNeg), .int (σ.1 1 (14 + v1).toNatClampNeg), .int (σ.1 9 v1.toNatClampNeg)]) (rest := []) C (M_X9_after C.2.2.1  h) CyX9_after tw_1061 tw_1062 (by decide) rfl rfl (Nat.le_of_ble_eq_true rfl) dX9_rings_57 (fun r57 h => ?_)
        refine g_lv [0, 1] (lv2 := [(0, .ref (G.2.2 0)), (1, .int v1)]) rfl ?_
        exact k_X9_rings_60 C (fun _ _ h_ => ih h_) h
      · replace h := ite_f h c_
        refine g_iconst (pc := 30) (v := 0) C dX9_rings_30 ic_0 ?_
        refine g_goto (pc := 31) (tgt := 60) C dX9_rings_31 (by decide) ?_
        refine g_lv [0, 1] (lv2 := [(0, .ref (G.2.2 0)), (1, .int v1)]) rfl ?_
        exact k_X9_rings_60 C (fun _ _ h_ => ih h_) h
set_option maxHeartbeats 4000000 in
set_option maxRecDepth 100000 in
theorem M_X9_rings {l : Launch} {G : Gp} (hD : Dj shM G) {σ : St} {K : St → Prop} (h : wp_X9_rings σ K) : MC l shM G yX9_rings cX9_rings 5 none 3 [.ref (G.2.2 0)] σ (RV K) := by
  unfold wp_X9_rings at h
  refine MC.of (by decide) hD (Nat.le_of_ble_eq_true rfl) ?_
  intro p e s m args below meth c C
  replace C : Cx p (rmD 3) s m args meth c shM G cX9_rings 5 3 RX9 none 0 0 := C
  show Go p l e (rmD 3) s m args below meth c shM G 5 0 0 (MQ below (Qw shM G (RV K)) args s 0 0 (Fr shM G)) 0 [(0, .ref (G.2.2 0))] [] σ
  refine g_aload_n (pc := 0) C 0 dX9_rings_0 rfl rfl ?_
  refine g_iconst (pc := 1) (v := 0) C dX9_rings_1 ic_0 ?_
  refine put_X9_17 (pc := 2) C rfl (by first | exact Or.inl rfl | exact Or.inr rfl) tw_879 dX9_rings_2 ?_
  refine g_aload_n (pc := 5) C 0 dX9_rings_5 rfl rfl ?_
  refine g_iconst (pc := 6) (v := 0) C dX9_rings_6 ic_0 ?_
  refine put_X9_18 (pc := 7) C rfl tw_880 dX9_rings_7 ?_
  refine g_iconst (pc := 10) (v := 0) C dX9_rings_10 ic_0 ?_
  refine g_istore_n (pc := 11) (lv2 := [(1, .int 0), (0, .ref (G.2.2 0))]) C dX9_rings_11 rfl (by decide) rfl ?_
  refine g_lv [1, 0] (lv2 := [(0, .ref (G.2.2 0)), (1, .int 0)]) rfl ?_
  exact k_X9_rings_12 C  h
set_option maxHeartbeats 4000000 in
set_option maxRecDepth 100000 in
theorem k_X9_sounds_28 {v2 : Int32} {w0 : Int32} {w1 : Int32} {σ : St} {K : Int32 → Prop} {Φ4 : Int32 → Int32 → Prop} (C : Cx p R s m args meth c shM G cX9_sounds 3 2 RX9 (some .int) 0 0) (hΦ4 : ∀ (v1' : Int32) (v2' : Int32), Φ4 v1' v2' → Go p l e R s m args below meth c shM G 3 0 0 (MQ below (Qw shM G (RI (fun r t => t = σ ∧ K r))) args s 0 0 (Fr shM G)) 4 [(0, .ref (G.2.2 0)), (1, .int (v1')), (2, .int (v2'))] [] σ) (h : J_X9_sounds_28 v2 w0 w1 σ K Φ4) : Go p l e R s m args below meth c shM G 3 0 0 (MQ below (Qw shM G (RI (fun r t => t = σ ∧ K r))) args s 0 0 (Fr shM G)) 28 [(0, .ref (G.2.2 0)), (2, .int v2)] [.int w1, .int w0] σ := by
  unfold J_X9_sounds_28 at h
  refine g_iadd (pc := 28) C dX9_sounds_28 ?_
  refine g_istore_n (pc := 29) (lv2 := [(1, .int (w0 + w1)), (0, .ref (G.2.2 0)), (2, .int v2)]) C dX9_sounds_29 rfl (by decide) rfl ?_
  refine g_iinc (pc := 30) (lv2 := [(2, .int (v2 + 1)), (1, .int (w0 + w1)), (0, .ref (G.2.2 0))]) C 2 dX9_sounds_30 ic_1 rfl (by decide) rfl ?_
  refine g_goto (pc := 33) (tgt := 4) C dX9_sounds_33 (by decide) ?_
  refine g_lv [2, 1, 0] (lv2 := [(0, .ref (G.2.2 0)), (1, .int (w0 + w1)), (2, .int (v2 + 1))]) rfl ?_
  exact hΦ4 _ _ h
set_option maxHeartbeats 4000000 in
set_option maxRecDepth 100000 in
theorem k_X9_sounds_4 {v1 : Int32} {v2 : Int32} {σ : St} {K : Int32 → Prop} (C : Cx p R s m args meth c shM G cX9_sounds 3 2 RX9 (some .int) 0 0) (h : L_X9_sounds_4 σ K v1 v2) : Go p l e R s m args below meth c shM G 3 0 0 (MQ below (Qw shM G (RI (fun r t => t = σ ∧ K r))) args s 0 0 (Fr shM G)) 4 [(0, .ref (G.2.2 0)), (1, .int v1), (2, .int v2)] [] σ := by
  obtain ⟨n_, h⟩ := h
  induction n_ generalizing v1 v2 with
  | zero => exact h.elim
  | succ n_ ih =>
    replace h : B_X9_sounds_4 σ K (it2 (B_X9_sounds_4 σ K) n_) v1 v2 := h
    unfold B_X9_sounds_4 at h
    refine g_iload_n (pc := 4) C 2 dX9_sounds_4 rfl rfl ?_
    refine g_aload_n (pc := 5) C 0 dX9_sounds_5 rfl rfl ?_
    refine get_X9_0 (pc := 6) C rfl tw_862 dX9_sounds_6 ?_
    refine g_iconst (pc := 9) (v := 0) C dX9_sounds_9 ic_0 ?_
    obtain ⟨g_, h⟩ := h
    refine g_iald (pc := 10) C rfl g_ dX9_sounds_10 ?_
    refine g_icmp_ge (pc := 11) (tgt := 36) C dX9_sounds_11 (by decide) (fun c_ => ?_) (fun c_ => ?_)
    · replace h := ite_t h c_
      refine g_iload_n (pc := 36) C 1 dX9_sounds_36 rfl rfl ?_
      exact g_iret (pc := 37) C dX9_sounds_37 ⟨_, rfl, ⟨rfl, h⟩⟩
    · replace h := ite_f h c_
      refine g_iload_n (pc := 14) C 1 dX9_sounds_14 rfl rfl ?_
      refine g_aload_n (pc := 15) C 0 dX9_sounds_15 rfl rfl ?_
      refine g_iload_n (pc := 16) C 2 dX9_sounds_16 rfl rfl ?_
      refine g_callVip (pc := 17) (As := [.int v2]) (rest := [.int v1]) C rfl rfl rfl rfl (M_X9_isOver C.2.2.1  h) CyX9_isOver tw_1089 tw_1091 ts_38 (by decide) rfl rfl (Nat.le_of_ble_eq_true rfl) dX9_sounds_17 (fun r17 h => ?_)
      refine g_if_eq (pc := 20) (tgt := 27) C dX9_sounds_20 (by decide) (fun c_ => ?_) (fun c_ => ?_)
      · replace h := ite_t h c_
        refine g_iconst (pc := 27) (v := 1) C dX9_sounds_27 ic_1 ?_
        refine g_lv [0, 2] (lv2 := [(0, .ref (G.2.2 0)), (2, .int v2)]) rfl ?_
        exact k_X9_sounds_28 C (fun _ _ h_ => ih h_) h
      · replace h := ite_f h c_
        refine g_iconst (pc := 23) (v := 0) C dX9_sounds_23 ic_0 ?_
        refine g_goto (pc := 24) (tgt := 28) C dX9_sounds_24 (by decide) ?_
        refine g_lv [0, 2] (lv2 := [(0, .ref (G.2.2 0)), (2, .int v2)]) rfl ?_
        exact k_X9_sounds_28 C (fun _ _ h_ => ih h_) h
set_option maxHeartbeats 4000000 in
set_option maxRecDepth 100000 in
theorem M_X9_sounds {l : Launch} {G : Gp} (hD : Dj shM G) {σ : St} {K : Int32 → Prop} (h : wp_X9_sounds σ K) : MC l shM G yX9_sounds cX9_sounds 3 (some .int) 2 [.ref (G.2.2 0)] σ (RI (fun r t => t = σ ∧ K r)) := by
  unfold wp_X9_sounds at h
  refine MC.of (by decide) hD (Nat.le_of_ble_eq_true rfl) ?_
  intro p e s m args below meth c C
  replace C : Cx p (rmD 2) s m args meth c shM G cX9_sounds 3 2 RX9 (some .int) 0 0 := C
  show Go p l e (rmD 2) s m args below meth c shM G 3 0 0 (MQ below (Qw shM G (RI (fun r t => t = σ ∧ K r))) args s 0 0 (Fr shM G)) 0 [(0, .ref (G.2.2 0))] [] σ
  refine g_iconst (pc := 0) (v := 0) C dX9_sounds_0 ic_0 ?_
  refine g_istore_n (pc := 1) (lv2 := [(1, .int 0), (0, .ref (G.2.2 0))]) C dX9_sounds_1 rfl (by decide) rfl ?_
  refine g_iconst (pc := 2) (v := 0) C dX9_sounds_2 ic_0 ?_
  refine g_istore_n (pc := 3) (lv2 := [(2, .int 0), (1, .int 0), (0, .ref (G.2.2 0))]) C dX9_sounds_3 rfl (by decide) rfl ?_
  refine g_lv [2, 1, 0] (lv2 := [(0, .ref (G.2.2 0)), (1, .int 0), (2, .int 0)]) rfl ?_
  exact k_X9_sounds_4 C  h
set_option maxHeartbeats 4000000 in
set_option maxRecDepth 100000 in
theorem k_X9_isAll_27 {w0 : Int32} {σ : St} {K : Int32 → St → Prop} (C : Cx p R s m args meth c shM G cX9_isAll 1 4 RX9 (some .boolean) 0 0) (h : J_X9_isAll_27 w0 σ K) : Go p l e R s m args below meth c shM G 1 0 0 (MQ below (Qw shM G (RI K)) args s 0 0 (Fr shM G)) 27 [] [.int w0] σ := by
  unfold J_X9_isAll_27 at h
  obtain ⟨g_, h⟩ := h
  exact g_zret (pc := 27) C g_ dX9_isAll_27 ⟨_, rfl, h⟩
set_option maxHeartbeats 4000000 in
set_option maxRecDepth 100000 in
theorem k_X9_isAll_26 {σ : St} {K : Int32 → St → Prop} (C : Cx p R s m args meth c shM G cX9_isAll 1 4 RX9 (some .boolean) 0 0) (h : J_X9_isAll_26 σ K) : Go p l e R s m args below meth c shM G 1 0 0 (MQ below (Qw shM G (RI K)) args s 0 0 (Fr shM G)) 26 [] [] σ := by
  unfold J_X9_isAll_26 at h
  refine g_iconst (pc := 26) (v := 0) C dX9_isAll_26 ic_0 ?_
  refine g_lv [] (lv2 := []) rfl ?_
  exact k_X9_isAll_27 C  h
set_option maxHeartbeats 4000000 in
set_option maxRecDepth 100000 in
theorem M_X9_isAll {l : Launch} {G : Gp} (hD : Dj shM G) {σ : St} {K : Int32 → St → Prop} (h : wp_X9_isAll σ K) : MC l shM G yX9_isAll cX9_isAll 1 (some .boolean) 4 [.ref (G.2.2 0)] σ (RI K) := by
  unfold wp_X9_isAll at h
  refine MC.of (by decide) hD (Nat.le_of_ble_eq_true rfl) ?_
  intro p e s m args below meth c C
  replace C : Cx p (rmD 4) s m args meth c shM G cX9_isAll 1 4 RX9 (some .boolean) 0 0 := C
  show Go p l e (rmD 4) s m args below meth c shM G 1 0 0 (MQ below (Qw shM G (RI K)) args s 0 0 (Fr shM G)) 0 [(0, .ref (G.2.2 0))] [] σ
  refine g_aload_n (pc := 0) C 0 dX9_isAll_0 rfl rfl ?_
  refine g_callVv (pc := 1) (As := []) (rest := []) C rfl rfl rfl rfl (M_X9_rings C.2.2.1  h) CyX9_rings tw_1113 tw_1115 ts_43 (by decide) rfl rfl (Nat.le_of_ble_eq_true rfl) dX9_isAll_1 (fun t1 h => ?_)
  refine g_aload_n (pc := 4) C 0 dX9_isAll_4 rfl rfl ?_
  refine get_X9_17 (pc := 5) C rfl tw_879 dX9_isAll_5 ?_
  refine g_if_ne (pc := 8) (tgt := 26) C dX9_isAll_8 (by decide) (fun c_ => ?_) (fun c_ => ?_)
  · replace h := ite_f h c_
    refine g_lv [] (lv2 := []) rfl ?_
    exact k_X9_isAll_26 C  h
  · replace h := ite_t h c_
    refine g_aload_n (pc := 11) C 0 dX9_isAll_11 rfl rfl ?_
    refine get_X9_18 (pc := 12) C rfl tw_880 dX9_isAll_12 ?_
    refine g_aload_n (pc := 15) C 0 dX9_isAll_15 rfl rfl ?_
    refine g_callVip (pc := 16) (As := []) (rest := [.int (t1.1 0 18)]) C rfl rfl rfl rfl (M_X9_sounds C.2.2.1  h) CyX9_sounds tw_1206 tw_1208 ts_50 (by decide) rfl rfl (Nat.le_of_ble_eq_true rfl) dX9_isAll_16 (fun r16 h => ?_)
    refine g_icmp_ne (pc := 19) (tgt := 26) C dX9_isAll_19 (by decide) (fun c_ => ?_) (fun c_ => ?_)
    · replace h := ite_f h c_
      refine g_lv [] (lv2 := []) rfl ?_
      exact k_X9_isAll_26 C  h
    · replace h := ite_t h c_
      refine g_iconst (pc := 22) (v := 1) C dX9_isAll_22 ic_1 ?_
      refine g_goto (pc := 23) (tgt := 27) C dX9_isAll_23 (by decide) ?_
      refine g_lv [] (lv2 := []) rfl ?_
      exact k_X9_isAll_27 C  h
set_option maxHeartbeats 4000000 in
set_option maxRecDepth 100000 in
theorem k_X9_isNext_45 {v1 : Int32} {σ : St} {K : Int32 → St → Prop} (C : Cx p R s m args meth c shM G cX9_isNext 2 2 RX9 (some .boolean) 0 0) (h : J_X9_isNext_45 v1 σ K) : Go p l e R s m args below meth c shM G 2 0 0 (MQ below (Qw shM G (RI K)) args s 0 0 (Fr shM G)) 45 [(0, .ref (G.2.2 0)), (1, .int v1)] [] σ := by
  unfold J_X9_isNext_45 at h
  refine g_iload_n (pc := 45) C 1 dX9_isNext_45 rfl rfl ?_
  refine g_if_ge (pc := 46) (tgt := 51) C dX9_isNext_46 (by decide) (fun c_ => ?_) (fun c_ => ?_)
  · replace h := ite_t h c_
    refine g_aload_n (pc := 51) C 0 dX9_isNext_51 rfl rfl ?_
    refine get_X9_14 (pc := 52) C rfl tw_876 dX9_isNext_52 ?_
    refine g_iload_n (pc := 55) C 1 dX9_isNext_55 rfl rfl ?_
    refine g_dup2 (pc := 56) C dX9_isNext_56 rfl rfl ?_
    obtain ⟨g_, h⟩ := h
    refine g_iald (pc := 57) C rfl g_ dX9_isNext_57 ?_
    refine g_iconst (pc := 58) (v := 1) C dX9_isNext_58 ic_1 ?_
    refine g_iadd (pc := 59) C dX9_isNext_59 ?_
    obtain ⟨g_, h⟩ := h
    refine g_iast (pc := 60) C rfl g_ dX9_isNext_60 ?_
    refine g_iconst (pc := 61) (v := 1) C dX9_isNext_61 ic_1 ?_
    exact g_zret (pc := 62) C (by first | exact Or.inl rfl | exact Or.inr rfl) dX9_isNext_62 ⟨_, rfl, h⟩
  · replace h := ite_f h c_
    refine g_iconst (pc := 49) (v := 0) C dX9_isNext_49 ic_0 ?_
    exact g_zret (pc := 50) C (by first | exact Or.inl rfl | exact Or.inr rfl) dX9_isNext_50 ⟨_, rfl, h⟩
set_option maxHeartbeats 4000000 in
set_option maxRecDepth 100000 in
theorem k_X9_isNext_32 {v1 : Int32} {σ : St} {K : Int32 → St → Prop} {Φ9 : Int32 → St → Prop} (C : Cx p R s m args meth c shM G cX9_isNext 2 2 RX9 (some .boolean) 0 0) (hΦ9 : ∀ (v1' : Int32) (σ' : St), Φ9 v1' σ' → Go p l e R s m args below meth c shM G 2 0 0 (MQ below (Qw shM G (RI K)) args s 0 0 (Fr shM G)) 9 [(0, .ref (G.2.2 0)), (1, .int (v1'))] [] σ') (h : J_X9_isNext_32 v1 σ K Φ9) : Go p l e R s m args below meth c shM G 2 0 0 (MQ below (Qw shM G (RI K)) args s 0 0 (Fr shM G)) 32 [(0, .ref (G.2.2 0)), (1, .int v1)] [] σ := by
  unfold J_X9_isNext_32 at h
  refine g_aload_n (pc := 32) C 0 dX9_isNext_32 rfl rfl ?_
  refine get_X9_14 (pc := 33) C rfl tw_876 dX9_isNext_33 ?_
  refine g_iload_n (pc := 36) C 1 dX9_isNext_36 rfl rfl ?_
  refine g_iconst (pc := 37) (v := 0) C dX9_isNext_37 ic_0 ?_
  obtain ⟨g_, h⟩ := h
  refine g_iast (pc := 38) C rfl g_ dX9_isNext_38 ?_
  refine g_iinc (pc := 39) (lv2 := [(1, .int (v1 + (-1))), (0, .ref (G.2.2 0))]) C 1 dX9_isNext_39 ic_m1 rfl (by decide) rfl ?_
  refine g_goto (pc := 42) (tgt := 9) C dX9_isNext_42 (by decide) ?_
  refine g_lv [1, 0] (lv2 := [(0, .ref (G.2.2 0)), (1, .int (v1 + (-1)))]) rfl ?_
  exact hΦ9 _ _ h
set_option maxHeartbeats 4000000 in
set_option maxRecDepth 100000 in
theorem k_X9_isNext_9 {v1 : Int32} {σ : St} {K : Int32 → St → Prop} (C : Cx p R s m args meth c shM G cX9_isNext 2 2 RX9 (some .boolean) 0 0) (h : L_X9_isNext_9 K v1 σ) : Go p l e R s m args below meth c shM G 2 0 0 (MQ below (Qw shM G (RI K)) args s 0 0 (Fr shM G)) 9 [(0, .ref (G.2.2 0)), (1, .int v1)] [] σ := by
  obtain ⟨n_, h⟩ := h
  induction n_ generalizing v1 σ with
  | zero => exact h.elim
  | succ n_ ih =>
    replace h : B_X9_isNext_9 K (it2 (B_X9_isNext_9 K) n_) v1 σ := h
    unfold B_X9_isNext_9 at h
    refine g_iload_n (pc := 9) C 1 dX9_isNext_9 rfl rfl ?_
    refine g_if_lt (pc := 10) (tgt := 45) C dX9_isNext_10 (by decide) (fun c_ => ?_) (fun c_ => ?_)
    · replace h := ite_t h c_
      refine g_lv [0, 1] (lv2 := [(0, .ref (G.2.2 0)), (1, .int v1)]) rfl ?_
      exact k_X9_isNext_45 C  h
    · replace h := ite_f h c_
      refine g_aload_n (pc := 13) C 0 dX9_isNext_13 rfl rfl ?_
      refine g_iload_n (pc := 14) C 1 dX9_isNext_14 rfl rfl ?_
      refine g_callVip (pc := 15) (As := [.int v1]) (rest := []) C rfl rfl rfl rfl (M_X9_isOver C.2.2.1  h) CyX9_isOver tw_1089 tw_1091 ts_38 (by decide) rfl rfl (Nat.le_of_ble_eq_true rfl) dX9_isNext_15 (fun r15 h => ?_)
      refine g_if_ne (pc := 18) (tgt := 32) C dX9_isNext_18 (by decide) (fun c_ => ?_) (fun c_ => ?_)
      · replace h := ite_f h c_
        refine g_lv [0, 1] (lv2 := [(0, .ref (G.2.2 0)), (1, .int v1)]) rfl ?_
        exact k_X9_isNext_32 C (fun _ _ h_ => ih h_) h
      · replace h := ite_t h c_
        refine g_aload_n (pc := 21) C 0 dX9_isNext_21 rfl rfl ?_
        refine get_X9_14 (pc := 22) C rfl tw_876 dX9_isNext_22 ?_
        refine g_iload_n (pc := 25) C 1 dX9_isNext_25 rfl rfl ?_
        obtain ⟨g_, h⟩ := h
        refine g_iald (pc := 26) C rfl g_ dX9_isNext_26 ?_
        refine g_bipush (pc := 27) (v := 6) C dX9_isNext_27 bp_6 ?_
        refine g_icmp_ne (pc := 29) (tgt := 45) C dX9_isNext_29 (by decide) (fun c_ => ?_) (fun c_ => ?_)
        · replace h := ite_f h c_
          refine g_lv [0, 1] (lv2 := [(0, .ref (G.2.2 0)), (1, .int v1)]) rfl ?_
          exact k_X9_isNext_45 C  h
        · replace h := ite_t h c_
          refine g_lv [0, 1] (lv2 := [(0, .ref (G.2.2 0)), (1, .int v1)]) rfl ?_
          exact k_X9_isNext_32 C (fun _ _ h_ => ih h_) h
set_option maxHeartbeats 4000000 in
set_option maxRecDepth 100000 in
theorem M_X9_isNext {l : Launch} {G : Gp} (hD : Dj shM G) {σ : St} {K : Int32 → St → Prop} (h : wp_X9_isNext σ K) : MC l shM G yX9_isNext cX9_isNext 2 (some .boolean) 2 [.ref (G.2.2 0)] σ (RI K) := by
  unfold wp_X9_isNext at h
  refine MC.of (by decide) hD (Nat.le_of_ble_eq_true rfl) ?_
  intro p e s m args below meth c C
  replace C : Cx p (rmD 2) s m args meth c shM G cX9_isNext 2 2 RX9 (some .boolean) 0 0 := C
  show Go p l e (rmD 2) s m args below meth c shM G 2 0 0 (MQ below (Qw shM G (RI K)) args s 0 0 (Fr shM G)) 0 [(0, .ref (G.2.2 0))] [] σ
  refine g_aload_n (pc := 0) C 0 dX9_isNext_0 rfl rfl ?_
  refine get_X9_0 (pc := 1) C rfl tw_862 dX9_isNext_1 ?_
  refine g_iconst (pc := 4) (v := 0) C dX9_isNext_4 ic_0 ?_
  obtain ⟨g_, h⟩ := h
  refine g_iald (pc := 5) C rfl g_ dX9_isNext_5 ?_
  refine g_iconst (pc := 6) (v := 1) C dX9_isNext_6 ic_1 ?_
  refine g_isub (pc := 7) C dX9_isNext_7 ?_
  refine g_istore_n (pc := 8) (lv2 := [(1, .int ((σ.1 1 (0 : Int32).toNatClampNeg) - 1)), (0, .ref (G.2.2 0))]) C dX9_isNext_8 rfl (by decide) rfl ?_
  refine g_lv [1, 0] (lv2 := [(0, .ref (G.2.2 0)), (1, .int ((σ.1 1 (0 : Int32).toNatClampNeg) - 1))]) rfl ?_
  exact k_X9_isNext_9 C  h
set_option maxHeartbeats 4000000 in
set_option maxRecDepth 100000 in
theorem k_X9_keepsBest_2 {v1 : Int32} {σ : St} {K : St → Prop} (C : Cx p R s m args meth c shM G cX9_keepsBest 2 1 RX9 none 0 0) (h : L_X9_keepsBest_2 K v1 σ) : Go p l e R s m args below meth c shM G 2 0 0 (MQ below (Qw shM G (RV K)) args s 0 0 (Fr shM G)) 2 [(0, .ref (G.2.2 0)), (1, .int v1)] [] σ := by
  obtain ⟨n_, h⟩ := h
  induction n_ generalizing v1 σ with
  | zero => exact h.elim
  | succ n_ ih =>
    replace h : B_X9_keepsBest_2 K (it2 (B_X9_keepsBest_2 K) n_) v1 σ := h
    unfold B_X9_keepsBest_2 at h
    refine g_iload_n (pc := 2) C 1 dX9_keepsBest_2 rfl rfl ?_
    refine g_bipush (pc := 3) (v := 6) C dX9_keepsBest_3 bp_6 ?_
    refine g_icmp_ge (pc := 5) (tgt := 26) C dX9_keepsBest_5 (by decide) (fun c_ => ?_) (fun c_ => ?_)
    · replace h := ite_t h c_
      exact g_vret (pc := 26) C dX9_keepsBest_26 ⟨rfl, h⟩
    · replace h := ite_f h c_
      refine g_aload_n (pc := 8) C 0 dX9_keepsBest_8 rfl rfl ?_
      refine get_X9_22 (pc := 9) C rfl tw_884 dX9_keepsBest_9 ?_
      refine g_iload_n (pc := 12) C 1 dX9_keepsBest_12 rfl rfl ?_
      refine g_aload_n (pc := 13) C 0 dX9_keepsBest_13 rfl rfl ?_
      refine get_X9_14 (pc := 14) C rfl tw_876 dX9_keepsBest_14 ?_
      refine g_iload_n (pc := 17) C 1 dX9_keepsBest_17 rfl rfl ?_
      obtain ⟨g_, h⟩ := h
      refine g_iald (pc := 18) C rfl g_ dX9_keepsBest_18 ?_
      obtain ⟨g_, h⟩ := h
      refine g_iast (pc := 19) C rfl g_ dX9_keepsBest_19 ?_
      refine g_iinc (pc := 20) (lv2 := [(1, .int (v1 + 1)), (0, .ref (G.2.2 0))]) C 1 dX9_keepsBest_20 ic_1 rfl (by decide) rfl ?_
      refine g_goto (pc := 23) (tgt := 2) C dX9_keepsBest_23 (by decide) ?_
      refine g_lv [1, 0] (lv2 := [(0, .ref (G.2.2 0)), (1, .int (v1 + 1))]) rfl ?_
      exact ih h
set_option maxHeartbeats 4000000 in
set_option maxRecDepth 100000 in
theorem M_X9_keepsBest {l : Launch} {G : Gp} (hD : Dj shM G) {σ : St} {K : St → Prop} (h : wp_X9_keepsBest σ K) : MC l shM G yX9_keepsBest cX9_keepsBest 2 none 1 [.ref (G.2.2 0)] σ (RV K) := by
  unfold wp_X9_keepsBest at h
  refine MC.of (by decide) hD (Nat.le_of_ble_eq_true rfl) ?_
  intro p e s m args below meth c C
  replace C : Cx p (rmD 1) s m args meth c shM G cX9_keepsBest 2 1 RX9 none 0 0 := C
  show Go p l e (rmD 1) s m args below meth c shM G 2 0 0 (MQ below (Qw shM G (RV K)) args s 0 0 (Fr shM G)) 0 [(0, .ref (G.2.2 0))] [] σ
  refine g_iconst (pc := 0) (v := 0) C dX9_keepsBest_0 ic_0 ?_
  refine g_istore_n (pc := 1) (lv2 := [(1, .int 0), (0, .ref (G.2.2 0))]) C dX9_keepsBest_1 rfl (by decide) rfl ?_
  refine g_lv [1, 0] (lv2 := [(0, .ref (G.2.2 0)), (1, .int 0)]) rfl ?_
  exact k_X9_keepsBest_2 C  h
set_option maxHeartbeats 4000000 in
set_option maxRecDepth 100000 in
theorem k_X9_tellsBest_13 {v1 : Int32} {v2 : Int32} {σ : St} {K : St → Prop} (C : Cx p R s m args meth c shM G cX9_tellsBest 3 2 RX9 none 0 0) (h : L_X9_tellsBest_13 v1 K v2 σ) : Go p l e R s m args below meth c shM G 3 0 0 (MQ below (Qw shM G (RV K)) args s 0 0 (Fr shM G)) 13 [(0, .ref (G.2.2 0)), (1, .int v1), (2, .int v2)] [] σ := by
  obtain ⟨n_, h⟩ := h
  induction n_ generalizing v2 σ with
  | zero => exact h.elim
  | succ n_ ih =>
    replace h : B_X9_tellsBest_13 v1 K (it2 (B_X9_tellsBest_13 v1 K) n_) v2 σ := h
    unfold B_X9_tellsBest_13 at h
    refine g_iload_n (pc := 13) C 2 dX9_tellsBest_13 rfl rfl ?_
    refine g_aload_n (pc := 14) C 0 dX9_tellsBest_14 rfl rfl ?_
    refine get_X9_0 (pc := 15) C rfl tw_862 dX9_tellsBest_15 ?_
    refine g_iconst (pc := 18) (v := 0) C dX9_tellsBest_18 ic_0 ?_
    obtain ⟨g_, h⟩ := h
    refine g_iald (pc := 19) C rfl g_ dX9_tellsBest_19 ?_
    refine g_icmp_ge (pc := 20) (tgt := 46) C dX9_tellsBest_20 (by decide) (fun c_ => ?_) (fun c_ => ?_)
    · replace h := ite_t h c_
      exact g_vret (pc := 46) C dX9_tellsBest_46 ⟨rfl, h⟩
    · replace h := ite_f h c_
      refine g_aload_n (pc := 23) C 0 dX9_tellsBest_23 rfl rfl ?_
      refine get_X9_3 (pc := 24) C rfl tw_865 dX9_tellsBest_24 ?_
      refine g_bipush (pc := 27) (v := 40) C dX9_tellsBest_27 bp_40 ?_
      refine g_iload_n (pc := 29) C 1 dX9_tellsBest_29 rfl rfl ?_
      refine g_imul (pc := 30) C dX9_tellsBest_30 ?_
      refine g_iload_n (pc := 31) C 2 dX9_tellsBest_31 rfl rfl ?_
      refine g_iadd (pc := 32) C dX9_tellsBest_32 ?_
      refine g_aload_n (pc := 33) C 0 dX9_tellsBest_33 rfl rfl ?_
      refine get_X9_22 (pc := 34) C rfl tw_884 dX9_tellsBest_34 ?_
      refine g_iload_n (pc := 37) C 2 dX9_tellsBest_37 rfl rfl ?_
      obtain ⟨g_, h⟩ := h
      refine g_iald (pc := 38) C rfl g_ dX9_tellsBest_38 ?_
      obtain ⟨g_, h⟩ := h
      refine g_iast (pc := 39) C rfl g_ dX9_tellsBest_39 ?_
      refine g_iinc (pc := 40) (lv2 := [(2, .int (v2 + 1)), (0, .ref (G.2.2 0)), (1, .int v1)]) C 2 dX9_tellsBest_40 ic_1 rfl (by decide) rfl ?_
      refine g_goto (pc := 43) (tgt := 13) C dX9_tellsBest_43 (by decide) ?_
      refine g_lv [1, 2, 0] (lv2 := [(0, .ref (G.2.2 0)), (1, .int v1), (2, .int (v2 + 1))]) rfl ?_
      exact ih h
set_option maxHeartbeats 4000000 in
set_option maxRecDepth 100000 in
theorem M_X9_tellsBest {l : Launch} {G : Gp} (hD : Dj shM G) {v1 : Int32} {σ : St} {K : St → Prop} (h : wp_X9_tellsBest v1 σ K) : MC l shM G yX9_tellsBest cX9_tellsBest 3 none 2 [.ref (G.2.2 0), .int v1] σ (RV K) := by
  unfold wp_X9_tellsBest at h
  refine MC.of (by decide) hD (Nat.le_of_ble_eq_true rfl) ?_
  intro p e s m args below meth c C
  replace C : Cx p (rmD 2) s m args meth c shM G cX9_tellsBest 3 2 RX9 none 0 0 := C
  show Go p l e (rmD 2) s m args below meth c shM G 3 0 0 (MQ below (Qw shM G (RV K)) args s 0 0 (Fr shM G)) 0 [(0, .ref (G.2.2 0)), (1, .int v1)] [] σ
  refine g_aload_n (pc := 0) C 0 dX9_tellsBest_0 rfl rfl ?_
  refine g_iload_n (pc := 1) C 1 dX9_tellsBest_1 rfl rfl ?_
  refine g_aload_n (pc := 2) C 0 dX9_tellsBest_2 rfl rfl ?_
  refine get_X9_0 (pc := 3) C rfl tw_862 dX9_tellsBest_3 ?_
  refine g_iconst (pc := 6) (v := 0) C dX9_tellsBest_6 ic_0 ?_
  obtain ⟨g_, h⟩ := h
  refine g_iald (pc := 7) C rfl g_ dX9_tellsBest_7 ?_
  refine g_callVv (pc := 8) (As := [.int v1, .int (σ.1 1 (0 : Int32).toNatClampNeg)]) (rest := []) C rfl rfl rfl rfl (M_X9_anew C.2.2.1  h) CyX9_anew tw_962 tw_964 ts_26 (by decide) rfl rfl (Nat.le_of_ble_eq_true rfl) dX9_tellsBest_8 (fun t8 h => ?_)
  refine g_iconst (pc := 11) (v := 0) C dX9_tellsBest_11 ic_0 ?_
  refine g_istore_n (pc := 12) (lv2 := [(2, .int 0), (0, .ref (G.2.2 0)), (1, .int v1)]) C dX9_tellsBest_12 rfl (by decide) rfl ?_
  refine g_lv [1, 2, 0] (lv2 := [(0, .ref (G.2.2 0)), (1, .int v1), (2, .int 0)]) rfl ?_
  exact k_X9_tellsBest_13 C  h
set_option maxHeartbeats 4000000 in
set_option maxRecDepth 100000 in
theorem k_X9_change_14 {σ : St} {K : Int32 → St → Prop} (C : Cx p R s m args meth c shM G cX9_change 8 5 RX9 (some .int) 0 0) (h : J_X9_change_14 σ K) : Go p l e R s m args below meth c shM G 8 0 0 (MQ below (Qw shM G (RI K)) args s 0 0 (Fr shM G)) 14 [] [] σ := by
  unfold J_X9_change_14 at h
  refine g_iconst (pc := 14) (v := -1) C dX9_change_14 ic_m1 ?_
  exact g_iret (pc := 15) C dX9_change_15 ⟨_, rfl, h⟩
set_option maxHeartbeats 4000000 in
set_option maxRecDepth 100000 in
theorem k_X9_change_206 {v1 : Int32} {v2 : Int32} {v3 : Int32} {v6 : Int32} {σ : St} {K : Int32 → St → Prop} {Φ146 : Int32 → St → Prop} (C : Cx p R s m args meth c shM G cX9_change 8 5 RX9 (some .int) 0 0) (hΦ146 : ∀ (v5' : Int32) (σ' : St), Φ146 v5' σ' → Go p l e R s m args below meth c shM G 8 0 0 (MQ below (Qw shM G (RI K)) args s 0 0 (Fr shM G)) 146 [(0, .ref (G.2.2 0)), (1, .int v1), (2, .int v2), (3, .int v3), (5, .int (v5'))] [] σ') (h : J_X9_change_206 v1 v2 v3 v6 σ K Φ146) : Go p l e R s m args below meth c shM G 8 0 0 (MQ below (Qw shM G (RI K)) args s 0 0 (Fr shM G)) 206 [(0, .ref (G.2.2 0)), (1, .int v1), (2, .int v2), (3, .int v3), (6, .int v6)] [] σ := by
  unfold J_X9_change_206 at h
  refine g_iload (pc := 206) C 4 dX9_change_206 rfl ?_
  refine g_if_eq (pc := 208) (tgt := 229) C dX9_change_208 (by decide) (fun c_ => ?_) (fun c_ => ?_)
  · replace h := ite_t h c_
    refine g_aload_n (pc := 229) C 0 dX9_change_229 rfl rfl ?_
    refine g_callVi (pc := 230) (As := []) (rest := []) C rfl rfl rfl rfl (M_X9_isNext C.2.2.1  h) CyX9_isNext tw_1214 tw_1216 ts_52 (by decide) rfl rfl (Nat.le_of_ble_eq_true rfl) dX9_change_230 (fun r230 t230 h => ?_)
    refine g_istore (pc := 233) (lv2 := [(5, .int r230), (0, .ref (G.2.2 0)), (1, .int v1), (2, .int v2), (3, .int v3), (6, .int v6)]) C dX9_change_233 (by decide) rfl ?_
    refine g_goto (pc := 235) (tgt := 146) C dX9_change_235 (by decide) ?_
    refine g_lv [1, 2, 3, 4, 0] (lv2 := [(0, .ref (G.2.2 0)), (1, .int v1), (2, .int v2), (3, .int v3), (5, .int r230)]) rfl ?_
    exact hΦ146 _ _ h
  · replace h := ite_f h c_
    refine g_aload_n (pc := 211) C 0 dX9_change_211 rfl rfl ?_
    refine g_callVip (pc := 212) (As := []) (rest := []) C rfl rfl rfl rfl (M_X9_errorNow C.2.2.1  h) CyX9_errorNow tw_1182 tw_1184 ts_46 (by decide) rfl rfl (Nat.le_of_ble_eq_true rfl) dX9_change_212 (fun r212 h => ?_)
    refine g_istore (pc := 215) (lv2 := [(7, .int r212), (0, .ref (G.2.2 0)), (1, .int v1), (2, .int v2), (3, .int v3), (6, .int v6)]) C dX9_change_215 (by decide) rfl ?_
    refine g_aload_n (pc := 217) C 1 dX9_change_217 rfl rfl ?_
    refine g_callVv (pc := 218) (As := []) (rest := []) C rfl rfl rfl rfl (M_X9_keepsBest C.2.2.1  h) CyX9_keepsBest tw_1210 tw_1212 ts_51 (by decide) rfl rfl (Nat.le_of_ble_eq_true rfl) dX9_change_218 (fun t218 h => ?_)
    refine g_aload_n (pc := 221) C 1 dX9_change_221 rfl rfl ?_
    refine g_iload_n (pc := 222) C 3 dX9_change_222 rfl rfl ?_
    refine g_callVv (pc := 223) (As := [.int v2]) (rest := []) C rfl rfl rfl rfl (M_X9_tellsBest C.2.2.1  h) CyX9_tellsBest tw_1218 tw_1220 ts_53 (by decide) rfl rfl (Nat.le_of_ble_eq_true rfl) dX9_change_223 (fun t223 h => ?_)
    refine g_iload (pc := 226) C 0 dX9_change_226 rfl ?_
    exact g_iret (pc := 228) C dX9_change_228 ⟨_, rfl, h⟩
set_option maxHeartbeats 4000000 in
set_option maxRecDepth 100000 in
theorem k_X9_change_198 {v1 : Int32} {v2 : Int32} {v3 : Int32} {v7 : Int32} {w0 : Int32} {σ : St} {K : Int32 → St → Prop} {Φ146 : Int32 → St → Prop} {Φ160 : Int32 → Int32 → Prop} (C : Cx p R s m args meth c shM G cX9_change 8 5 RX9 (some .int) 0 0) (hΦ146 : ∀ (v5' : Int32) (σ' : St), Φ146 v5' σ' → Go p l e R s m args below meth c shM G 8 0 0 (MQ below (Qw shM G (RI K)) args s 0 0 (Fr shM G)) 146 [(0, .ref (G.2.2 0)), (1, .int v1), (2, .int v2), (3, .int v3), (5, .int (v5'))] [] σ') (hΦ160 : ∀ (v6' : Int32) (v7' : Int32), Φ160 v6' v7' → Go p l e R s m args below meth c shM G 8 0 0 (MQ below (Qw shM G (RI K)) args s 0 0 (Fr shM G)) 160 [(0, .ref (G.2.2 0)), (1, .int v1), (2, .int v2), (3, .int v3), (6, .int (v6')), (7, .int (v7'))] [] σ) (h : J_X9_change_198 v1 v2 v3 v7 w0 σ K Φ146 Φ160) : Go p l e R s m args below meth c shM G 8 0 0 (MQ below (Qw shM G (RI K)) args s 0 0 (Fr shM G)) 198 [(0, .ref (G.2.2 0)), (1, .int v1), (2, .int v2), (3, .int v3), (7, .int v7)] [.int w0] σ := by
  unfold J_X9_change_198 at h
  refine g_istore (pc := 198) (lv2 := [(6, .int w0), (0, .ref (G.2.2 0)), (1, .int v1), (2, .int v2), (3, .int v3), (7, .int v7)]) C dX9_change_198 (by decide) rfl ?_
  refine g_iinc (pc := 200) (lv2 := [(7, .int (v7 + 1)), (6, .int w0), (0, .ref (G.2.2 0)), (1, .int v1), (2, .int v2), (3, .int v3)]) C 5 dX9_change_200 ic_1 rfl (by decide) rfl ?_
  refine g_goto (pc := 203) (tgt := 160) C dX9_change_203 (by decide) ?_
  refine g_lv [2, 3, 4, 5, 1, 0] (lv2 := [(0, .ref (G.2.2 0)), (1, .int v1), (2, .int v2), (3, .int v3), (6, .int w0), (7, .int (v7 + 1))]) rfl ?_
  exact hΦ160 _ _ h
set_option maxHeartbeats 4000000 in
set_option maxRecDepth 100000 in
theorem k_X9_change_160 {v1 : Int32} {v2 : Int32} {v3 : Int32} {v6 : Int32} {v7 : Int32} {σ : St} {K : Int32 → St → Prop} {Φ146 : Int32 → St → Prop} (C : Cx p R s m args meth c shM G cX9_change 8 5 RX9 (some .int) 0 0) (hΦ146 : ∀ (v5' : Int32) (σ' : St), Φ146 v5' σ' → Go p l e R s m args below meth c shM G 8 0 0 (MQ below (Qw shM G (RI K)) args s 0 0 (Fr shM G)) 146 [(0, .ref (G.2.2 0)), (1, .int v1), (2, .int v2), (3, .int v3), (5, .int (v5'))] [] σ') (h : L_X9_change_160 v1 v2 v3 σ K Φ146 v6 v7) : Go p l e R s m args below meth c shM G 8 0 0 (MQ below (Qw shM G (RI K)) args s 0 0 (Fr shM G)) 160 [(0, .ref (G.2.2 0)), (1, .int v1), (2, .int v2), (3, .int v3), (6, .int v6), (7, .int v7)] [] σ := by
  obtain ⟨n_, h⟩ := h
  induction n_ generalizing v6 v7 with
  | zero => exact h.elim
  | succ n_ ih =>
    replace h : B_X9_change_160 v1 v2 v3 σ K Φ146 (it2 (B_X9_change_160 v1 v2 v3 σ K Φ146) n_) v6 v7 := h
    unfold B_X9_change_160 at h
    refine g_iload (pc := 160) C 5 dX9_change_160 rfl ?_
    refine g_iload_n (pc := 162) C 3 dX9_change_162 rfl rfl ?_
    refine g_icmp_ge (pc := 163) (tgt := 206) C dX9_change_163 (by decide) (fun c_ => ?_) (fun c_ => ?_)
    · replace h := ite_t h c_
      refine g_lv [0, 1, 2, 3, 4] (lv2 := [(0, .ref (G.2.2 0)), (1, .int v1), (2, .int v2), (3, .int v3), (6, .int v6)]) rfl ?_
      exact k_X9_change_206 C hΦ146 h
    · replace h := ite_f h c_
      refine g_iload (pc := 166) C 4 dX9_change_166 rfl ?_
      refine g_if_eq (pc := 168) (tgt := 206) C dX9_change_168 (by decide) (fun c_ => ?_) (fun c_ => ?_)
      · replace h := ite_t h c_
        refine g_lv [0, 1, 2, 3, 4] (lv2 := [(0, .ref (G.2.2 0)), (1, .int v1), (2, .int v2), (3, .int v3), (6, .int v6)]) rfl ?_
        exact k_X9_change_206 C hΦ146 h
      · replace h := ite_f h c_
        refine g_aload_n (pc := 171) C 0 dX9_change_171 rfl rfl ?_
        refine get_X9_16 (pc := 172) C rfl tw_878 dX9_change_172 ?_
        refine g_iload (pc := 175) C 5 dX9_change_175 rfl ?_
        obtain ⟨g_, h⟩ := h
        refine g_iald (pc := 177) C rfl g_ dX9_change_177 ?_
        refine g_aload_n (pc := 178) C 0 dX9_change_178 rfl rfl ?_
        refine get_X9_3 (pc := 179) C rfl tw_865 dX9_change_179 ?_
        refine g_bipush (pc := 182) (v := 40) C dX9_change_182 bp_40 ?_
        refine g_iload_n (pc := 184) C 1 dX9_change_184 rfl rfl ?_
        refine g_imul (pc := 185) C dX9_change_185 ?_
        refine g_iload (pc := 186) C 5 dX9_change_186 rfl ?_
        refine g_iadd (pc := 188) C dX9_change_188 ?_
        obtain ⟨g_, h⟩ := h
        refine g_iald (pc := 189) C rfl g_ dX9_change_189 ?_
        refine g_icmp_ne (pc := 190) (tgt := 197) C dX9_change_190 (by decide) (fun c_ => ?_) (fun c_ => ?_)
        · replace h := ite_f h c_
          refine g_iconst (pc := 197) (v := 0) C dX9_change_197 ic_0 ?_
          refine g_lv [0, 1, 2, 3, 5] (lv2 := [(0, .ref (G.2.2 0)), (1, .int v1), (2, .int v2), (3, .int v3), (7, .int v7)]) rfl ?_
          exact k_X9_change_198 C hΦ146 (fun _ _ h_ => ih h_) h
        · replace h := ite_t h c_
          refine g_iconst (pc := 193) (v := 1) C dX9_change_193 ic_1 ?_
          refine g_goto (pc := 194) (tgt := 198) C dX9_change_194 (by decide) ?_
          refine g_lv [0, 1, 2, 3, 5] (lv2 := [(0, .ref (G.2.2 0)), (1, .int v1), (2, .int v2), (3, .int v3), (7, .int v7)]) rfl ?_
          exact k_X9_change_198 C hΦ146 (fun _ _ h_ => ih h_) h
set_option maxHeartbeats 4000000 in
set_option maxRecDepth 100000 in
theorem k_X9_change_146 {v1 : Int32} {v2 : Int32} {v3 : Int32} {v5 : Int32} {σ : St} {K : Int32 → St → Prop} (C : Cx p R s m args meth c shM G cX9_change 8 5 RX9 (some .int) 0 0) (h : L_X9_change_146 v1 v2 v3 K v5 σ) : Go p l e R s m args below meth c shM G 8 0 0 (MQ below (Qw shM G (RI K)) args s 0 0 (Fr shM G)) 146 [(0, .ref (G.2.2 0)), (1, .int v1), (2, .int v2), (3, .int v3), (5, .int v5)] [] σ := by
  obtain ⟨n_, h⟩ := h
  induction n_ generalizing v5 σ with
  | zero => exact h.elim
  | succ n_ ih =>
    replace h : B_X9_change_146 v1 v2 v3 K (it2 (B_X9_change_146 v1 v2 v3 K) n_) v5 σ := h
    unfold B_X9_change_146 at h
    refine g_iload (pc := 146) C 4 dX9_change_146 rfl ?_
    refine g_if_eq (pc := 148) (tgt := 238) C dX9_change_148 (by decide) (fun c_ => ?_) (fun c_ => ?_)
    · replace h := ite_t h c_
      refine g_bipush (pc := 238) (v := -9) C dX9_change_238 bp_m9 ?_
      exact g_iret (pc := 240) C dX9_change_240 ⟨_, rfl, h⟩
    · replace h := ite_f h c_
      refine g_aload_n (pc := 151) C 0 dX9_change_151 rfl rfl ?_
      refine g_callVi (pc := 152) (As := []) (rest := []) C rfl rfl rfl rfl (M_X9_isAll C.2.2.1  h) CyX9_isAll tw_1202 tw_1204 ts_49 (by decide) rfl rfl (Nat.le_of_ble_eq_true rfl) dX9_change_152 (fun r152 t152 h => ?_)
      refine g_istore (pc := 155) (lv2 := [(6, .int r152), (0, .ref (G.2.2 0)), (1, .int v1), (2, .int v2), (3, .int v3), (5, .int v5)]) C dX9_change_155 (by decide) rfl ?_
      refine g_iconst (pc := 157) (v := 0) C dX9_change_157 ic_0 ?_
      refine g_istore (pc := 158) (lv2 := [(7, .int 0), (6, .int r152), (0, .ref (G.2.2 0)), (1, .int v1), (2, .int v2), (3, .int v3), (5, .int v5)]) C dX9_change_158 (by decide) rfl ?_
      refine g_lv [2, 3, 4, 5, 1, 0] (lv2 := [(0, .ref (G.2.2 0)), (1, .int v1), (2, .int v2), (3, .int v3), (6, .int r152), (7, .int 0)]) rfl ?_
      exact k_X9_change_160 C (fun _ _ h_ => ih h_) h
set_option maxHeartbeats 4000000 in
set_option maxRecDepth 100000 in
theorem k_X9_change_118 {σ : St} {K : Int32 → St → Prop} (C : Cx p R s m args meth c shM G cX9_change 8 5 RX9 (some .int) 0 0) (h : J_X9_change_118 σ K) : Go p l e R s m args below meth c shM G 8 0 0 (MQ below (Qw shM G (RI K)) args s 0 0 (Fr shM G)) 118 [(0, .ref (G.2.2 0))] [] σ := by
  unfold J_X9_change_118 at h
  refine g_aload_n (pc := 118) C 0 dX9_change_118 rfl rfl ?_
  refine g_iconst (pc := 119) (v := 3) C dX9_change_119 ic_3 ?_
  refine g_callVi (pc := 120) (As := [.int 3]) (rest := []) C rfl rfl rfl rfl (M_X9_found C.2.2.1  h) CyX9_found tw_958 tw_960 ts_25 (by decide) rfl rfl (Nat.le_of_ble_eq_true rfl) dX9_change_120 (fun r120 t120 h => ?_)
  exact g_iret (pc := 123) C dX9_change_123 ⟨_, rfl, h⟩
set_option maxHeartbeats 4000000 in
set_option maxRecDepth 100000 in
theorem k_X9_change_70 {v1 : Int32} {v2 : Int32} {v3 : Int32} {v4 : Int32} {v5 : Int32} {σ : St} {K : Int32 → St → Prop} (C : Cx p R s m args meth c shM G cX9_change 8 5 RX9 (some .int) 0 0) (h : L_X9_change_70 v1 v2 v3 σ K v4 v5) : Go p l e R s m args below meth c shM G 8 0 0 (MQ below (Qw shM G (RI K)) args s 0 0 (Fr shM G)) 70 [(0, .ref (G.2.2 0)), (1, .int v1), (2, .int v2), (3, .int v3), (4, .int v4), (5, .int v5)] [] σ := by
  obtain ⟨n_, h⟩ := h
  induction n_ generalizing v4 v5 with
  | zero => exact h.elim
  | succ n_ ih =>
    replace h : B_X9_change_70 v1 v2 v3 σ K (it2 (B_X9_change_70 v1 v2 v3 σ K) n_) v4 v5 := h
    unfold B_X9_change_70 at h
    refine g_iload (pc := 70) C 5 dX9_change_70 rfl ?_
    refine g_iload_n (pc := 72) C 3 dX9_change_72 rfl rfl ?_
    refine g_icmp_ge (pc := 73) (tgt := 139) C dX9_change_73 (by decide) (fun c_ => ?_) (fun c_ => ?_)
    · replace h := ite_t h c_
      refine g_aload_n (pc := 139) C 0 dX9_change_139 rfl rfl ?_
      refine g_callVv (pc := 140) (As := []) (rest := []) C rfl rfl rfl rfl (M_X9_begins C.2.2.1  h) CyX9_begins tw_1198 tw_1200 ts_48 (by decide) rfl rfl (Nat.le_of_ble_eq_true rfl) dX9_change_140 (fun t140 h => ?_)
      refine g_iconst (pc := 143) (v := 1) C dX9_change_143 ic_1 ?_
      refine g_istore (pc := 144) (lv2 := [(5, .int 1), (0, .ref (G.2.2 0)), (1, .int v1), (2, .int v2), (3, .int v3), (4, .int v4)]) C dX9_change_144 (by decide) rfl ?_
      refine g_lv [1, 2, 3, 4, 0] (lv2 := [(0, .ref (G.2.2 0)), (1, .int v1), (2, .int v2), (3, .int v3), (5, .int 1)]) rfl ?_
      exact k_X9_change_146 C  h
    · replace h := ite_f h c_
      refine g_aload_n (pc := 76) C 0 dX9_change_76 rfl rfl ?_
      refine get_X9_3 (pc := 77) C rfl tw_865 dX9_change_77 ?_
      refine g_bipush (pc := 80) (v := 40) C dX9_change_80 bp_40 ?_
      refine g_iload_n (pc := 82) C 1 dX9_change_82 rfl rfl ?_
      refine g_imul (pc := 83) C dX9_change_83 ?_
      refine g_iload (pc := 84) C 5 dX9_change_84 rfl ?_
      refine g_iadd (pc := 86) C dX9_change_86 ?_
      obtain ⟨g_, h⟩ := h
      refine g_iald (pc := 87) C rfl g_ dX9_change_87 ?_
      refine g_istore (pc := 88) (lv2 := [(6, .int (σ.1 3 ((40 * v1) + v5).toNatClampNeg)), (0, .ref (G.2.2 0)), (1, .int v1), (2, .int v2), (3, .int v3), (4, .int v4), (5, .int v5)]) C dX9_change_88 (by decide) rfl ?_
      refine g_aload_n (pc := 90) C 1 dX9_change_90 rfl rfl ?_
      refine g_iload (pc := 91) C 0 dX9_change_91 rfl ?_
      refine g_callVip (pc := 93) (As := [.int (σ.1 3 ((40 * v1) + v5).toNatClampNeg)]) (rest := []) C rfl rfl rfl rfl (M_X9_isBell C.2.2.1  h) CyX9_isBell tw_1045 tw_1047 ts_34 (by decide) rfl rfl (Nat.le_of_ble_eq_true rfl) dX9_change_93 (fun r93 h => ?_)
      refine g_if_eq (pc := 96) (tgt := 118) C dX9_change_96 (by decide) (fun c_ => ?_) (fun c_ => ?_)
      · replace h := ite_t h c_
        refine g_lv [1] (lv2 := [(0, .ref (G.2.2 0))]) rfl ?_
        exact k_X9_change_118 C  h
      · replace h := ite_f h c_
        refine g_aload_n (pc := 99) C 1 dX9_change_99 rfl rfl ?_
        refine g_iload (pc := 100) C 0 dX9_change_100 rfl ?_
        refine g_callVip (pc := 102) (As := [.int (σ.1 3 ((40 * v1) + v5).toNatClampNeg)]) (rest := []) C rfl rfl rfl rfl (M_X9_isOver C.2.2.1  h) CyX9_isOver tw_1089 tw_1091 ts_38 (by decide) rfl rfl (Nat.le_of_ble_eq_true rfl) dX9_change_102 (fun r102 h => ?_)
        refine g_if_ne (pc := 105) (tgt := 118) C dX9_change_105 (by decide) (fun c_ => ?_) (fun c_ => ?_)
        · replace h := ite_f h c_
          refine g_lv [1] (lv2 := [(0, .ref (G.2.2 0))]) rfl ?_
          exact k_X9_change_118 C  h
        · replace h := ite_t h c_
          refine g_iload (pc := 108) C 5 dX9_change_108 rfl ?_
          refine g_iload (pc := 110) C 0 dX9_change_110 rfl ?_
          refine g_callSip (pc := 112) (As := [.int v4, .int (σ.1 3 ((40 * v1) + v5).toNatClampNeg)]) (rest := []) C (M_X9_has C.2.2.1  h) CyX9_has tw_1226 tw_1227 (by decide) rfl rfl (Nat.le_of_ble_eq_true rfl) dX9_change_112 (fun r112 h => ?_)
          refine g_if_eq (pc := 115) (tgt := 124) C dX9_change_115 (by decide) (fun c_ => ?_) (fun c_ => ?_)
          · replace h := ite_t h c_
            refine g_iload (pc := 124) C 5 dX9_change_124 rfl ?_
            refine g_iconst (pc := 126) (v := 1) C dX9_change_126 ic_1 ?_
            refine g_iload (pc := 127) C 0 dX9_change_127 rfl ?_
            refine g_ishl (pc := 129) C dX9_change_129 ?_
            refine g_ior (pc := 130) C dX9_change_130 ?_
            refine g_istore (pc := 131) (lv2 := [(4, .int (v4 ||| (shl 1 (σ.1 3 ((40 * v1) + v5).toNatClampNeg)))), (6, .int (σ.1 3 ((40 * v1) + v5).toNatClampNeg)), (0, .ref (G.2.2 0)), (1, .int v1), (2, .int v2), (3, .int v3), (5, .int v5)]) C dX9_change_131 (by decide) rfl ?_
            refine g_iinc (pc := 133) (lv2 := [(5, .int (v5 + 1)), (4, .int (v4 ||| (shl 1 (σ.1 3 ((40 * v1) + v5).toNatClampNeg)))), (6, .int (σ.1 3 ((40 * v1) + v5).toNatClampNeg)), (0, .ref (G.2.2 0)), (1, .int v1), (2, .int v2), (3, .int v3)]) C 6 dX9_change_133 ic_1 rfl (by decide) rfl ?_
            refine g_goto (pc := 136) (tgt := 70) C dX9_change_136 (by decide) ?_
            refine g_lv [3, 4, 5, 6, 1, 0] (lv2 := [(0, .ref (G.2.2 0)), (1, .int v1), (2, .int v2), (3, .int v3), (4, .int (v4 ||| (shl 1 (σ.1 3 ((40 * v1) + v5).toNatClampNeg)))), (5, .int (v5 + 1))]) rfl ?_
            exact ih h
          · replace h := ite_f h c_
            refine g_lv [1] (lv2 := [(0, .ref (G.2.2 0))]) rfl ?_
            exact k_X9_change_118 C  h
set_option maxHeartbeats 4000000 in
set_option maxRecDepth 100000 in
theorem M_X9_change {l : Launch} {G : Gp} (hD : Dj shM G) {v1 : Int32} {v2 : Int32} {σ : St} {K : Int32 → St → Prop} (h : wp_X9_change v1 v2 σ K) : MC l shM G yX9_change cX9_change 8 (some .int) 5 [.ref (G.2.2 0), .int v1, .int v2] σ (RI K) := by
  unfold wp_X9_change at h
  refine MC.of (by decide) hD (Nat.le_of_ble_eq_true rfl) ?_
  intro p e s m args below meth c C
  replace C : Cx p (rmD 5) s m args meth c shM G cX9_change 8 5 RX9 (some .int) 0 0 := C
  show Go p l e (rmD 5) s m args below meth c shM G 8 0 0 (MQ below (Qw shM G (RI K)) args s 0 0 (Fr shM G)) 0 [(0, .ref (G.2.2 0)), (1, .int v1), (2, .int v2)] [] σ
  refine g_iload_n (pc := 0) C 1 dX9_change_0 rfl rfl ?_
  refine g_callSip (pc := 1) (As := [.int v1]) (rest := []) C (M_X9_isRow C.2.2.1  h) CyX9_isRow tw_951 tw_952 (by decide) rfl rfl (Nat.le_of_ble_eq_true rfl) dX9_change_1 (fun r1 h => ?_)
  refine g_if_eq (pc := 4) (tgt := 14) C dX9_change_4 (by decide) (fun c_ => ?_) (fun c_ => ?_)
  · replace h := ite_t h c_
    refine g_lv [] (lv2 := []) rfl ?_
    exact k_X9_change_14 C  h
  · replace h := ite_f h c_
    refine g_iload_n (pc := 7) C 2 dX9_change_7 rfl rfl ?_
    refine g_callSip (pc := 8) (As := [.int v2]) (rest := []) C (M_X9_isRow C.2.2.1  h) CyX9_isRow tw_951 tw_952 (by decide) rfl rfl (Nat.le_of_ble_eq_true rfl) dX9_change_8 (fun r8 h => ?_)
    refine g_if_ne (pc := 11) (tgt := 16) C dX9_change_11 (by decide) (fun c_ => ?_) (fun c_ => ?_)
    · replace h := ite_f h c_
      refine g_aload_n (pc := 16) C 0 dX9_change_16 rfl rfl ?_
      refine get_X9_0 (pc := 17) C rfl tw_862 dX9_change_17 ?_
      refine g_iconst (pc := 20) (v := 0) C dX9_change_20 ic_0 ?_
      obtain ⟨g_, h⟩ := h
      refine g_iald (pc := 21) C rfl g_ dX9_change_21 ?_
      refine g_if_ne (pc := 22) (tgt := 28) C dX9_change_22 (by decide) (fun c_ => ?_) (fun c_ => ?_)
      · replace h := ite_f h c_
        refine g_aload_n (pc := 28) C 0 dX9_change_28 rfl rfl ?_
        refine get_X9_4 (pc := 29) C rfl tw_866 dX9_change_29 ?_
        refine g_iload_n (pc := 32) C 1 dX9_change_32 rfl rfl ?_
        obtain ⟨g_, h⟩ := h
        refine g_iald (pc := 33) C rfl g_ dX9_change_33 ?_
        refine g_if_ge (pc := 34) (tgt := 43) C dX9_change_34 (by decide) (fun c_ => ?_) (fun c_ => ?_)
        · replace h := ite_t h c_
          refine g_aload_n (pc := 43) C 0 dX9_change_43 rfl rfl ?_
          refine g_callVip (pc := 44) (As := []) (rest := []) C rfl rfl rfl rfl (M_X9_sounds C.2.2.1  h) CyX9_sounds tw_1206 tw_1208 ts_50 (by decide) rfl rfl (Nat.le_of_ble_eq_true rfl) dX9_change_44 (fun r44 h => ?_)
          refine g_istore_n (pc := 47) (lv2 := [(3, .int r44), (0, .ref (G.2.2 0)), (1, .int v1), (2, .int v2)]) C dX9_change_47 rfl (by decide) rfl ?_
          refine g_aload_n (pc := 48) C 1 dX9_change_48 rfl rfl ?_
          refine get_X9_4 (pc := 49) C rfl tw_866 dX9_change_49 ?_
          refine g_iload_n (pc := 52) C 2 dX9_change_52 rfl rfl ?_
          obtain ⟨g_, h⟩ := h
          refine g_iald (pc := 53) C rfl g_ dX9_change_53 ?_
          refine g_iload_n (pc := 54) C 0 dX9_change_54 rfl rfl ?_
          refine g_icmp_eq (pc := 55) (tgt := 64) C dX9_change_55 (by decide) (fun c_ => ?_) (fun c_ => ?_)
          · replace h := ite_t h c_
            refine g_iconst (pc := 64) (v := 0) C dX9_change_64 ic_0 ?_
            refine g_istore (pc := 65) (lv2 := [(4, .int 0), (3, .int r44), (0, .ref (G.2.2 0)), (1, .int v1), (2, .int v2)]) C dX9_change_65 (by decide) rfl ?_
            refine g_iconst (pc := 67) (v := 0) C dX9_change_67 ic_0 ?_
            refine g_istore (pc := 68) (lv2 := [(5, .int 0), (4, .int 0), (3, .int r44), (0, .ref (G.2.2 0)), (1, .int v1), (2, .int v2)]) C dX9_change_68 (by decide) rfl ?_
            refine g_lv [3, 4, 5, 2, 1, 0] (lv2 := [(0, .ref (G.2.2 0)), (1, .int v1), (2, .int v2), (3, .int r44), (4, .int 0), (5, .int 0)]) rfl ?_
            exact k_X9_change_70 C  h
          · replace h := ite_f h c_
            refine g_aload_n (pc := 58) C 1 dX9_change_58 rfl rfl ?_
            refine g_iconst (pc := 59) (v := 5) C dX9_change_59 ic_5 ?_
            refine g_callVi (pc := 60) (As := [.int 5]) (rest := []) C rfl rfl rfl rfl (M_X9_found C.2.2.1  h) CyX9_found tw_958 tw_960 ts_25 (by decide) rfl rfl (Nat.le_of_ble_eq_true rfl) dX9_change_60 (fun r60 t60 h => ?_)
            exact g_iret (pc := 63) C dX9_change_63 ⟨_, rfl, h⟩
        · replace h := ite_f h c_
          refine g_aload_n (pc := 37) C 0 dX9_change_37 rfl rfl ?_
          refine g_iconst (pc := 38) (v := 1) C dX9_change_38 ic_1 ?_
          refine g_callVi (pc := 39) (As := [.int 1]) (rest := []) C rfl rfl rfl rfl (M_X9_found C.2.2.1  h) CyX9_found tw_958 tw_960 ts_25 (by decide) rfl rfl (Nat.le_of_ble_eq_true rfl) dX9_change_39 (fun r39 t39 h => ?_)
          exact g_iret (pc := 42) C dX9_change_42 ⟨_, rfl, h⟩
      · replace h := ite_t h c_
        refine g_bipush (pc := 25) (v := -4) C dX9_change_25 bp_m4 ?_
        exact g_iret (pc := 27) C dX9_change_27 ⟨_, rfl, h⟩
    · replace h := ite_t h c_
      refine g_lv [] (lv2 := []) rfl ?_
      exact k_X9_change_14 C  h
set_option maxHeartbeats 4000000 in
set_option maxRecDepth 100000 in
theorem k_X9_fits_20 {w0 : Int32} {σ : St} {K : Int32 → Prop} (C : Cx p R s m args meth c shM G cX9_fits 3 1 RX9 (some .boolean) 0 0) (h : J_X9_fits_20 w0 K) : Go p l e R s m args below meth c shM G 3 0 0 (MQ below (Qw shM G (RI (fun r t => t = σ ∧ K r))) args s 0 0 (Fr shM G)) 20 [] [.int w0] σ := by
  unfold J_X9_fits_20 at h
  obtain ⟨g_, h⟩ := h
  exact g_zret (pc := 20) C g_ dX9_fits_20 ⟨_, rfl, ⟨rfl, h⟩⟩
set_option maxHeartbeats 4000000 in
set_option maxRecDepth 100000 in
theorem k_X9_fits_19 {σ : St} {K : Int32 → Prop} (C : Cx p R s m args meth c shM G cX9_fits 3 1 RX9 (some .boolean) 0 0) (h : J_X9_fits_19 K) : Go p l e R s m args below meth c shM G 3 0 0 (MQ below (Qw shM G (RI (fun r t => t = σ ∧ K r))) args s 0 0 (Fr shM G)) 19 [] [] σ := by
  unfold J_X9_fits_19 at h
  refine g_iconst (pc := 19) (v := 0) C dX9_fits_19 ic_0 ?_
  refine g_lv [] (lv2 := []) rfl ?_
  exact k_X9_fits_20 C  h
set_option maxHeartbeats 4000000 in
set_option maxRecDepth 100000 in
theorem M_X9_fits {l : Launch} {G : Gp} (hD : Dj shM G) {v0 : Int32} {v1 : Int32} {v2 : Int32} {σ : St} {K : Int32 → Prop} (h : wp_X9_fits v0 v1 v2 K) : MC l shM G yX9_fits cX9_fits 3 (some .boolean) 1 [.int v0, .int v1, .int v2] σ (RI (fun r t => t = σ ∧ K r)) := by
  unfold wp_X9_fits at h
  refine MC.of (by decide) hD (Nat.le_of_ble_eq_true rfl) ?_
  intro p e s m args below meth c C
  replace C : Cx p (rmD 1) s m args meth c shM G cX9_fits 3 1 RX9 (some .boolean) 0 0 := C
  show Go p l e (rmD 1) s m args below meth c shM G 3 0 0 (MQ below (Qw shM G (RI (fun r t => t = σ ∧ K r))) args s 0 0 (Fr shM G)) 0 [(0, .int v0), (1, .int v1), (2, .int v2)] [] σ
  refine g_iload_n (pc := 0) C 0 dX9_fits_0 rfl rfl ?_
  refine g_if_lt (pc := 1) (tgt := 19) C dX9_fits_1 (by decide) (fun c_ => ?_) (fun c_ => ?_)
  · replace h := ite_t h c_
    refine g_lv [] (lv2 := []) rfl ?_
    exact k_X9_fits_19 C  h
  · replace h := ite_f h c_
    refine g_iload_n (pc := 4) C 0 dX9_fits_4 rfl rfl ?_
    refine g_i2l (pc := 5) C dX9_fits_5 ?_
    refine g_iload_n (pc := 6) C 1 dX9_fits_6 rfl rfl ?_
    refine g_i2l (pc := 7) C dX9_fits_7 ?_
    refine g_ladd (pc := 8) C dX9_fits_8 ?_
    refine g_iload_n (pc := 9) C 2 dX9_fits_9 rfl rfl ?_
    refine g_i2l (pc := 10) C dX9_fits_10 ?_
    refine g_lcmp (pc := 11) C dX9_fits_11 ?_
    refine g_if_gt (pc := 12) (tgt := 19) C dX9_fits_12 (by decide) (fun c_ => ?_) (fun c_ => ?_)
    · replace h := ite_t h c_
      refine g_lv [] (lv2 := []) rfl ?_
      exact k_X9_fits_19 C  h
    · replace h := ite_f h c_
      refine g_iconst (pc := 15) (v := 1) C dX9_fits_15 ic_1 ?_
      refine g_goto (pc := 16) (tgt := 20) C dX9_fits_16 (by decide) ?_
      refine g_lv [] (lv2 := []) rfl ?_
      exact k_X9_fits_20 C  h
set_option maxHeartbeats 4000000 in
set_option maxRecDepth 100000 in
theorem k_X9_copy_14 {σ : St} {K : Int32 → St → Prop} (C : Cx p R s m args meth c shM G cX9_copy 7 3 RX9 (some .int) 0 0) (h : J_X9_copy_14 σ K) : Go p l e R s m args below meth c shM G 7 0 0 (MQ below (Qw shM G (RI K)) args s 0 0 (Fr shM G)) 14 [] [] σ := by
  unfold J_X9_copy_14 at h
  refine g_iconst (pc := 14) (v := -1) C dX9_copy_14 ic_m1 ?_
  exact g_iret (pc := 15) C dX9_copy_15 ⟨_, rfl, h⟩
set_option maxHeartbeats 4000000 in
set_option maxRecDepth 100000 in
theorem k_X9_copy_45 {σ : St} {K : Int32 → St → Prop} (C : Cx p R s m args meth c shM G cX9_copy 7 3 RX9 (some .int) 0 0) (h : J_X9_copy_45 σ K) : Go p l e R s m args below meth c shM G 7 0 0 (MQ below (Qw shM G (RI K)) args s 0 0 (Fr shM G)) 45 [(0, .ref (G.2.2 0))] [] σ := by
  unfold J_X9_copy_45 at h
  refine g_aload_n (pc := 45) C 0 dX9_copy_45 rfl rfl ?_
  refine g_iconst (pc := 46) (v := 1) C dX9_copy_46 ic_1 ?_
  refine g_callVi (pc := 47) (As := [.int 1]) (rest := []) C rfl rfl rfl rfl (M_X9_found C.2.2.1  h) CyX9_found tw_958 tw_960 ts_25 (by decide) rfl rfl (Nat.le_of_ble_eq_true rfl) dX9_copy_47 (fun r47 t47 h => ?_)
  exact g_iret (pc := 50) C dX9_copy_50 ⟨_, rfl, h⟩
set_option maxHeartbeats 4000000 in
set_option maxRecDepth 100000 in
theorem k_X9_copy_82 {σ : St} {K : Int32 → St → Prop} (C : Cx p R s m args meth c shM G cX9_copy 7 3 RX9 (some .int) 0 0) (h : J_X9_copy_82 σ K) : Go p l e R s m args below meth c shM G 7 0 0 (MQ below (Qw shM G (RI K)) args s 0 0 (Fr shM G)) 82 [(0, .ref (G.2.2 0))] [] σ := by
  unfold J_X9_copy_82 at h
  refine g_aload_n (pc := 82) C 0 dX9_copy_82 rfl rfl ?_
  refine g_iconst (pc := 83) (v := 2) C dX9_copy_83 ic_2 ?_
  refine g_callVi (pc := 84) (As := [.int 2]) (rest := []) C rfl rfl rfl rfl (M_X9_found C.2.2.1  h) CyX9_found tw_958 tw_960 ts_25 (by decide) rfl rfl (Nat.le_of_ble_eq_true rfl) dX9_copy_84 (fun r84 t84 h => ?_)
  exact g_iret (pc := 87) C dX9_copy_87 ⟨_, rfl, h⟩
set_option maxHeartbeats 4000000 in
set_option maxRecDepth 100000 in
theorem k_X9_copy_128 {v3 : Int32} {v4 : Int32} {v5 : Int32} {v6 : Int32} {σ : St} {K : Int32 → St → Prop} (C : Cx p R s m args meth c shM G cX9_copy 7 3 RX9 (some .int) 0 0) (h : L_X9_copy_128 v3 v4 v5 K v6 σ) : Go p l e R s m args below meth c shM G 7 0 0 (MQ below (Qw shM G (RI K)) args s 0 0 (Fr shM G)) 128 [(0, .ref (G.2.2 0)), (3, .int v3), (4, .int v4), (5, .int v5), (6, .int v6)] [] σ := by
  obtain ⟨n_, h⟩ := h
  induction n_ generalizing v6 σ with
  | zero => exact h.elim
  | succ n_ ih =>
    replace h : B_X9_copy_128 v3 v4 v5 K (it2 (B_X9_copy_128 v3 v4 v5 K) n_) v6 σ := h
    unfold B_X9_copy_128 at h
    refine g_iload (pc := 128) C 4 dX9_copy_128 rfl ?_
    refine g_iload (pc := 130) C 3 dX9_copy_130 rfl ?_
    refine g_icmp_ge (pc := 132) (tgt := 163) C dX9_copy_132 (by decide) (fun c_ => ?_) (fun c_ => ?_)
    · replace h := ite_t h c_
      refine g_iconst (pc := 163) (v := 1) C dX9_copy_163 ic_1 ?_
      exact g_iret (pc := 164) C dX9_copy_164 ⟨_, rfl, h⟩
    · replace h := ite_f h c_
      refine g_aload_n (pc := 135) C 0 dX9_copy_135 rfl rfl ?_
      refine get_X9_3 (pc := 136) C rfl tw_865 dX9_copy_136 ?_
      refine g_bipush (pc := 139) (v := 40) C dX9_copy_139 bp_40 ?_
      refine g_iload_n (pc := 141) C 1 dX9_copy_141 rfl rfl ?_
      refine g_imul (pc := 142) C dX9_copy_142 ?_
      refine g_iload (pc := 143) C 2 dX9_copy_143 rfl ?_
      refine g_iadd (pc := 145) C dX9_copy_145 ?_
      refine g_iload (pc := 146) C 4 dX9_copy_146 rfl ?_
      refine g_iadd (pc := 148) C dX9_copy_148 ?_
      refine g_aload_n (pc := 149) C 0 dX9_copy_149 rfl rfl ?_
      refine get_X9_7 (pc := 150) C rfl tw_869 dX9_copy_150 ?_
      refine g_iload (pc := 153) C 4 dX9_copy_153 rfl ?_
      obtain ⟨g_, h⟩ := h
      refine g_iald (pc := 155) C rfl g_ dX9_copy_155 ?_
      obtain ⟨g_, h⟩ := h
      refine g_iast (pc := 156) C rfl g_ dX9_copy_156 ?_
      refine g_iinc (pc := 157) (lv2 := [(6, .int (v6 + 1)), (0, .ref (G.2.2 0)), (3, .int v3), (4, .int v4), (5, .int v5)]) C 4 dX9_copy_157 ic_1 rfl (by decide) rfl ?_
      refine g_goto (pc := 160) (tgt := 128) C dX9_copy_160 (by decide) ?_
      refine g_lv [1, 2, 3, 4, 0] (lv2 := [(0, .ref (G.2.2 0)), (3, .int v3), (4, .int v4), (5, .int v5), (6, .int (v6 + 1))]) rfl ?_
      exact ih h
set_option maxHeartbeats 4000000 in
set_option maxRecDepth 100000 in
theorem k_X9_copy_91 {v1 : Int32} {v2 : Int32} {v3 : Int32} {v4 : Int32} {v5 : Int32} {v6 : Int32} {σ : St} {K : Int32 → St → Prop} (C : Cx p R s m args meth c shM G cX9_copy 7 3 RX9 (some .int) 0 0) (h : L_X9_copy_91 v1 v2 v3 v4 v5 K v6 σ) : Go p l e R s m args below meth c shM G 7 0 0 (MQ below (Qw shM G (RI K)) args s 0 0 (Fr shM G)) 91 [(0, .ref (G.2.2 0)), (1, .int v1), (2, .int v2), (3, .int v3), (4, .int v4), (5, .int v5), (6, .int v6)] [] σ := by
  obtain ⟨n_, h⟩ := h
  induction n_ generalizing v6 σ with
  | zero => exact h.elim
  | succ n_ ih =>
    replace h : B_X9_copy_91 v1 v2 v3 v4 v5 K (it2 (B_X9_copy_91 v1 v2 v3 v4 v5 K) n_) v6 σ := h
    unfold B_X9_copy_91 at h
    refine g_iload (pc := 91) C 6 dX9_copy_91 rfl ?_
    refine g_iload (pc := 93) C 5 dX9_copy_93 rfl ?_
    refine g_icmp_ge (pc := 95) (tgt := 125) C dX9_copy_95 (by decide) (fun c_ => ?_) (fun c_ => ?_)
    · replace h := ite_t h c_
      refine g_iconst (pc := 125) (v := 0) C dX9_copy_125 ic_0 ?_
      refine g_istore (pc := 126) (lv2 := [(6, .int 0), (0, .ref (G.2.2 0)), (1, .int v1), (2, .int v2), (3, .int v3), (4, .int v4), (5, .int v5)]) C dX9_copy_126 (by decide) rfl ?_
      refine g_lv [1, 4, 5, 6, 0] (lv2 := [(0, .ref (G.2.2 0)), (3, .int v3), (4, .int v4), (5, .int v5), (6, .int 0)]) rfl ?_
      exact k_X9_copy_128 C  h
    · replace h := ite_f h c_
      refine g_aload_n (pc := 98) C 0 dX9_copy_98 rfl rfl ?_
      refine get_X9_7 (pc := 99) C rfl tw_869 dX9_copy_99 ?_
      refine g_iload (pc := 102) C 6 dX9_copy_102 rfl ?_
      refine g_aload_n (pc := 104) C 0 dX9_copy_104 rfl rfl ?_
      refine get_X9_3 (pc := 105) C rfl tw_865 dX9_copy_105 ?_
      refine g_bipush (pc := 108) (v := 40) C dX9_copy_108 bp_40 ?_
      refine g_iload_n (pc := 110) C 1 dX9_copy_110 rfl rfl ?_
      refine g_imul (pc := 111) C dX9_copy_111 ?_
      refine g_iload_n (pc := 112) C 2 dX9_copy_112 rfl rfl ?_
      refine g_iadd (pc := 113) C dX9_copy_113 ?_
      refine g_iload (pc := 114) C 6 dX9_copy_114 rfl ?_
      refine g_iadd (pc := 116) C dX9_copy_116 ?_
      obtain ⟨g_, h⟩ := h
      refine g_iald (pc := 117) C rfl g_ dX9_copy_117 ?_
      obtain ⟨g_, h⟩ := h
      refine g_iast (pc := 118) C rfl g_ dX9_copy_118 ?_
      refine g_iinc (pc := 119) (lv2 := [(6, .int (v6 + 1)), (0, .ref (G.2.2 0)), (1, .int v1), (2, .int v2), (3, .int v3), (4, .int v4), (5, .int v5)]) C 6 dX9_copy_119 ic_1 rfl (by decide) rfl ?_
      refine g_goto (pc := 122) (tgt := 91) C dX9_copy_122 (by decide) ?_
      refine g_lv [1, 2, 3, 4, 5, 6, 0] (lv2 := [(0, .ref (G.2.2 0)), (1, .int v1), (2, .int v2), (3, .int v3), (4, .int v4), (5, .int v5), (6, .int (v6 + 1))]) rfl ?_
      exact ih h
set_option maxHeartbeats 4000000 in
set_option maxRecDepth 100000 in
theorem M_X9_copy {l : Launch} {G : Gp} (hD : Dj shM G) {v1 : Int32} {v2 : Int32} {v3 : Int32} {v4 : Int32} {v5 : Int32} {σ : St} {K : Int32 → St → Prop} (h : wp_X9_copy v1 v2 v3 v4 v5 σ K) : MC l shM G yX9_copy cX9_copy 7 (some .int) 3 [.ref (G.2.2 0), .int v1, .int v2, .int v3, .int v4, .int v5] σ (RI K) := by
  unfold wp_X9_copy at h
  refine MC.of (by decide) hD (Nat.le_of_ble_eq_true rfl) ?_
  intro p e s m args below meth c C
  replace C : Cx p (rmD 3) s m args meth c shM G cX9_copy 7 3 RX9 (some .int) 0 0 := C
  show Go p l e (rmD 3) s m args below meth c shM G 7 0 0 (MQ below (Qw shM G (RI K)) args s 0 0 (Fr shM G)) 0 [(0, .ref (G.2.2 0)), (1, .int v1), (2, .int v2), (3, .int v3), (4, .int v4), (5, .int v5)] [] σ
  refine g_iload_n (pc := 0) C 1 dX9_copy_0 rfl rfl ?_
  refine g_callSip (pc := 1) (As := [.int v1]) (rest := []) C (M_X9_isRow C.2.2.1  h) CyX9_isRow tw_951 tw_952 (by decide) rfl rfl (Nat.le_of_ble_eq_true rfl) dX9_copy_1 (fun r1 h => ?_)
  refine g_if_eq (pc := 4) (tgt := 14) C dX9_copy_4 (by decide) (fun c_ => ?_) (fun c_ => ?_)
  · replace h := ite_t h c_
    refine g_lv [] (lv2 := []) rfl ?_
    exact k_X9_copy_14 C  h
  · replace h := ite_f h c_
    refine g_iload_n (pc := 7) C 3 dX9_copy_7 rfl rfl ?_
    refine g_callSip (pc := 8) (As := [.int v3]) (rest := []) C (M_X9_isRow C.2.2.1  h) CyX9_isRow tw_951 tw_952 (by decide) rfl rfl (Nat.le_of_ble_eq_true rfl) dX9_copy_8 (fun r8 h => ?_)
    refine g_if_ne (pc := 11) (tgt := 16) C dX9_copy_11 (by decide) (fun c_ => ?_) (fun c_ => ?_)
    · replace h := ite_f h c_
      refine g_iload (pc := 16) C 5 dX9_copy_16 rfl ?_
      refine g_if_ge (pc := 18) (tgt := 27) C dX9_copy_18 (by decide) (fun c_ => ?_) (fun c_ => ?_)
      · replace h := ite_t h c_
        refine g_aload_n (pc := 27) C 0 dX9_copy_27 rfl rfl ?_
        refine get_X9_4 (pc := 28) C rfl tw_866 dX9_copy_28 ?_
        refine g_iload_n (pc := 31) C 1 dX9_copy_31 rfl rfl ?_
        obtain ⟨g_, h⟩ := h
        refine g_iald (pc := 32) C rfl g_ dX9_copy_32 ?_
        refine g_if_lt (pc := 33) (tgt := 45) C dX9_copy_33 (by decide) (fun c_ => ?_) (fun c_ => ?_)
        · replace h := ite_t h c_
          refine g_lv [0] (lv2 := [(0, .ref (G.2.2 0))]) rfl ?_
          exact k_X9_copy_45 C  h
        · replace h := ite_f h c_
          refine g_aload_n (pc := 36) C 0 dX9_copy_36 rfl rfl ?_
          refine get_X9_4 (pc := 37) C rfl tw_866 dX9_copy_37 ?_
          refine g_iload_n (pc := 40) C 3 dX9_copy_40 rfl rfl ?_
          obtain ⟨g_, h⟩ := h
          refine g_iald (pc := 41) C rfl g_ dX9_copy_41 ?_
          refine g_if_ge (pc := 42) (tgt := 51) C dX9_copy_42 (by decide) (fun c_ => ?_) (fun c_ => ?_)
          · replace h := ite_t h c_
            refine g_iload_n (pc := 51) C 2 dX9_copy_51 rfl rfl ?_
            refine g_iload (pc := 52) C 5 dX9_copy_52 rfl ?_
            refine g_aload_n (pc := 54) C 0 dX9_copy_54 rfl rfl ?_
            refine get_X9_4 (pc := 55) C rfl tw_866 dX9_copy_55 ?_
            refine g_iload_n (pc := 58) C 1 dX9_copy_58 rfl rfl ?_
            obtain ⟨g_, h⟩ := h
            refine g_iald (pc := 59) C rfl g_ dX9_copy_59 ?_
            refine g_callSip (pc := 60) (As := [.int v2, .int v5, .int (σ.1 4 v1.toNatClampNeg)]) (rest := []) C (M_X9_fits C.2.2.1  h) CyX9_fits tw_987 tw_988 (by decide) rfl rfl (Nat.le_of_ble_eq_true rfl) dX9_copy_60 (fun r60 h => ?_)
            refine g_if_eq (pc := 63) (tgt := 82) C dX9_copy_63 (by decide) (fun c_ => ?_) (fun c_ => ?_)
            · replace h := ite_t h c_
              refine g_lv [0] (lv2 := [(0, .ref (G.2.2 0))]) rfl ?_
              exact k_X9_copy_82 C  h
            · replace h := ite_f h c_
              refine g_iload (pc := 66) C 4 dX9_copy_66 rfl ?_
              refine g_iload (pc := 68) C 5 dX9_copy_68 rfl ?_
              refine g_aload_n (pc := 70) C 0 dX9_copy_70 rfl rfl ?_
              refine get_X9_4 (pc := 71) C rfl tw_866 dX9_copy_71 ?_
              refine g_iload_n (pc := 74) C 3 dX9_copy_74 rfl rfl ?_
              obtain ⟨g_, h⟩ := h
              refine g_iald (pc := 75) C rfl g_ dX9_copy_75 ?_
              refine g_callSip (pc := 76) (As := [.int v4, .int v5, .int (σ.1 4 v3.toNatClampNeg)]) (rest := []) C (M_X9_fits C.2.2.1  h) CyX9_fits tw_987 tw_988 (by decide) rfl rfl (Nat.le_of_ble_eq_true rfl) dX9_copy_76 (fun r76 h => ?_)
              refine g_if_ne (pc := 79) (tgt := 88) C dX9_copy_79 (by decide) (fun c_ => ?_) (fun c_ => ?_)
              · replace h := ite_f h c_
                refine g_iconst (pc := 88) (v := 0) C dX9_copy_88 ic_0 ?_
                refine g_istore (pc := 89) (lv2 := [(6, .int 0), (0, .ref (G.2.2 0)), (1, .int v1), (2, .int v2), (3, .int v3), (4, .int v4), (5, .int v5)]) C dX9_copy_89 (by decide) rfl ?_
                refine g_lv [1, 2, 3, 4, 5, 6, 0] (lv2 := [(0, .ref (G.2.2 0)), (1, .int v1), (2, .int v2), (3, .int v3), (4, .int v4), (5, .int v5), (6, .int 0)]) rfl ?_
                exact k_X9_copy_91 C  h
              · replace h := ite_t h c_
                refine g_lv [0] (lv2 := [(0, .ref (G.2.2 0))]) rfl ?_
                exact k_X9_copy_82 C  h
          · replace h := ite_f h c_
            refine g_lv [0] (lv2 := [(0, .ref (G.2.2 0))]) rfl ?_
            exact k_X9_copy_45 C  h
      · replace h := ite_f h c_
        refine g_aload_n (pc := 21) C 0 dX9_copy_21 rfl rfl ?_
        refine g_iconst (pc := 22) (v := 5) C dX9_copy_22 ic_5 ?_
        refine g_callVi (pc := 23) (As := [.int 5]) (rest := []) C rfl rfl rfl rfl (M_X9_found C.2.2.1  h) CyX9_found tw_958 tw_960 ts_25 (by decide) rfl rfl (Nat.le_of_ble_eq_true rfl) dX9_copy_23 (fun r23 t23 h => ?_)
        exact g_iret (pc := 26) C dX9_copy_26 ⟨_, rfl, h⟩
    · replace h := ite_t h c_
      refine g_lv [] (lv2 := []) rfl ?_
      exact k_X9_copy_14 C  h
set_option maxHeartbeats 4000000 in
set_option maxRecDepth 100000 in
theorem k_X9_copyAll_3 {v1 : Int32} {v2 : Int32} {v3 : Int32} {v4 : Int32} {σ : St} {K : St → Prop} (C : Cx p R s m args meth c shM G cX9_copyAll 5 1 RX9 none 0 0) (h : L_X9_copyAll_3 v1 v2 v3 K v4 σ) : Go p l e R s m args below meth c shM G 5 0 0 (MQ below (Qw shM G (RV K)) args s 0 0 (Fr shM G)) 3 [(0, .ref (G.2.2 0)), (1, .int v1), (2, .int v2), (3, .int v3), (4, .int v4)] [] σ := by
  obtain ⟨n_, h⟩ := h
  induction n_ generalizing v4 σ with
  | zero => exact h.elim
  | succ n_ ih =>
    replace h : B_X9_copyAll_3 v1 v2 v3 K (it2 (B_X9_copyAll_3 v1 v2 v3 K) n_) v4 σ := h
    unfold B_X9_copyAll_3 at h
    refine g_iload (pc := 3) C 4 dX9_copyAll_3 rfl ?_
    refine g_iload_n (pc := 5) C 3 dX9_copyAll_5 rfl rfl ?_
    refine g_icmp_ge (pc := 6) (tgt := 33) C dX9_copyAll_6 (by decide) (fun c_ => ?_) (fun c_ => ?_)
    · replace h := ite_t h c_
      exact g_vret (pc := 33) C dX9_copyAll_33 ⟨rfl, h⟩
    · replace h := ite_f h c_
      refine g_aload_n (pc := 9) C 0 dX9_copyAll_9 rfl rfl ?_
      refine get_X9_0 (pc := 10) C rfl tw_862 dX9_copyAll_10 ?_
      refine g_iload_n (pc := 13) C 2 dX9_copyAll_13 rfl rfl ?_
      refine g_iload (pc := 14) C 4 dX9_copyAll_14 rfl ?_
      refine g_iadd (pc := 16) C dX9_copyAll_16 ?_
      refine g_aload_n (pc := 17) C 0 dX9_copyAll_17 rfl rfl ?_
      refine get_X9_0 (pc := 18) C rfl tw_862 dX9_copyAll_18 ?_
      refine g_iload_n (pc := 21) C 1 dX9_copyAll_21 rfl rfl ?_
      refine g_iload (pc := 22) C 4 dX9_copyAll_22 rfl ?_
      refine g_iadd (pc := 24) C dX9_copyAll_24 ?_
      obtain ⟨g_, h⟩ := h
      refine g_iald (pc := 25) C rfl g_ dX9_copyAll_25 ?_
      obtain ⟨g_, h⟩ := h
      refine g_iast (pc := 26) C rfl g_ dX9_copyAll_26 ?_
      refine g_iinc (pc := 27) (lv2 := [(4, .int (v4 + 1)), (0, .ref (G.2.2 0)), (1, .int v1), (2, .int v2), (3, .int v3)]) C 4 dX9_copyAll_27 ic_1 rfl (by decide) rfl ?_
      refine g_goto (pc := 30) (tgt := 3) C dX9_copyAll_30 (by decide) ?_
      refine g_lv [1, 2, 3, 4, 0] (lv2 := [(0, .ref (G.2.2 0)), (1, .int v1), (2, .int v2), (3, .int v3), (4, .int (v4 + 1))]) rfl ?_
      exact ih h
set_option maxHeartbeats 4000000 in
set_option maxRecDepth 100000 in
theorem M_X9_copyAll {l : Launch} {G : Gp} (hD : Dj shM G) {v1 : Int32} {v2 : Int32} {v3 : Int32} {σ : St} {K : St → Prop} (h : wp_X9_copyAll v1 v2 v3 σ K) : MC l shM G yX9_copyAll cX9_copyAll 5 none 1 [.ref (G.2.2 0), .int v1, .int v2, .int v3] σ (RV K) := by
  unfold wp_X9_copyAll at h
  refine MC.of (by decide) hD (Nat.le_of_ble_eq_true rfl) ?_
  intro p e s m args below meth c C
  replace C : Cx p (rmD 1) s m args meth c shM G cX9_copyAll 5 1 RX9 none 0 0 := C
  show Go p l e (rmD 1) s m args below meth c shM G 5 0 0 (MQ below (Qw shM G (RV K)) args s 0 0 (Fr shM G)) 0 [(0, .ref (G.2.2 0)), (1, .int v1), (2, .int v2), (3, .int v3)] [] σ
  refine g_iconst (pc := 0) (v := 0) C dX9_copyAll_0 ic_0 ?_
  refine g_istore (pc := 1) (lv2 := [(4, .int 0), (0, .ref (G.2.2 0)), (1, .int v1), (2, .int v2), (3, .int v3)]) C dX9_copyAll_1 (by decide) rfl ?_
  refine g_lv [1, 2, 3, 4, 0] (lv2 := [(0, .ref (G.2.2 0)), (1, .int v1), (2, .int v2), (3, .int v3), (4, .int 0)]) rfl ?_
  exact k_X9_copyAll_3 C  h
set_option maxHeartbeats 4000000 in
set_option maxRecDepth 100000 in
theorem k_X9_heavies_34 {v2 : Int32} {w0 : Int32} {w1 : Int32} {σ : St} {K : Int32 → Prop} {Φ4 : Int32 → Int32 → Prop} (C : Cx p R s m args meth c shM G cX9_heavies 3 2 RX9 (some .int) 0 0) (hΦ4 : ∀ (v1' : Int32) (v2' : Int32), Φ4 v1' v2' → Go p l e R s m args below meth c shM G 3 0 0 (MQ below (Qw shM G (RI (fun r t => t = σ ∧ K r))) args s 0 0 (Fr shM G)) 4 [(0, .ref (G.2.2 0)), (1, .int (v1')), (2, .int (v2'))] [] σ) (h : J_X9_heavies_34 v2 w0 w1 σ K Φ4) : Go p l e R s m args below meth c shM G 3 0 0 (MQ below (Qw shM G (RI (fun r t => t = σ ∧ K r))) args s 0 0 (Fr shM G)) 34 [(0, .ref (G.2.2 0)), (2, .int v2)] [.int w1, .int w0] σ := by
  unfold J_X9_heavies_34 at h
  refine g_iadd (pc := 34) C dX9_heavies_34 ?_
  refine g_istore_n (pc := 35) (lv2 := [(1, .int (w0 + w1)), (0, .ref (G.2.2 0)), (2, .int v2)]) C dX9_heavies_35 rfl (by decide) rfl ?_
  refine g_iinc (pc := 36) (lv2 := [(2, .int (v2 + 1)), (1, .int (w0 + w1)), (0, .ref (G.2.2 0))]) C 2 dX9_heavies_36 ic_1 rfl (by decide) rfl ?_
  refine g_goto (pc := 39) (tgt := 4) C dX9_heavies_39 (by decide) ?_
  refine g_lv [2, 1, 0] (lv2 := [(0, .ref (G.2.2 0)), (1, .int (w0 + w1)), (2, .int (v2 + 1))]) rfl ?_
  exact hΦ4 _ _ h
set_option maxHeartbeats 4000000 in
set_option maxRecDepth 100000 in
theorem k_X9_heavies_4 {v1 : Int32} {v2 : Int32} {σ : St} {K : Int32 → Prop} (C : Cx p R s m args meth c shM G cX9_heavies 3 2 RX9 (some .int) 0 0) (h : L_X9_heavies_4 σ K v1 v2) : Go p l e R s m args below meth c shM G 3 0 0 (MQ below (Qw shM G (RI (fun r t => t = σ ∧ K r))) args s 0 0 (Fr shM G)) 4 [(0, .ref (G.2.2 0)), (1, .int v1), (2, .int v2)] [] σ := by
  obtain ⟨n_, h⟩ := h
  induction n_ generalizing v1 v2 with
  | zero => exact h.elim
  | succ n_ ih =>
    replace h : B_X9_heavies_4 σ K (it2 (B_X9_heavies_4 σ K) n_) v1 v2 := h
    unfold B_X9_heavies_4 at h
    refine g_iload_n (pc := 4) C 2 dX9_heavies_4 rfl rfl ?_
    refine g_aload_n (pc := 5) C 0 dX9_heavies_5 rfl rfl ?_
    refine get_X9_0 (pc := 6) C rfl tw_862 dX9_heavies_6 ?_
    refine g_iconst (pc := 9) (v := 0) C dX9_heavies_9 ic_0 ?_
    obtain ⟨g_, h⟩ := h
    refine g_iald (pc := 10) C rfl g_ dX9_heavies_10 ?_
    refine g_icmp_ge (pc := 11) (tgt := 42) C dX9_heavies_11 (by decide) (fun c_ => ?_) (fun c_ => ?_)
    · replace h := ite_t h c_
      refine g_iload_n (pc := 42) C 1 dX9_heavies_42 rfl rfl ?_
      exact g_iret (pc := 43) C dX9_heavies_43 ⟨_, rfl, ⟨rfl, h⟩⟩
    · replace h := ite_f h c_
      refine g_iload_n (pc := 14) C 1 dX9_heavies_14 rfl rfl ?_
      refine g_aload_n (pc := 15) C 0 dX9_heavies_15 rfl rfl ?_
      refine get_X9_0 (pc := 16) C rfl tw_862 dX9_heavies_16 ?_
      refine g_iconst (pc := 19) (v := 2) C dX9_heavies_19 ic_2 ?_
      refine g_iload_n (pc := 20) C 2 dX9_heavies_20 rfl rfl ?_
      refine g_iadd (pc := 21) C dX9_heavies_21 ?_
      obtain ⟨g_, h⟩ := h
      refine g_iald (pc := 22) C rfl g_ dX9_heavies_22 ?_
      refine g_callSip (pc := 23) (As := [.int (σ.1 1 (2 + v2).toNatClampNeg)]) (rest := [.int v1]) C (M_X9_isHeavy C.2.2.1  h) CyX9_isHeavy tw_1064 tw_1065 (by decide) rfl rfl (Nat.le_of_ble_eq_true rfl) dX9_heavies_23 (fun r23 h => ?_)
      refine g_if_eq (pc := 26) (tgt := 33) C dX9_heavies_26 (by decide) (fun c_ => ?_) (fun c_ => ?_)
      · replace h := ite_t h c_
        refine g_iconst (pc := 33) (v := 0) C dX9_heavies_33 ic_0 ?_
        refine g_lv [0, 2] (lv2 := [(0, .ref (G.2.2 0)), (2, .int v2)]) rfl ?_
        exact k_X9_heavies_34 C (fun _ _ h_ => ih h_) h
      · replace h := ite_f h c_
        refine g_iconst (pc := 29) (v := 1) C dX9_heavies_29 ic_1 ?_
        refine g_goto (pc := 30) (tgt := 34) C dX9_heavies_30 (by decide) ?_
        refine g_lv [0, 2] (lv2 := [(0, .ref (G.2.2 0)), (2, .int v2)]) rfl ?_
        exact k_X9_heavies_34 C (fun _ _ h_ => ih h_) h
set_option maxHeartbeats 4000000 in
set_option maxRecDepth 100000 in
theorem M_X9_heavies {l : Launch} {G : Gp} (hD : Dj shM G) {σ : St} {K : Int32 → Prop} (h : wp_X9_heavies σ K) : MC l shM G yX9_heavies cX9_heavies 3 (some .int) 2 [.ref (G.2.2 0)] σ (RI (fun r t => t = σ ∧ K r)) := by
  unfold wp_X9_heavies at h
  refine MC.of (by decide) hD (Nat.le_of_ble_eq_true rfl) ?_
  intro p e s m args below meth c C
  replace C : Cx p (rmD 2) s m args meth c shM G cX9_heavies 3 2 RX9 (some .int) 0 0 := C
  show Go p l e (rmD 2) s m args below meth c shM G 3 0 0 (MQ below (Qw shM G (RI (fun r t => t = σ ∧ K r))) args s 0 0 (Fr shM G)) 0 [(0, .ref (G.2.2 0))] [] σ
  refine g_iconst (pc := 0) (v := 0) C dX9_heavies_0 ic_0 ?_
  refine g_istore_n (pc := 1) (lv2 := [(1, .int 0), (0, .ref (G.2.2 0))]) C dX9_heavies_1 rfl (by decide) rfl ?_
  refine g_iconst (pc := 2) (v := 0) C dX9_heavies_2 ic_0 ?_
  refine g_istore_n (pc := 3) (lv2 := [(2, .int 0), (1, .int 0), (0, .ref (G.2.2 0))]) C dX9_heavies_3 rfl (by decide) rfl ?_
  refine g_lv [2, 1, 0] (lv2 := [(0, .ref (G.2.2 0)), (1, .int 0), (2, .int 0)]) rfl ?_
  exact k_X9_heavies_4 C  h
set_option maxHeartbeats 4000000 in
set_option maxRecDepth 100000 in
theorem k_X9_standing_34 {v2 : Int32} {w0 : Int32} {w1 : Int32} {σ : St} {K : Int32 → Prop} {Φ4 : Int32 → Int32 → Prop} (C : Cx p R s m args meth c shM G cX9_standing 3 1 RX9 (some .int) 0 0) (hΦ4 : ∀ (v1' : Int32) (v2' : Int32), Φ4 v1' v2' → Go p l e R s m args below meth c shM G 3 0 0 (MQ below (Qw shM G (RI (fun r t => t = σ ∧ K r))) args s 0 0 (Fr shM G)) 4 [(0, .ref (G.2.2 0)), (1, .int (v1')), (2, .int (v2'))] [] σ) (h : J_X9_standing_34 v2 w0 w1 σ K Φ4) : Go p l e R s m args below meth c shM G 3 0 0 (MQ below (Qw shM G (RI (fun r t => t = σ ∧ K r))) args s 0 0 (Fr shM G)) 34 [(0, .ref (G.2.2 0)), (2, .int v2)] [.int w1, .int w0] σ := by
  unfold J_X9_standing_34 at h
  refine g_iadd (pc := 34) C dX9_standing_34 ?_
  refine g_istore_n (pc := 35) (lv2 := [(1, .int (w0 + w1)), (0, .ref (G.2.2 0)), (2, .int v2)]) C dX9_standing_35 rfl (by decide) rfl ?_
  refine g_iinc (pc := 36) (lv2 := [(2, .int (v2 + 1)), (1, .int (w0 + w1)), (0, .ref (G.2.2 0))]) C 2 dX9_standing_36 ic_1 rfl (by decide) rfl ?_
  refine g_goto (pc := 39) (tgt := 4) C dX9_standing_39 (by decide) ?_
  refine g_lv [2, 1, 0] (lv2 := [(0, .ref (G.2.2 0)), (1, .int (w0 + w1)), (2, .int (v2 + 1))]) rfl ?_
  exact hΦ4 _ _ h
set_option maxHeartbeats 4000000 in
set_option maxRecDepth 100000 in
theorem k_X9_standing_4 {v1 : Int32} {v2 : Int32} {σ : St} {K : Int32 → Prop} (C : Cx p R s m args meth c shM G cX9_standing 3 1 RX9 (some .int) 0 0) (h : L_X9_standing_4 σ K v1 v2) : Go p l e R s m args below meth c shM G 3 0 0 (MQ below (Qw shM G (RI (fun r t => t = σ ∧ K r))) args s 0 0 (Fr shM G)) 4 [(0, .ref (G.2.2 0)), (1, .int v1), (2, .int v2)] [] σ := by
  obtain ⟨n_, h⟩ := h
  induction n_ generalizing v1 v2 with
  | zero => exact h.elim
  | succ n_ ih =>
    replace h : B_X9_standing_4 σ K (it2 (B_X9_standing_4 σ K) n_) v1 v2 := h
    unfold B_X9_standing_4 at h
    refine g_iload_n (pc := 4) C 2 dX9_standing_4 rfl rfl ?_
    refine g_aload_n (pc := 5) C 0 dX9_standing_5 rfl rfl ?_
    refine get_X9_0 (pc := 6) C rfl tw_862 dX9_standing_6 ?_
    refine g_iconst (pc := 9) (v := 0) C dX9_standing_9 ic_0 ?_
    obtain ⟨g_, h⟩ := h
    refine g_iald (pc := 10) C rfl g_ dX9_standing_10 ?_
    refine g_icmp_ge (pc := 11) (tgt := 42) C dX9_standing_11 (by decide) (fun c_ => ?_) (fun c_ => ?_)
    · replace h := ite_t h c_
      refine g_iload_n (pc := 42) C 1 dX9_standing_42 rfl rfl ?_
      exact g_iret (pc := 43) C dX9_standing_43 ⟨_, rfl, ⟨rfl, h⟩⟩
    · replace h := ite_f h c_
      refine g_iload_n (pc := 14) C 1 dX9_standing_14 rfl rfl ?_
      refine g_aload_n (pc := 15) C 0 dX9_standing_15 rfl rfl ?_
      refine get_X9_0 (pc := 16) C rfl tw_862 dX9_standing_16 ?_
      refine g_bipush (pc := 19) (v := 14) C dX9_standing_19 bp_14 ?_
      refine g_iload_n (pc := 21) C 2 dX9_standing_21 rfl rfl ?_
      refine g_iadd (pc := 22) C dX9_standing_22 ?_
      obtain ⟨g_, h⟩ := h
      refine g_iald (pc := 23) C rfl g_ dX9_standing_23 ?_
      refine g_bipush (pc := 24) (v := 20) C dX9_standing_24 bp_20 ?_
      refine g_icmp_ne (pc := 26) (tgt := 33) C dX9_standing_26 (by decide) (fun c_ => ?_) (fun c_ => ?_)
      · replace h := ite_f h c_
        refine g_iconst (pc := 33) (v := 0) C dX9_standing_33 ic_0 ?_
        refine g_lv [0, 2] (lv2 := [(0, .ref (G.2.2 0)), (2, .int v2)]) rfl ?_
        exact k_X9_standing_34 C (fun _ _ h_ => ih h_) h
      · replace h := ite_t h c_
        refine g_iconst (pc := 29) (v := 1) C dX9_standing_29 ic_1 ?_
        refine g_goto (pc := 30) (tgt := 34) C dX9_standing_30 (by decide) ?_
        refine g_lv [0, 2] (lv2 := [(0, .ref (G.2.2 0)), (2, .int v2)]) rfl ?_
        exact k_X9_standing_34 C (fun _ _ h_ => ih h_) h
set_option maxHeartbeats 4000000 in
set_option maxRecDepth 100000 in
theorem M_X9_standing {l : Launch} {G : Gp} (hD : Dj shM G) {σ : St} {K : Int32 → Prop} (h : wp_X9_standing σ K) : MC l shM G yX9_standing cX9_standing 3 (some .int) 1 [.ref (G.2.2 0)] σ (RI (fun r t => t = σ ∧ K r)) := by
  unfold wp_X9_standing at h
  refine MC.of (by decide) hD (Nat.le_of_ble_eq_true rfl) ?_
  intro p e s m args below meth c C
  replace C : Cx p (rmD 1) s m args meth c shM G cX9_standing 3 1 RX9 (some .int) 0 0 := C
  show Go p l e (rmD 1) s m args below meth c shM G 3 0 0 (MQ below (Qw shM G (RI (fun r t => t = σ ∧ K r))) args s 0 0 (Fr shM G)) 0 [(0, .ref (G.2.2 0))] [] σ
  refine g_iconst (pc := 0) (v := 0) C dX9_standing_0 ic_0 ?_
  refine g_istore_n (pc := 1) (lv2 := [(1, .int 0), (0, .ref (G.2.2 0))]) C dX9_standing_1 rfl (by decide) rfl ?_
  refine g_iconst (pc := 2) (v := 0) C dX9_standing_2 ic_0 ?_
  refine g_istore_n (pc := 3) (lv2 := [(2, .int 0), (1, .int 0), (0, .ref (G.2.2 0))]) C dX9_standing_3 rfl (by decide) rfl ?_
  refine g_lv [2, 1, 0] (lv2 := [(0, .ref (G.2.2 0)), (1, .int 0), (2, .int 0)]) rfl ?_
  exact k_X9_standing_4 C  h
set_option maxHeartbeats 4000000 in
set_option maxRecDepth 100000 in
theorem k_X9_thereOf_21 {k0 : Nat} {n0 : Nat} {v1 : Int32} {v3 : Int32} {w0 : Int32} {w1 : Int32} {σ : St} {K : Int32 → Prop} {Φ4 : Int32 → Int32 → Prop} (C : Cx p R s m args meth c shM G cX9_thereOf 4 1 RX9 (some .int) 0 0) (hk0 : shM[k0]? = some (10, n0, 0)) (hΦ4 : ∀ (v2' : Int32) (v3' : Int32), Φ4 v2' v3' → Go p l e R s m args below meth c shM G 4 0 0 (MQ below (Qw shM G (RI (fun r t => t = σ ∧ K r))) args s 0 0 (Fr shM G)) 4 [(0, .ref (G.2.2 k0)), (1, .int v1), (2, .int (v2')), (3, .int (v3'))] [] σ) (h : J_X9_thereOf_21 k0 n0 v1 v3 w0 w1 σ K Φ4) : Go p l e R s m args below meth c shM G 4 0 0 (MQ below (Qw shM G (RI (fun r t => t = σ ∧ K r))) args s 0 0 (Fr shM G)) 21 [(0, .ref (G.2.2 k0)), (1, .int v1), (3, .int v3)] [.int w1, .int w0] σ := by
  unfold J_X9_thereOf_21 at h
  refine g_iadd (pc := 21) C dX9_thereOf_21 ?_
  refine g_istore_n (pc := 22) (lv2 := [(2, .int (w0 + w1)), (0, .ref (G.2.2 k0)), (1, .int v1), (3, .int v3)]) C dX9_thereOf_22 rfl (by decide) rfl ?_
  refine g_iinc (pc := 23) (lv2 := [(3, .int (v3 + 1)), (2, .int (w0 + w1)), (0, .ref (G.2.2 k0)), (1, .int v1)]) C 3 dX9_thereOf_23 ic_1 rfl (by decide) rfl ?_
  refine g_goto (pc := 26) (tgt := 4) C dX9_thereOf_26 (by decide) ?_
  refine g_lv [2, 3, 1, 0] (lv2 := [(0, .ref (G.2.2 k0)), (1, .int v1), (2, .int (w0 + w1)), (3, .int (v3 + 1))]) rfl ?_
  exact hΦ4 _ _ h
set_option maxHeartbeats 4000000 in
set_option maxRecDepth 100000 in
theorem k_X9_thereOf_4 {k0 : Nat} {n0 : Nat} {v1 : Int32} {v2 : Int32} {v3 : Int32} {σ : St} {K : Int32 → Prop} (C : Cx p R s m args meth c shM G cX9_thereOf 4 1 RX9 (some .int) 0 0) (hk0 : shM[k0]? = some (10, n0, 0)) (h : L_X9_thereOf_4 k0 n0 v1 σ K v2 v3) : Go p l e R s m args below meth c shM G 4 0 0 (MQ below (Qw shM G (RI (fun r t => t = σ ∧ K r))) args s 0 0 (Fr shM G)) 4 [(0, .ref (G.2.2 k0)), (1, .int v1), (2, .int v2), (3, .int v3)] [] σ := by
  obtain ⟨n_, h⟩ := h
  induction n_ generalizing v2 v3 with
  | zero => exact h.elim
  | succ n_ ih =>
    replace h : B_X9_thereOf_4 k0 n0 v1 σ K (it2 (B_X9_thereOf_4 k0 n0 v1 σ K) n_) v2 v3 := h
    unfold B_X9_thereOf_4 at h
    refine g_iload_n (pc := 4) C 3 dX9_thereOf_4 rfl rfl ?_
    refine g_iload_n (pc := 5) C 1 dX9_thereOf_5 rfl rfl ?_
    refine g_icmp_ge (pc := 6) (tgt := 29) C dX9_thereOf_6 (by decide) (fun c_ => ?_) (fun c_ => ?_)
    · replace h := ite_t h c_
      refine g_iload_n (pc := 29) C 2 dX9_thereOf_29 rfl rfl ?_
      exact g_iret (pc := 30) C dX9_thereOf_30 ⟨_, rfl, ⟨rfl, h⟩⟩
    · replace h := ite_f h c_
      refine g_iload_n (pc := 9) C 2 dX9_thereOf_9 rfl rfl ?_
      refine g_aload_n (pc := 10) C 0 dX9_thereOf_10 rfl rfl ?_
      refine g_iload_n (pc := 11) C 3 dX9_thereOf_11 rfl rfl ?_
      obtain ⟨g_, h⟩ := h
      refine g_iald (pc := 12) C hk0 g_ dX9_thereOf_12 ?_
      refine g_if_ge (pc := 13) (tgt := 20) C dX9_thereOf_13 (by decide) (fun c_ => ?_) (fun c_ => ?_)
      · replace h := ite_t h c_
        refine g_iconst (pc := 20) (v := 1) C dX9_thereOf_20 ic_1 ?_
        refine g_lv [0, 1, 3] (lv2 := [(0, .ref (G.2.2 k0)), (1, .int v1), (3, .int v3)]) rfl ?_
        exact k_X9_thereOf_21 C hk0 (fun _ _ h_ => ih h_) h
      · replace h := ite_f h c_
        refine g_iconst (pc := 16) (v := 0) C dX9_thereOf_16 ic_0 ?_
        refine g_goto (pc := 17) (tgt := 21) C dX9_thereOf_17 (by decide) ?_
        refine g_lv [0, 1, 3] (lv2 := [(0, .ref (G.2.2 k0)), (1, .int v1), (3, .int v3)]) rfl ?_
        exact k_X9_thereOf_21 C hk0 (fun _ _ h_ => ih h_) h
set_option maxHeartbeats 4000000 in
set_option maxRecDepth 100000 in
theorem M_X9_thereOf {l : Launch} {G : Gp} (hD : Dj shM G) {k0 : Nat} {n0 : Nat} {v1 : Int32} {σ : St} {K : Int32 → Prop} (hk0 : shM[k0]? = some (10, n0, 0)) (h : wp_X9_thereOf k0 n0 v1 σ K) : MC l shM G yX9_thereOf cX9_thereOf 4 (some .int) 1 [.ref (G.2.2 k0), .int v1] σ (RI (fun r t => t = σ ∧ K r)) := by
  unfold wp_X9_thereOf at h
  refine MC.of (by decide) hD (Nat.le_of_ble_eq_true rfl) ?_
  intro p e s m args below meth c C
  replace C : Cx p (rmD 1) s m args meth c shM G cX9_thereOf 4 1 RX9 (some .int) 0 0 := C
  show Go p l e (rmD 1) s m args below meth c shM G 4 0 0 (MQ below (Qw shM G (RI (fun r t => t = σ ∧ K r))) args s 0 0 (Fr shM G)) 0 [(0, .ref (G.2.2 k0)), (1, .int v1)] [] σ
  refine g_iconst (pc := 0) (v := 0) C dX9_thereOf_0 ic_0 ?_
  refine g_istore_n (pc := 1) (lv2 := [(2, .int 0), (0, .ref (G.2.2 k0)), (1, .int v1)]) C dX9_thereOf_1 rfl (by decide) rfl ?_
  refine g_iconst (pc := 2) (v := 0) C dX9_thereOf_2 ic_0 ?_
  refine g_istore_n (pc := 3) (lv2 := [(3, .int 0), (2, .int 0), (0, .ref (G.2.2 k0)), (1, .int v1)]) C dX9_thereOf_3 rfl (by decide) rfl ?_
  refine g_lv [2, 3, 1, 0] (lv2 := [(0, .ref (G.2.2 k0)), (1, .int v1), (2, .int 0), (3, .int 0)]) rfl ?_
  exact k_X9_thereOf_4 C hk0 h
set_option maxHeartbeats 4000000 in
set_option maxRecDepth 100000 in
theorem M_X9_count {l : Launch} {G : Gp} (hD : Dj shM G) {v1 : Int32} {σ : St} {K : Int32 → Prop} (h : wp_X9_count v1 σ K) : MC l shM G yX9_count cX9_count 2 (some .int) 3 [.ref (G.2.2 0), .int v1] σ (RI (fun r t => t = σ ∧ K r)) := by
  unfold wp_X9_count at h
  refine MC.of (by decide) hD (Nat.le_of_ble_eq_true rfl) ?_
  intro p e s m args below meth c C
  replace C : Cx p (rmD 3) s m args meth c shM G cX9_count 2 3 RX9 (some .int) 0 0 := C
  show Go p l e (rmD 3) s m args below meth c shM G 2 0 0 (MQ below (Qw shM G (RI (fun r t => t = σ ∧ K r))) args s 0 0 (Fr shM G)) 0 [(0, .ref (G.2.2 0)), (1, .int v1)] [] σ
  refine g_iload_n (pc := 0) C 1 dX9_count_0 rfl rfl ?_
  by_cases c0_ : v1 = 0
  · replace h := ite_t h c0_
    refine g_tabIn (pc := 1) (tgt := 52) (v := 0) C dX9_count_1 (by rw [c0_]; rfl) (by decide) (by decide) rfl (by decide) ?_
    refine g_aload_n (pc := 52) C 0 dX9_count_52 rfl rfl ?_
    refine get_X9_0 (pc := 53) C rfl tw_862 dX9_count_53 ?_
    refine g_iconst (pc := 56) (v := 0) C dX9_count_56 ic_0 ?_
    obtain ⟨g_, h⟩ := h
    refine g_iald (pc := 57) C rfl g_ dX9_count_57 ?_
    exact g_iret (pc := 58) C dX9_count_58 ⟨_, rfl, ⟨rfl, h⟩⟩
  replace h := ite_f h c0_
  by_cases c1_ : v1 = 1
  · replace h := ite_t h c1_
    refine g_tabIn (pc := 1) (tgt := 59) (v := 1) C dX9_count_1 (by rw [c1_]; rfl) (by decide) (by decide) rfl (by decide) ?_
    refine g_aload_n (pc := 59) C 0 dX9_count_59 rfl rfl ?_
    refine get_X9_0 (pc := 60) C rfl tw_862 dX9_count_60 ?_
    refine g_iconst (pc := 63) (v := 1) C dX9_count_63 ic_1 ?_
    obtain ⟨g_, h⟩ := h
    refine g_iald (pc := 64) C rfl g_ dX9_count_64 ?_
    exact g_iret (pc := 65) C dX9_count_65 ⟨_, rfl, ⟨rfl, h⟩⟩
  replace h := ite_f h c1_
  by_cases c2_ : v1 = 2
  · replace h := ite_t h c2_
    refine g_tabIn (pc := 1) (tgt := 66) (v := 2) C dX9_count_1 (by rw [c2_]; rfl) (by decide) (by decide) rfl (by decide) ?_
    refine g_aload_n (pc := 66) C 0 dX9_count_66 rfl rfl ?_
    refine get_X9_1 (pc := 67) C rfl tw_863 dX9_count_67 ?_
    exact g_iret (pc := 70) C dX9_count_70 ⟨_, rfl, ⟨rfl, h⟩⟩
  replace h := ite_f h c2_
  by_cases c3_ : v1 = 3
  · replace h := ite_t h c3_
    refine g_tabIn (pc := 1) (tgt := 71) (v := 3) C dX9_count_1 (by rw [c3_]; rfl) (by decide) (by decide) rfl (by decide) ?_
    refine g_aload_n (pc := 71) C 0 dX9_count_71 rfl rfl ?_
    refine get_X9_0 (pc := 72) C rfl tw_862 dX9_count_72 ?_
    refine g_iconst (pc := 75) (v := 0) C dX9_count_75 ic_0 ?_
    obtain ⟨g_, h⟩ := h
    refine g_iald (pc := 76) C rfl g_ dX9_count_76 ?_
    refine g_aload_n (pc := 77) C 0 dX9_count_77 rfl rfl ?_
    refine g_callVip (pc := 78) (As := []) (rest := [.int (σ.1 1 (0 : Int32).toNatClampNeg)]) C rfl rfl rfl rfl (M_X9_sounds C.2.2.1  h) CyX9_sounds tw_1206 tw_1208 ts_50 (by decide) rfl rfl (Nat.le_of_ble_eq_true rfl) dX9_count_78 (fun r78 h => ?_)
    refine g_isub (pc := 81) C dX9_count_81 ?_
    exact g_iret (pc := 82) C dX9_count_82 ⟨_, rfl, ⟨rfl, h⟩⟩
  replace h := ite_f h c3_
  by_cases c4_ : v1 = 4
  · replace h := ite_t h c4_
    refine g_tabIn (pc := 1) (tgt := 83) (v := 4) C dX9_count_1 (by rw [c4_]; rfl) (by decide) (by decide) rfl (by decide) ?_
    refine g_aload_n (pc := 83) C 0 dX9_count_83 rfl rfl ?_
    refine g_callVip (pc := 84) (As := []) (rest := []) C rfl rfl rfl rfl (M_X9_standing C.2.2.1  h) CyX9_standing tw_1319 tw_1321 ts_60 (by decide) rfl rfl (Nat.le_of_ble_eq_true rfl) dX9_count_84 (fun r84 h => ?_)
    exact g_iret (pc := 87) C dX9_count_87 ⟨_, rfl, ⟨rfl, h⟩⟩
  replace h := ite_f h c4_
  by_cases c5_ : v1 = 5
  · replace h := ite_t h c5_
    refine g_tabIn (pc := 1) (tgt := 88) (v := 5) C dX9_count_1 (by rw [c5_]; rfl) (by decide) (by decide) rfl (by decide) ?_
    refine g_aload_n (pc := 88) C 0 dX9_count_88 rfl rfl ?_
    refine g_callVip (pc := 89) (As := []) (rest := []) C rfl rfl rfl rfl (M_X9_heavies C.2.2.1  h) CyX9_heavies tw_1323 tw_1325 ts_61 (by decide) rfl rfl (Nat.le_of_ble_eq_true rfl) dX9_count_89 (fun r89 h => ?_)
    exact g_iret (pc := 92) C dX9_count_92 ⟨_, rfl, ⟨rfl, h⟩⟩
  replace h := ite_f h c5_
  by_cases c6_ : v1 = 6
  · replace h := ite_t h c6_
    refine g_tabIn (pc := 1) (tgt := 93) (v := 6) C dX9_count_1 (by rw [c6_]; rfl) (by decide) (by decide) rfl (by decide) ?_
    refine g_aload_n (pc := 93) C 0 dX9_count_93 rfl rfl ?_
    refine get_X9_4 (pc := 94) C rfl tw_866 dX9_count_94 ?_
    refine g_bipush (pc := 97) (v := 6) C dX9_count_97 bp_6 ?_
    refine g_callSip (pc := 99) (As := [.ref (G.2.2 4), .int 6]) (rest := []) C (M_X9_thereOf C.2.2.1 rfl h) CyX9_thereOf tw_1327 tw_1328 (by decide) rfl rfl (Nat.le_of_ble_eq_true rfl) dX9_count_99 (fun r99 h => ?_)
    exact g_iret (pc := 102) C dX9_count_102 ⟨_, rfl, ⟨rfl, h⟩⟩
  replace h := ite_f h c6_
  by_cases c7_ : v1 = 7
  · replace h := ite_t h c7_
    refine g_tabIn (pc := 1) (tgt := 103) (v := 7) C dX9_count_1 (by rw [c7_]; rfl) (by decide) (by decide) rfl (by decide) ?_
    refine g_aload_n (pc := 103) C 0 dX9_count_103 rfl rfl ?_
    refine get_X9_6 (pc := 104) C rfl tw_868 dX9_count_104 ?_
    refine g_iconst (pc := 107) (v := 4) C dX9_count_107 ic_4 ?_
    refine g_callSip (pc := 108) (As := [.ref (G.2.2 6), .int 4]) (rest := []) C (M_X9_thereOf C.2.2.1 rfl h) CyX9_thereOf tw_1327 tw_1328 (by decide) rfl rfl (Nat.le_of_ble_eq_true rfl) dX9_count_108 (fun r108 h => ?_)
    exact g_iret (pc := 111) C dX9_count_111 ⟨_, rfl, ⟨rfl, h⟩⟩
  replace h := ite_f h c7_
  by_cases c8_ : v1 = 8
  · replace h := ite_t h c8_
    refine g_tabIn (pc := 1) (tgt := 112) (v := 8) C dX9_count_1 (by rw [c8_]; rfl) (by decide) (by decide) rfl (by decide) ?_
    refine g_aload_n (pc := 112) C 0 dX9_count_112 rfl rfl ?_
    refine get_X9_2 (pc := 113) C rfl tw_864 dX9_count_113 ?_
    refine g_iconst (pc := 116) (v := 3) C dX9_count_116 ic_3 ?_
    refine g_callSip (pc := 117) (As := [.ref (G.2.2 2), .int 3]) (rest := []) C (M_X9_thereOf C.2.2.1 rfl h) CyX9_thereOf tw_1327 tw_1328 (by decide) rfl rfl (Nat.le_of_ble_eq_true rfl) dX9_count_117 (fun r117 h => ?_)
    exact g_iret (pc := 120) C dX9_count_120 ⟨_, rfl, ⟨rfl, h⟩⟩
  replace h := ite_f h c8_
  refine g_tabOut (pc := 1) (tgt := 121) C dX9_count_1 (by have e0_ := lv_neT c0_ (a := 0) (by decide); have e1_ := lv_neT c1_ (a := 1) (by decide); have e2_ := lv_neT c2_ (a := 2) (by decide); have e3_ := lv_neT c3_ (a := 3) (by decide); have e4_ := lv_neT c4_ (a := 4) (by decide); have e5_ := lv_neT c5_ (a := 5) (by decide); have e6_ := lv_neT c6_ (a := 6) (by decide); have e7_ := lv_neT c7_ (a := 7) (by decide); have e8_ := lv_neT c8_ (a := 8) (by decide); omega) (by decide) ?_
  refine g_iconst (pc := 121) (v := -1) C dX9_count_121 ic_m1 ?_
  exact g_iret (pc := 122) C dX9_count_122 ⟨_, rfl, ⟨rfl, h⟩⟩
set_option maxHeartbeats 4000000 in
set_option maxRecDepth 100000 in
theorem M_X9_damp {l : Launch} {G : Gp} (hD : Dj shM G) {v1 : Int32} {σ : St} {K : Int32 → St → Prop} (h : wp_X9_damp v1 σ K) : MC l shM G yX9_damp cX9_damp 3 (some .int) 2 [.ref (G.2.2 0), .int v1] σ (RI K) := by
  unfold wp_X9_damp at h
  refine MC.of (by decide) hD (Nat.le_of_ble_eq_true rfl) ?_
  intro p e s m args below meth c C
  replace C : Cx p (rmD 2) s m args meth c shM G cX9_damp 3 2 RX9 (some .int) 0 0 := C
  show Go p l e (rmD 2) s m args below meth c shM G 3 0 0 (MQ below (Qw shM G (RI K)) args s 0 0 (Fr shM G)) 0 [(0, .ref (G.2.2 0)), (1, .int v1)] [] σ
  refine g_iload_n (pc := 0) C 1 dX9_damp_0 rfl rfl ?_
  refine g_i2l (pc := 1) C dX9_damp_1 ?_
  refine g_lconst (pc := 2) (v := 0) C dX9_damp_2 lc_0 ?_
  refine g_ldc2 (pc := 3) (v := 3) C dX9_damp_3 tw_1001 ?_
  refine g_callSip (pc := 6) (As := [.long v1.toInt64, .long (0 : Int64), .long (3 : Int64)]) (rest := []) C (M_X9_in C.2.2.1  h) CyX9_in tw_955 tw_956 (by decide) rfl rfl (Nat.le_of_ble_eq_true rfl) dX9_damp_6 (fun r6 h => ?_)
  refine g_if_ne (pc := 9) (tgt := 14) C dX9_damp_9 (by decide) (fun c_ => ?_) (fun c_ => ?_)
  · replace h := ite_f h c_
    refine g_aload_n (pc := 14) C 0 dX9_damp_14 rfl rfl ?_
    refine get_X9_0 (pc := 15) C rfl tw_862 dX9_damp_15 ?_
    refine g_iconst (pc := 18) (v := 0) C dX9_damp_18 ic_0 ?_
    obtain ⟨g_, h⟩ := h
    refine g_iald (pc := 19) C rfl g_ dX9_damp_19 ?_
    refine g_if_ne (pc := 20) (tgt := 26) C dX9_damp_20 (by decide) (fun c_ => ?_) (fun c_ => ?_)
    · replace h := ite_f h c_
      refine g_aload_n (pc := 26) C 0 dX9_damp_26 rfl rfl ?_
      refine get_X9_0 (pc := 27) C rfl tw_862 dX9_damp_27 ?_
      refine g_iconst (pc := 30) (v := 1) C dX9_damp_30 ic_1 ?_
      obtain ⟨g_, h⟩ := h
      refine g_iald (pc := 31) C rfl g_ dX9_damp_31 ?_
      refine g_istore_n (pc := 32) (lv2 := [(2, .int (σ.1 1 (1 : Int32).toNatClampNeg)), (0, .ref (G.2.2 0)), (1, .int v1)]) C dX9_damp_32 rfl (by decide) rfl ?_
      refine g_aload_n (pc := 33) C 1 dX9_damp_33 rfl rfl ?_
      refine get_X9_0 (pc := 34) C rfl tw_862 dX9_damp_34 ?_
      refine g_iconst (pc := 37) (v := 1) C dX9_damp_37 ic_1 ?_
      refine g_iload_n (pc := 38) C 2 dX9_damp_38 rfl rfl ?_
      obtain ⟨g_, h⟩ := h
      refine g_iast (pc := 39) C rfl g_ dX9_damp_39 ?_
      refine g_iload_n (pc := 40) C 0 dX9_damp_40 rfl rfl ?_
      exact g_iret (pc := 41) C dX9_damp_41 ⟨_, rfl, h⟩
    · replace h := ite_t h c_
      refine g_bipush (pc := 23) (v := -4) C dX9_damp_23 bp_m4 ?_
      exact g_iret (pc := 25) C dX9_damp_25 ⟨_, rfl, h⟩
  · replace h := ite_t h c_
    refine g_iconst (pc := 12) (v := -1) C dX9_damp_12 ic_m1 ?_
    exact g_iret (pc := 13) C dX9_damp_13 ⟨_, rfl, h⟩
set_option maxHeartbeats 4000000 in
set_option maxRecDepth 100000 in
theorem k_X9_isSo_87 {v1 : Int32} {v2 : Int32} {v3 : Int32} {v5 : Int32} {v7 : Int32} {v8 : Int32} {w0 : Int32} {σ : St} {K : Int32 → Prop} {Φ10 : Int32 → Int32 → Int32 → Prop} (C : Cx p R s m args meth c shM G cX9_isSo 9 3 RX9 (some .boolean) 0 0) (hΦ10 : ∀ (v6' : Int32) (v7' : Int32) (v8' : Int32), Φ10 v6' v7' v8' → Go p l e R s m args below meth c shM G 9 0 0 (MQ below (Qw shM G (RI (fun r t => t = σ ∧ K r))) args s 0 0 (Fr shM G)) 10 [(0, .ref (G.2.2 0)), (1, .int v1), (2, .int v2), (3, .int v3), (5, .int v5), (6, .int (v6')), (7, .int (v7')), (8, .int (v8'))] [] σ) (h : J_X9_isSo_87 v1 v2 v3 v5 v7 v8 w0 σ K Φ10) : Go p l e R s m args below meth c shM G 9 0 0 (MQ below (Qw shM G (RI (fun r t => t = σ ∧ K r))) args s 0 0 (Fr shM G)) 87 [(0, .ref (G.2.2 0)), (1, .int v1), (2, .int v2), (3, .int v3), (5, .int v5), (7, .int v7), (8, .int v8)] [.int w0] σ := by
  unfold J_X9_isSo_87 at h
  refine g_istore (pc := 87) (lv2 := [(6, .int w0), (0, .ref (G.2.2 0)), (1, .int v1), (2, .int v2), (3, .int v3), (5, .int v5), (7, .int v7), (8, .int v8)]) C dX9_isSo_87 (by decide) rfl ?_
  refine g_iinc (pc := 89) (lv2 := [(8, .int (v8 + 2)), (6, .int w0), (0, .ref (G.2.2 0)), (1, .int v1), (2, .int v2), (3, .int v3), (5, .int v5), (7, .int v7)]) C 7 dX9_isSo_89 ic_2 rfl (by decide) rfl ?_
  refine g_goto (pc := 92) (tgt := 10) C dX9_isSo_92 (by decide) ?_
  refine g_lv [2, 3, 4, 5, 6, 1, 7, 0] (lv2 := [(0, .ref (G.2.2 0)), (1, .int v1), (2, .int v2), (3, .int v3), (5, .int v5), (6, .int w0), (7, .int v7), (8, .int (v8 + 2))]) rfl ?_
  exact hΦ10 _ _ _ h
set_option maxHeartbeats 4000000 in
set_option maxRecDepth 100000 in
theorem k_X9_isSo_86 {v1 : Int32} {v2 : Int32} {v3 : Int32} {v5 : Int32} {v7 : Int32} {v8 : Int32} {σ : St} {K : Int32 → Prop} {Φ10 : Int32 → Int32 → Int32 → Prop} (C : Cx p R s m args meth c shM G cX9_isSo 9 3 RX9 (some .boolean) 0 0) (hΦ10 : ∀ (v6' : Int32) (v7' : Int32) (v8' : Int32), Φ10 v6' v7' v8' → Go p l e R s m args below meth c shM G 9 0 0 (MQ below (Qw shM G (RI (fun r t => t = σ ∧ K r))) args s 0 0 (Fr shM G)) 10 [(0, .ref (G.2.2 0)), (1, .int v1), (2, .int v2), (3, .int v3), (5, .int v5), (6, .int (v6')), (7, .int (v7')), (8, .int (v8'))] [] σ) (h : J_X9_isSo_86 v1 v2 v3 v5 v7 v8 σ K Φ10) : Go p l e R s m args below meth c shM G 9 0 0 (MQ below (Qw shM G (RI (fun r t => t = σ ∧ K r))) args s 0 0 (Fr shM G)) 86 [(0, .ref (G.2.2 0)), (1, .int v1), (2, .int v2), (3, .int v3), (5, .int v5), (7, .int v7), (8, .int v8)] [] σ := by
  unfold J_X9_isSo_86 at h
  refine g_iconst (pc := 86) (v := 0) C dX9_isSo_86 ic_0 ?_
  refine g_lv [0, 1, 2, 3, 4, 5, 6] (lv2 := [(0, .ref (G.2.2 0)), (1, .int v1), (2, .int v2), (3, .int v3), (5, .int v5), (7, .int v7), (8, .int v8)]) rfl ?_
  exact k_X9_isSo_87 C hΦ10 h
set_option maxHeartbeats 4000000 in
set_option maxRecDepth 100000 in
theorem k_X9_isSo_49 {v1 : Int32} {v2 : Int32} {v3 : Int32} {v5 : Int32} {v6 : Int32} {v8 : Int32} {w0 : Int32} {σ : St} {K : Int32 → Prop} {Φ10 : Int32 → Int32 → Int32 → Prop} (C : Cx p R s m args meth c shM G cX9_isSo 9 3 RX9 (some .boolean) 0 0) (hΦ10 : ∀ (v6' : Int32) (v7' : Int32) (v8' : Int32), Φ10 v6' v7' v8' → Go p l e R s m args below meth c shM G 9 0 0 (MQ below (Qw shM G (RI (fun r t => t = σ ∧ K r))) args s 0 0 (Fr shM G)) 10 [(0, .ref (G.2.2 0)), (1, .int v1), (2, .int v2), (3, .int v3), (5, .int v5), (6, .int (v6')), (7, .int (v7')), (8, .int (v8'))] [] σ) (h : J_X9_isSo_49 v1 v2 v3 v5 v6 v8 w0 σ K Φ10) : Go p l e R s m args below meth c shM G 9 0 0 (MQ below (Qw shM G (RI (fun r t => t = σ ∧ K r))) args s 0 0 (Fr shM G)) 49 [(0, .ref (G.2.2 0)), (1, .int v1), (2, .int v2), (3, .int v3), (5, .int v5), (6, .int v6), (8, .int v8)] [.int w0] σ := by
  unfold J_X9_isSo_49 at h
  refine g_istore (pc := 49) (lv2 := [(7, .int w0), (0, .ref (G.2.2 0)), (1, .int v1), (2, .int v2), (3, .int v3), (5, .int v5), (6, .int v6), (8, .int v8)]) C dX9_isSo_49 (by decide) rfl ?_
  refine g_iload (pc := 51) C 6 dX9_isSo_51 rfl ?_
  refine g_if_eq (pc := 53) (tgt := 86) C dX9_isSo_53 (by decide) (fun c_ => ?_) (fun c_ => ?_)
  · replace h := ite_t h c_
    refine g_lv [1, 2, 3, 4, 5, 0, 7] (lv2 := [(0, .ref (G.2.2 0)), (1, .int v1), (2, .int v2), (3, .int v3), (5, .int v5), (7, .int w0), (8, .int v8)]) rfl ?_
    exact k_X9_isSo_86 C hΦ10 h
  · replace h := ite_f h c_
    refine g_iload_n (pc := 56) C 3 dX9_isSo_56 rfl rfl ?_
    refine g_iload_n (pc := 57) C 4 dX9_isSo_57 rfl rfl ?_
    refine g_iload (pc := 58) C 0 dX9_isSo_58 rfl ?_
    refine g_iload (pc := 60) C 5 dX9_isSo_60 rfl ?_
    refine g_callSip (pc := 62) (As := [.int v2, .int v3, .int w0, .int v5]) (rest := []) C (M_X9_tenthsOf C.2.2.1  h) CyX9_tenthsOf tw_1074 tw_1075 (by decide) rfl rfl (Nat.le_of_ble_eq_true rfl) dX9_isSo_62 (fun r62 h => ?_)
    refine g_aload_n (pc := 65) C 1 dX9_isSo_65 rfl rfl ?_
    refine get_X9_3 (pc := 66) C rfl tw_865 dX9_isSo_66 ?_
    refine g_bipush (pc := 69) (v := 40) C dX9_isSo_69 bp_40 ?_
    refine g_iload_n (pc := 71) C 2 dX9_isSo_71 rfl rfl ?_
    refine g_imul (pc := 72) C dX9_isSo_72 ?_
    refine g_iload (pc := 73) C 7 dX9_isSo_73 rfl ?_
    refine g_iadd (pc := 75) C dX9_isSo_75 ?_
    refine g_iconst (pc := 76) (v := 1) C dX9_isSo_76 ic_1 ?_
    refine g_iadd (pc := 77) C dX9_isSo_77 ?_
    obtain ⟨g_, h⟩ := h
    refine g_iald (pc := 78) C rfl g_ dX9_isSo_78 ?_
    refine g_icmp_ne (pc := 79) (tgt := 86) C dX9_isSo_79 (by decide) (fun c_ => ?_) (fun c_ => ?_)
    · replace h := ite_f h c_
      refine g_lv [1, 2, 3, 4, 5, 0, 7] (lv2 := [(0, .ref (G.2.2 0)), (1, .int v1), (2, .int v2), (3, .int v3), (5, .int v5), (7, .int w0), (8, .int v8)]) rfl ?_
      exact k_X9_isSo_86 C hΦ10 h
    · replace h := ite_t h c_
      refine g_iconst (pc := 82) (v := 1) C dX9_isSo_82 ic_1 ?_
      refine g_goto (pc := 83) (tgt := 87) C dX9_isSo_83 (by decide) ?_
      refine g_lv [1, 2, 3, 4, 5, 0, 7] (lv2 := [(0, .ref (G.2.2 0)), (1, .int v1), (2, .int v2), (3, .int v3), (5, .int v5), (7, .int w0), (8, .int v8)]) rfl ?_
      exact k_X9_isSo_87 C hΦ10 h
set_option maxHeartbeats 4000000 in
set_option maxRecDepth 100000 in
theorem k_X9_isSo_10 {v1 : Int32} {v2 : Int32} {v3 : Int32} {v5 : Int32} {v6 : Int32} {v7 : Int32} {v8 : Int32} {σ : St} {K : Int32 → Prop} (C : Cx p R s m args meth c shM G cX9_isSo 9 3 RX9 (some .boolean) 0 0) (h : L_X9_isSo_10 v1 v2 v3 v5 σ K v6 v7 v8) : Go p l e R s m args below meth c shM G 9 0 0 (MQ below (Qw shM G (RI (fun r t => t = σ ∧ K r))) args s 0 0 (Fr shM G)) 10 [(0, .ref (G.2.2 0)), (1, .int v1), (2, .int v2), (3, .int v3), (5, .int v5), (6, .int v6), (7, .int v7), (8, .int v8)] [] σ := by
  obtain ⟨n_, h⟩ := h
  induction n_ generalizing v6 v7 v8 with
  | zero => exact h.elim
  | succ n_ ih =>
    replace h : B_X9_isSo_10 v1 v2 v3 v5 σ K (it3 (B_X9_isSo_10 v1 v2 v3 v5 σ K) n_) v6 v7 v8 := h
    unfold B_X9_isSo_10 at h
    refine g_iload (pc := 10) C 7 dX9_isSo_10 rfl ?_
    refine g_aload_n (pc := 12) C 0 dX9_isSo_12 rfl rfl ?_
    refine get_X9_4 (pc := 13) C rfl tw_866 dX9_isSo_13 ?_
    refine g_iload_n (pc := 16) C 1 dX9_isSo_16 rfl rfl ?_
    obtain ⟨g_, h⟩ := h
    refine g_iald (pc := 17) C rfl g_ dX9_isSo_17 ?_
    refine g_icmp_ge (pc := 18) (tgt := 95) C dX9_isSo_18 (by decide) (fun c_ => ?_) (fun c_ => ?_)
    · replace h := ite_t h c_
      refine g_iload (pc := 95) C 5 dX9_isSo_95 rfl ?_
      obtain ⟨g_, h⟩ := h
      exact g_zret (pc := 97) C g_ dX9_isSo_97 ⟨_, rfl, ⟨rfl, h⟩⟩
    · replace h := ite_f h c_
      refine g_iload (pc := 21) C 6 dX9_isSo_21 rfl ?_
      refine g_iconst (pc := 23) (v := -1) C dX9_isSo_23 ic_m1 ?_
      refine g_icmp_ne (pc := 24) (tgt := 31) C dX9_isSo_24 (by decide) (fun c_ => ?_) (fun c_ => ?_)
      · replace h := ite_f h c_
        refine g_iload_n (pc := 31) C 2 dX9_isSo_31 rfl rfl ?_
        refine g_iload (pc := 32) C 6 dX9_isSo_32 rfl ?_
        refine g_aload_n (pc := 34) C 0 dX9_isSo_34 rfl rfl ?_
        refine get_X9_3 (pc := 35) C rfl tw_865 dX9_isSo_35 ?_
        refine g_bipush (pc := 38) (v := 40) C dX9_isSo_38 bp_40 ?_
        refine g_iload_n (pc := 40) C 1 dX9_isSo_40 rfl rfl ?_
        refine g_imul (pc := 41) C dX9_isSo_41 ?_
        refine g_iload (pc := 42) C 7 dX9_isSo_42 rfl ?_
        refine g_iadd (pc := 44) C dX9_isSo_44 ?_
        obtain ⟨g_, h⟩ := h
        refine g_iald (pc := 45) C rfl g_ dX9_isSo_45 ?_
        refine g_callSip (pc := 46) (As := [.int v2, .int v7, .int (σ.1 3 ((40 * v1) + v8).toNatClampNeg)]) (rest := []) C (M_X9_after C.2.2.1  h) CyX9_after tw_1061 tw_1062 (by decide) rfl rfl (Nat.le_of_ble_eq_true rfl) dX9_isSo_46 (fun r46 h => ?_)
        refine g_lv [0, 1, 2, 3, 4, 5, 7] (lv2 := [(0, .ref (G.2.2 0)), (1, .int v1), (2, .int v2), (3, .int v3), (5, .int v5), (6, .int v6), (8, .int v8)]) rfl ?_
        exact k_X9_isSo_49 C (fun _ _ _ h_ => ih h_) h
      · replace h := ite_t h c_
        refine g_iconst (pc := 27) (v := -1) C dX9_isSo_27 ic_m1 ?_
        refine g_goto (pc := 28) (tgt := 49) C dX9_isSo_28 (by decide) ?_
        refine g_lv [0, 1, 2, 3, 4, 5, 7] (lv2 := [(0, .ref (G.2.2 0)), (1, .int v1), (2, .int v2), (3, .int v3), (5, .int v5), (6, .int v6), (8, .int v8)]) rfl ?_
        exact k_X9_isSo_49 C (fun _ _ _ h_ => ih h_) h
set_option maxHeartbeats 4000000 in
set_option maxRecDepth 100000 in
theorem M_X9_isSo {l : Launch} {G : Gp} (hD : Dj shM G) {v1 : Int32} {v2 : Int32} {v3 : Int32} {v4 : Int32} {v5 : Int32} {σ : St} {K : Int32 → Prop} (h : wp_X9_isSo v1 v2 v3 v4 v5 σ K) : MC l shM G yX9_isSo cX9_isSo 9 (some .boolean) 3 [.ref (G.2.2 0), .int v1, .int v2, .int v3, .int v4, .int v5] σ (RI (fun r t => t = σ ∧ K r)) := by
  unfold wp_X9_isSo at h
  refine MC.of (by decide) hD (Nat.le_of_ble_eq_true rfl) ?_
  intro p e s m args below meth c C
  replace C : Cx p (rmD 3) s m args meth c shM G cX9_isSo 9 3 RX9 (some .boolean) 0 0 := C
  show Go p l e (rmD 3) s m args below meth c shM G 9 0 0 (MQ below (Qw shM G (RI (fun r t => t = σ ∧ K r))) args s 0 0 (Fr shM G)) 0 [(0, .ref (G.2.2 0)), (1, .int v1), (2, .int v2), (3, .int v3), (4, .int v4), (5, .int v5)] [] σ
  refine g_iconst (pc := 0) (v := 1) C dX9_isSo_0 ic_1 ?_
  refine g_istore (pc := 1) (lv2 := [(6, .int 1), (0, .ref (G.2.2 0)), (1, .int v1), (2, .int v2), (3, .int v3), (4, .int v4), (5, .int v5)]) C dX9_isSo_1 (by decide) rfl ?_
  refine g_iload (pc := 3) C 5 dX9_isSo_3 rfl ?_
  refine g_istore (pc := 5) (lv2 := [(7, .int v4), (6, .int 1), (0, .ref (G.2.2 0)), (1, .int v1), (2, .int v2), (3, .int v3), (4, .int v4), (5, .int v5)]) C dX9_isSo_5 (by decide) rfl ?_
  refine g_iconst (pc := 7) (v := 0) C dX9_isSo_7 ic_0 ?_
  refine g_istore (pc := 8) (lv2 := [(8, .int 0), (7, .int v4), (6, .int 1), (0, .ref (G.2.2 0)), (1, .int v1), (2, .int v2), (3, .int v3), (4, .int v4), (5, .int v5)]) C dX9_isSo_8 (by decide) rfl ?_
  refine g_lv [3, 4, 5, 6, 8, 2, 1, 0] (lv2 := [(0, .ref (G.2.2 0)), (1, .int v1), (2, .int v2), (3, .int v3), (5, .int v5), (6, .int 1), (7, .int v4), (8, .int 0)]) rfl ?_
  exact k_X9_isSo_10 C  h
set_option maxHeartbeats 4000000 in
set_option maxRecDepth 100000 in
theorem k_X9_damps_71 {v1 : Int32} {v2 : Int32} {v5 : Int32} {w0 : Int32} {w1 : Int32} {σ : St} {K : Int32 → St → Prop} {Φ19 : Int32 → Int32 → Prop} (C : Cx p R s m args meth c shM G cX9_damps 6 4 RX9 (some .int) 0 0) (hΦ19 : ∀ (v4' : Int32) (v5' : Int32), Φ19 v4' v5' → Go p l e R s m args below meth c shM G 6 0 0 (MQ below (Qw shM G (RI K)) args s 0 0 (Fr shM G)) 19 [(0, .ref (G.2.2 0)), (1, .int v1), (2, .int v2), (4, .int (v4')), (5, .int (v5'))] [] σ) (h : J_X9_damps_71 v1 v2 v5 w0 w1 σ K Φ19) : Go p l e R s m args below meth c shM G 6 0 0 (MQ below (Qw shM G (RI K)) args s 0 0 (Fr shM G)) 71 [(0, .ref (G.2.2 0)), (1, .int v1), (2, .int v2), (5, .int v5)] [.int w1, .int w0] σ := by
  unfold J_X9_damps_71 at h
  refine g_ior (pc := 71) C dX9_damps_71 ?_
  refine g_istore (pc := 72) (lv2 := [(4, .int (w0 ||| w1)), (0, .ref (G.2.2 0)), (1, .int v1), (2, .int v2), (5, .int v5)]) C dX9_damps_72 (by decide) rfl ?_
  refine g_iinc (pc := 74) (lv2 := [(5, .int (v5 + 1)), (4, .int (w0 ||| w1)), (0, .ref (G.2.2 0)), (1, .int v1), (2, .int v2)]) C 4 dX9_damps_74 ic_1 rfl (by decide) rfl ?_
  refine g_goto (pc := 77) (tgt := 19) C dX9_damps_77 (by decide) ?_
  refine g_lv [2, 3, 4, 1, 0] (lv2 := [(0, .ref (G.2.2 0)), (1, .int v1), (2, .int v2), (4, .int (w0 ||| w1)), (5, .int (v5 + 1))]) rfl ?_
  exact hΦ19 _ _ h
set_option maxHeartbeats 4000000 in
set_option maxRecDepth 100000 in
theorem k_X9_damps_19 {v1 : Int32} {v2 : Int32} {v4 : Int32} {v5 : Int32} {σ : St} {K : Int32 → St → Prop} (C : Cx p R s m args meth c shM G cX9_damps 6 4 RX9 (some .int) 0 0) (h : L_X9_damps_19 v1 v2 σ K v4 v5) : Go p l e R s m args below meth c shM G 6 0 0 (MQ below (Qw shM G (RI K)) args s 0 0 (Fr shM G)) 19 [(0, .ref (G.2.2 0)), (1, .int v1), (2, .int v2), (4, .int v4), (5, .int v5)] [] σ := by
  obtain ⟨n_, h⟩ := h
  induction n_ generalizing v4 v5 with
  | zero => exact h.elim
  | succ n_ ih =>
    replace h : B_X9_damps_19 v1 v2 σ K (it2 (B_X9_damps_19 v1 v2 σ K) n_) v4 v5 := h
    unfold B_X9_damps_19 at h
    refine g_iload (pc := 19) C 4 dX9_damps_19 rfl ?_
    refine g_iconst (pc := 21) (v := 4) C dX9_damps_21 ic_4 ?_
    refine g_icmp_ge (pc := 22) (tgt := 80) C dX9_damps_22 (by decide) (fun c_ => ?_) (fun c_ => ?_)
    · replace h := ite_t h c_
      refine g_iload (pc := 80) C 3 dX9_damps_80 rfl ?_
      exact g_iret (pc := 82) C dX9_damps_82 ⟨_, rfl, h⟩
    · replace h := ite_f h c_
      refine g_iload (pc := 25) C 3 dX9_damps_25 rfl ?_
      refine g_aload_n (pc := 27) C 0 dX9_damps_27 rfl rfl ?_
      refine g_iload_n (pc := 28) C 2 dX9_damps_28 rfl rfl ?_
      refine g_aload_n (pc := 29) C 0 dX9_damps_29 rfl rfl ?_
      refine get_X9_0 (pc := 30) C rfl tw_862 dX9_damps_30 ?_
      refine g_iconst (pc := 33) (v := 2) C dX9_damps_33 ic_2 ?_
      refine g_iload_n (pc := 34) C 1 dX9_damps_34 rfl rfl ?_
      refine g_iadd (pc := 35) C dX9_damps_35 ?_
      obtain ⟨g_, h⟩ := h
      refine g_iald (pc := 36) C rfl g_ dX9_damps_36 ?_
      refine g_aload_n (pc := 37) C 0 dX9_damps_37 rfl rfl ?_
      refine get_X9_0 (pc := 38) C rfl tw_862 dX9_damps_38 ?_
      refine g_bipush (pc := 41) (v := 8) C dX9_damps_41 bp_8 ?_
      refine g_iload_n (pc := 43) C 1 dX9_damps_43 rfl rfl ?_
      refine g_iadd (pc := 44) C dX9_damps_44 ?_
      obtain ⟨g_, h⟩ := h
      refine g_iald (pc := 45) C rfl g_ dX9_damps_45 ?_
      refine g_aload_n (pc := 46) C 0 dX9_damps_46 rfl rfl ?_
      refine get_X9_0 (pc := 47) C rfl tw_862 dX9_damps_47 ?_
      refine g_bipush (pc := 50) (v := 14) C dX9_damps_50 bp_14 ?_
      refine g_iload_n (pc := 52) C 1 dX9_damps_52 rfl rfl ?_
      refine g_iadd (pc := 53) C dX9_damps_53 ?_
      obtain ⟨g_, h⟩ := h
      refine g_iald (pc := 54) C rfl g_ dX9_damps_54 ?_
      refine g_iload (pc := 55) C 4 dX9_damps_55 rfl ?_
      refine g_callVip (pc := 57) (As := [.int v2, .int (σ.1 1 (2 + v1).toNatClampNeg), .int (σ.1 1 (8 + v1).toNatClampNeg), .int (σ.1 1 (14 + v1).toNatClampNeg), .int v5]) (rest := [.int v4]) C rfl rfl rfl rfl (M_X9_isSo C.2.2.1  h) CyX9_isSo tw_1257 tw_1259 ts_56 (by decide) rfl rfl (Nat.le_of_ble_eq_true rfl) dX9_damps_57 (fun r57 h => ?_)
      refine g_if_eq (pc := 60) (tgt := 70) C dX9_damps_60 (by decide) (fun c_ => ?_) (fun c_ => ?_)
      · replace h := ite_t h c_
        refine g_iconst (pc := 70) (v := 0) C dX9_damps_70 ic_0 ?_
        refine g_lv [0, 1, 2, 4] (lv2 := [(0, .ref (G.2.2 0)), (1, .int v1), (2, .int v2), (5, .int v5)]) rfl ?_
        exact k_X9_damps_71 C (fun _ _ h_ => ih h_) h
      · replace h := ite_f h c_
        refine g_iconst (pc := 63) (v := 1) C dX9_damps_63 ic_1 ?_
        refine g_iload (pc := 64) C 4 dX9_damps_64 rfl ?_
        refine g_ishl (pc := 66) C dX9_damps_66 ?_
        refine g_goto (pc := 67) (tgt := 71) C dX9_damps_67 (by decide) ?_
        refine g_lv [0, 1, 2, 4] (lv2 := [(0, .ref (G.2.2 0)), (1, .int v1), (2, .int v2), (5, .int v5)]) rfl ?_
        exact k_X9_damps_71 C (fun _ _ h_ => ih h_) h
set_option maxHeartbeats 4000000 in
set_option maxRecDepth 100000 in
theorem M_X9_damps {l : Launch} {G : Gp} (hD : Dj shM G) {v1 : Int32} {v2 : Int32} {σ : St} {K : Int32 → St → Prop} (h : wp_X9_damps v1 v2 σ K) : MC l shM G yX9_damps cX9_damps 6 (some .int) 4 [.ref (G.2.2 0), .int v1, .int v2] σ (RI K) := by
  unfold wp_X9_damps at h
  refine MC.of (by decide) hD (Nat.le_of_ble_eq_true rfl) ?_
  intro p e s m args below meth c C
  replace C : Cx p (rmD 4) s m args meth c shM G cX9_damps 6 4 RX9 (some .int) 0 0 := C
  show Go p l e (rmD 4) s m args below meth c shM G 6 0 0 (MQ below (Qw shM G (RI K)) args s 0 0 (Fr shM G)) 0 [(0, .ref (G.2.2 0)), (1, .int v1), (2, .int v2)] [] σ
  refine g_aload_n (pc := 0) C 0 dX9_damps_0 rfl rfl ?_
  refine g_iload_n (pc := 1) C 1 dX9_damps_1 rfl rfl ?_
  refine g_iload_n (pc := 2) C 2 dX9_damps_2 rfl rfl ?_
  refine g_callVi (pc := 3) (As := [.int v1, .int v2]) (rest := []) C rfl rfl rfl rfl (M_X9_againstPairs C.2.2.1  h) CyX9_againstPairs tw_1253 tw_1255 ts_55 (by decide) rfl rfl (Nat.le_of_ble_eq_true rfl) dX9_damps_3 (fun r3 t3 h => ?_)
  refine g_istore_n (pc := 6) (lv2 := [(3, .int r3), (0, .ref (G.2.2 0)), (1, .int v1), (2, .int v2)]) C dX9_damps_6 rfl (by decide) rfl ?_
  refine g_iload_n (pc := 7) C 0 dX9_damps_7 rfl rfl ?_
  refine g_if_ge (pc := 8) (tgt := 13) C dX9_damps_8 (by decide) (fun c_ => ?_) (fun c_ => ?_)
  · replace h := ite_t h c_
    refine g_iconst (pc := 13) (v := 0) C dX9_damps_13 ic_0 ?_
    refine g_istore (pc := 14) (lv2 := [(4, .int 0), (3, .int r3), (0, .ref (G.2.2 0)), (1, .int v1), (2, .int v2)]) C dX9_damps_14 (by decide) rfl ?_
    refine g_iconst (pc := 16) (v := 0) C dX9_damps_16 ic_0 ?_
    refine g_istore (pc := 17) (lv2 := [(5, .int 0), (4, .int 0), (3, .int r3), (0, .ref (G.2.2 0)), (1, .int v1), (2, .int v2)]) C dX9_damps_17 (by decide) rfl ?_
    refine g_lv [3, 4, 5, 1, 0] (lv2 := [(0, .ref (G.2.2 0)), (1, .int v1), (2, .int v2), (4, .int 0), (5, .int 0)]) rfl ?_
    exact k_X9_damps_19 C  h
  · replace h := ite_f h c_
    refine g_iload_n (pc := 11) C 0 dX9_damps_11 rfl rfl ?_
    exact g_iret (pc := 12) C dX9_damps_12 ⟨_, rfl, h⟩
set_option maxHeartbeats 4000000 in
set_option maxRecDepth 100000 in
theorem M_X9_mix {l : Launch} {G : Gp} (hD : Dj shM G) {v1 : Int64} {σ : St} {K : St → Prop} (h : wp_X9_mix v1 σ K) : MC l shM G yX9_mix cX9_mix 3 none 1 [.ref (G.2.2 0), .long v1] σ (RV K) := by
  unfold wp_X9_mix at h
  refine MC.of (by decide) hD (Nat.le_of_ble_eq_true rfl) ?_
  intro p e s m args below meth c C
  replace C : Cx p (rmD 1) s m args meth c shM G cX9_mix 3 1 RX9 none 0 0 := C
  show Go p l e (rmD 1) s m args below meth c shM G 3 0 0 (MQ below (Qw shM G (RV K)) args s 0 0 (Fr shM G)) 0 [(0, .ref (G.2.2 0)), (1, .long v1)] [] σ
  refine g_aload_n (pc := 0) C 0 dX9_mix_0 rfl rfl ?_
  refine g_ldc2 (pc := 1) (v := 31) C dX9_mix_1 tw_1348 ?_
  refine g_aload_n (pc := 4) C 0 dX9_mix_4 rfl rfl ?_
  refine get_X9_27 (pc := 5) C rfl tw_889 dX9_mix_5 ?_
  refine g_lmul (pc := 8) C dX9_mix_8 ?_
  refine g_lload_n (pc := 9) C 1 dX9_mix_9 rfl rfl ?_
  refine g_ladd (pc := 10) C dX9_mix_10 ?_
  refine put_X9_27 (pc := 11) C rfl tw_889 dX9_mix_11 ?_
  exact g_vret (pc := 14) C dX9_mix_14 ⟨rfl, h⟩
set_option maxHeartbeats 4000000 in
set_option maxRecDepth 100000 in
theorem k_X9_digest_177 {v1 : Int32} {v2 : Int32} {σ : St} {K : Int64 → St → Prop} {Φ159 : Int32 → St → Prop} (C : Cx p R s m args meth c shM G cX9_digest 3 4 RX9 (some .long) 0 0) (hΦ159 : ∀ (v1' : Int32) (σ' : St), Φ159 v1' σ' → Go p l e R s m args below meth c shM G 3 0 0 (MQ below (Qw shM G (RJ K)) args s 0 0 (Fr shM G)) 159 [(0, .ref (G.2.2 0)), (1, .int (v1'))] [] σ') (h : L_X9_digest_177 v1 K Φ159 v2 σ) : Go p l e R s m args below meth c shM G 3 0 0 (MQ below (Qw shM G (RJ K)) args s 0 0 (Fr shM G)) 177 [(0, .ref (G.2.2 0)), (1, .int v1), (2, .int v2)] [] σ := by
  obtain ⟨n_, h⟩ := h
  induction n_ generalizing v2 σ with
  | zero => exact h.elim
  | succ n_ ih =>
    replace h : B_X9_digest_177 v1 K Φ159 (it2 (B_X9_digest_177 v1 K Φ159) n_) v2 σ := h
    unfold B_X9_digest_177 at h
    refine g_iload_n (pc := 177) C 2 dX9_digest_177 rfl rfl ?_
    refine g_aload_n (pc := 178) C 0 dX9_digest_178 rfl rfl ?_
    refine get_X9_6 (pc := 179) C rfl tw_868 dX9_digest_179 ?_
    refine g_iload_n (pc := 182) C 1 dX9_digest_182 rfl rfl ?_
    obtain ⟨g_, h⟩ := h
    refine g_iald (pc := 183) C rfl g_ dX9_digest_183 ?_
    refine g_icmp_ge (pc := 184) (tgt := 209) C dX9_digest_184 (by decide) (fun c_ => ?_) (fun c_ => ?_)
    · replace h := ite_t h c_
      refine g_iinc (pc := 209) (lv2 := [(1, .int (v1 + 1)), (0, .ref (G.2.2 0)), (2, .int v2)]) C 1 dX9_digest_209 ic_1 rfl (by decide) rfl ?_
      refine g_goto (pc := 212) (tgt := 159) C dX9_digest_212 (by decide) ?_
      refine g_lv [1, 0] (lv2 := [(0, .ref (G.2.2 0)), (1, .int (v1 + 1))]) rfl ?_
      exact hΦ159 _ _ h
    · replace h := ite_f h c_
      refine g_aload_n (pc := 187) C 0 dX9_digest_187 rfl rfl ?_
      refine g_aload_n (pc := 188) C 0 dX9_digest_188 rfl rfl ?_
      refine get_X9_5 (pc := 189) C rfl tw_867 dX9_digest_189 ?_
      refine g_bipush (pc := 192) (v := 60) C dX9_digest_192 bp_60 ?_
      refine g_iload_n (pc := 194) C 1 dX9_digest_194 rfl rfl ?_
      refine g_imul (pc := 195) C dX9_digest_195 ?_
      refine g_iload_n (pc := 196) C 2 dX9_digest_196 rfl rfl ?_
      refine g_iadd (pc := 197) C dX9_digest_197 ?_
      obtain ⟨g_, h⟩ := h
      refine g_iald (pc := 198) C rfl g_ dX9_digest_198 ?_
      refine g_i2l (pc := 199) C dX9_digest_199 ?_
      refine g_callVv (pc := 200) (As := [.long ((σ.1 5 ((60 * v1) + v2).toNatClampNeg).toInt64)]) (rest := []) C rfl rfl rfl rfl (M_X9_mix C.2.2.1  h) CyX9_mix tw_1344 tw_1346 ts_62 (by decide) rfl rfl (Nat.le_of_ble_eq_true rfl) dX9_digest_200 (fun t200 h => ?_)
      refine g_iinc (pc := 203) (lv2 := [(2, .int (v2 + 1)), (0, .ref (G.2.2 0)), (1, .int v1)]) C 2 dX9_digest_203 ic_1 rfl (by decide) rfl ?_
      refine g_goto (pc := 206) (tgt := 177) C dX9_digest_206 (by decide) ?_
      refine g_lv [1, 2, 0] (lv2 := [(0, .ref (G.2.2 0)), (1, .int v1), (2, .int (v2 + 1))]) rfl ?_
      exact ih h
set_option maxHeartbeats 4000000 in
set_option maxRecDepth 100000 in
theorem k_X9_digest_159 {v1 : Int32} {σ : St} {K : Int64 → St → Prop} (C : Cx p R s m args meth c shM G cX9_digest 3 4 RX9 (some .long) 0 0) (h : L_X9_digest_159 K v1 σ) : Go p l e R s m args below meth c shM G 3 0 0 (MQ below (Qw shM G (RJ K)) args s 0 0 (Fr shM G)) 159 [(0, .ref (G.2.2 0)), (1, .int v1)] [] σ := by
  obtain ⟨n_, h⟩ := h
  induction n_ generalizing v1 σ with
  | zero => exact h.elim
  | succ n_ ih =>
    replace h : B_X9_digest_159 K (it2 (B_X9_digest_159 K) n_) v1 σ := h
    unfold B_X9_digest_159 at h
    refine g_iload_n (pc := 159) C 1 dX9_digest_159 rfl rfl ?_
    refine g_iconst (pc := 160) (v := 4) C dX9_digest_160 ic_4 ?_
    refine g_icmp_ge (pc := 161) (tgt := 215) C dX9_digest_161 (by decide) (fun c_ => ?_) (fun c_ => ?_)
    · replace h := ite_t h c_
      refine g_aload_n (pc := 215) C 0 dX9_digest_215 rfl rfl ?_
      refine get_X9_27 (pc := 216) C rfl tw_889 dX9_digest_216 ?_
      exact g_lret (pc := 219) C dX9_digest_219 ⟨_, rfl, h⟩
    · replace h := ite_f h c_
      refine g_aload_n (pc := 164) C 0 dX9_digest_164 rfl rfl ?_
      refine g_aload_n (pc := 165) C 0 dX9_digest_165 rfl rfl ?_
      refine get_X9_6 (pc := 166) C rfl tw_868 dX9_digest_166 ?_
      refine g_iload_n (pc := 169) C 1 dX9_digest_169 rfl rfl ?_
      obtain ⟨g_, h⟩ := h
      refine g_iald (pc := 170) C rfl g_ dX9_digest_170 ?_
      refine g_i2l (pc := 171) C dX9_digest_171 ?_
      refine g_callVv (pc := 172) (As := [.long ((σ.1 6 v1.toNatClampNeg).toInt64)]) (rest := []) C rfl rfl rfl rfl (M_X9_mix C.2.2.1  h) CyX9_mix tw_1344 tw_1346 ts_62 (by decide) rfl rfl (Nat.le_of_ble_eq_true rfl) dX9_digest_172 (fun t172 h => ?_)
      refine g_iconst (pc := 175) (v := 0) C dX9_digest_175 ic_0 ?_
      refine g_istore_n (pc := 176) (lv2 := [(2, .int 0), (0, .ref (G.2.2 0)), (1, .int v1)]) C dX9_digest_176 rfl (by decide) rfl ?_
      refine g_lv [1, 2, 0] (lv2 := [(0, .ref (G.2.2 0)), (1, .int v1), (2, .int 0)]) rfl ?_
      exact k_X9_digest_177 C (fun _ _ h_ => ih h_) h
set_option maxHeartbeats 4000000 in
set_option maxRecDepth 100000 in
theorem k_X9_digest_119 {v1 : Int32} {v2 : Int32} {σ : St} {K : Int64 → St → Prop} {Φ100 : Int32 → St → Prop} (C : Cx p R s m args meth c shM G cX9_digest 3 4 RX9 (some .long) 0 0) (hΦ100 : ∀ (v1' : Int32) (σ' : St), Φ100 v1' σ' → Go p l e R s m args below meth c shM G 3 0 0 (MQ below (Qw shM G (RJ K)) args s 0 0 (Fr shM G)) 100 [(0, .ref (G.2.2 0)), (1, .int (v1'))] [] σ') (h : L_X9_digest_119 v1 K Φ100 v2 σ) : Go p l e R s m args below meth c shM G 3 0 0 (MQ below (Qw shM G (RJ K)) args s 0 0 (Fr shM G)) 119 [(0, .ref (G.2.2 0)), (1, .int v1), (2, .int v2)] [] σ := by
  obtain ⟨n_, h⟩ := h
  induction n_ generalizing v2 σ with
  | zero => exact h.elim
  | succ n_ ih =>
    replace h : B_X9_digest_119 v1 K Φ100 (it2 (B_X9_digest_119 v1 K Φ100) n_) v2 σ := h
    unfold B_X9_digest_119 at h
    refine g_iload_n (pc := 119) C 2 dX9_digest_119 rfl rfl ?_
    refine g_aload_n (pc := 120) C 0 dX9_digest_120 rfl rfl ?_
    refine get_X9_4 (pc := 121) C rfl tw_866 dX9_digest_121 ?_
    refine g_iload_n (pc := 124) C 1 dX9_digest_124 rfl rfl ?_
    obtain ⟨g_, h⟩ := h
    refine g_iald (pc := 125) C rfl g_ dX9_digest_125 ?_
    refine g_icmp_ge (pc := 126) (tgt := 151) C dX9_digest_126 (by decide) (fun c_ => ?_) (fun c_ => ?_)
    · replace h := ite_t h c_
      refine g_iinc (pc := 151) (lv2 := [(1, .int (v1 + 1)), (0, .ref (G.2.2 0)), (2, .int v2)]) C 1 dX9_digest_151 ic_1 rfl (by decide) rfl ?_
      refine g_goto (pc := 154) (tgt := 100) C dX9_digest_154 (by decide) ?_
      refine g_lv [1, 0] (lv2 := [(0, .ref (G.2.2 0)), (1, .int (v1 + 1))]) rfl ?_
      exact hΦ100 _ _ h
    · replace h := ite_f h c_
      refine g_aload_n (pc := 129) C 0 dX9_digest_129 rfl rfl ?_
      refine g_aload_n (pc := 130) C 0 dX9_digest_130 rfl rfl ?_
      refine get_X9_3 (pc := 131) C rfl tw_865 dX9_digest_131 ?_
      refine g_bipush (pc := 134) (v := 40) C dX9_digest_134 bp_40 ?_
      refine g_iload_n (pc := 136) C 1 dX9_digest_136 rfl rfl ?_
      refine g_imul (pc := 137) C dX9_digest_137 ?_
      refine g_iload_n (pc := 138) C 2 dX9_digest_138 rfl rfl ?_
      refine g_iadd (pc := 139) C dX9_digest_139 ?_
      obtain ⟨g_, h⟩ := h
      refine g_iald (pc := 140) C rfl g_ dX9_digest_140 ?_
      refine g_i2l (pc := 141) C dX9_digest_141 ?_
      refine g_callVv (pc := 142) (As := [.long ((σ.1 3 ((40 * v1) + v2).toNatClampNeg).toInt64)]) (rest := []) C rfl rfl rfl rfl (M_X9_mix C.2.2.1  h) CyX9_mix tw_1344 tw_1346 ts_62 (by decide) rfl rfl (Nat.le_of_ble_eq_true rfl) dX9_digest_142 (fun t142 h => ?_)
      refine g_iinc (pc := 145) (lv2 := [(2, .int (v2 + 1)), (0, .ref (G.2.2 0)), (1, .int v1)]) C 2 dX9_digest_145 ic_1 rfl (by decide) rfl ?_
      refine g_goto (pc := 148) (tgt := 119) C dX9_digest_148 (by decide) ?_
      refine g_lv [1, 2, 0] (lv2 := [(0, .ref (G.2.2 0)), (1, .int v1), (2, .int (v2 + 1))]) rfl ?_
      exact ih h
set_option maxHeartbeats 4000000 in
set_option maxRecDepth 100000 in
theorem k_X9_digest_100 {v1 : Int32} {σ : St} {K : Int64 → St → Prop} (C : Cx p R s m args meth c shM G cX9_digest 3 4 RX9 (some .long) 0 0) (h : L_X9_digest_100 K v1 σ) : Go p l e R s m args below meth c shM G 3 0 0 (MQ below (Qw shM G (RJ K)) args s 0 0 (Fr shM G)) 100 [(0, .ref (G.2.2 0)), (1, .int v1)] [] σ := by
  obtain ⟨n_, h⟩ := h
  induction n_ generalizing v1 σ with
  | zero => exact h.elim
  | succ n_ ih =>
    replace h : B_X9_digest_100 K (it2 (B_X9_digest_100 K) n_) v1 σ := h
    unfold B_X9_digest_100 at h
    refine g_iload_n (pc := 100) C 1 dX9_digest_100 rfl rfl ?_
    refine g_bipush (pc := 101) (v := 6) C dX9_digest_101 bp_6 ?_
    refine g_icmp_ge (pc := 103) (tgt := 157) C dX9_digest_103 (by decide) (fun c_ => ?_) (fun c_ => ?_)
    · replace h := ite_t h c_
      refine g_iconst (pc := 157) (v := 0) C dX9_digest_157 ic_0 ?_
      refine g_istore_n (pc := 158) (lv2 := [(1, .int 0), (0, .ref (G.2.2 0))]) C dX9_digest_158 rfl (by decide) rfl ?_
      refine g_lv [1, 0] (lv2 := [(0, .ref (G.2.2 0)), (1, .int 0)]) rfl ?_
      exact k_X9_digest_159 C  h
    · replace h := ite_f h c_
      refine g_aload_n (pc := 106) C 0 dX9_digest_106 rfl rfl ?_
      refine g_aload_n (pc := 107) C 0 dX9_digest_107 rfl rfl ?_
      refine get_X9_4 (pc := 108) C rfl tw_866 dX9_digest_108 ?_
      refine g_iload_n (pc := 111) C 1 dX9_digest_111 rfl rfl ?_
      obtain ⟨g_, h⟩ := h
      refine g_iald (pc := 112) C rfl g_ dX9_digest_112 ?_
      refine g_i2l (pc := 113) C dX9_digest_113 ?_
      refine g_callVv (pc := 114) (As := [.long ((σ.1 4 v1.toNatClampNeg).toInt64)]) (rest := []) C rfl rfl rfl rfl (M_X9_mix C.2.2.1  h) CyX9_mix tw_1344 tw_1346 ts_62 (by decide) rfl rfl (Nat.le_of_ble_eq_true rfl) dX9_digest_114 (fun t114 h => ?_)
      refine g_iconst (pc := 117) (v := 0) C dX9_digest_117 ic_0 ?_
      refine g_istore_n (pc := 118) (lv2 := [(2, .int 0), (0, .ref (G.2.2 0)), (1, .int v1)]) C dX9_digest_118 rfl (by decide) rfl ?_
      refine g_lv [1, 2, 0] (lv2 := [(0, .ref (G.2.2 0)), (1, .int v1), (2, .int 0)]) rfl ?_
      exact k_X9_digest_119 C (fun _ _ h_ => ih h_) h
set_option maxHeartbeats 4000000 in
set_option maxRecDepth 100000 in
theorem k_X9_digest_76 {v1 : Int32} {σ : St} {K : Int64 → St → Prop} (C : Cx p R s m args meth c shM G cX9_digest 3 4 RX9 (some .long) 0 0) (h : L_X9_digest_76 K v1 σ) : Go p l e R s m args below meth c shM G 3 0 0 (MQ below (Qw shM G (RJ K)) args s 0 0 (Fr shM G)) 76 [(0, .ref (G.2.2 0)), (1, .int v1)] [] σ := by
  obtain ⟨n_, h⟩ := h
  induction n_ generalizing v1 σ with
  | zero => exact h.elim
  | succ n_ ih =>
    replace h : B_X9_digest_76 K (it2 (B_X9_digest_76 K) n_) v1 σ := h
    unfold B_X9_digest_76 at h
    refine g_iload_n (pc := 76) C 1 dX9_digest_76 rfl rfl ?_
    refine g_iconst (pc := 77) (v := 3) C dX9_digest_77 ic_3 ?_
    refine g_icmp_ge (pc := 78) (tgt := 98) C dX9_digest_78 (by decide) (fun c_ => ?_) (fun c_ => ?_)
    · replace h := ite_t h c_
      refine g_iconst (pc := 98) (v := 0) C dX9_digest_98 ic_0 ?_
      refine g_istore_n (pc := 99) (lv2 := [(1, .int 0), (0, .ref (G.2.2 0))]) C dX9_digest_99 rfl (by decide) rfl ?_
      refine g_lv [1, 0] (lv2 := [(0, .ref (G.2.2 0)), (1, .int 0)]) rfl ?_
      exact k_X9_digest_100 C  h
    · replace h := ite_f h c_
      refine g_aload_n (pc := 81) C 0 dX9_digest_81 rfl rfl ?_
      refine g_aload_n (pc := 82) C 0 dX9_digest_82 rfl rfl ?_
      refine get_X9_2 (pc := 83) C rfl tw_864 dX9_digest_83 ?_
      refine g_iload_n (pc := 86) C 1 dX9_digest_86 rfl rfl ?_
      obtain ⟨g_, h⟩ := h
      refine g_iald (pc := 87) C rfl g_ dX9_digest_87 ?_
      refine g_i2l (pc := 88) C dX9_digest_88 ?_
      refine g_callVv (pc := 89) (As := [.long ((σ.1 2 v1.toNatClampNeg).toInt64)]) (rest := []) C rfl rfl rfl rfl (M_X9_mix C.2.2.1  h) CyX9_mix tw_1344 tw_1346 ts_62 (by decide) rfl rfl (Nat.le_of_ble_eq_true rfl) dX9_digest_89 (fun t89 h => ?_)
      refine g_iinc (pc := 92) (lv2 := [(1, .int (v1 + 1)), (0, .ref (G.2.2 0))]) C 1 dX9_digest_92 ic_1 rfl (by decide) rfl ?_
      refine g_goto (pc := 95) (tgt := 76) C dX9_digest_95 (by decide) ?_
      refine g_lv [1, 0] (lv2 := [(0, .ref (G.2.2 0)), (1, .int (v1 + 1))]) rfl ?_
      exact ih h
set_option maxHeartbeats 4000000 in
set_option maxRecDepth 100000 in
theorem k_X9_digest_45 {v1 : Int32} {v2 : Int32} {σ : St} {K : Int64 → St → Prop} {Φ33 : Int32 → St → Prop} (C : Cx p R s m args meth c shM G cX9_digest 3 4 RX9 (some .long) 0 0) (hΦ33 : ∀ (v1' : Int32) (σ' : St), Φ33 v1' σ' → Go p l e R s m args below meth c shM G 3 0 0 (MQ below (Qw shM G (RJ K)) args s 0 0 (Fr shM G)) 33 [(0, .ref (G.2.2 0)), (1, .int (v1'))] [] σ') (h : L_X9_digest_45 v1 K Φ33 v2 σ) : Go p l e R s m args below meth c shM G 3 0 0 (MQ below (Qw shM G (RJ K)) args s 0 0 (Fr shM G)) 45 [(0, .ref (G.2.2 0)), (1, .int v1), (2, .int v2)] [] σ := by
  obtain ⟨n_, h⟩ := h
  induction n_ generalizing v2 σ with
  | zero => exact h.elim
  | succ n_ ih =>
    replace h : B_X9_digest_45 v1 K Φ33 (it2 (B_X9_digest_45 v1 K Φ33) n_) v2 σ := h
    unfold B_X9_digest_45 at h
    refine g_iload_n (pc := 45) C 2 dX9_digest_45 rfl rfl ?_
    refine g_bipush (pc := 46) (v := 6) C dX9_digest_46 bp_6 ?_
    refine g_icmp_ge (pc := 48) (tgt := 68) C dX9_digest_48 (by decide) (fun c_ => ?_) (fun c_ => ?_)
    · replace h := ite_t h c_
      refine g_iinc (pc := 68) (lv2 := [(1, .int (v1 + 1)), (0, .ref (G.2.2 0)), (2, .int v2)]) C 1 dX9_digest_68 ic_1 rfl (by decide) rfl ?_
      refine g_goto (pc := 71) (tgt := 33) C dX9_digest_71 (by decide) ?_
      refine g_lv [1, 0] (lv2 := [(0, .ref (G.2.2 0)), (1, .int (v1 + 1))]) rfl ?_
      exact hΦ33 _ _ h
    · replace h := ite_f h c_
      refine g_aload_n (pc := 51) C 0 dX9_digest_51 rfl rfl ?_
      refine g_aload_n (pc := 52) C 0 dX9_digest_52 rfl rfl ?_
      refine g_iload_n (pc := 53) C 1 dX9_digest_53 rfl rfl ?_
      refine g_iload_n (pc := 54) C 2 dX9_digest_54 rfl rfl ?_
      refine g_callVip (pc := 55) (As := [.int v1, .int v2]) (rest := [.ref (G.2.2 0)]) C rfl rfl rfl rfl (M_X9_bellTells C.2.2.1  h) CyX9_bellTells tw_1049 tw_1051 ts_35 (by decide) rfl rfl (Nat.le_of_ble_eq_true rfl) dX9_digest_55 (fun r55 h => ?_)
      refine g_i2l (pc := 58) C dX9_digest_58 ?_
      refine g_callVv (pc := 59) (As := [.long r55.toInt64]) (rest := []) C rfl rfl rfl rfl (M_X9_mix C.2.2.1  h) CyX9_mix tw_1344 tw_1346 ts_62 (by decide) rfl rfl (Nat.le_of_ble_eq_true rfl) dX9_digest_59 (fun t59 h => ?_)
      refine g_iinc (pc := 62) (lv2 := [(2, .int (v2 + 1)), (0, .ref (G.2.2 0)), (1, .int v1)]) C 2 dX9_digest_62 ic_1 rfl (by decide) rfl ?_
      refine g_goto (pc := 65) (tgt := 45) C dX9_digest_65 (by decide) ?_
      refine g_lv [1, 2, 0] (lv2 := [(0, .ref (G.2.2 0)), (1, .int v1), (2, .int (v2 + 1))]) rfl ?_
      exact ih h
set_option maxHeartbeats 4000000 in
set_option maxRecDepth 100000 in
theorem k_X9_digest_33 {v1 : Int32} {σ : St} {K : Int64 → St → Prop} (C : Cx p R s m args meth c shM G cX9_digest 3 4 RX9 (some .long) 0 0) (h : L_X9_digest_33 K v1 σ) : Go p l e R s m args below meth c shM G 3 0 0 (MQ below (Qw shM G (RJ K)) args s 0 0 (Fr shM G)) 33 [(0, .ref (G.2.2 0)), (1, .int v1)] [] σ := by
  obtain ⟨n_, h⟩ := h
  induction n_ generalizing v1 σ with
  | zero => exact h.elim
  | succ n_ ih =>
    replace h : B_X9_digest_33 K (it2 (B_X9_digest_33 K) n_) v1 σ := h
    unfold B_X9_digest_33 at h
    refine g_iload_n (pc := 33) C 1 dX9_digest_33 rfl rfl ?_
    refine g_aload_n (pc := 34) C 0 dX9_digest_34 rfl rfl ?_
    refine get_X9_0 (pc := 35) C rfl tw_862 dX9_digest_35 ?_
    refine g_iconst (pc := 38) (v := 0) C dX9_digest_38 ic_0 ?_
    obtain ⟨g_, h⟩ := h
    refine g_iald (pc := 39) C rfl g_ dX9_digest_39 ?_
    refine g_icmp_ge (pc := 40) (tgt := 74) C dX9_digest_40 (by decide) (fun c_ => ?_) (fun c_ => ?_)
    · replace h := ite_t h c_
      refine g_iconst (pc := 74) (v := 0) C dX9_digest_74 ic_0 ?_
      refine g_istore_n (pc := 75) (lv2 := [(1, .int 0), (0, .ref (G.2.2 0))]) C dX9_digest_75 rfl (by decide) rfl ?_
      refine g_lv [1, 0] (lv2 := [(0, .ref (G.2.2 0)), (1, .int 0)]) rfl ?_
      exact k_X9_digest_76 C  h
    · replace h := ite_f h c_
      refine g_iconst (pc := 43) (v := 0) C dX9_digest_43 ic_0 ?_
      refine g_istore_n (pc := 44) (lv2 := [(2, .int 0), (0, .ref (G.2.2 0)), (1, .int v1)]) C dX9_digest_44 rfl (by decide) rfl ?_
      refine g_lv [1, 2, 0] (lv2 := [(0, .ref (G.2.2 0)), (1, .int v1), (2, .int 0)]) rfl ?_
      exact k_X9_digest_45 C (fun _ _ h_ => ih h_) h
set_option maxHeartbeats 4000000 in
set_option maxRecDepth 100000 in
theorem k_X9_digest_9 {v1 : Int32} {σ : St} {K : Int64 → St → Prop} (C : Cx p R s m args meth c shM G cX9_digest 3 4 RX9 (some .long) 0 0) (h : L_X9_digest_9 K v1 σ) : Go p l e R s m args below meth c shM G 3 0 0 (MQ below (Qw shM G (RJ K)) args s 0 0 (Fr shM G)) 9 [(0, .ref (G.2.2 0)), (1, .int v1)] [] σ := by
  obtain ⟨n_, h⟩ := h
  induction n_ generalizing v1 σ with
  | zero => exact h.elim
  | succ n_ ih =>
    replace h : B_X9_digest_9 K (it2 (B_X9_digest_9 K) n_) v1 σ := h
    unfold B_X9_digest_9 at h
    refine g_iload_n (pc := 9) C 1 dX9_digest_9 rfl rfl ?_
    refine g_bipush (pc := 10) (v := 9) C dX9_digest_10 bp_9 ?_
    refine g_icmp_ge (pc := 12) (tgt := 31) C dX9_digest_12 (by decide) (fun c_ => ?_) (fun c_ => ?_)
    · replace h := ite_t h c_
      refine g_iconst (pc := 31) (v := 0) C dX9_digest_31 ic_0 ?_
      refine g_istore_n (pc := 32) (lv2 := [(1, .int 0), (0, .ref (G.2.2 0))]) C dX9_digest_32 rfl (by decide) rfl ?_
      refine g_lv [1, 0] (lv2 := [(0, .ref (G.2.2 0)), (1, .int 0)]) rfl ?_
      exact k_X9_digest_33 C  h
    · replace h := ite_f h c_
      refine g_aload_n (pc := 15) C 0 dX9_digest_15 rfl rfl ?_
      refine g_aload_n (pc := 16) C 0 dX9_digest_16 rfl rfl ?_
      refine g_iload_n (pc := 17) C 1 dX9_digest_17 rfl rfl ?_
      refine g_callVip (pc := 18) (As := [.int v1]) (rest := [.ref (G.2.2 0)]) C rfl rfl rfl rfl (M_X9_count C.2.2.1  h) CyX9_count tw_1343 tw_1316 tw_1317 (by decide) rfl rfl (Nat.le_of_ble_eq_true rfl) dX9_digest_18 (fun r18 h => ?_)
      refine g_i2l (pc := 21) C dX9_digest_21 ?_
      refine g_callVv (pc := 22) (As := [.long r18.toInt64]) (rest := []) C rfl rfl rfl rfl (M_X9_mix C.2.2.1  h) CyX9_mix tw_1344 tw_1346 ts_62 (by decide) rfl rfl (Nat.le_of_ble_eq_true rfl) dX9_digest_22 (fun t22 h => ?_)
      refine g_iinc (pc := 25) (lv2 := [(1, .int (v1 + 1)), (0, .ref (G.2.2 0))]) C 1 dX9_digest_25 ic_1 rfl (by decide) rfl ?_
      refine g_goto (pc := 28) (tgt := 9) C dX9_digest_28 (by decide) ?_
      refine g_lv [1, 0] (lv2 := [(0, .ref (G.2.2 0)), (1, .int (v1 + 1))]) rfl ?_
      exact ih h
set_option maxHeartbeats 4000000 in
set_option maxRecDepth 100000 in
theorem M_X9_digest {l : Launch} {G : Gp} (hD : Dj shM G) {σ : St} {K : Int64 → St → Prop} (h : wp_X9_digest σ K) : MC l shM G yX9_digest cX9_digest 3 (some .long) 4 [.ref (G.2.2 0)] σ (RJ K) := by
  unfold wp_X9_digest at h
  refine MC.of (by decide) hD (Nat.le_of_ble_eq_true rfl) ?_
  intro p e s m args below meth c C
  replace C : Cx p (rmD 4) s m args meth c shM G cX9_digest 3 4 RX9 (some .long) 0 0 := C
  show Go p l e (rmD 4) s m args below meth c shM G 3 0 0 (MQ below (Qw shM G (RJ K)) args s 0 0 (Fr shM G)) 0 [(0, .ref (G.2.2 0))] [] σ
  refine g_aload_n (pc := 0) C 0 dX9_digest_0 rfl rfl ?_
  refine g_ldc2 (pc := 1) (v := 17) C dX9_digest_1 tw_1342 ?_
  refine put_X9_27 (pc := 4) C rfl tw_889 dX9_digest_4 ?_
  refine g_iconst (pc := 7) (v := 0) C dX9_digest_7 ic_0 ?_
  refine g_istore_n (pc := 8) (lv2 := [(1, .int 0), (0, .ref (G.2.2 0))]) C dX9_digest_8 rfl (by decide) rfl ?_
  refine g_lv [1, 0] (lv2 := [(0, .ref (G.2.2 0)), (1, .int 0)]) rfl ?_
  exact k_X9_digest_9 C  h
set_option maxHeartbeats 4000000 in
set_option maxRecDepth 100000 in
theorem k_X9_drops_76 {w0 : Int32} {σ : St} {K : Int32 → Prop} (C : Cx p R s m args meth c shM G cX9_drops 4 3 RX9 (some .int) 0 0) (h : J_X9_drops_76 w0 σ K) : Go p l e R s m args below meth c shM G 4 0 0 (MQ below (Qw shM G (RI (fun r t => t = σ ∧ K r))) args s 0 0 (Fr shM G)) 76 [] [.int w0] σ := by
  unfold J_X9_drops_76 at h
  exact g_iret (pc := 76) C dX9_drops_76 ⟨_, rfl, ⟨rfl, h⟩⟩
set_option maxHeartbeats 4000000 in
set_option maxRecDepth 100000 in
theorem k_X9_drops_64 {v3 : Int32} {σ : St} {K : Int32 → Prop} (C : Cx p R s m args meth c shM G cX9_drops 4 3 RX9 (some .int) 0 0) (h : J_X9_drops_64 v3 σ K) : Go p l e R s m args below meth c shM G 4 0 0 (MQ below (Qw shM G (RI (fun r t => t = σ ∧ K r))) args s 0 0 (Fr shM G)) 64 [(3, .int v3)] [] σ := by
  unfold J_X9_drops_64 at h
  refine g_iload_n (pc := 64) C 0 dX9_drops_64 rfl rfl ?_
  refine g_bipush (pc := 65) (v := 30) C dX9_drops_65 bp_30 ?_
  refine g_icmp_le (pc := 67) (tgt := 75) C dX9_drops_67 (by decide) (fun c_ => ?_) (fun c_ => ?_)
  · replace h := ite_t h c_
    refine g_iload_n (pc := 75) C 0 dX9_drops_75 rfl rfl ?_
    refine g_lv [] (lv2 := []) rfl ?_
    exact k_X9_drops_76 C  h
  · replace h := ite_f h c_
    refine g_bipush (pc := 70) (v := -9) C dX9_drops_70 bp_m9 ?_
    refine g_goto (pc := 72) (tgt := 76) C dX9_drops_72 (by decide) ?_
    refine g_lv [] (lv2 := []) rfl ?_
    exact k_X9_drops_76 C  h
set_option maxHeartbeats 4000000 in
set_option maxRecDepth 100000 in
theorem k_X9_drops_33 {v1 : Int32} {v2 : Int32} {v3 : Int32} {σ : St} {K : Int32 → Prop} (C : Cx p R s m args meth c shM G cX9_drops 4 3 RX9 (some .int) 0 0) (h : L_X9_drops_33 v1 σ K v2 v3) : Go p l e R s m args below meth c shM G 4 0 0 (MQ below (Qw shM G (RI (fun r t => t = σ ∧ K r))) args s 0 0 (Fr shM G)) 33 [(0, .ref (G.2.2 0)), (1, .int v1), (2, .int v2), (3, .int v3)] [] σ := by
  obtain ⟨n_, h⟩ := h
  induction n_ generalizing v2 v3 with
  | zero => exact h.elim
  | succ n_ ih =>
    replace h : B_X9_drops_33 v1 σ K (it2 (B_X9_drops_33 v1 σ K) n_) v2 v3 := h
    unfold B_X9_drops_33 at h
    refine g_iload_n (pc := 33) C 2 dX9_drops_33 rfl rfl ?_
    refine g_iconst (pc := 34) (v := 5) C dX9_drops_34 ic_5 ?_
    refine g_icmp_lt (pc := 35) (tgt := 64) C dX9_drops_35 (by decide) (fun c_ => ?_) (fun c_ => ?_)
    · replace h := ite_t h c_
      refine g_lv [3] (lv2 := [(3, .int v3)]) rfl ?_
      exact k_X9_drops_64 C  h
    · replace h := ite_f h c_
      refine g_iload_n (pc := 38) C 3 dX9_drops_38 rfl rfl ?_
      refine g_bipush (pc := 39) (v := 30) C dX9_drops_39 bp_30 ?_
      refine g_icmp_gt (pc := 41) (tgt := 64) C dX9_drops_41 (by decide) (fun c_ => ?_) (fun c_ => ?_)
      · replace h := ite_t h c_
        refine g_lv [3] (lv2 := [(3, .int v3)]) rfl ?_
        exact k_X9_drops_64 C  h
      · replace h := ite_f h c_
        refine g_aload_n (pc := 44) C 0 dX9_drops_44 rfl rfl ?_
        refine get_X9_0 (pc := 45) C rfl tw_862 dX9_drops_45 ?_
        refine g_iconst (pc := 48) (v := 2) C dX9_drops_48 ic_2 ?_
        refine g_iload_n (pc := 49) C 1 dX9_drops_49 rfl rfl ?_
        refine g_iadd (pc := 50) C dX9_drops_50 ?_
        obtain ⟨g_, h⟩ := h
        refine g_iald (pc := 51) C rfl g_ dX9_drops_51 ?_
        refine g_iload_n (pc := 52) C 2 dX9_drops_52 rfl rfl ?_
        refine g_iconst (pc := 53) (v := 0) C dX9_drops_53 ic_0 ?_
        refine g_callSip (pc := 54) (As := [.int (σ.1 1 (2 + v1).toNatClampNeg), .int v2, .int 0]) (rest := []) C (M_X9_after C.2.2.1  h) CyX9_after tw_1061 tw_1062 (by decide) rfl rfl (Nat.le_of_ble_eq_true rfl) dX9_drops_54 (fun r54 h => ?_)
        refine g_istore_n (pc := 57) (lv2 := [(2, .int r54), (0, .ref (G.2.2 0)), (1, .int v1), (3, .int v3)]) C dX9_drops_57 rfl (by decide) rfl ?_
        refine g_iinc (pc := 58) (lv2 := [(3, .int (v3 + 1)), (2, .int r54), (0, .ref (G.2.2 0)), (1, .int v1)]) C 3 dX9_drops_58 ic_1 rfl (by decide) rfl ?_
        refine g_goto (pc := 61) (tgt := 33) C dX9_drops_61 (by decide) ?_
        refine g_lv [2, 3, 1, 0] (lv2 := [(0, .ref (G.2.2 0)), (1, .int v1), (2, .int r54), (3, .int (v3 + 1))]) rfl ?_
        exact ih h
set_option maxHeartbeats 4000000 in
set_option maxRecDepth 100000 in
theorem M_X9_drops {l : Launch} {G : Gp} (hD : Dj shM G) {v1 : Int32} {σ : St} {K : Int32 → Prop} (h : wp_X9_drops v1 σ K) : MC l shM G yX9_drops cX9_drops 4 (some .int) 3 [.ref (G.2.2 0), .int v1] σ (RI (fun r t => t = σ ∧ K r)) := by
  unfold wp_X9_drops at h
  refine MC.of (by decide) hD (Nat.le_of_ble_eq_true rfl) ?_
  intro p e s m args below meth c C
  replace C : Cx p (rmD 3) s m args meth c shM G cX9_drops 4 3 RX9 (some .int) 0 0 := C
  show Go p l e (rmD 3) s m args below meth c shM G 4 0 0 (MQ below (Qw shM G (RI (fun r t => t = σ ∧ K r))) args s 0 0 (Fr shM G)) 0 [(0, .ref (G.2.2 0)), (1, .int v1)] [] σ
  refine g_aload_n (pc := 0) C 0 dX9_drops_0 rfl rfl ?_
  refine g_iload_n (pc := 1) C 1 dX9_drops_1 rfl rfl ?_
  refine g_callVip (pc := 2) (As := [.int v1]) (rest := []) C rfl rfl rfl rfl (M_X9_isBell C.2.2.1  h) CyX9_isBell tw_1045 tw_1047 ts_34 (by decide) rfl rfl (Nat.le_of_ble_eq_true rfl) dX9_drops_2 (fun r2 h => ?_)
  refine g_if_ne (pc := 5) (tgt := 10) C dX9_drops_5 (by decide) (fun c_ => ?_) (fun c_ => ?_)
  · replace h := ite_f h c_
    refine g_aload_n (pc := 10) C 0 dX9_drops_10 rfl rfl ?_
    refine g_iload_n (pc := 11) C 1 dX9_drops_11 rfl rfl ?_
    refine g_callVip (pc := 12) (As := [.int v1]) (rest := []) C rfl rfl rfl rfl (M_X9_isOver C.2.2.1  h) CyX9_isOver tw_1089 tw_1091 ts_38 (by decide) rfl rfl (Nat.le_of_ble_eq_true rfl) dX9_drops_12 (fun r12 h => ?_)
    refine g_if_eq (pc := 15) (tgt := 21) C dX9_drops_15 (by decide) (fun c_ => ?_) (fun c_ => ?_)
    · replace h := ite_t h c_
      refine g_aload_n (pc := 21) C 0 dX9_drops_21 rfl rfl ?_
      refine get_X9_0 (pc := 22) C rfl tw_862 dX9_drops_22 ?_
      refine g_bipush (pc := 25) (v := 14) C dX9_drops_25 bp_14 ?_
      refine g_iload_n (pc := 27) C 1 dX9_drops_27 rfl rfl ?_
      refine g_iadd (pc := 28) C dX9_drops_28 ?_
      obtain ⟨g_, h⟩ := h
      refine g_iald (pc := 29) C rfl g_ dX9_drops_29 ?_
      refine g_istore_n (pc := 30) (lv2 := [(2, .int (σ.1 1 (14 + v1).toNatClampNeg)), (0, .ref (G.2.2 0)), (1, .int v1)]) C dX9_drops_30 rfl (by decide) rfl ?_
      refine g_iconst (pc := 31) (v := 0) C dX9_drops_31 ic_0 ?_
      refine g_istore_n (pc := 32) (lv2 := [(3, .int 0), (2, .int (σ.1 1 (14 + v1).toNatClampNeg)), (0, .ref (G.2.2 0)), (1, .int v1)]) C dX9_drops_32 rfl (by decide) rfl ?_
      refine g_lv [2, 3, 1, 0] (lv2 := [(0, .ref (G.2.2 0)), (1, .int v1), (2, .int (σ.1 1 (14 + v1).toNatClampNeg)), (3, .int 0)]) rfl ?_
      exact k_X9_drops_33 C  h
    · replace h := ite_f h c_
      refine g_bipush (pc := 18) (v := -4) C dX9_drops_18 bp_m4 ?_
      exact g_iret (pc := 20) C dX9_drops_20 ⟨_, rfl, ⟨rfl, h⟩⟩
  · replace h := ite_t h c_
    refine g_iconst (pc := 8) (v := -1) C dX9_drops_8 ic_m1 ?_
    exact g_iret (pc := 9) C dX9_drops_9 ⟨_, rfl, ⟨rfl, h⟩⟩
set_option maxHeartbeats 4000000 in
set_option maxRecDepth 100000 in
theorem k_X9_heardSet_4 {v1 : Int32} {v2 : Int32} {σ : St} {K : Int32 → Prop} (C : Cx p R s m args meth c shM G cX9_heardSet 3 1 RX9 (some .int) 0 0) (h : L_X9_heardSet_4 σ K v1 v2) : Go p l e R s m args below meth c shM G 3 0 0 (MQ below (Qw shM G (RI (fun r t => t = σ ∧ K r))) args s 0 0 (Fr shM G)) 4 [(0, .ref (G.2.2 0)), (1, .int v1), (2, .int v2)] [] σ := by
  obtain ⟨n_, h⟩ := h
  induction n_ generalizing v1 v2 with
  | zero => exact h.elim
  | succ n_ ih =>
    replace h : B_X9_heardSet_4 σ K (it2 (B_X9_heardSet_4 σ K) n_) v1 v2 := h
    unfold B_X9_heardSet_4 at h
    refine g_iload_n (pc := 4) C 2 dX9_heardSet_4 rfl rfl ?_
    refine g_aload_n (pc := 5) C 0 dX9_heardSet_5 rfl rfl ?_
    refine get_X9_18 (pc := 6) C rfl tw_880 dX9_heardSet_6 ?_
    refine g_icmp_ge (pc := 9) (tgt := 29) C dX9_heardSet_9 (by decide) (fun c_ => ?_) (fun c_ => ?_)
    · replace h := ite_t h c_
      refine g_iload_n (pc := 29) C 1 dX9_heardSet_29 rfl rfl ?_
      exact g_iret (pc := 30) C dX9_heardSet_30 ⟨_, rfl, ⟨rfl, h⟩⟩
    · replace h := ite_f h c_
      refine g_iload_n (pc := 12) C 1 dX9_heardSet_12 rfl rfl ?_
      refine g_iconst (pc := 13) (v := 1) C dX9_heardSet_13 ic_1 ?_
      refine g_aload_n (pc := 14) C 0 dX9_heardSet_14 rfl rfl ?_
      refine get_X9_16 (pc := 15) C rfl tw_878 dX9_heardSet_15 ?_
      refine g_iload_n (pc := 18) C 2 dX9_heardSet_18 rfl rfl ?_
      obtain ⟨g_, h⟩ := h
      refine g_iald (pc := 19) C rfl g_ dX9_heardSet_19 ?_
      refine g_ishl (pc := 20) C dX9_heardSet_20 ?_
      refine g_ior (pc := 21) C dX9_heardSet_21 ?_
      refine g_istore_n (pc := 22) (lv2 := [(1, .int (v1 ||| (shl 1 (σ.1 11 v2.toNatClampNeg)))), (0, .ref (G.2.2 0)), (2, .int v2)]) C dX9_heardSet_22 rfl (by decide) rfl ?_
      refine g_iinc (pc := 23) (lv2 := [(2, .int (v2 + 1)), (1, .int (v1 ||| (shl 1 (σ.1 11 v2.toNatClampNeg)))), (0, .ref (G.2.2 0))]) C 2 dX9_heardSet_23 ic_1 rfl (by decide) rfl ?_
      refine g_goto (pc := 26) (tgt := 4) C dX9_heardSet_26 (by decide) ?_
      refine g_lv [2, 1, 0] (lv2 := [(0, .ref (G.2.2 0)), (1, .int (v1 ||| (shl 1 (σ.1 11 v2.toNatClampNeg)))), (2, .int (v2 + 1))]) rfl ?_
      exact ih h
set_option maxHeartbeats 4000000 in
set_option maxRecDepth 100000 in
theorem M_X9_heardSet {l : Launch} {G : Gp} (hD : Dj shM G) {σ : St} {K : Int32 → Prop} (h : wp_X9_heardSet σ K) : MC l shM G yX9_heardSet cX9_heardSet 3 (some .int) 1 [.ref (G.2.2 0)] σ (RI (fun r t => t = σ ∧ K r)) := by
  unfold wp_X9_heardSet at h
  refine MC.of (by decide) hD (Nat.le_of_ble_eq_true rfl) ?_
  intro p e s m args below meth c C
  replace C : Cx p (rmD 1) s m args meth c shM G cX9_heardSet 3 1 RX9 (some .int) 0 0 := C
  show Go p l e (rmD 1) s m args below meth c shM G 3 0 0 (MQ below (Qw shM G (RI (fun r t => t = σ ∧ K r))) args s 0 0 (Fr shM G)) 0 [(0, .ref (G.2.2 0))] [] σ
  refine g_iconst (pc := 0) (v := 0) C dX9_heardSet_0 ic_0 ?_
  refine g_istore_n (pc := 1) (lv2 := [(1, .int 0), (0, .ref (G.2.2 0))]) C dX9_heardSet_1 rfl (by decide) rfl ?_
  refine g_iconst (pc := 2) (v := 0) C dX9_heardSet_2 ic_0 ?_
  refine g_istore_n (pc := 3) (lv2 := [(2, .int 0), (1, .int 0), (0, .ref (G.2.2 0))]) C dX9_heardSet_3 rfl (by decide) rfl ?_
  refine g_lv [2, 1, 0] (lv2 := [(0, .ref (G.2.2 0)), (1, .int 0), (2, .int 0)]) rfl ?_
  exact k_X9_heardSet_4 C  h
set_option maxHeartbeats 4000000 in
set_option maxRecDepth 100000 in
theorem k_X9_laysPulls_2 {v1 : Int32} {v2 : Int32} {σ : St} {K : St → Prop} (C : Cx p R s m args meth c shM G cX9_laysPulls 3 4 RX9 none 0 0) (h : L_X9_laysPulls_2 v1 K v2 σ) : Go p l e R s m args below meth c shM G 3 0 0 (MQ below (Qw shM G (RV K)) args s 0 0 (Fr shM G)) 2 [(0, .ref (G.2.2 0)), (1, .int v1), (2, .int v2)] [] σ := by
  obtain ⟨n_, h⟩ := h
  induction n_ generalizing v2 σ with
  | zero => exact h.elim
  | succ n_ ih =>
    replace h : B_X9_laysPulls_2 v1 K (it2 (B_X9_laysPulls_2 v1 K) n_) v2 σ := h
    unfold B_X9_laysPulls_2 at h
    refine g_iload_n (pc := 2) C 2 dX9_laysPulls_2 rfl rfl ?_
    refine g_aload_n (pc := 3) C 0 dX9_laysPulls_3 rfl rfl ?_
    refine get_X9_0 (pc := 4) C rfl tw_862 dX9_laysPulls_4 ?_
    refine g_iconst (pc := 7) (v := 0) C dX9_laysPulls_7 ic_0 ?_
    obtain ⟨g_, h⟩ := h
    refine g_iald (pc := 8) C rfl g_ dX9_laysPulls_8 ?_
    refine g_icmp_ge (pc := 9) (tgt := 35) C dX9_laysPulls_9 (by decide) (fun c_ => ?_) (fun c_ => ?_)
    · replace h := ite_t h c_
      refine g_aload_n (pc := 35) C 0 dX9_laysPulls_35 rfl rfl ?_
      refine g_callVv (pc := 36) (As := []) (rest := []) C rfl rfl rfl rfl (M_X9_rings C.2.2.1  h) CyX9_rings tw_1113 tw_1115 ts_43 (by decide) rfl rfl (Nat.le_of_ble_eq_true rfl) dX9_laysPulls_36 (fun t36 h => ?_)
      exact g_vret (pc := 39) C dX9_laysPulls_39 ⟨rfl, h⟩
    · replace h := ite_f h c_
      refine g_aload_n (pc := 12) C 0 dX9_laysPulls_12 rfl rfl ?_
      refine get_X9_14 (pc := 13) C rfl tw_876 dX9_laysPulls_13 ?_
      refine g_iload_n (pc := 16) C 2 dX9_laysPulls_16 rfl rfl ?_
      refine g_aload_n (pc := 17) C 0 dX9_laysPulls_17 rfl rfl ?_
      refine get_X9_3 (pc := 18) C rfl tw_865 dX9_laysPulls_18 ?_
      refine g_bipush (pc := 21) (v := 40) C dX9_laysPulls_21 bp_40 ?_
      refine g_iload_n (pc := 23) C 1 dX9_laysPulls_23 rfl rfl ?_
      refine g_imul (pc := 24) C dX9_laysPulls_24 ?_
      refine g_iload_n (pc := 25) C 2 dX9_laysPulls_25 rfl rfl ?_
      refine g_iadd (pc := 26) C dX9_laysPulls_26 ?_
      obtain ⟨g_, h⟩ := h
      refine g_iald (pc := 27) C rfl g_ dX9_laysPulls_27 ?_
      obtain ⟨g_, h⟩ := h
      refine g_iast (pc := 28) C rfl g_ dX9_laysPulls_28 ?_
      refine g_iinc (pc := 29) (lv2 := [(2, .int (v2 + 1)), (0, .ref (G.2.2 0)), (1, .int v1)]) C 2 dX9_laysPulls_29 ic_1 rfl (by decide) rfl ?_
      refine g_goto (pc := 32) (tgt := 2) C dX9_laysPulls_32 (by decide) ?_
      refine g_lv [1, 2, 0] (lv2 := [(0, .ref (G.2.2 0)), (1, .int v1), (2, .int (v2 + 1))]) rfl ?_
      exact ih h
set_option maxHeartbeats 4000000 in
set_option maxRecDepth 100000 in
theorem M_X9_laysPulls {l : Launch} {G : Gp} (hD : Dj shM G) {v1 : Int32} {σ : St} {K : St → Prop} (h : wp_X9_laysPulls v1 σ K) : MC l shM G yX9_laysPulls cX9_laysPulls 3 none 4 [.ref (G.2.2 0), .int v1] σ (RV K) := by
  unfold wp_X9_laysPulls at h
  refine MC.of (by decide) hD (Nat.le_of_ble_eq_true rfl) ?_
  intro p e s m args below meth c C
  replace C : Cx p (rmD 4) s m args meth c shM G cX9_laysPulls 3 4 RX9 none 0 0 := C
  show Go p l e (rmD 4) s m args below meth c shM G 3 0 0 (MQ below (Qw shM G (RV K)) args s 0 0 (Fr shM G)) 0 [(0, .ref (G.2.2 0)), (1, .int v1)] [] σ
  refine g_iconst (pc := 0) (v := 0) C dX9_laysPulls_0 ic_0 ?_
  refine g_istore_n (pc := 1) (lv2 := [(2, .int 0), (0, .ref (G.2.2 0)), (1, .int v1)]) C dX9_laysPulls_1 rfl (by decide) rfl ?_
  refine g_lv [1, 2, 0] (lv2 := [(0, .ref (G.2.2 0)), (1, .int v1), (2, .int 0)]) rfl ?_
  exact k_X9_laysPulls_2 C  h
set_option maxHeartbeats 4000000 in
set_option maxRecDepth 100000 in
theorem M_X9_error {l : Launch} {G : Gp} (hD : Dj shM G) {v1 : Int32} {σ : St} {K : Int32 → St → Prop} (h : wp_X9_error v1 σ K) : MC l shM G yX9_error cX9_error 3 (some .int) 5 [.ref (G.2.2 0), .int v1] σ (RI K) := by
  unfold wp_X9_error at h
  refine MC.of (by decide) hD (Nat.le_of_ble_eq_true rfl) ?_
  intro p e s m args below meth c C
  replace C : Cx p (rmD 5) s m args meth c shM G cX9_error 3 5 RX9 (some .int) 0 0 := C
  show Go p l e (rmD 5) s m args below meth c shM G 3 0 0 (MQ below (Qw shM G (RI K)) args s 0 0 (Fr shM G)) 0 [(0, .ref (G.2.2 0)), (1, .int v1)] [] σ
  refine g_aload_n (pc := 0) C 0 dX9_error_0 rfl rfl ?_
  refine g_iload_n (pc := 1) C 1 dX9_error_1 rfl rfl ?_
  refine g_callVi (pc := 2) (As := [.int v1]) (rest := []) C rfl rfl rfl rfl (M_X9_against C.2.2.1  h) CyX9_against tw_1105 tw_1107 ts_41 (by decide) rfl rfl (Nat.le_of_ble_eq_true rfl) dX9_error_2 (fun r2 t2 h => ?_)
  refine g_istore_n (pc := 5) (lv2 := [(2, .int r2), (0, .ref (G.2.2 0)), (1, .int v1)]) C dX9_error_5 rfl (by decide) rfl ?_
  refine g_iload_n (pc := 6) C 0 dX9_error_6 rfl rfl ?_
  refine g_if_ge (pc := 7) (tgt := 12) C dX9_error_7 (by decide) (fun c_ => ?_) (fun c_ => ?_)
  · replace h := ite_t h c_
    refine g_aload_n (pc := 12) C 1 dX9_error_12 rfl rfl ?_
    refine g_iload_n (pc := 13) C 2 dX9_error_13 rfl rfl ?_
    refine g_callVv (pc := 14) (As := [.int v1]) (rest := []) C rfl rfl rfl rfl (M_X9_laysPulls C.2.2.1  h) CyX9_laysPulls tw_1109 tw_1111 ts_42 (by decide) rfl rfl (Nat.le_of_ble_eq_true rfl) dX9_error_14 (fun t14 h => ?_)
    refine g_aload_n (pc := 17) C 1 dX9_error_17 rfl rfl ?_
    refine g_aload_n (pc := 18) C 1 dX9_error_18 rfl rfl ?_
    refine g_callVip (pc := 19) (As := []) (rest := [.ref (G.2.2 0)]) C rfl rfl rfl rfl (M_X9_heardSet C.2.2.1  h) CyX9_heardSet tw_1117 tw_1119 ts_44 (by decide) rfl rfl (Nat.le_of_ble_eq_true rfl) dX9_error_19 (fun r19 h => ?_)
    refine g_aload_n (pc := 22) C 1 dX9_error_22 rfl rfl ?_
    refine g_callVip (pc := 23) (As := []) (rest := [.int r19, .ref (G.2.2 0)]) C rfl rfl rfl rfl (M_X9_errorNow C.2.2.1  h) CyX9_errorNow tw_1182 tw_1184 ts_46 (by decide) rfl rfl (Nat.le_of_ble_eq_true rfl) dX9_error_23 (fun r23 h => ?_)
    refine g_callVi (pc := 26) (As := [.int r19, .int r23]) (rest := []) C rfl rfl rfl rfl (M_X9_tells C.2.2.1  h) CyX9_tells tw_974 tw_976 ts_27 (by decide) rfl rfl (Nat.le_of_ble_eq_true rfl) dX9_error_26 (fun r26 t26 h => ?_)
    exact g_iret (pc := 29) C dX9_error_29 ⟨_, rfl, h⟩
  · replace h := ite_f h c_
    refine g_iload_n (pc := 10) C 0 dX9_error_10 rfl rfl ?_
    exact g_iret (pc := 11) C dX9_error_11 ⟨_, rfl, h⟩
set_option maxHeartbeats 4000000 in
set_option maxRecDepth 100000 in
theorem k_X9_even_58 {v1 : Int32} {v2 : Int32} {σ : St} {K : Int32 → St → Prop} {Φ30 : Int32 → Int32 → St → Prop} (C : Cx p R s m args meth c shM G cX9_even 4 5 RX9 (some .int) 0 0) (hΦ30 : ∀ (v2' : Int32) (v3' : Int32) (σ' : St), Φ30 v2' v3' σ' → Go p l e R s m args below meth c shM G 4 0 0 (MQ below (Qw shM G (RI K)) args s 0 0 (Fr shM G)) 30 [(0, .ref (G.2.2 0)), (1, .int v1), (2, .int (v2')), (3, .int (v3'))] [] σ') (h : J_X9_even_58 v1 v2 σ K Φ30) : Go p l e R s m args below meth c shM G 4 0 0 (MQ below (Qw shM G (RI K)) args s 0 0 (Fr shM G)) 58 [(0, .ref (G.2.2 0)), (1, .int v1), (2, .int v2)] [] σ := by
  unfold J_X9_even_58 at h
  refine g_aload_n (pc := 58) C 0 dX9_even_58 rfl rfl ?_
  refine g_callVi (pc := 59) (As := []) (rest := []) C rfl rfl rfl rfl (M_X9_isNext C.2.2.1  h) CyX9_isNext tw_1214 tw_1216 ts_52 (by decide) rfl rfl (Nat.le_of_ble_eq_true rfl) dX9_even_59 (fun r59 t59 h => ?_)
  refine g_istore_n (pc := 62) (lv2 := [(3, .int r59), (0, .ref (G.2.2 0)), (1, .int v1), (2, .int v2)]) C dX9_even_62 rfl (by decide) rfl ?_
  refine g_goto (pc := 63) (tgt := 30) C dX9_even_63 (by decide) ?_
  refine g_lv [1, 2, 3, 0] (lv2 := [(0, .ref (G.2.2 0)), (1, .int v1), (2, .int v2), (3, .int r59)]) rfl ?_
  exact hΦ30 _ _ _ h
set_option maxHeartbeats 4000000 in
set_option maxRecDepth 100000 in
theorem k_X9_even_30 {v1 : Int32} {v2 : Int32} {v3 : Int32} {σ : St} {K : Int32 → St → Prop} (C : Cx p R s m args meth c shM G cX9_even 4 5 RX9 (some .int) 0 0) (h : L_X9_even_30 v1 K v2 v3 σ) : Go p l e R s m args below meth c shM G 4 0 0 (MQ below (Qw shM G (RI K)) args s 0 0 (Fr shM G)) 30 [(0, .ref (G.2.2 0)), (1, .int v1), (2, .int v2), (3, .int v3)] [] σ := by
  obtain ⟨n_, h⟩ := h
  induction n_ generalizing v2 v3 σ with
  | zero => exact h.elim
  | succ n_ ih =>
    replace h : B_X9_even_30 v1 K (it3 (B_X9_even_30 v1 K) n_) v2 v3 σ := h
    unfold B_X9_even_30 at h
    refine g_iload_n (pc := 30) C 3 dX9_even_30 rfl rfl ?_
    refine g_if_eq (pc := 31) (tgt := 66) C dX9_even_31 (by decide) (fun c_ => ?_) (fun c_ => ?_)
    · replace h := ite_t h c_
      refine g_iload_n (pc := 66) C 2 dX9_even_66 rfl rfl ?_
      refine g_ldc (pc := 67) (v := 1000000) C dX9_even_67 tw_1164 ?_
      refine g_icmp_ne (pc := 69) (tgt := 75) C dX9_even_69 (by decide) (fun c_ => ?_) (fun c_ => ?_)
      · replace h := ite_f h c_
        refine g_aload_n (pc := 75) C 0 dX9_even_75 rfl rfl ?_
        refine g_iload_n (pc := 76) C 1 dX9_even_76 rfl rfl ?_
        refine g_callVv (pc := 77) (As := [.int v1]) (rest := []) C rfl rfl rfl rfl (M_X9_tellsBest C.2.2.1  h) CyX9_tellsBest tw_1218 tw_1220 ts_53 (by decide) rfl rfl (Nat.le_of_ble_eq_true rfl) dX9_even_77 (fun t77 h => ?_)
        refine g_iload_n (pc := 80) C 2 dX9_even_80 rfl rfl ?_
        exact g_iret (pc := 81) C dX9_even_81 ⟨_, rfl, h⟩
      · replace h := ite_t h c_
        refine g_bipush (pc := 72) (v := -9) C dX9_even_72 bp_m9 ?_
        exact g_iret (pc := 74) C dX9_even_74 ⟨_, rfl, h⟩
    · replace h := ite_f h c_
      refine g_aload_n (pc := 34) C 0 dX9_even_34 rfl rfl ?_
      refine g_callVi (pc := 35) (As := []) (rest := []) C rfl rfl rfl rfl (M_X9_isAll C.2.2.1  h) CyX9_isAll tw_1202 tw_1204 ts_49 (by decide) rfl rfl (Nat.le_of_ble_eq_true rfl) dX9_even_35 (fun r35 t35 h => ?_)
      refine g_if_eq (pc := 38) (tgt := 58) C dX9_even_38 (by decide) (fun c_ => ?_) (fun c_ => ?_)
      · replace h := ite_t h c_
        refine g_lv [0, 1, 2] (lv2 := [(0, .ref (G.2.2 0)), (1, .int v1), (2, .int v2)]) rfl ?_
        exact k_X9_even_58 C (fun _ _ _ h_ => ih h_) h
      · replace h := ite_f h c_
        refine g_aload_n (pc := 41) C 0 dX9_even_41 rfl rfl ?_
        refine g_callVip (pc := 42) (As := []) (rest := []) C rfl rfl rfl rfl (M_X9_errorNow C.2.2.1  h) CyX9_errorNow tw_1182 tw_1184 ts_46 (by decide) rfl rfl (Nat.le_of_ble_eq_true rfl) dX9_even_42 (fun r42 h => ?_)
        refine g_iload_n (pc := 45) C 2 dX9_even_45 rfl rfl ?_
        refine g_icmp_ge (pc := 46) (tgt := 58) C dX9_even_46 (by decide) (fun c_ => ?_) (fun c_ => ?_)
        · replace h := ite_t h c_
          refine g_lv [0, 1, 2] (lv2 := [(0, .ref (G.2.2 0)), (1, .int v1), (2, .int v2)]) rfl ?_
          exact k_X9_even_58 C (fun _ _ _ h_ => ih h_) h
        · replace h := ite_f h c_
          refine g_aload_n (pc := 49) C 0 dX9_even_49 rfl rfl ?_
          refine g_callVip (pc := 50) (As := []) (rest := []) C rfl rfl rfl rfl (M_X9_errorNow C.2.2.1  h) CyX9_errorNow tw_1182 tw_1184 ts_46 (by decide) rfl rfl (Nat.le_of_ble_eq_true rfl) dX9_even_50 (fun r50 h => ?_)
          refine g_istore_n (pc := 53) (lv2 := [(2, .int r50), (0, .ref (G.2.2 0)), (1, .int v1), (3, .int v3)]) C dX9_even_53 rfl (by decide) rfl ?_
          refine g_aload_n (pc := 54) C 1 dX9_even_54 rfl rfl ?_
          refine g_callVv (pc := 55) (As := []) (rest := []) C rfl rfl rfl rfl (M_X9_keepsBest C.2.2.1  h) CyX9_keepsBest tw_1210 tw_1212 ts_51 (by decide) rfl rfl (Nat.le_of_ble_eq_true rfl) dX9_even_55 (fun t55 h => ?_)
          refine g_lv [1, 2, 0] (lv2 := [(0, .ref (G.2.2 0)), (1, .int v1), (2, .int r50)]) rfl ?_
          exact k_X9_even_58 C (fun _ _ _ h_ => ih h_) h
set_option maxHeartbeats 4000000 in
set_option maxRecDepth 100000 in
theorem M_X9_even {l : Launch} {G : Gp} (hD : Dj shM G) {v1 : Int32} {σ : St} {K : Int32 → St → Prop} (h : wp_X9_even v1 σ K) : MC l shM G yX9_even cX9_even 4 (some .int) 5 [.ref (G.2.2 0), .int v1] σ (RI K) := by
  unfold wp_X9_even at h
  refine MC.of (by decide) hD (Nat.le_of_ble_eq_true rfl) ?_
  intro p e s m args below meth c C
  replace C : Cx p (rmD 5) s m args meth c shM G cX9_even 4 5 RX9 (some .int) 0 0 := C
  show Go p l e (rmD 5) s m args below meth c shM G 4 0 0 (MQ below (Qw shM G (RI K)) args s 0 0 (Fr shM G)) 0 [(0, .ref (G.2.2 0)), (1, .int v1)] [] σ
  refine g_iload_n (pc := 0) C 1 dX9_even_0 rfl rfl ?_
  refine g_callSip (pc := 1) (As := [.int v1]) (rest := []) C (M_X9_isRow C.2.2.1  h) CyX9_isRow tw_951 tw_952 (by decide) rfl rfl (Nat.le_of_ble_eq_true rfl) dX9_even_1 (fun r1 h => ?_)
  refine g_if_ne (pc := 4) (tgt := 9) C dX9_even_4 (by decide) (fun c_ => ?_) (fun c_ => ?_)
  · replace h := ite_f h c_
    refine g_aload_n (pc := 9) C 0 dX9_even_9 rfl rfl ?_
    refine get_X9_0 (pc := 10) C rfl tw_862 dX9_even_10 ?_
    refine g_iconst (pc := 13) (v := 0) C dX9_even_13 ic_0 ?_
    obtain ⟨g_, h⟩ := h
    refine g_iald (pc := 14) C rfl g_ dX9_even_14 ?_
    refine g_if_ne (pc := 15) (tgt := 21) C dX9_even_15 (by decide) (fun c_ => ?_) (fun c_ => ?_)
    · replace h := ite_f h c_
      refine g_ldc (pc := 21) (v := 1000000) C dX9_even_21 tw_1164 ?_
      refine g_istore_n (pc := 23) (lv2 := [(2, .int 1000000), (0, .ref (G.2.2 0)), (1, .int v1)]) C dX9_even_23 rfl (by decide) rfl ?_
      refine g_aload_n (pc := 24) C 1 dX9_even_24 rfl rfl ?_
      refine g_callVv (pc := 25) (As := []) (rest := []) C rfl rfl rfl rfl (M_X9_begins C.2.2.1  h) CyX9_begins tw_1198 tw_1200 ts_48 (by decide) rfl rfl (Nat.le_of_ble_eq_true rfl) dX9_even_25 (fun t25 h => ?_)
      refine g_iconst (pc := 28) (v := 1) C dX9_even_28 ic_1 ?_
      refine g_istore_n (pc := 29) (lv2 := [(3, .int 1), (2, .int 1000000), (0, .ref (G.2.2 0)), (1, .int v1)]) C dX9_even_29 rfl (by decide) rfl ?_
      refine g_lv [2, 3, 1, 0] (lv2 := [(0, .ref (G.2.2 0)), (1, .int v1), (2, .int 1000000), (3, .int 1)]) rfl ?_
      exact k_X9_even_30 C  h
    · replace h := ite_t h c_
      refine g_bipush (pc := 18) (v := -4) C dX9_even_18 bp_m4 ?_
      exact g_iret (pc := 20) C dX9_even_20 ⟨_, rfl, h⟩
  · replace h := ite_t h c_
    refine g_iconst (pc := 7) (v := -1) C dX9_even_7 ic_m1 ?_
    exact g_iret (pc := 8) C dX9_even_8 ⟨_, rfl, h⟩
set_option maxHeartbeats 4000000 in
set_option maxRecDepth 100000 in
theorem M_X9_figure {l : Launch} {G : Gp} (hD : Dj shM G) {v1 : Int32} {v2 : Int32} {v3 : Int32} {σ : St} {K : Int32 → St → Prop} (h : wp_X9_figure v1 v2 v3 σ K) : MC l shM G yX9_figure cX9_figure 5 (some .int) 2 [.ref (G.2.2 0), .int v1, .int v2, .int v3] σ (RI K) := by
  unfold wp_X9_figure at h
  refine MC.of (by decide) hD (Nat.le_of_ble_eq_true rfl) ?_
  intro p e s m args below meth c C
  replace C : Cx p (rmD 2) s m args meth c shM G cX9_figure 5 2 RX9 (some .int) 0 0 := C
  show Go p l e (rmD 2) s m args below meth c shM G 5 0 0 (MQ below (Qw shM G (RI K)) args s 0 0 (Fr shM G)) 0 [(0, .ref (G.2.2 0)), (1, .int v1), (2, .int v2), (3, .int v3)] [] σ
  refine g_aload_n (pc := 0) C 0 dX9_figure_0 rfl rfl ?_
  refine g_iload_n (pc := 1) C 1 dX9_figure_1 rfl rfl ?_
  refine g_aload_n (pc := 2) C 0 dX9_figure_2 rfl rfl ?_
  refine get_X9_13 (pc := 3) C rfl tw_875 dX9_figure_3 ?_
  refine g_callVip (pc := 6) (As := [.int v1, .int (σ.1 0 13)]) (rest := []) C rfl rfl rfl rfl (M_X9_byteAt C.2.2.1  h) CyX9_byteAt tw_1018 tw_1020 ts_30 (by decide) rfl rfl (Nat.le_of_ble_eq_true rfl) dX9_figure_6 (fun r6 h => ?_)
  refine g_bipush (pc := 9) (v := 48) C dX9_figure_9 bp_48 ?_
  refine g_isub (pc := 11) C dX9_figure_11 ?_
  refine g_istore (pc := 12) (lv2 := [(4, .int (r6 - 48)), (0, .ref (G.2.2 0)), (1, .int v1), (2, .int v2), (3, .int v3)]) C dX9_figure_12 (by decide) rfl ?_
  refine g_iload (pc := 14) C 0 dX9_figure_14 rfl ?_
  refine g_i2l (pc := 16) C dX9_figure_16 ?_
  refine g_iload_n (pc := 17) C 3 dX9_figure_17 rfl rfl ?_
  refine g_i2l (pc := 18) C dX9_figure_18 ?_
  refine g_iload_n (pc := 19) C 4 dX9_figure_19 rfl rfl ?_
  refine g_i2l (pc := 20) C dX9_figure_20 ?_
  refine g_callSip (pc := 21) (As := [.long ((r6 - 48).toInt64), .long v2.toInt64, .long v3.toInt64]) (rest := []) C (M_X9_in C.2.2.1  h) CyX9_in tw_955 tw_956 (by decide) rfl rfl (Nat.le_of_ble_eq_true rfl) dX9_figure_21 (fun r21 h => ?_)
  refine g_if_ne (pc := 24) (tgt := 29) C dX9_figure_24 (by decide) (fun c_ => ?_) (fun c_ => ?_)
  · replace h := ite_f h c_
    refine g_aload_n (pc := 29) C 1 dX9_figure_29 rfl rfl ?_
    refine g_dup (pc := 30) C dX9_figure_30 rfl ?_
    refine get_X9_13 (pc := 31) C rfl tw_875 dX9_figure_31 ?_
    refine g_iconst (pc := 34) (v := 1) C dX9_figure_34 ic_1 ?_
    refine g_iadd (pc := 35) C dX9_figure_35 ?_
    refine put_X9_13 (pc := 36) C rfl tw_875 dX9_figure_36 ?_
    refine g_iload (pc := 39) C 0 dX9_figure_39 rfl ?_
    exact g_iret (pc := 41) C dX9_figure_41 ⟨_, rfl, h⟩
  · replace h := ite_t h c_
    refine g_iconst (pc := 27) (v := -1) C dX9_figure_27 ic_m1 ?_
    exact g_iret (pc := 28) C dX9_figure_28 ⟨_, rfl, h⟩
set_option maxHeartbeats 4000000 in
set_option maxRecDepth 100000 in
theorem k_X9_kindOf_61 {w0 : Int32} {σ : St} {K : Int32 → Prop} (C : Cx p R s m args meth c shM G cX9_kindOf 1 1 RX9 (some .int) 0 0) (h : J_X9_kindOf_61 w0 K) : Go p l e R s m args below meth c shM G 1 0 0 (MQ below (Qw shM G (RI (fun r t => t = σ ∧ K r))) args s 0 0 (Fr shM G)) 61 [] [.int w0] σ := by
  unfold J_X9_kindOf_61 at h
  exact g_iret (pc := 61) C dX9_kindOf_61 ⟨_, rfl, ⟨rfl, h⟩⟩
set_option maxHeartbeats 4000000 in
set_option maxRecDepth 100000 in
theorem M_X9_kindOf {l : Launch} {G : Gp} (hD : Dj shM G) {v0 : Int32} {σ : St} {K : Int32 → Prop} (h : wp_X9_kindOf v0 K) : MC l shM G yX9_kindOf cX9_kindOf 1 (some .int) 1 [.int v0] σ (RI (fun r t => t = σ ∧ K r)) := by
  unfold wp_X9_kindOf at h
  refine MC.of (by decide) hD (Nat.le_of_ble_eq_true rfl) ?_
  intro p e s m args below meth c C
  replace C : Cx p (rmD 1) s m args meth c shM G cX9_kindOf 1 1 RX9 (some .int) 0 0 := C
  show Go p l e (rmD 1) s m args below meth c shM G 1 0 0 (MQ below (Qw shM G (RI (fun r t => t = σ ∧ K r))) args s 0 0 (Fr shM G)) 0 [(0, .int v0)] [] σ
  refine g_iload_n (pc := 0) C 0 dX9_kindOf_0 rfl rfl ?_
  refine g_bipush (pc := 1) (v := 98) C dX9_kindOf_1 bp_98 ?_
  refine g_icmp_ne (pc := 3) (tgt := 10) C dX9_kindOf_3 (by decide) (fun c_ => ?_) (fun c_ => ?_)
  · replace h := ite_f h c_
    refine g_iload_n (pc := 10) C 0 dX9_kindOf_10 rfl rfl ?_
    refine g_bipush (pc := 11) (v := 104) C dX9_kindOf_11 bp_104 ?_
    refine g_icmp_ne (pc := 13) (tgt := 20) C dX9_kindOf_13 (by decide) (fun c_ => ?_) (fun c_ => ?_)
    · replace h := ite_f h c_
      refine g_iload_n (pc := 20) C 0 dX9_kindOf_20 rfl rfl ?_
      refine g_bipush (pc := 21) (v := 113) C dX9_kindOf_21 bp_113 ?_
      refine g_icmp_ne (pc := 23) (tgt := 30) C dX9_kindOf_23 (by decide) (fun c_ => ?_) (fun c_ => ?_)
      · replace h := ite_f h c_
        refine g_iload_n (pc := 30) C 0 dX9_kindOf_30 rfl rfl ?_
        refine g_bipush (pc := 31) (v := 110) C dX9_kindOf_31 bp_110 ?_
        refine g_icmp_ne (pc := 33) (tgt := 40) C dX9_kindOf_33 (by decide) (fun c_ => ?_) (fun c_ => ?_)
        · replace h := ite_f h c_
          refine g_iload_n (pc := 40) C 0 dX9_kindOf_40 rfl rfl ?_
          refine g_bipush (pc := 41) (v := 103) C dX9_kindOf_41 bp_103 ?_
          refine g_icmp_ne (pc := 43) (tgt := 50) C dX9_kindOf_43 (by decide) (fun c_ => ?_) (fun c_ => ?_)
          · replace h := ite_f h c_
            refine g_iload_n (pc := 50) C 0 dX9_kindOf_50 rfl rfl ?_
            refine g_bipush (pc := 51) (v := 116) C dX9_kindOf_51 bp_116 ?_
            refine g_icmp_ne (pc := 53) (tgt := 60) C dX9_kindOf_53 (by decide) (fun c_ => ?_) (fun c_ => ?_)
            · replace h := ite_f h c_
              refine g_iconst (pc := 60) (v := -1) C dX9_kindOf_60 ic_m1 ?_
              refine g_lv [] (lv2 := []) rfl ?_
              exact k_X9_kindOf_61 C  h
            · replace h := ite_t h c_
              refine g_iconst (pc := 56) (v := 5) C dX9_kindOf_56 ic_5 ?_
              refine g_goto (pc := 57) (tgt := 61) C dX9_kindOf_57 (by decide) ?_
              refine g_lv [] (lv2 := []) rfl ?_
              exact k_X9_kindOf_61 C  h
          · replace h := ite_t h c_
            refine g_iconst (pc := 46) (v := 4) C dX9_kindOf_46 ic_4 ?_
            refine g_goto (pc := 47) (tgt := 61) C dX9_kindOf_47 (by decide) ?_
            refine g_lv [] (lv2 := []) rfl ?_
            exact k_X9_kindOf_61 C  h
        · replace h := ite_t h c_
          refine g_iconst (pc := 36) (v := 3) C dX9_kindOf_36 ic_3 ?_
          refine g_goto (pc := 37) (tgt := 61) C dX9_kindOf_37 (by decide) ?_
          refine g_lv [] (lv2 := []) rfl ?_
          exact k_X9_kindOf_61 C  h
      · replace h := ite_t h c_
        refine g_iconst (pc := 26) (v := 2) C dX9_kindOf_26 ic_2 ?_
        refine g_goto (pc := 27) (tgt := 61) C dX9_kindOf_27 (by decide) ?_
        refine g_lv [] (lv2 := []) rfl ?_
        exact k_X9_kindOf_61 C  h
    · replace h := ite_t h c_
      refine g_iconst (pc := 16) (v := 1) C dX9_kindOf_16 ic_1 ?_
      refine g_goto (pc := 17) (tgt := 61) C dX9_kindOf_17 (by decide) ?_
      refine g_lv [] (lv2 := []) rfl ?_
      exact k_X9_kindOf_61 C  h
  · replace h := ite_t h c_
    refine g_iconst (pc := 6) (v := 0) C dX9_kindOf_6 ic_0 ?_
    refine g_goto (pc := 7) (tgt := 61) C dX9_kindOf_7 (by decide) ?_
    refine g_lv [] (lv2 := []) rfl ?_
    exact k_X9_kindOf_61 C  h
set_option maxHeartbeats 4000000 in
set_option maxRecDepth 100000 in
theorem k_X9_takesBell_32 {σ : St} {K : Int32 → St → Prop} (C : Cx p R s m args meth c shM G cX9_takesBell 7 3 RX9 (some .boolean) 0 0) (h : J_X9_takesBell_32 σ K) : Go p l e R s m args below meth c shM G 7 0 0 (MQ below (Qw shM G (RI K)) args s 0 0 (Fr shM G)) 32 [] [] σ := by
  unfold J_X9_takesBell_32 at h
  refine g_iconst (pc := 32) (v := 0) C dX9_takesBell_32 ic_0 ?_
  exact g_zret (pc := 33) C (by first | exact Or.inl rfl | exact Or.inr rfl) dX9_takesBell_33 ⟨_, rfl, h⟩
set_option maxHeartbeats 4000000 in
set_option maxRecDepth 100000 in
theorem k_X9_takesBell_99 {v2 : Int32} {v3 : Int32} {v4 : Int32} {v5 : Int32} {w0 : Int32} {σ : St} {K : Int32 → St → Prop} (C : Cx p R s m args meth c shM G cX9_takesBell 7 3 RX9 (some .boolean) 0 0) (h : J_X9_takesBell_99 v2 v3 v4 v5 w0 σ K) : Go p l e R s m args below meth c shM G 7 0 0 (MQ below (Qw shM G (RI K)) args s 0 0 (Fr shM G)) 99 [(0, .ref (G.2.2 0)), (2, .int v2), (3, .int v3), (4, .int v4), (5, .int v5)] [.int w0] σ := by
  unfold J_X9_takesBell_99 at h
  refine g_istore (pc := 99) (lv2 := [(6, .int w0), (0, .ref (G.2.2 0)), (2, .int v2), (3, .int v3), (4, .int v4), (5, .int v5)]) C dX9_takesBell_99 (by decide) rfl ?_
  refine g_iload (pc := 101) C 0 dX9_takesBell_101 rfl ?_
  refine g_if_ge (pc := 103) (tgt := 108) C dX9_takesBell_103 (by decide) (fun c_ => ?_) (fun c_ => ?_)
  · replace h := ite_t h c_
    refine g_aload_n (pc := 108) C 1 dX9_takesBell_108 rfl rfl ?_
    refine get_X9_0 (pc := 109) C rfl tw_862 dX9_takesBell_109 ?_
    refine g_sipush (pc := 112) (v := 5250) C dX9_takesBell_112 sp_5250 ?_
    refine g_iload_n (pc := 115) C 3 dX9_takesBell_115 rfl rfl ?_
    refine g_iadd (pc := 116) C dX9_takesBell_116 ?_
    refine g_iload_n (pc := 117) C 2 dX9_takesBell_117 rfl rfl ?_
    obtain ⟨g_, h⟩ := h
    refine g_iast (pc := 118) C rfl g_ dX9_takesBell_118 ?_
    refine g_aload_n (pc := 119) C 1 dX9_takesBell_119 rfl rfl ?_
    refine get_X9_0 (pc := 120) C rfl tw_862 dX9_takesBell_120 ?_
    refine g_sipush (pc := 123) (v := 5256) C dX9_takesBell_123 sp_5256 ?_
    refine g_iload_n (pc := 126) C 3 dX9_takesBell_126 rfl rfl ?_
    refine g_iadd (pc := 127) C dX9_takesBell_127 ?_
    refine g_iload (pc := 128) C 4 dX9_takesBell_128 rfl ?_
    obtain ⟨g_, h⟩ := h
    refine g_iast (pc := 130) C rfl g_ dX9_takesBell_130 ?_
    refine g_aload_n (pc := 131) C 1 dX9_takesBell_131 rfl rfl ?_
    refine get_X9_0 (pc := 132) C rfl tw_862 dX9_takesBell_132 ?_
    refine g_sipush (pc := 135) (v := 5262) C dX9_takesBell_135 sp_5262 ?_
    refine g_iload_n (pc := 138) C 3 dX9_takesBell_138 rfl rfl ?_
    refine g_iadd (pc := 139) C dX9_takesBell_139 ?_
    refine g_bipush (pc := 140) (v := 10) C dX9_takesBell_140 bp_10 ?_
    refine g_iload (pc := 142) C 5 dX9_takesBell_142 rfl ?_
    refine g_imul (pc := 144) C dX9_takesBell_144 ?_
    refine g_iload (pc := 145) C 0 dX9_takesBell_145 rfl ?_
    refine g_iadd (pc := 147) C dX9_takesBell_147 ?_
    obtain ⟨g_, h⟩ := h
    refine g_iast (pc := 148) C rfl g_ dX9_takesBell_148 ?_
    refine g_aload_n (pc := 149) C 1 dX9_takesBell_149 rfl rfl ?_
    refine get_X9_0 (pc := 150) C rfl tw_862 dX9_takesBell_150 ?_
    refine g_sipush (pc := 153) (v := 5248) C dX9_takesBell_153 sp_5248 ?_
    refine g_dup2 (pc := 156) C dX9_takesBell_156 rfl rfl ?_
    obtain ⟨g_, h⟩ := h
    refine g_iald (pc := 157) C rfl g_ dX9_takesBell_157 ?_
    refine g_iconst (pc := 158) (v := 1) C dX9_takesBell_158 ic_1 ?_
    refine g_iadd (pc := 159) C dX9_takesBell_159 ?_
    obtain ⟨g_, h⟩ := h
    refine g_iast (pc := 160) C rfl g_ dX9_takesBell_160 ?_
    refine g_iconst (pc := 161) (v := 1) C dX9_takesBell_161 ic_1 ?_
    exact g_zret (pc := 162) C (by first | exact Or.inl rfl | exact Or.inr rfl) dX9_takesBell_162 ⟨_, rfl, h⟩
  · replace h := ite_f h c_
    refine g_iconst (pc := 106) (v := 0) C dX9_takesBell_106 ic_0 ?_
    exact g_zret (pc := 107) C (by first | exact Or.inl rfl | exact Or.inr rfl) dX9_takesBell_107 ⟨_, rfl, h⟩
set_option maxHeartbeats 4000000 in
set_option maxRecDepth 100000 in
theorem k_X9_takesBell_96 {v2 : Int32} {v3 : Int32} {v4 : Int32} {v5 : Int32} {w1 : Int32} {w2 : Int32} {w3 : Int32} {σ : St} {K : Int32 → St → Prop} (C : Cx p R s m args meth c shM G cX9_takesBell 7 3 RX9 (some .boolean) 0 0) (h : J_X9_takesBell_96 v2 v3 v4 v5 w1 w2 w3 σ K) : Go p l e R s m args below meth c shM G 7 0 0 (MQ below (Qw shM G (RI K)) args s 0 0 (Fr shM G)) 96 [(0, .ref (G.2.2 0)), (2, .int v2), (3, .int v3), (4, .int v4), (5, .int v5)] [.int w3, .int w2, .int w1, .ref (G.2.2 0)] σ := by
  unfold J_X9_takesBell_96 at h
  refine g_callVi (pc := 96) (As := [.int w1, .int w2, .int w3]) (rest := []) C rfl rfl rfl rfl (M_X9_figure C.2.2.1  h) CyX9_figure tw_1022 tw_1024 ts_31 (by decide) rfl rfl (Nat.le_of_ble_eq_true rfl) dX9_takesBell_96 (fun r96 t96 h => ?_)
  refine g_lv [0, 1, 2, 3, 4] (lv2 := [(0, .ref (G.2.2 0)), (2, .int v2), (3, .int v3), (4, .int v4), (5, .int v5)]) rfl ?_
  exact k_X9_takesBell_99 C  h
set_option maxHeartbeats 4000000 in
set_option maxRecDepth 100000 in
theorem k_X9_takesBell_70 {v1 : Int32} {v2 : Int32} {v3 : Int32} {v4 : Int32} {w0 : Int32} {σ : St} {K : Int32 → St → Prop} (C : Cx p R s m args meth c shM G cX9_takesBell 7 3 RX9 (some .boolean) 0 0) (h : J_X9_takesBell_70 v1 v2 v3 v4 w0 σ K) : Go p l e R s m args below meth c shM G 7 0 0 (MQ below (Qw shM G (RI K)) args s 0 0 (Fr shM G)) 70 [(0, .ref (G.2.2 0)), (1, .int v1), (2, .int v2), (3, .int v3), (4, .int v4)] [.int w0] σ := by
  unfold J_X9_takesBell_70 at h
  refine g_istore (pc := 70) (lv2 := [(5, .int w0), (0, .ref (G.2.2 0)), (1, .int v1), (2, .int v2), (3, .int v3), (4, .int v4)]) C dX9_takesBell_70 (by decide) rfl ?_
  refine g_iload (pc := 72) C 0 dX9_takesBell_72 rfl ?_
  refine g_if_ge (pc := 74) (tgt := 81) C dX9_takesBell_74 (by decide) (fun c_ => ?_) (fun c_ => ?_)
  · replace h := ite_t h c_
    refine g_aload_n (pc := 81) C 1 dX9_takesBell_81 rfl rfl ?_
    refine g_iload_n (pc := 82) C 2 dX9_takesBell_82 rfl rfl ?_
    refine g_iconst (pc := 83) (v := 0) C dX9_takesBell_83 ic_0 ?_
    refine g_iload (pc := 84) C 0 dX9_takesBell_84 rfl ?_
    refine g_iconst (pc := 86) (v := 2) C dX9_takesBell_86 ic_2 ?_
    refine g_icmp_ne (pc := 87) (tgt := 94) C dX9_takesBell_87 (by decide) (fun c_ => ?_) (fun c_ => ?_)
    · replace h := ite_f h c_
      refine g_bipush (pc := 94) (v := 9) C dX9_takesBell_94 bp_9 ?_
      refine g_lv [1, 3, 4, 5, 0] (lv2 := [(0, .ref (G.2.2 0)), (2, .int v2), (3, .int v3), (4, .int v4), (5, .int w0)]) rfl ?_
      exact k_X9_takesBell_96 C  h
    · replace h := ite_t h c_
      refine g_iconst (pc := 90) (v := 0) C dX9_takesBell_90 ic_0 ?_
      refine g_goto (pc := 91) (tgt := 96) C dX9_takesBell_91 (by decide) ?_
      refine g_lv [1, 3, 4, 5, 0] (lv2 := [(0, .ref (G.2.2 0)), (2, .int v2), (3, .int v3), (4, .int v4), (5, .int w0)]) rfl ?_
      exact k_X9_takesBell_96 C  h
  · replace h := ite_f h c_
    refine g_iconst (pc := 77) (v := -1) C dX9_takesBell_77 ic_m1 ?_
    refine g_goto (pc := 78) (tgt := 99) C dX9_takesBell_78 (by decide) ?_
    refine g_lv [1, 3, 4, 5, 0] (lv2 := [(0, .ref (G.2.2 0)), (2, .int v2), (3, .int v3), (4, .int v4), (5, .int w0)]) rfl ?_
    exact k_X9_takesBell_99 C  h
set_option maxHeartbeats 4000000 in
set_option maxRecDepth 100000 in
theorem M_X9_takesBell {l : Launch} {G : Gp} (hD : Dj shM G) {v1 : Int32} {σ : St} {K : Int32 → St → Prop} (h : wp_X9_takesBell v1 σ K) : MC l shM G yX9_takesBell cX9_takesBell 7 (some .boolean) 3 [.ref (G.2.2 0), .int v1] σ (RI K) := by
  unfold wp_X9_takesBell at h
  refine MC.of (by decide) hD (Nat.le_of_ble_eq_true rfl) ?_
  intro p e s m args below meth c C
  replace C : Cx p (rmD 3) s m args meth c shM G cX9_takesBell 7 3 RX9 (some .boolean) 0 0 := C
  show Go p l e (rmD 3) s m args below meth c shM G 7 0 0 (MQ below (Qw shM G (RI K)) args s 0 0 (Fr shM G)) 0 [(0, .ref (G.2.2 0)), (1, .int v1)] [] σ
  refine g_aload_n (pc := 0) C 0 dX9_takesBell_0 rfl rfl ?_
  refine g_iload_n (pc := 1) C 1 dX9_takesBell_1 rfl rfl ?_
  refine g_aload_n (pc := 2) C 0 dX9_takesBell_2 rfl rfl ?_
  refine get_X9_13 (pc := 3) C rfl tw_875 dX9_takesBell_3 ?_
  refine g_callVip (pc := 6) (As := [.int v1, .int (σ.1 0 13)]) (rest := []) C rfl rfl rfl rfl (M_X9_byteAt C.2.2.1  h) CyX9_byteAt tw_1018 tw_1020 ts_30 (by decide) rfl rfl (Nat.le_of_ble_eq_true rfl) dX9_takesBell_6 (fun r6 h => ?_)
  refine g_callSip (pc := 9) (As := [.int r6]) (rest := []) C (M_X9_kindOf C.2.2.1  h) CyX9_kindOf tw_1030 tw_1031 (by decide) rfl rfl (Nat.le_of_ble_eq_true rfl) dX9_takesBell_9 (fun r9 h => ?_)
  refine g_istore_n (pc := 12) (lv2 := [(2, .int r9), (0, .ref (G.2.2 0)), (1, .int v1)]) C dX9_takesBell_12 rfl (by decide) rfl ?_
  refine g_aload_n (pc := 13) C 1 dX9_takesBell_13 rfl rfl ?_
  refine get_X9_0 (pc := 14) C rfl tw_862 dX9_takesBell_14 ?_
  refine g_sipush (pc := 17) (v := 5248) C dX9_takesBell_17 sp_5248 ?_
  obtain ⟨g_, h⟩ := h
  refine g_iald (pc := 20) C rfl g_ dX9_takesBell_20 ?_
  refine g_istore_n (pc := 21) (lv2 := [(3, .int (σ.1 1 (5248 : Int32).toNatClampNeg)), (2, .int r9), (0, .ref (G.2.2 0)), (1, .int v1)]) C dX9_takesBell_21 rfl (by decide) rfl ?_
  refine g_iload_n (pc := 22) C 1 dX9_takesBell_22 rfl rfl ?_
  refine g_if_lt (pc := 23) (tgt := 32) C dX9_takesBell_23 (by decide) (fun c_ => ?_) (fun c_ => ?_)
  · replace h := ite_t h c_
    refine g_lv [] (lv2 := []) rfl ?_
    exact k_X9_takesBell_32 C  h
  · replace h := ite_f h c_
    refine g_iload_n (pc := 26) C 0 dX9_takesBell_26 rfl rfl ?_
    refine g_bipush (pc := 27) (v := 6) C dX9_takesBell_27 bp_6 ?_
    refine g_icmp_ne (pc := 29) (tgt := 34) C dX9_takesBell_29 (by decide) (fun c_ => ?_) (fun c_ => ?_)
    · replace h := ite_f h c_
      refine g_aload_n (pc := 34) C 2 dX9_takesBell_34 rfl rfl ?_
      refine g_dup (pc := 35) C dX9_takesBell_35 rfl ?_
      refine get_X9_13 (pc := 36) C rfl tw_875 dX9_takesBell_36 ?_
      refine g_iconst (pc := 39) (v := 1) C dX9_takesBell_39 ic_1 ?_
      refine g_iadd (pc := 40) C dX9_takesBell_40 ?_
      refine put_X9_13 (pc := 41) C rfl tw_875 dX9_takesBell_41 ?_
      refine g_aload_n (pc := 44) C 2 dX9_takesBell_44 rfl rfl ?_
      refine g_iload_n (pc := 45) C 3 dX9_takesBell_45 rfl rfl ?_
      refine g_iconst (pc := 46) (v := 1) C dX9_takesBell_46 ic_1 ?_
      refine g_bipush (pc := 47) (v := 9) C dX9_takesBell_47 bp_9 ?_
      refine g_callVi (pc := 49) (As := [.int v1, .int 1, .int 9]) (rest := []) C rfl rfl rfl rfl (M_X9_figure C.2.2.1  h) CyX9_figure tw_1022 tw_1024 ts_31 (by decide) rfl rfl (Nat.le_of_ble_eq_true rfl) dX9_takesBell_49 (fun r49 t49 h => ?_)
      refine g_istore (pc := 52) (lv2 := [(4, .int r49), (3, .int (σ.1 1 (5248 : Int32).toNatClampNeg)), (2, .int r9), (0, .ref (G.2.2 0)), (1, .int v1)]) C dX9_takesBell_52 (by decide) rfl ?_
      refine g_iload (pc := 54) C 0 dX9_takesBell_54 rfl ?_
      refine g_if_ge (pc := 56) (tgt := 63) C dX9_takesBell_56 (by decide) (fun c_ => ?_) (fun c_ => ?_)
      · replace h := ite_t h c_
        refine g_aload_n (pc := 63) C 3 dX9_takesBell_63 rfl rfl ?_
        refine g_iload_n (pc := 64) C 4 dX9_takesBell_64 rfl rfl ?_
        refine g_iconst (pc := 65) (v := 0) C dX9_takesBell_65 ic_0 ?_
        refine g_iconst (pc := 66) (v := 2) C dX9_takesBell_66 ic_2 ?_
        refine g_callVi (pc := 67) (As := [.int v1, .int 0, .int 2]) (rest := []) C rfl rfl rfl rfl (M_X9_figure C.2.2.1  h) CyX9_figure tw_1022 tw_1024 ts_31 (by decide) rfl rfl (Nat.le_of_ble_eq_true rfl) dX9_takesBell_67 (fun r67 t67 h => ?_)
        refine g_lv [3, 4, 2, 1, 0] (lv2 := [(0, .ref (G.2.2 0)), (1, .int v1), (2, .int r9), (3, .int (σ.1 1 (5248 : Int32).toNatClampNeg)), (4, .int r49)]) rfl ?_
        exact k_X9_takesBell_70 C  h
      · replace h := ite_f h c_
        refine g_iconst (pc := 59) (v := -1) C dX9_takesBell_59 ic_m1 ?_
        refine g_goto (pc := 60) (tgt := 70) C dX9_takesBell_60 (by decide) ?_
        refine g_lv [3, 4, 2, 1, 0] (lv2 := [(0, .ref (G.2.2 0)), (1, .int v1), (2, .int r9), (3, .int (σ.1 1 (5248 : Int32).toNatClampNeg)), (4, .int r49)]) rfl ?_
        exact k_X9_takesBell_70 C  h
    · replace h := ite_t h c_
      refine g_lv [] (lv2 := []) rfl ?_
      exact k_X9_takesBell_32 C  h
end MM

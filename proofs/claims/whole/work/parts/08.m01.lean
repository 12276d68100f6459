section MM
variable {p : Program} {l : Launch} {e : Env} {R : Room} {s : State} {m : MethodId} {args : Array Value} {below : List Frame} {meth : Method} {c : Code} {G : Gp}
set_option maxHeartbeats 4000000 in
set_option maxRecDepth 100000 in
theorem k_X8_commonDivisor_45 {v4 : Int64} {σ : St} {K : Int64 → Prop} (C : Cx p R s m args meth c shC G cX8_commonDivisor 11 1 RX8 (some .long) 0 0) (h : J_X8_commonDivisor_45 v4 K) : Go p l e R s m args below meth c shC G 11 0 0 (MQ below (Qw shC G (RJ (fun r t => t = σ ∧ K r))) args s 0 0 (Fr shC G)) 45 [(4, .long v4)] [] σ := by
  unfold J_X8_commonDivisor_45 at h
  refine g_lload (pc := 45) C 0 dX8_commonDivisor_45 rfl ?_
  exact g_lret (pc := 47) C dX8_commonDivisor_47 ⟨_, rfl, ⟨rfl, h⟩⟩
set_option maxHeartbeats 4000000 in
set_option maxRecDepth 100000 in
theorem k_X8_commonDivisor_9 {v4 : Int64} {v6 : Int64} {v8 : Int32} {σ : St} {K : Int64 → Prop} (C : Cx p R s m args meth c shC G cX8_commonDivisor 11 1 RX8 (some .long) 0 0) (h : L_X8_commonDivisor_9 K v4 v6 v8) : Go p l e R s m args below meth c shC G 11 0 0 (MQ below (Qw shC G (RJ (fun r t => t = σ ∧ K r))) args s 0 0 (Fr shC G)) 9 [(4, .long v4), (6, .long v6), (8, .int v8)] [] σ := by
  obtain ⟨n_, h⟩ := h
  induction n_ generalizing v4 v6 v8 with
  | zero => exact h.elim
  | succ n_ ih =>
    replace h : B_X8_commonDivisor_9 K (it3 (B_X8_commonDivisor_9 K) n_) v4 v6 v8 := h
    unfold B_X8_commonDivisor_9 at h
    refine g_iload (pc := 9) C 2 dX8_commonDivisor_9 rfl ?_
    refine g_sipush (pc := 11) (v := 200) C dX8_commonDivisor_11 sp_200 ?_
    refine g_icmp_ge (pc := 14) (tgt := 45) C dX8_commonDivisor_14 (by decide) (fun c_ => ?_) (fun c_ => ?_)
    · replace h := ite_t h c_
      refine g_lv [0] (lv2 := [(4, .long v4)]) rfl ?_
      exact k_X8_commonDivisor_45 C  h
    · replace h := ite_f h c_
      refine g_lload (pc := 17) C 1 dX8_commonDivisor_17 rfl ?_
      refine g_lconst (pc := 19) (v := 0) C dX8_commonDivisor_19 lc_0 ?_
      refine g_lcmp (pc := 20) C dX8_commonDivisor_20 ?_
      refine g_if_eq (pc := 21) (tgt := 45) C dX8_commonDivisor_21 (by decide) (fun c_ => ?_) (fun c_ => ?_)
      · replace h := ite_t h c_
        refine g_lv [0] (lv2 := [(4, .long v4)]) rfl ?_
        exact k_X8_commonDivisor_45 C  h
      · replace h := ite_f h c_
        refine g_lload (pc := 24) C 0 dX8_commonDivisor_24 rfl ?_
        refine g_lload (pc := 26) C 1 dX8_commonDivisor_26 rfl ?_
        obtain ⟨g_, h⟩ := h
        refine g_lrem (pc := 28) C dX8_commonDivisor_28 g_ ?_
        refine g_lstore (pc := 29) (lv2 := [(9, .long (lrm v4 v6)), (4, .long v4), (6, .long v6), (8, .int v8)]) C dX8_commonDivisor_29 (by decide) rfl ?_
        refine g_lload (pc := 31) C 2 dX8_commonDivisor_31 rfl ?_
        refine g_lstore (pc := 33) (lv2 := [(4, .long v6), (9, .long (lrm v4 v6)), (6, .long v6), (8, .int v8)]) C dX8_commonDivisor_33 (by decide) rfl ?_
        refine g_lload (pc := 35) C 1 dX8_commonDivisor_35 rfl ?_
        refine g_lstore (pc := 37) (lv2 := [(6, .long (lrm v4 v6)), (4, .long v6), (9, .long (lrm v4 v6)), (8, .int v8)]) C dX8_commonDivisor_37 (by decide) rfl ?_
        refine g_iinc (pc := 39) (lv2 := [(8, .int (v8 + 1)), (6, .long (lrm v4 v6)), (4, .long v6), (9, .long (lrm v4 v6))]) C 3 dX8_commonDivisor_39 ic_1 rfl (by decide) rfl ?_
        refine g_goto (pc := 42) (tgt := 9) C dX8_commonDivisor_42 (by decide) ?_
        refine g_lv [2, 1, 0] (lv2 := [(4, .long v6), (6, .long (lrm v4 v6)), (8, .int (v8 + 1))]) rfl ?_
        exact ih h
set_option maxHeartbeats 4000000 in
set_option maxRecDepth 100000 in
theorem M_X8_commonDivisor {l : Launch} {G : Gp} (hD : Dj shC G) {v0 : Int64} {v2 : Int64} {σ : St} {K : Int64 → Prop} (h : wp_X8_commonDivisor v0 v2 K) : MC l shC G yX8_commonDivisor cX8_commonDivisor 11 (some .long) 1 [.long v0, .long v2] σ (RJ (fun r t => t = σ ∧ K r)) := by
  unfold wp_X8_commonDivisor at h
  refine MC.of (by decide) hD (Nat.le_of_ble_eq_true rfl) ?_
  intro p e s m args below meth c C
  replace C : Cx p (rmD 1) s m args meth c shC G cX8_commonDivisor 11 1 RX8 (some .long) 0 0 := C
  show Go p l e (rmD 1) s m args below meth c shC G 11 0 0 (MQ below (Qw shC G (RJ (fun r t => t = σ ∧ K r))) args s 0 0 (Fr shC G)) 0 [(0, .long v0), (2, .long v2)] [] σ
  refine g_lload_n (pc := 0) C 0 dX8_commonDivisor_0 rfl rfl ?_
  refine g_lstore (pc := 1) (lv2 := [(4, .long v0), (0, .long v0), (2, .long v2)]) C dX8_commonDivisor_1 (by decide) rfl ?_
  refine g_lload_n (pc := 3) C 2 dX8_commonDivisor_3 rfl rfl ?_
  refine g_lstore (pc := 4) (lv2 := [(6, .long v2), (4, .long v0), (0, .long v0), (2, .long v2)]) C dX8_commonDivisor_4 (by decide) rfl ?_
  refine g_iconst (pc := 6) (v := 0) C dX8_commonDivisor_6 ic_0 ?_
  refine g_istore (pc := 7) (lv2 := [(8, .int 0), (6, .long v2), (4, .long v0), (0, .long v0), (2, .long v2)]) C dX8_commonDivisor_7 (by decide) rfl ?_
  refine g_lv [2, 1, 0] (lv2 := [(4, .long v0), (6, .long v2), (8, .int 0)]) rfl ?_
  exact k_X8_commonDivisor_9 C  h
set_option maxHeartbeats 4000000 in
set_option maxRecDepth 100000 in
theorem k_X6_spans_27 {w0 : Int32} {σ : St} {K : Int32 → Prop} (C : Cx p R s m args meth c shC G cX6_spans 3 1 RX6 (some .boolean) 0 0) (h : J_X6_spans_27 w0 σ K) : Go p l e R s m args below meth c shC G 3 0 0 (MQ below (Qw shC G (RI (fun r t => t = σ ∧ K r))) args s 0 0 (Fr shC G)) 27 [] [.int w0] σ := by
  unfold J_X6_spans_27 at h
  obtain ⟨g_, h⟩ := h
  exact g_zret (pc := 27) C g_ dX6_spans_27 ⟨_, rfl, ⟨rfl, h⟩⟩
set_option maxHeartbeats 4000000 in
set_option maxRecDepth 100000 in
theorem k_X6_spans_26 {σ : St} {K : Int32 → Prop} (C : Cx p R s m args meth c shC G cX6_spans 3 1 RX6 (some .boolean) 0 0) (h : J_X6_spans_26 σ K) : Go p l e R s m args below meth c shC G 3 0 0 (MQ below (Qw shC G (RI (fun r t => t = σ ∧ K r))) args s 0 0 (Fr shC G)) 26 [] [] σ := by
  unfold J_X6_spans_26 at h
  refine g_iconst (pc := 26) (v := 0) C dX6_spans_26 ic_0 ?_
  refine g_lv [] (lv2 := []) rfl ?_
  exact k_X6_spans_27 C  h
set_option maxHeartbeats 4000000 in
set_option maxRecDepth 100000 in
theorem M_X6_spans {l : Launch} {G : Gp} (hD : Dj shC G) {k0 : Nat} {n0 : Nat} {v1 : Int32} {v2 : Int32} {σ : St} {K : Int32 → Prop} (hk0 : shC[k0]? = some (6, n0, 0)) (h : wp_X6_spans k0 n0 v1 v2 σ K) : MC l shC G yX6_spans cX6_spans 3 (some .boolean) 1 [.ref (G.2.2 k0), .int v1, .int v2] σ (RI (fun r t => t = σ ∧ K r)) := by
  unfold wp_X6_spans at h
  refine MC.of (by decide) hD (Nat.le_of_ble_eq_true rfl) ?_
  intro p e s m args below meth c C
  replace C : Cx p (rmD 1) s m args meth c shC G cX6_spans 3 1 RX6 (some .boolean) 0 0 := C
  show Go p l e (rmD 1) s m args below meth c shC G 3 0 0 (MQ below (Qw shC G (RI (fun r t => t = σ ∧ K r))) args s 0 0 (Fr shC G)) 0 [(0, .ref (G.2.2 k0)), (1, .int v1), (2, .int v2)] [] σ
  refine g_iload_n (pc := 0) C 1 dX6_spans_0 rfl rfl ?_
  refine g_if_lt (pc := 1) (tgt := 26) C dX6_spans_1 (by decide) (fun c_ => ?_) (fun c_ => ?_)
  · replace h := ite_t h c_
    refine g_lv [] (lv2 := []) rfl ?_
    exact k_X6_spans_26 C  h
  · replace h := ite_f h c_
    refine g_iload_n (pc := 4) C 1 dX6_spans_4 rfl rfl ?_
    refine g_aload_n (pc := 5) C 0 dX6_spans_5 rfl rfl ?_
    refine get_X6_2 (pc := 6) C hk0 tw_184 dX6_spans_6 ?_
    refine g_icmp_gt (pc := 9) (tgt := 26) C dX6_spans_9 (by decide) (fun c_ => ?_) (fun c_ => ?_)
    · replace h := ite_t h c_
      refine g_lv [] (lv2 := []) rfl ?_
      exact k_X6_spans_26 C  h
    · replace h := ite_f h c_
      refine g_iload_n (pc := 12) C 2 dX6_spans_12 rfl rfl ?_
      refine g_aload_n (pc := 13) C 0 dX6_spans_13 rfl rfl ?_
      refine get_X6_2 (pc := 14) C hk0 tw_184 dX6_spans_14 ?_
      refine g_iload_n (pc := 17) C 1 dX6_spans_17 rfl rfl ?_
      refine g_isub (pc := 18) C dX6_spans_18 ?_
      refine g_icmp_gt (pc := 19) (tgt := 26) C dX6_spans_19 (by decide) (fun c_ => ?_) (fun c_ => ?_)
      · replace h := ite_t h c_
        refine g_lv [] (lv2 := []) rfl ?_
        exact k_X6_spans_26 C  h
      · replace h := ite_f h c_
        refine g_iconst (pc := 22) (v := 1) C dX6_spans_22 ic_1 ?_
        refine g_goto (pc := 23) (tgt := 27) C dX6_spans_23 (by decide) ?_
        refine g_lv [] (lv2 := []) rfl ?_
        exact k_X6_spans_27 C  h
set_option maxHeartbeats 4000000 in
set_option maxRecDepth 100000 in
theorem k_X8_copy_14 {σ : St} {K : Int32 → St → Prop} (C : Cx p R s m args meth c shC G cX8_copy 8 2 RX8 (some .int) 0 0) (h : J_X8_copy_14 σ K) : Go p l e R s m args below meth c shC G 8 0 0 (MQ below (Qw shC G (RI K)) args s 0 0 (Fr shC G)) 14 [] [] σ := by
  unfold J_X8_copy_14 at h
  refine g_iconst (pc := 14) (v := -1) C dX8_copy_14 ic_m1 ?_
  exact g_iret (pc := 15) C dX8_copy_15 ⟨_, rfl, h⟩
set_option maxHeartbeats 4000000 in
set_option maxRecDepth 100000 in
theorem k_X8_copy_59 {σ : St} {K : Int32 → St → Prop} (C : Cx p R s m args meth c shC G cX8_copy 8 2 RX8 (some .int) 0 0) (h : J_X8_copy_59 σ K) : Go p l e R s m args below meth c shC G 8 0 0 (MQ below (Qw shC G (RI K)) args s 0 0 (Fr shC G)) 59 [(0, .ref (G.2.2 0))] [] σ := by
  unfold J_X8_copy_59 at h
  refine g_aload_n (pc := 59) C 0 dX8_copy_59 rfl rfl ?_
  refine g_iconst (pc := 60) (v := 1) C dX8_copy_60 ic_1 ?_
  refine g_callVi (pc := 61) (As := [.int 1]) (rest := []) C rfl rfl rfl rfl (M_X8_find C.2.2.1  h) CyX8_find tw_251 tw_253 ts_1 (by decide) rfl rfl (Nat.le_of_ble_eq_true rfl) dX8_copy_61 (fun r61 t61 h => ?_)
  exact g_iret (pc := 64) C dX8_copy_64 ⟨_, rfl, h⟩
set_option maxHeartbeats 4000000 in
set_option maxRecDepth 100000 in
theorem k_X8_copy_88 {σ : St} {K : Int32 → St → Prop} (C : Cx p R s m args meth c shC G cX8_copy 8 2 RX8 (some .int) 0 0) (h : J_X8_copy_88 σ K) : Go p l e R s m args below meth c shC G 8 0 0 (MQ below (Qw shC G (RI K)) args s 0 0 (Fr shC G)) 88 [(0, .ref (G.2.2 0))] [] σ := by
  unfold J_X8_copy_88 at h
  refine g_aload_n (pc := 88) C 0 dX8_copy_88 rfl rfl ?_
  refine g_iconst (pc := 89) (v := 2) C dX8_copy_89 ic_2 ?_
  refine g_callVi (pc := 90) (As := [.int 2]) (rest := []) C rfl rfl rfl rfl (M_X8_find C.2.2.1  h) CyX8_find tw_251 tw_253 ts_1 (by decide) rfl rfl (Nat.le_of_ble_eq_true rfl) dX8_copy_90 (fun r90 t90 h => ?_)
  exact g_iret (pc := 93) C dX8_copy_93 ⟨_, rfl, h⟩
set_option maxHeartbeats 4000000 in
set_option maxRecDepth 100000 in
theorem M_X8_copy {l : Launch} {G : Gp} (hD : Dj shC G) {v1 : Int32} {v2 : Int32} {v3 : Int32} {v4 : Int32} {v5 : Int32} {σ : St} {K : Int32 → St → Prop} (h : wp_X8_copy v1 v2 v3 v4 v5 σ K) : MC l shC G yX8_copy cX8_copy 8 (some .int) 2 [.ref (G.2.2 0), .int v1, .int v2, .int v3, .int v4, .int v5] σ (RI K) := by
  unfold wp_X8_copy at h
  refine MC.of (by decide) hD (Nat.le_of_ble_eq_true rfl) ?_
  intro p e s m args below meth c C
  replace C : Cx p (rmD 2) s m args meth c shC G cX8_copy 8 2 RX8 (some .int) 0 0 := C
  show Go p l e (rmD 2) s m args below meth c shC G 8 0 0 (MQ below (Qw shC G (RI K)) args s 0 0 (Fr shC G)) 0 [(0, .ref (G.2.2 0)), (1, .int v1), (2, .int v2), (3, .int v3), (4, .int v4), (5, .int v5)] [] σ
  refine g_iload_n (pc := 0) C 1 dX8_copy_0 rfl rfl ?_
  refine g_callSip (pc := 1) (As := [.int v1]) (rest := []) C (M_X8_isRow C.2.2.1  h) CyX8_isRow tw_244 tw_245 (by decide) rfl rfl (Nat.le_of_ble_eq_true rfl) dX8_copy_1 (fun r1 h => ?_)
  refine g_if_eq (pc := 4) (tgt := 14) C dX8_copy_4 (by decide) (fun c_ => ?_) (fun c_ => ?_)
  · replace h := ite_t h c_
    refine g_lv [] (lv2 := []) rfl ?_
    exact k_X8_copy_14 C  h
  · replace h := ite_f h c_
    refine g_iload_n (pc := 7) C 3 dX8_copy_7 rfl rfl ?_
    refine g_callSip (pc := 8) (As := [.int v3]) (rest := []) C (M_X8_isRow C.2.2.1  h) CyX8_isRow tw_244 tw_245 (by decide) rfl rfl (Nat.le_of_ble_eq_true rfl) dX8_copy_8 (fun r8 h => ?_)
    refine g_if_ne (pc := 11) (tgt := 16) C dX8_copy_11 (by decide) (fun c_ => ?_) (fun c_ => ?_)
    · replace h := ite_f h c_
      refine g_iload (pc := 16) C 5 dX8_copy_16 rfl ?_
      refine g_if_ge (pc := 18) (tgt := 27) C dX8_copy_18 (by decide) (fun c_ => ?_) (fun c_ => ?_)
      · replace h := ite_t h c_
        refine g_aload_n (pc := 27) C 0 dX8_copy_27 rfl rfl ?_
        refine get_X8_0 (pc := 28) C rfl tw_194 dX8_copy_28 ?_
        refine g_iload_n (pc := 31) C 1 dX8_copy_31 rfl rfl ?_
        obtain ⟨g_, h⟩ := h
        have hs32_ : shC[(5 + 2 * v1.toNatClampNeg)]? = some (6, 40, 0) := shR5 g_
        refine g_aldR (pc := 32) C rfl g_ dX8_copy_32 ?_
        refine g_astore (pc := 33) (lv2 := [(6, .ref (G.2.2 (5 + 2 * v1.toNatClampNeg))), (0, .ref (G.2.2 0)), (1, .int v1), (2, .int v2), (3, .int v3), (4, .int v4), (5, .int v5)]) C dX8_copy_33 (by decide) rfl ?_
        refine g_aload_n (pc := 35) C 1 dX8_copy_35 rfl rfl ?_
        refine get_X8_0 (pc := 36) C rfl tw_194 dX8_copy_36 ?_
        refine g_iload_n (pc := 39) C 4 dX8_copy_39 rfl rfl ?_
        obtain ⟨g_, h⟩ := h
        have hs40_ : shC[(5 + 2 * v3.toNatClampNeg)]? = some (6, 40, 0) := shR5 g_
        refine g_aldR (pc := 40) C rfl g_ dX8_copy_40 ?_
        refine g_astore (pc := 41) (lv2 := [(7, .ref (G.2.2 (5 + 2 * v3.toNatClampNeg))), (6, .ref (G.2.2 (5 + 2 * v1.toNatClampNeg))), (0, .ref (G.2.2 0)), (1, .int v1), (2, .int v2), (3, .int v3), (4, .int v4), (5, .int v5)]) C dX8_copy_41 (by decide) rfl ?_
        refine g_aload (pc := 43) C 1 dX8_copy_43 rfl ?_
        refine get_X6_1 (pc := 45) C hs32_ tw_183 dX8_copy_45 ?_
        refine g_if_eq (pc := 48) (tgt := 59) C dX8_copy_48 (by decide) (fun c_ => ?_) (fun c_ => ?_)
        · replace h := ite_t h c_
          refine g_lv [2] (lv2 := [(0, .ref (G.2.2 0))]) rfl ?_
          exact k_X8_copy_59 C  h
        · replace h := ite_f h c_
          refine g_aload (pc := 51) C 0 dX8_copy_51 rfl ?_
          refine get_X6_1 (pc := 53) C hs40_ tw_183 dX8_copy_53 ?_
          refine g_if_ne (pc := 56) (tgt := 65) C dX8_copy_56 (by decide) (fun c_ => ?_) (fun c_ => ?_)
          · replace h := ite_f h c_
            refine g_aload (pc := 65) C 1 dX8_copy_65 rfl ?_
            refine g_iload_n (pc := 67) C 4 dX8_copy_67 rfl rfl ?_
            refine g_iload (pc := 68) C 7 dX8_copy_68 rfl ?_
            refine g_callVip (pc := 70) (As := [.int v2, .int v5]) (rest := []) C hs32_ rfl rfl rfl (M_X6_spans C.2.2.1 hs32_ h) CyX6_spans tw_292 tw_293 tw_294 (by decide) rfl rfl (Nat.le_of_ble_eq_true rfl) dX8_copy_70 (fun r70 h => ?_)
            refine g_if_eq (pc := 73) (tgt := 88) C dX8_copy_73 (by decide) (fun c_ => ?_) (fun c_ => ?_)
            · replace h := ite_t h c_
              refine g_lv [2] (lv2 := [(0, .ref (G.2.2 0))]) rfl ?_
              exact k_X8_copy_88 C  h
            · replace h := ite_f h c_
              refine g_aload (pc := 76) C 0 dX8_copy_76 rfl ?_
              refine g_iload (pc := 78) C 6 dX8_copy_78 rfl ?_
              refine g_iload (pc := 80) C 7 dX8_copy_80 rfl ?_
              refine g_callVip (pc := 82) (As := [.int v4, .int v5]) (rest := []) C hs40_ rfl rfl rfl (M_X6_spans C.2.2.1 hs40_ h) CyX6_spans tw_292 tw_293 tw_294 (by decide) rfl rfl (Nat.le_of_ble_eq_true rfl) dX8_copy_82 (fun r82 h => ?_)
              refine g_if_ne (pc := 85) (tgt := 94) C dX8_copy_85 (by decide) (fun c_ => ?_) (fun c_ => ?_)
              · replace h := ite_f h c_
                refine g_aload (pc := 94) C 1 dX8_copy_94 rfl ?_
                refine get_X6_0 (pc := 96) C hs32_ tw_180 dX8_copy_96 ?_
                refine g_iload_n (pc := 99) C 4 dX8_copy_99 rfl rfl ?_
                refine g_aload (pc := 100) C 0 dX8_copy_100 rfl ?_
                refine get_X6_0 (pc := 102) C hs40_ tw_180 dX8_copy_102 ?_
                refine g_iload (pc := 105) C 6 dX8_copy_105 rfl ?_
                refine g_iload (pc := 107) C 7 dX8_copy_107 rfl ?_
                obtain ⟨g1_, g2_, g3_, g4_, g5_, h⟩ := h
                refine g_copyi (pc := 109) C (sh6_0 hs32_) (sh6_0 hs40_) g1_ g2_ g3_ g4_ g5_ dX8_copy_109 tw_296 tw_298 tw_297 tw_13 (by decide) (Nat.le_of_ble_eq_true rfl) ?_
                refine g_iconst (pc := 112) (v := 1) C dX8_copy_112 ic_1 ?_
                exact g_iret (pc := 113) C dX8_copy_113 ⟨_, rfl, h⟩
              · replace h := ite_t h c_
                refine g_lv [2] (lv2 := [(0, .ref (G.2.2 0))]) rfl ?_
                exact k_X8_copy_88 C  h
          · replace h := ite_t h c_
            refine g_lv [2] (lv2 := [(0, .ref (G.2.2 0))]) rfl ?_
            exact k_X8_copy_59 C  h
      · replace h := ite_f h c_
        refine g_aload_n (pc := 21) C 0 dX8_copy_21 rfl rfl ?_
        refine g_iconst (pc := 22) (v := 5) C dX8_copy_22 ic_5 ?_
        refine g_callVi (pc := 23) (As := [.int 5]) (rest := []) C rfl rfl rfl rfl (M_X8_find C.2.2.1  h) CyX8_find tw_251 tw_253 ts_1 (by decide) rfl rfl (Nat.le_of_ble_eq_true rfl) dX8_copy_23 (fun r23 t23 h => ?_)
        exact g_iret (pc := 26) C dX8_copy_26 ⟨_, rfl, h⟩
    · replace h := ite_t h c_
      refine g_lv [] (lv2 := []) rfl ?_
      exact k_X8_copy_14 C  h
set_option maxHeartbeats 4000000 in
set_option maxRecDepth 100000 in
theorem k_X8_keptTowers_24 {v1 : Int32} {v2 : Int32} {σ : St} {K : Int32 → Prop} {Φ4 : Int32 → Int32 → Prop} (C : Cx p R s m args meth c shC G cX8_keptTowers 3 1 RX8 (some .int) 0 0) (hΦ4 : ∀ (v1' : Int32) (v2' : Int32), Φ4 v1' v2' → Go p l e R s m args below meth c shC G 3 0 0 (MQ below (Qw shC G (RI (fun r t => t = σ ∧ K r))) args s 0 0 (Fr shC G)) 4 [(0, .ref (G.2.2 0)), (1, .int (v1')), (2, .int (v2'))] [] σ) (h : J_X8_keptTowers_24 v1 v2 σ K Φ4) : Go p l e R s m args below meth c shC G 3 0 0 (MQ below (Qw shC G (RI (fun r t => t = σ ∧ K r))) args s 0 0 (Fr shC G)) 24 [(0, .ref (G.2.2 0)), (1, .int v1), (2, .int v2)] [] σ := by
  unfold J_X8_keptTowers_24 at h
  refine g_iinc (pc := 24) (lv2 := [(2, .int (v2 + 1)), (0, .ref (G.2.2 0)), (1, .int v1)]) C 2 dX8_keptTowers_24 ic_1 rfl (by decide) rfl ?_
  refine g_goto (pc := 27) (tgt := 4) C dX8_keptTowers_27 (by decide) ?_
  refine g_lv [1, 2, 0] (lv2 := [(0, .ref (G.2.2 0)), (1, .int v1), (2, .int (v2 + 1))]) rfl ?_
  exact hΦ4 _ _ h
set_option maxHeartbeats 4000000 in
set_option maxRecDepth 100000 in
theorem k_X8_keptTowers_4 {v1 : Int32} {v2 : Int32} {σ : St} {K : Int32 → Prop} (C : Cx p R s m args meth c shC G cX8_keptTowers 3 1 RX8 (some .int) 0 0) (h : L_X8_keptTowers_4 σ K v1 v2) : Go p l e R s m args below meth c shC G 3 0 0 (MQ below (Qw shC G (RI (fun r t => t = σ ∧ K r))) args s 0 0 (Fr shC G)) 4 [(0, .ref (G.2.2 0)), (1, .int v1), (2, .int v2)] [] σ := by
  obtain ⟨n_, h⟩ := h
  induction n_ generalizing v1 v2 with
  | zero => exact h.elim
  | succ n_ ih =>
    replace h : B_X8_keptTowers_4 σ K (it2 (B_X8_keptTowers_4 σ K) n_) v1 v2 := h
    unfold B_X8_keptTowers_4 at h
    refine g_iload_n (pc := 4) C 2 dX8_keptTowers_4 rfl rfl ?_
    refine g_iconst (pc := 5) (v := 3) C dX8_keptTowers_5 ic_3 ?_
    refine g_icmp_ge (pc := 6) (tgt := 30) C dX8_keptTowers_6 (by decide) (fun c_ => ?_) (fun c_ => ?_)
    · replace h := ite_t h c_
      refine g_iload_n (pc := 30) C 1 dX8_keptTowers_30 rfl rfl ?_
      exact g_iret (pc := 31) C dX8_keptTowers_31 ⟨_, rfl, ⟨rfl, h⟩⟩
    · replace h := ite_f h c_
      refine g_aload_n (pc := 9) C 0 dX8_keptTowers_9 rfl rfl ?_
      refine get_X8_2 (pc := 10) C rfl tw_196 dX8_keptTowers_10 ?_
      refine g_iload_n (pc := 13) C 2 dX8_keptTowers_13 rfl rfl ?_
      obtain ⟨g_, h⟩ := h
      have hs14_ : shC[(43 + 9 * v2.toNatClampNeg)]? = some (7, 0, 0) := shT g_
      refine g_aldT (pc := 14) C rfl g_ dX8_keptTowers_14 ?_
      refine get_X7_2 (pc := 15) C hs14_ tw_76 dX8_keptTowers_15 ?_
      refine g_if_le (pc := 18) (tgt := 24) C dX8_keptTowers_18 (by decide) (fun c_ => ?_) (fun c_ => ?_)
      · replace h := ite_t h c_
        refine g_lv [0, 1, 2] (lv2 := [(0, .ref (G.2.2 0)), (1, .int v1), (2, .int v2)]) rfl ?_
        exact k_X8_keptTowers_24 C (fun _ _ h_ => ih h_) h
      · replace h := ite_f h c_
        refine g_iinc (pc := 21) (lv2 := [(1, .int (v1 + 1)), (0, .ref (G.2.2 0)), (2, .int v2)]) C 1 dX8_keptTowers_21 ic_1 rfl (by decide) rfl ?_
        refine g_lv [1, 0, 2] (lv2 := [(0, .ref (G.2.2 0)), (1, .int (v1 + 1)), (2, .int v2)]) rfl ?_
        exact k_X8_keptTowers_24 C (fun _ _ h_ => ih h_) h
set_option maxHeartbeats 4000000 in
set_option maxRecDepth 100000 in
theorem M_X8_keptTowers {l : Launch} {G : Gp} (hD : Dj shC G) {σ : St} {K : Int32 → Prop} (h : wp_X8_keptTowers σ K) : MC l shC G yX8_keptTowers cX8_keptTowers 3 (some .int) 1 [.ref (G.2.2 0)] σ (RI (fun r t => t = σ ∧ K r)) := by
  unfold wp_X8_keptTowers at h
  refine MC.of (by decide) hD (Nat.le_of_ble_eq_true rfl) ?_
  intro p e s m args below meth c C
  replace C : Cx p (rmD 1) s m args meth c shC G cX8_keptTowers 3 1 RX8 (some .int) 0 0 := C
  show Go p l e (rmD 1) s m args below meth c shC G 3 0 0 (MQ below (Qw shC G (RI (fun r t => t = σ ∧ K r))) args s 0 0 (Fr shC G)) 0 [(0, .ref (G.2.2 0))] [] σ
  refine g_iconst (pc := 0) (v := 0) C dX8_keptTowers_0 ic_0 ?_
  refine g_istore_n (pc := 1) (lv2 := [(1, .int 0), (0, .ref (G.2.2 0))]) C dX8_keptTowers_1 rfl (by decide) rfl ?_
  refine g_iconst (pc := 2) (v := 0) C dX8_keptTowers_2 ic_0 ?_
  refine g_istore_n (pc := 3) (lv2 := [(2, .int 0), (1, .int 0), (0, .ref (G.2.2 0))]) C dX8_keptTowers_3 rfl (by decide) rfl ?_
  refine g_lv [2, 1, 0] (lv2 := [(0, .ref (G.2.2 0)), (1, .int 0), (2, .int 0)]) rfl ?_
  exact k_X8_keptTowers_4 C  h
set_option maxHeartbeats 4000000 in
set_option maxRecDepth 100000 in
theorem k_X8_thereOf_28 {k0 : Nat} {n0 : Nat} {b0 : Nat} {v1 : Int32} {v2 : Int32} {σ : St} {K : Int32 → Prop} {Φ4 : Int32 → Int32 → Prop} (C : Cx p R s m args meth c shC G cX8_thereOf 3 1 RX8 (some .int) 0 0) (hk0 : shC[k0]? = some (13, n0, b0)) (hΦ4 : ∀ (v1' : Int32) (v2' : Int32), Φ4 v1' v2' → Go p l e R s m args below meth c shC G 3 0 0 (MQ below (Qw shC G (RI (fun r t => t = σ ∧ K r))) args s 0 0 (Fr shC G)) 4 [(0, .ref (G.2.2 k0)), (1, .int (v1')), (2, .int (v2'))] [] σ) (h : J_X8_thereOf_28 k0 n0 b0 v1 v2 σ K Φ4) : Go p l e R s m args below meth c shC G 3 0 0 (MQ below (Qw shC G (RI (fun r t => t = σ ∧ K r))) args s 0 0 (Fr shC G)) 28 [(0, .ref (G.2.2 k0)), (1, .int v1), (2, .int v2)] [] σ := by
  unfold J_X8_thereOf_28 at h
  refine g_iinc (pc := 28) (lv2 := [(2, .int (v2 + 1)), (0, .ref (G.2.2 k0)), (1, .int v1)]) C 2 dX8_thereOf_28 ic_1 rfl (by decide) rfl ?_
  refine g_goto (pc := 31) (tgt := 4) C dX8_thereOf_31 (by decide) ?_
  refine g_lv [1, 2, 0] (lv2 := [(0, .ref (G.2.2 k0)), (1, .int v1), (2, .int (v2 + 1))]) rfl ?_
  exact hΦ4 _ _ h
set_option maxHeartbeats 4000000 in
set_option maxRecDepth 100000 in
theorem k_X8_thereOf_4 {k0 : Nat} {n0 : Nat} {b0 : Nat} {v1 : Int32} {v2 : Int32} {σ : St} {K : Int32 → Prop} (C : Cx p R s m args meth c shC G cX8_thereOf 3 1 RX8 (some .int) 0 0) (hk0 : shC[k0]? = some (13, n0, b0)) (h : L_X8_thereOf_4 k0 n0 b0 σ K v1 v2) : Go p l e R s m args below meth c shC G 3 0 0 (MQ below (Qw shC G (RI (fun r t => t = σ ∧ K r))) args s 0 0 (Fr shC G)) 4 [(0, .ref (G.2.2 k0)), (1, .int v1), (2, .int v2)] [] σ := by
  obtain ⟨n_, h⟩ := h
  induction n_ generalizing v1 v2 with
  | zero => exact h.elim
  | succ n_ ih =>
    replace h : B_X8_thereOf_4 k0 n0 b0 σ K (it2 (B_X8_thereOf_4 k0 n0 b0 σ K) n_) v1 v2 := h
    unfold B_X8_thereOf_4 at h
    refine g_iload_n (pc := 4) C 2 dX8_thereOf_4 rfl rfl ?_
    refine g_aload_n (pc := 5) C 0 dX8_thereOf_5 rfl rfl ?_
    refine g_alen13 (pc := 6) C hk0 dX8_thereOf_6 ?_
    refine g_icmp_ge (pc := 7) (tgt := 34) C dX8_thereOf_7 (by decide) (fun c_ => ?_) (fun c_ => ?_)
    · replace h := ite_t h c_
      refine g_iload_n (pc := 34) C 1 dX8_thereOf_34 rfl rfl ?_
      exact g_iret (pc := 35) C dX8_thereOf_35 ⟨_, rfl, ⟨rfl, h⟩⟩
    · replace h := ite_f h c_
      refine g_aload_n (pc := 10) C 0 dX8_thereOf_10 rfl rfl ?_
      refine g_iload_n (pc := 11) C 2 dX8_thereOf_11 rfl rfl ?_
      obtain ⟨g_, h⟩ := h
      have hs12_ : shC[(b0 + 2 * v2.toNatClampNeg)]? = some (6, (elen b0), 0) := shRx hk0 g_
      refine g_aldR (pc := 12) C hk0 g_ dX8_thereOf_12 ?_
      refine g_ifnull (pc := 13) C dX8_thereOf_13 ?_
      refine g_aload_n (pc := 16) C 0 dX8_thereOf_16 rfl rfl ?_
      refine g_iload_n (pc := 17) C 2 dX8_thereOf_17 rfl rfl ?_
      obtain ⟨g_, h⟩ := h
      have hs18_ : shC[(b0 + 2 * v2.toNatClampNeg)]? = some (6, (elen b0), 0) := shRx hk0 g_
      refine g_aldR (pc := 18) C hk0 g_ dX8_thereOf_18 ?_
      refine get_X6_1 (pc := 19) C hs18_ tw_183 dX8_thereOf_19 ?_
      refine g_if_eq (pc := 22) (tgt := 28) C dX8_thereOf_22 (by decide) (fun c_ => ?_) (fun c_ => ?_)
      · replace h := ite_t h c_
        refine g_lv [0, 1, 2] (lv2 := [(0, .ref (G.2.2 k0)), (1, .int v1), (2, .int v2)]) rfl ?_
        exact k_X8_thereOf_28 C hk0 (fun _ _ h_ => ih h_) h
      · replace h := ite_f h c_
        refine g_iinc (pc := 25) (lv2 := [(1, .int (v1 + 1)), (0, .ref (G.2.2 k0)), (2, .int v2)]) C 1 dX8_thereOf_25 ic_1 rfl (by decide) rfl ?_
        refine g_lv [1, 0, 2] (lv2 := [(0, .ref (G.2.2 k0)), (1, .int (v1 + 1)), (2, .int v2)]) rfl ?_
        exact k_X8_thereOf_28 C hk0 (fun _ _ h_ => ih h_) h
set_option maxHeartbeats 4000000 in
set_option maxRecDepth 100000 in
theorem M_X8_thereOf {l : Launch} {G : Gp} (hD : Dj shC G) {k0 : Nat} {n0 : Nat} {b0 : Nat} {σ : St} {K : Int32 → Prop} (hk0 : shC[k0]? = some (13, n0, b0)) (h : wp_X8_thereOf k0 n0 b0 σ K) : MC l shC G yX8_thereOf cX8_thereOf 3 (some .int) 1 [.ref (G.2.2 k0)] σ (RI (fun r t => t = σ ∧ K r)) := by
  unfold wp_X8_thereOf at h
  refine MC.of (by decide) hD (Nat.le_of_ble_eq_true rfl) ?_
  intro p e s m args below meth c C
  replace C : Cx p (rmD 1) s m args meth c shC G cX8_thereOf 3 1 RX8 (some .int) 0 0 := C
  show Go p l e (rmD 1) s m args below meth c shC G 3 0 0 (MQ below (Qw shC G (RI (fun r t => t = σ ∧ K r))) args s 0 0 (Fr shC G)) 0 [(0, .ref (G.2.2 k0))] [] σ
  refine g_iconst (pc := 0) (v := 0) C dX8_thereOf_0 ic_0 ?_
  refine g_istore_n (pc := 1) (lv2 := [(1, .int 0), (0, .ref (G.2.2 k0))]) C dX8_thereOf_1 rfl (by decide) rfl ?_
  refine g_iconst (pc := 2) (v := 0) C dX8_thereOf_2 ic_0 ?_
  refine g_istore_n (pc := 3) (lv2 := [(2, .int 0), (1, .int 0), (0, .ref (G.2.2 k0))]) C dX8_thereOf_3 rfl (by decide) rfl ?_
  refine g_lv [2, 1, 0] (lv2 := [(0, .ref (G.2.2 k0)), (1, .int 0), (2, .int 0)]) rfl ?_
  exact k_X8_thereOf_4 C hk0 h
set_option maxHeartbeats 4000000 in
set_option maxRecDepth 100000 in
theorem k_X7_heavyOnes_31 {k0 : Nat} {v1 : Int32} {v2 : Int32} {σ : St} {K : Int32 → Prop} {Φ4 : Int32 → Int32 → Prop} (C : Cx p R s m args meth c shC G cX7_heavyOnes 3 2 RX7 (some .int) 0 0) (hk0 : shC[k0]? = some (7, 0, 0)) (hΦ4 : ∀ (v1' : Int32) (v2' : Int32), Φ4 v1' v2' → Go p l e R s m args below meth c shC G 3 0 0 (MQ below (Qw shC G (RI (fun r t => t = σ ∧ K r))) args s 0 0 (Fr shC G)) 4 [(0, .ref (G.2.2 k0)), (1, .int (v1')), (2, .int (v2'))] [] σ) (h : J_X7_heavyOnes_31 k0 v1 v2 σ K Φ4) : Go p l e R s m args below meth c shC G 3 0 0 (MQ below (Qw shC G (RI (fun r t => t = σ ∧ K r))) args s 0 0 (Fr shC G)) 31 [(0, .ref (G.2.2 k0)), (1, .int v1), (2, .int v2)] [] σ := by
  unfold J_X7_heavyOnes_31 at h
  refine g_iinc (pc := 31) (lv2 := [(2, .int (v2 + 1)), (0, .ref (G.2.2 k0)), (1, .int v1)]) C 2 dX7_heavyOnes_31 ic_1 rfl (by decide) rfl ?_
  refine g_goto (pc := 34) (tgt := 4) C dX7_heavyOnes_34 (by decide) ?_
  refine g_lv [1, 2, 0] (lv2 := [(0, .ref (G.2.2 k0)), (1, .int v1), (2, .int (v2 + 1))]) rfl ?_
  exact hΦ4 _ _ h
set_option maxHeartbeats 4000000 in
set_option maxRecDepth 100000 in
theorem k_X7_heavyOnes_4 {k0 : Nat} {v1 : Int32} {v2 : Int32} {σ : St} {K : Int32 → Prop} (C : Cx p R s m args meth c shC G cX7_heavyOnes 3 2 RX7 (some .int) 0 0) (hk0 : shC[k0]? = some (7, 0, 0)) (h : L_X7_heavyOnes_4 k0 σ K v1 v2) : Go p l e R s m args below meth c shC G 3 0 0 (MQ below (Qw shC G (RI (fun r t => t = σ ∧ K r))) args s 0 0 (Fr shC G)) 4 [(0, .ref (G.2.2 k0)), (1, .int v1), (2, .int v2)] [] σ := by
  obtain ⟨n_, h⟩ := h
  induction n_ generalizing v1 v2 with
  | zero => exact h.elim
  | succ n_ ih =>
    replace h : B_X7_heavyOnes_4 k0 σ K (it2 (B_X7_heavyOnes_4 k0 σ K) n_) v1 v2 := h
    unfold B_X7_heavyOnes_4 at h
    refine g_iload_n (pc := 4) C 2 dX7_heavyOnes_4 rfl rfl ?_
    refine g_aload_n (pc := 5) C 0 dX7_heavyOnes_5 rfl rfl ?_
    refine get_X7_2 (pc := 6) C hk0 tw_75 dX7_heavyOnes_6 ?_
    refine g_icmp_ge (pc := 9) (tgt := 37) C dX7_heavyOnes_9 (by decide) (fun c_ => ?_) (fun c_ => ?_)
    · replace h := ite_t h c_
      refine g_iload_n (pc := 37) C 1 dX7_heavyOnes_37 rfl rfl ?_
      exact g_iret (pc := 38) C dX7_heavyOnes_38 ⟨_, rfl, ⟨rfl, h⟩⟩
    · replace h := ite_f h c_
      refine g_aload_n (pc := 12) C 0 dX7_heavyOnes_12 rfl rfl ?_
      refine get_X7_0 (pc := 13) C hk0 tw_70 dX7_heavyOnes_13 ?_
      refine g_iload_n (pc := 16) C 2 dX7_heavyOnes_16 rfl rfl ?_
      obtain ⟨g_, h⟩ := h
      have hs17_ : shC[((k0 + 3) + v2.toNatClampNeg)]? = some (0, 0, 0) := sh7_e (k := k0) hk0 g_
      refine g_aldB (pc := 17) C (sh7_0 hk0) g_ dX7_heavyOnes_17 ?_
      refine get_X0_0 (pc := 18) C hs17_ tw_41 dX7_heavyOnes_18 ?_
      refine g_iconst (pc := 21) (v := 1) C dX7_heavyOnes_21 ic_1 ?_
      refine g_callSNip (pc := 22) (As := [.int (σ.1 ((k0 + 3) + v2.toNatClampNeg) 0), .int 1]) (rest := []) C (M_X8_isOf C.2.2.1  h) CyX8_isOf (List.mem_of_getElem? (i := 12) rfl) tw_394 (by decide) rfl rfl (Nat.le_of_ble_eq_true rfl) dX7_heavyOnes_22 (fun r22 h => ?_)
      refine g_if_eq (pc := 25) (tgt := 31) C dX7_heavyOnes_25 (by decide) (fun c_ => ?_) (fun c_ => ?_)
      · replace h := ite_t h c_
        refine g_lv [0, 1, 2] (lv2 := [(0, .ref (G.2.2 k0)), (1, .int v1), (2, .int v2)]) rfl ?_
        exact k_X7_heavyOnes_31 C hk0 (fun _ _ h_ => ih h_) h
      · replace h := ite_f h c_
        refine g_iinc (pc := 28) (lv2 := [(1, .int (v1 + 1)), (0, .ref (G.2.2 k0)), (2, .int v2)]) C 1 dX7_heavyOnes_28 ic_1 rfl (by decide) rfl ?_
        refine g_lv [1, 0, 2] (lv2 := [(0, .ref (G.2.2 k0)), (1, .int (v1 + 1)), (2, .int v2)]) rfl ?_
        exact k_X7_heavyOnes_31 C hk0 (fun _ _ h_ => ih h_) h
set_option maxHeartbeats 4000000 in
set_option maxRecDepth 100000 in
theorem M_X7_heavyOnes {l : Launch} {G : Gp} (hD : Dj shC G) {k0 : Nat} {σ : St} {K : Int32 → Prop} (hk0 : shC[k0]? = some (7, 0, 0)) (h : wp_X7_heavyOnes k0 σ K) : MC l shC G yX7_heavyOnes cX7_heavyOnes 3 (some .int) 2 [.ref (G.2.2 k0)] σ (RI (fun r t => t = σ ∧ K r)) := by
  unfold wp_X7_heavyOnes at h
  refine MC.of (by decide) hD (Nat.le_of_ble_eq_true rfl) ?_
  intro p e s m args below meth c C
  replace C : Cx p (rmD 2) s m args meth c shC G cX7_heavyOnes 3 2 RX7 (some .int) 0 0 := C
  show Go p l e (rmD 2) s m args below meth c shC G 3 0 0 (MQ below (Qw shC G (RI (fun r t => t = σ ∧ K r))) args s 0 0 (Fr shC G)) 0 [(0, .ref (G.2.2 k0))] [] σ
  refine g_iconst (pc := 0) (v := 0) C dX7_heavyOnes_0 ic_0 ?_
  refine g_istore_n (pc := 1) (lv2 := [(1, .int 0), (0, .ref (G.2.2 k0))]) C dX7_heavyOnes_1 rfl (by decide) rfl ?_
  refine g_iconst (pc := 2) (v := 0) C dX7_heavyOnes_2 ic_0 ?_
  refine g_istore_n (pc := 3) (lv2 := [(2, .int 0), (1, .int 0), (0, .ref (G.2.2 k0))]) C dX7_heavyOnes_3 rfl (by decide) rfl ?_
  refine g_lv [2, 1, 0] (lv2 := [(0, .ref (G.2.2 k0)), (1, .int 0), (2, .int 0)]) rfl ?_
  exact k_X7_heavyOnes_4 C hk0 h
set_option maxHeartbeats 4000000 in
set_option maxRecDepth 100000 in
theorem k_X7_standing_4 {k0 : Nat} {v1 : Int32} {v2 : Int32} {σ : St} {K : Int32 → Prop} (C : Cx p R s m args meth c shC G cX7_standing 3 2 RX7 (some .int) 0 0) (hk0 : shC[k0]? = some (7, 0, 0)) (h : L_X7_standing_4 k0 σ K v1 v2) : Go p l e R s m args below meth c shC G 3 0 0 (MQ below (Qw shC G (RI (fun r t => t = σ ∧ K r))) args s 0 0 (Fr shC G)) 4 [(0, .ref (G.2.2 k0)), (1, .int v1), (2, .int v2)] [] σ := by
  obtain ⟨n_, h⟩ := h
  induction n_ generalizing v1 v2 with
  | zero => exact h.elim
  | succ n_ ih =>
    replace h : B_X7_standing_4 k0 σ K (it2 (B_X7_standing_4 k0 σ K) n_) v1 v2 := h
    unfold B_X7_standing_4 at h
    refine g_iload_n (pc := 4) C 2 dX7_standing_4 rfl rfl ?_
    refine g_aload_n (pc := 5) C 0 dX7_standing_5 rfl rfl ?_
    refine get_X7_2 (pc := 6) C hk0 tw_75 dX7_standing_6 ?_
    refine g_icmp_ge (pc := 9) (tgt := 31) C dX7_standing_9 (by decide) (fun c_ => ?_) (fun c_ => ?_)
    · replace h := ite_t h c_
      refine g_iload_n (pc := 31) C 1 dX7_standing_31 rfl rfl ?_
      exact g_iret (pc := 32) C dX7_standing_32 ⟨_, rfl, ⟨rfl, h⟩⟩
    · replace h := ite_f h c_
      refine g_iload_n (pc := 12) C 1 dX7_standing_12 rfl rfl ?_
      refine g_aload_n (pc := 13) C 0 dX7_standing_13 rfl rfl ?_
      refine get_X7_0 (pc := 14) C hk0 tw_70 dX7_standing_14 ?_
      refine g_iload_n (pc := 17) C 2 dX7_standing_17 rfl rfl ?_
      obtain ⟨g_, h⟩ := h
      have hs18_ : shC[((k0 + 3) + v2.toNatClampNeg)]? = some (0, 0, 0) := sh7_e (k := k0) hk0 g_
      refine g_aldB (pc := 18) C (sh7_0 hk0) g_ dX7_standing_18 ?_
      refine g_iconst (pc := 19) (v := 4) C dX7_standing_19 ic_4 ?_
      refine g_callVip (pc := 20) (As := [.int 4]) (rest := [.int v1]) C hs18_ rfl rfl rfl (M_X0_tell C.2.2.1 hs18_ h) CyX0_tell tw_822 tw_386 tw_387 (by decide) rfl rfl (Nat.le_of_ble_eq_true rfl) dX7_standing_20 (fun r20 h => ?_)
      refine g_iadd (pc := 23) C dX7_standing_23 ?_
      refine g_istore_n (pc := 24) (lv2 := [(1, .int (v1 + r20)), (0, .ref (G.2.2 k0)), (2, .int v2)]) C dX7_standing_24 rfl (by decide) rfl ?_
      refine g_iinc (pc := 25) (lv2 := [(2, .int (v2 + 1)), (1, .int (v1 + r20)), (0, .ref (G.2.2 k0))]) C 2 dX7_standing_25 ic_1 rfl (by decide) rfl ?_
      refine g_goto (pc := 28) (tgt := 4) C dX7_standing_28 (by decide) ?_
      refine g_lv [2, 1, 0] (lv2 := [(0, .ref (G.2.2 k0)), (1, .int (v1 + r20)), (2, .int (v2 + 1))]) rfl ?_
      exact ih h
set_option maxHeartbeats 4000000 in
set_option maxRecDepth 100000 in
theorem M_X7_standing {l : Launch} {G : Gp} (hD : Dj shC G) {k0 : Nat} {σ : St} {K : Int32 → Prop} (hk0 : shC[k0]? = some (7, 0, 0)) (h : wp_X7_standing k0 σ K) : MC l shC G yX7_standing cX7_standing 3 (some .int) 2 [.ref (G.2.2 k0)] σ (RI (fun r t => t = σ ∧ K r)) := by
  unfold wp_X7_standing at h
  refine MC.of (by decide) hD (Nat.le_of_ble_eq_true rfl) ?_
  intro p e s m args below meth c C
  replace C : Cx p (rmD 2) s m args meth c shC G cX7_standing 3 2 RX7 (some .int) 0 0 := C
  show Go p l e (rmD 2) s m args below meth c shC G 3 0 0 (MQ below (Qw shC G (RI (fun r t => t = σ ∧ K r))) args s 0 0 (Fr shC G)) 0 [(0, .ref (G.2.2 k0))] [] σ
  refine g_iconst (pc := 0) (v := 0) C dX7_standing_0 ic_0 ?_
  refine g_istore_n (pc := 1) (lv2 := [(1, .int 0), (0, .ref (G.2.2 k0))]) C dX7_standing_1 rfl (by decide) rfl ?_
  refine g_iconst (pc := 2) (v := 0) C dX7_standing_2 ic_0 ?_
  refine g_istore_n (pc := 3) (lv2 := [(2, .int 0), (1, .int 0), (0, .ref (G.2.2 k0))]) C dX7_standing_3 rfl (by decide) rfl ?_
  refine g_lv [2, 1, 0] (lv2 := [(0, .ref (G.2.2 k0)), (1, .int 0), (2, .int 0)]) rfl ?_
  exact k_X7_standing_4 C hk0 h
set_option maxHeartbeats 4000000 in
set_option maxRecDepth 100000 in
theorem M_X8_count {l : Launch} {G : Gp} (hD : Dj shC G) {v1 : Int32} {σ : St} {K : Int32 → Prop} (h : wp_X8_count v1 σ K) : MC l shC G yX8_count cX8_count 2 (some .int) 3 [.ref (G.2.2 0), .int v1] σ (RI (fun r t => t = σ ∧ K r)) := by
  unfold wp_X8_count at h
  refine MC.of (by decide) hD (Nat.le_of_ble_eq_true rfl) ?_
  intro p e s m args below meth c C
  replace C : Cx p (rmD 3) s m args meth c shC G cX8_count 2 3 RX8 (some .int) 0 0 := C
  show Go p l e (rmD 3) s m args below meth c shC G 2 0 0 (MQ below (Qw shC G (RI (fun r t => t = σ ∧ K r))) args s 0 0 (Fr shC G)) 0 [(0, .ref (G.2.2 0)), (1, .int v1)] [] σ
  refine g_iload_n (pc := 0) C 1 dX8_count_0 rfl rfl ?_
  by_cases c0_ : v1 = 0
  · replace h := ite_t h c0_
    refine g_tabIn (pc := 1) (tgt := 52) (v := 0) C dX8_count_1 (by rw [c0_]; rfl) (by decide) (by decide) rfl (by decide) ?_
    refine g_aload_n (pc := 52) C 0 dX8_count_52 rfl rfl ?_
    refine get_X8_3 (pc := 53) C rfl tw_197 dX8_count_53 ?_
    refine get_X7_2 (pc := 56) C rfl tw_76 dX8_count_56 ?_
    exact g_iret (pc := 59) C dX8_count_59 ⟨_, rfl, ⟨rfl, h⟩⟩
  replace h := ite_f h c0_
  by_cases c1_ : v1 = 1
  · replace h := ite_t h c1_
    refine g_tabIn (pc := 1) (tgt := 60) (v := 1) C dX8_count_1 (by rw [c1_]; rfl) (by decide) (by decide) rfl (by decide) ?_
    refine g_aload_n (pc := 60) C 0 dX8_count_60 rfl rfl ?_
    refine get_X8_3 (pc := 61) C rfl tw_197 dX8_count_61 ?_
    refine get_X7_3 (pc := 64) C rfl tw_78 dX8_count_64 ?_
    exact g_iret (pc := 67) C dX8_count_67 ⟨_, rfl, ⟨rfl, h⟩⟩
  replace h := ite_f h c1_
  by_cases c2_ : v1 = 2
  · replace h := ite_t h c2_
    refine g_tabIn (pc := 1) (tgt := 68) (v := 2) C dX8_count_1 (by rw [c2_]; rfl) (by decide) (by decide) rfl (by decide) ?_
    refine g_aload_n (pc := 68) C 0 dX8_count_68 rfl rfl ?_
    refine get_X8_3 (pc := 69) C rfl tw_197 dX8_count_69 ?_
    refine get_X7_4 (pc := 72) C rfl tw_80 dX8_count_72 ?_
    exact g_iret (pc := 75) C dX8_count_75 ⟨_, rfl, ⟨rfl, h⟩⟩
  replace h := ite_f h c2_
  by_cases c3_ : v1 = 3
  · replace h := ite_t h c3_
    refine g_tabIn (pc := 1) (tgt := 76) (v := 3) C dX8_count_1 (by rw [c3_]; rfl) (by decide) (by decide) rfl (by decide) ?_
    refine g_aload_n (pc := 76) C 0 dX8_count_76 rfl rfl ?_
    refine get_X8_3 (pc := 77) C rfl tw_197 dX8_count_77 ?_
    refine get_X7_2 (pc := 80) C rfl tw_76 dX8_count_80 ?_
    refine g_aload_n (pc := 83) C 0 dX8_count_83 rfl rfl ?_
    refine get_X8_3 (pc := 84) C rfl tw_197 dX8_count_84 ?_
    refine g_callVip (pc := 87) (As := []) (rest := [.int (σ.1 25 2)]) C rfl rfl rfl rfl (M_X7_ringing C.2.2.1 rfl h) CyX7_ringing tw_679 tw_680 tw_681 (by decide) rfl rfl (Nat.le_of_ble_eq_true rfl) dX8_count_87 (fun r87 h => ?_)
    refine g_isub (pc := 90) C dX8_count_90 ?_
    exact g_iret (pc := 91) C dX8_count_91 ⟨_, rfl, ⟨rfl, h⟩⟩
  replace h := ite_f h c3_
  by_cases c4_ : v1 = 4
  · replace h := ite_t h c4_
    refine g_tabIn (pc := 1) (tgt := 92) (v := 4) C dX8_count_1 (by rw [c4_]; rfl) (by decide) (by decide) rfl (by decide) ?_
    refine g_aload_n (pc := 92) C 0 dX8_count_92 rfl rfl ?_
    refine get_X8_3 (pc := 93) C rfl tw_197 dX8_count_93 ?_
    refine g_callVip (pc := 96) (As := []) (rest := []) C rfl rfl rfl rfl (M_X7_standing C.2.2.1 rfl h) CyX7_standing tw_818 tw_819 tw_820 (by decide) rfl rfl (Nat.le_of_ble_eq_true rfl) dX8_count_96 (fun r96 h => ?_)
    exact g_iret (pc := 99) C dX8_count_99 ⟨_, rfl, ⟨rfl, h⟩⟩
  replace h := ite_f h c4_
  by_cases c5_ : v1 = 5
  · replace h := ite_t h c5_
    refine g_tabIn (pc := 1) (tgt := 100) (v := 5) C dX8_count_1 (by rw [c5_]; rfl) (by decide) (by decide) rfl (by decide) ?_
    refine g_aload_n (pc := 100) C 0 dX8_count_100 rfl rfl ?_
    refine get_X8_3 (pc := 101) C rfl tw_197 dX8_count_101 ?_
    refine g_callVip (pc := 104) (As := []) (rest := []) C rfl rfl rfl rfl (M_X7_heavyOnes C.2.2.1 rfl h) CyX7_heavyOnes tw_823 tw_824 tw_825 (by decide) rfl rfl (Nat.le_of_ble_eq_true rfl) dX8_count_104 (fun r104 h => ?_)
    exact g_iret (pc := 107) C dX8_count_107 ⟨_, rfl, ⟨rfl, h⟩⟩
  replace h := ite_f h c5_
  by_cases c6_ : v1 = 6
  · replace h := ite_t h c6_
    refine g_tabIn (pc := 1) (tgt := 108) (v := 6) C dX8_count_1 (by rw [c6_]; rfl) (by decide) (by decide) rfl (by decide) ?_
    refine g_aload_n (pc := 108) C 0 dX8_count_108 rfl rfl ?_
    refine get_X8_0 (pc := 109) C rfl tw_194 dX8_count_109 ?_
    refine g_callSip (pc := 112) (As := [.ref (G.2.2 1)]) (rest := []) C (M_X8_thereOf C.2.2.1 rfl h) CyX8_thereOf tw_828 tw_829 (by decide) rfl rfl (Nat.le_of_ble_eq_true rfl) dX8_count_112 (fun r112 h => ?_)
    exact g_iret (pc := 115) C dX8_count_115 ⟨_, rfl, ⟨rfl, h⟩⟩
  replace h := ite_f h c6_
  by_cases c7_ : v1 = 7
  · replace h := ite_t h c7_
    refine g_tabIn (pc := 1) (tgt := 116) (v := 7) C dX8_count_1 (by rw [c7_]; rfl) (by decide) (by decide) rfl (by decide) ?_
    refine g_aload_n (pc := 116) C 0 dX8_count_116 rfl rfl ?_
    refine get_X8_1 (pc := 117) C rfl tw_195 dX8_count_117 ?_
    refine g_callSip (pc := 120) (As := [.ref (G.2.2 2)]) (rest := []) C (M_X8_thereOf C.2.2.1 rfl h) CyX8_thereOf tw_828 tw_829 (by decide) rfl rfl (Nat.le_of_ble_eq_true rfl) dX8_count_120 (fun r120 h => ?_)
    exact g_iret (pc := 123) C dX8_count_123 ⟨_, rfl, ⟨rfl, h⟩⟩
  replace h := ite_f h c7_
  by_cases c8_ : v1 = 8
  · replace h := ite_t h c8_
    refine g_tabIn (pc := 1) (tgt := 124) (v := 8) C dX8_count_1 (by rw [c8_]; rfl) (by decide) (by decide) rfl (by decide) ?_
    refine g_aload_n (pc := 124) C 0 dX8_count_124 rfl rfl ?_
    refine g_callVip (pc := 125) (As := []) (rest := []) C rfl rfl rfl rfl (M_X8_keptTowers C.2.2.1  h) CyX8_keptTowers tw_831 tw_833 ts_24 (by decide) rfl rfl (Nat.le_of_ble_eq_true rfl) dX8_count_125 (fun r125 h => ?_)
    exact g_iret (pc := 128) C dX8_count_128 ⟨_, rfl, ⟨rfl, h⟩⟩
  replace h := ite_f h c8_
  refine g_tabOut (pc := 1) (tgt := 129) C dX8_count_1 (by have e0_ := lv_neT c0_ (a := 0) (by decide); have e1_ := lv_neT c1_ (a := 1) (by decide); have e2_ := lv_neT c2_ (a := 2) (by decide); have e3_ := lv_neT c3_ (a := 3) (by decide); have e4_ := lv_neT c4_ (a := 4) (by decide); have e5_ := lv_neT c5_ (a := 5) (by decide); have e6_ := lv_neT c6_ (a := 6) (by decide); have e7_ := lv_neT c7_ (a := 7) (by decide); have e8_ := lv_neT c8_ (a := 8) (by decide); omega) (by decide) ?_
  refine g_iconst (pc := 129) (v := -1) C dX8_count_129 ic_m1 ?_
  exact g_iret (pc := 130) C dX8_count_130 ⟨_, rfl, ⟨rfl, h⟩⟩
set_option maxHeartbeats 4000000 in
set_option maxRecDepth 100000 in
theorem k_X8_damp_9 {σ : St} {K : Int32 → St → Prop} (C : Cx p R s m args meth c shC G cX8_damp 3 1 RX8 (some .int) 0 0) (h : J_X8_damp_9 σ K) : Go p l e R s m args below meth c shC G 3 0 0 (MQ below (Qw shC G (RI K)) args s 0 0 (Fr shC G)) 9 [] [] σ := by
  unfold J_X8_damp_9 at h
  refine g_iconst (pc := 9) (v := -1) C dX8_damp_9 ic_m1 ?_
  exact g_iret (pc := 10) C dX8_damp_10 ⟨_, rfl, h⟩
set_option maxHeartbeats 4000000 in
set_option maxRecDepth 100000 in
theorem M_X8_damp {l : Launch} {G : Gp} (hD : Dj shC G) {v1 : Int32} {σ : St} {K : Int32 → St → Prop} (h : wp_X8_damp v1 σ K) : MC l shC G yX8_damp cX8_damp 3 (some .int) 1 [.ref (G.2.2 0), .int v1] σ (RI K) := by
  unfold wp_X8_damp at h
  refine MC.of (by decide) hD (Nat.le_of_ble_eq_true rfl) ?_
  intro p e s m args below meth c C
  replace C : Cx p (rmD 1) s m args meth c shC G cX8_damp 3 1 RX8 (some .int) 0 0 := C
  show Go p l e (rmD 1) s m args below meth c shC G 3 0 0 (MQ below (Qw shC G (RI K)) args s 0 0 (Fr shC G)) 0 [(0, .ref (G.2.2 0)), (1, .int v1)] [] σ
  refine g_iload_n (pc := 0) C 1 dX8_damp_0 rfl rfl ?_
  refine g_if_lt (pc := 1) (tgt := 9) C dX8_damp_1 (by decide) (fun c_ => ?_) (fun c_ => ?_)
  · replace h := ite_t h c_
    refine g_lv [] (lv2 := []) rfl ?_
    exact k_X8_damp_9 C  h
  · replace h := ite_f h c_
    refine g_iload_n (pc := 4) C 1 dX8_damp_4 rfl rfl ?_
    refine g_iconst (pc := 5) (v := 3) C dX8_damp_5 ic_3 ?_
    refine g_icmp_le (pc := 6) (tgt := 11) C dX8_damp_6 (by decide) (fun c_ => ?_) (fun c_ => ?_)
    · replace h := ite_t h c_
      refine g_aload_n (pc := 11) C 0 dX8_damp_11 rfl rfl ?_
      refine get_X8_3 (pc := 12) C rfl tw_197 dX8_damp_12 ?_
      refine get_X7_2 (pc := 15) C rfl tw_76 dX8_damp_15 ?_
      refine g_if_ne (pc := 18) (tgt := 24) C dX8_damp_18 (by decide) (fun c_ => ?_) (fun c_ => ?_)
      · replace h := ite_f h c_
        refine g_aload_n (pc := 24) C 0 dX8_damp_24 rfl rfl ?_
        refine get_X8_3 (pc := 25) C rfl tw_197 dX8_damp_25 ?_
        refine get_X7_3 (pc := 28) C rfl tw_78 dX8_damp_28 ?_
        refine g_istore_n (pc := 31) (lv2 := [(2, .int (σ.1 25 3)), (0, .ref (G.2.2 0)), (1, .int v1)]) C dX8_damp_31 rfl (by decide) rfl ?_
        refine g_aload_n (pc := 32) C 1 dX8_damp_32 rfl rfl ?_
        refine get_X8_3 (pc := 33) C rfl tw_197 dX8_damp_33 ?_
        refine g_iload_n (pc := 36) C 2 dX8_damp_36 rfl rfl ?_
        refine put_X7_3 (pc := 37) C rfl tw_78 dX8_damp_37 ?_
        refine g_iload_n (pc := 40) C 0 dX8_damp_40 rfl rfl ?_
        exact g_iret (pc := 41) C dX8_damp_41 ⟨_, rfl, h⟩
      · replace h := ite_t h c_
        refine g_bipush (pc := 21) (v := -4) C dX8_damp_21 bp_m4 ?_
        exact g_iret (pc := 23) C dX8_damp_23 ⟨_, rfl, h⟩
    · replace h := ite_f h c_
      refine g_lv [] (lv2 := []) rfl ?_
      exact k_X8_damp_9 C  h
set_option maxHeartbeats 4000000 in
set_option maxRecDepth 100000 in
theorem k_X8_fits_39 {k0 : Nat} {n0 : Nat} {v1 : Int32} {v2 : Int32} {v3 : Int32} {v5 : Int32} {v6 : Int32} {σ : St} {K : Int32 → Prop} {Φ7 : Int32 → Int32 → Prop} (C : Cx p R s m args meth c shC G cX8_fits 7 3 RX8 (some .boolean) 0 0) (hk0 : shC[k0]? = some (6, n0, 0)) (hΦ7 : ∀ (v5' : Int32) (v6' : Int32), Φ7 v5' v6' → Go p l e R s m args below meth c shC G 7 0 0 (MQ below (Qw shC G (RI (fun r t => t = σ ∧ K r))) args s 0 0 (Fr shC G)) 7 [(0, .ref (G.2.2 k0)), (1, .int v1), (2, .int v2), (3, .int v3), (5, .int (v5')), (6, .int (v6'))] [] σ) (h : J_X8_fits_39 k0 n0 v1 v2 v3 v5 v6 σ K Φ7) : Go p l e R s m args below meth c shC G 7 0 0 (MQ below (Qw shC G (RI (fun r t => t = σ ∧ K r))) args s 0 0 (Fr shC G)) 39 [(0, .ref (G.2.2 k0)), (1, .int v1), (2, .int v2), (3, .int v3), (5, .int v5), (6, .int v6)] [] σ := by
  unfold J_X8_fits_39 at h
  refine g_iload_n (pc := 39) C 1 dX8_fits_39 rfl rfl ?_
  refine g_iload_n (pc := 40) C 2 dX8_fits_40 rfl rfl ?_
  refine g_iload_n (pc := 41) C 3 dX8_fits_41 rfl rfl ?_
  refine g_iload (pc := 42) C 4 dX8_fits_42 rfl ?_
  refine g_callSip (pc := 44) (As := [.int v1, .int v2, .int v3, .int v5]) (rest := []) C (M_X8_tenths C.2.2.1  h) CyX8_tenths tw_763 tw_411 (by decide) rfl rfl (Nat.le_of_ble_eq_true rfl) dX8_fits_44 (fun r44 h => ?_)
  refine g_aload_n (pc := 47) C 0 dX8_fits_47 rfl rfl ?_
  refine get_X6_0 (pc := 48) C hk0 tw_180 dX8_fits_48 ?_
  refine g_iload (pc := 51) C 5 dX8_fits_51 rfl ?_
  refine g_iconst (pc := 53) (v := 1) C dX8_fits_53 ic_1 ?_
  refine g_iadd (pc := 54) C dX8_fits_54 ?_
  obtain ⟨g_, h⟩ := h
  refine g_iald (pc := 55) C (sh6_0 hk0) g_ dX8_fits_55 ?_
  refine g_icmp_eq (pc := 56) (tgt := 61) C dX8_fits_56 (by decide) (fun c_ => ?_) (fun c_ => ?_)
  · replace h := ite_t h c_
    refine g_iinc (pc := 61) (lv2 := [(6, .int (v6 + 2)), (0, .ref (G.2.2 k0)), (1, .int v1), (2, .int v2), (3, .int v3), (5, .int v5)]) C 5 dX8_fits_61 ic_2 rfl (by decide) rfl ?_
    refine g_goto (pc := 64) (tgt := 7) C dX8_fits_64 (by decide) ?_
    refine g_lv [1, 2, 3, 4, 5, 0] (lv2 := [(0, .ref (G.2.2 k0)), (1, .int v1), (2, .int v2), (3, .int v3), (5, .int v5), (6, .int (v6 + 2))]) rfl ?_
    exact hΦ7 _ _ h
  · replace h := ite_f h c_
    refine g_iconst (pc := 59) (v := 0) C dX8_fits_59 ic_0 ?_
    exact g_zret (pc := 60) C (by first | exact Or.inl rfl | exact Or.inr rfl) dX8_fits_60 ⟨_, rfl, ⟨rfl, h⟩⟩
set_option maxHeartbeats 4000000 in
set_option maxRecDepth 100000 in
theorem k_X8_fits_7 {k0 : Nat} {n0 : Nat} {v1 : Int32} {v2 : Int32} {v3 : Int32} {v5 : Int32} {v6 : Int32} {σ : St} {K : Int32 → Prop} (C : Cx p R s m args meth c shC G cX8_fits 7 3 RX8 (some .boolean) 0 0) (hk0 : shC[k0]? = some (6, n0, 0)) (h : L_X8_fits_7 k0 n0 v1 v2 v3 σ K v5 v6) : Go p l e R s m args below meth c shC G 7 0 0 (MQ below (Qw shC G (RI (fun r t => t = σ ∧ K r))) args s 0 0 (Fr shC G)) 7 [(0, .ref (G.2.2 k0)), (1, .int v1), (2, .int v2), (3, .int v3), (5, .int v5), (6, .int v6)] [] σ := by
  obtain ⟨n_, h⟩ := h
  induction n_ generalizing v5 v6 with
  | zero => exact h.elim
  | succ n_ ih =>
    replace h : B_X8_fits_7 k0 n0 v1 v2 v3 σ K (it2 (B_X8_fits_7 k0 n0 v1 v2 v3 σ K) n_) v5 v6 := h
    unfold B_X8_fits_7 at h
    refine g_iload (pc := 7) C 5 dX8_fits_7 rfl ?_
    refine g_iconst (pc := 9) (v := 1) C dX8_fits_9 ic_1 ?_
    refine g_iadd (pc := 10) C dX8_fits_10 ?_
    refine g_aload_n (pc := 11) C 0 dX8_fits_11 rfl rfl ?_
    refine get_X6_2 (pc := 12) C hk0 tw_186 dX8_fits_12 ?_
    refine g_icmp_ge (pc := 15) (tgt := 67) C dX8_fits_15 (by decide) (fun c_ => ?_) (fun c_ => ?_)
    · replace h := ite_t h c_
      refine g_iconst (pc := 67) (v := 1) C dX8_fits_67 ic_1 ?_
      exact g_zret (pc := 68) C (by first | exact Or.inl rfl | exact Or.inr rfl) dX8_fits_68 ⟨_, rfl, ⟨rfl, h⟩⟩
    · replace h := ite_f h c_
      refine g_iload (pc := 18) C 4 dX8_fits_18 rfl ?_
      refine g_iconst (pc := 20) (v := -1) C dX8_fits_20 ic_m1 ?_
      refine g_icmp_eq (pc := 21) (tgt := 39) C dX8_fits_21 (by decide) (fun c_ => ?_) (fun c_ => ?_)
      · replace h := ite_t h c_
        refine g_lv [0, 1, 2, 3, 4, 5] (lv2 := [(0, .ref (G.2.2 k0)), (1, .int v1), (2, .int v2), (3, .int v3), (5, .int v5), (6, .int v6)]) rfl ?_
        exact k_X8_fits_39 C hk0 (fun _ _ h_ => ih h_) h
      · replace h := ite_f h c_
        refine g_iload_n (pc := 24) C 1 dX8_fits_24 rfl rfl ?_
        refine g_iload (pc := 25) C 4 dX8_fits_25 rfl ?_
        refine g_aload_n (pc := 27) C 0 dX8_fits_27 rfl rfl ?_
        refine get_X6_0 (pc := 28) C hk0 tw_180 dX8_fits_28 ?_
        refine g_iload (pc := 31) C 5 dX8_fits_31 rfl ?_
        obtain ⟨g_, h⟩ := h
        refine g_iald (pc := 33) C (sh6_0 hk0) g_ dX8_fits_33 ?_
        refine g_callSip (pc := 34) (As := [.int v1, .int v5, .int (σ.1 (k0 + 1) v6.toNatClampNeg)]) (rest := []) C (M_X8_after C.2.2.1  h) CyX8_after tw_400 tw_401 (by decide) rfl rfl (Nat.le_of_ble_eq_true rfl) dX8_fits_34 (fun r34 h => ?_)
        refine g_istore (pc := 37) (lv2 := [(5, .int r34), (0, .ref (G.2.2 k0)), (1, .int v1), (2, .int v2), (3, .int v3), (6, .int v6)]) C dX8_fits_37 (by decide) rfl ?_
        refine g_lv [1, 2, 3, 4, 0, 5] (lv2 := [(0, .ref (G.2.2 k0)), (1, .int v1), (2, .int v2), (3, .int v3), (5, .int r34), (6, .int v6)]) rfl ?_
        exact k_X8_fits_39 C hk0 (fun _ _ h_ => ih h_) h
set_option maxHeartbeats 4000000 in
set_option maxRecDepth 100000 in
theorem M_X8_fits {l : Launch} {G : Gp} (hD : Dj shC G) {k0 : Nat} {n0 : Nat} {v1 : Int32} {v2 : Int32} {v3 : Int32} {v4 : Int32} {σ : St} {K : Int32 → Prop} (hk0 : shC[k0]? = some (6, n0, 0)) (h : wp_X8_fits k0 n0 v1 v2 v3 v4 σ K) : MC l shC G yX8_fits cX8_fits 7 (some .boolean) 3 [.ref (G.2.2 k0), .int v1, .int v2, .int v3, .int v4] σ (RI (fun r t => t = σ ∧ K r)) := by
  unfold wp_X8_fits at h
  refine MC.of (by decide) hD (Nat.le_of_ble_eq_true rfl) ?_
  intro p e s m args below meth c C
  replace C : Cx p (rmD 3) s m args meth c shC G cX8_fits 7 3 RX8 (some .boolean) 0 0 := C
  show Go p l e (rmD 3) s m args below meth c shC G 7 0 0 (MQ below (Qw shC G (RI (fun r t => t = σ ∧ K r))) args s 0 0 (Fr shC G)) 0 [(0, .ref (G.2.2 k0)), (1, .int v1), (2, .int v2), (3, .int v3), (4, .int v4)] [] σ
  refine g_iload (pc := 0) C 4 dX8_fits_0 rfl ?_
  refine g_istore (pc := 2) (lv2 := [(5, .int v4), (0, .ref (G.2.2 k0)), (1, .int v1), (2, .int v2), (3, .int v3), (4, .int v4)]) C dX8_fits_2 (by decide) rfl ?_
  refine g_iconst (pc := 4) (v := 0) C dX8_fits_4 ic_0 ?_
  refine g_istore (pc := 5) (lv2 := [(6, .int 0), (5, .int v4), (0, .ref (G.2.2 k0)), (1, .int v1), (2, .int v2), (3, .int v3), (4, .int v4)]) C dX8_fits_5 (by decide) rfl ?_
  refine g_lv [2, 3, 4, 5, 1, 0] (lv2 := [(0, .ref (G.2.2 k0)), (1, .int v1), (2, .int v2), (3, .int v3), (5, .int v4), (6, .int 0)]) rfl ?_
  exact k_X8_fits_7 C hk0 h
set_option maxHeartbeats 4000000 in
set_option maxRecDepth 100000 in
theorem k_X8_refuseTold_83 {w0 : Int32} {σ : St} {K : Int32 → St → Prop} (C : Cx p R s m args meth c shC G cX8_refuseTold 4 3 RX8 (some .int) 0 0) (h : J_X8_refuseTold_83 w0 σ K) : Go p l e R s m args below meth c shC G 4 0 0 (MQ below (Qw shC G (RI K)) args s 0 0 (Fr shC G)) 83 [] [.int w0] σ := by
  unfold J_X8_refuseTold_83 at h
  exact g_iret (pc := 83) C dX8_refuseTold_83 ⟨_, rfl, h⟩
set_option maxHeartbeats 4000000 in
set_option maxRecDepth 100000 in
theorem k_X8_refuseTold_16 {v2 : Int32} {w0 : Int32} {σ : St} {K : Int32 → St → Prop} (C : Cx p R s m args meth c shC G cX8_refuseTold 4 3 RX8 (some .int) 0 0) (h : J_X8_refuseTold_16 v2 w0 σ K) : Go p l e R s m args below meth c shC G 4 0 0 (MQ below (Qw shC G (RI K)) args s 0 0 (Fr shC G)) 16 [(0, .ref (G.2.2 0)), (2, .int v2)] [.int w0] σ := by
  unfold J_X8_refuseTold_16 at h
  refine g_istore_n (pc := 16) (lv2 := [(3, .int w0), (0, .ref (G.2.2 0)), (2, .int v2)]) C dX8_refuseTold_16 rfl (by decide) rfl ?_
  refine g_iload_n (pc := 17) C 0 dX8_refuseTold_17 rfl rfl ?_
  refine g_if_eq (pc := 18) (tgt := 23) C dX8_refuseTold_18 (by decide) (fun c_ => ?_) (fun c_ => ?_)
  · replace h := ite_t h c_
    refine g_aload_n (pc := 23) C 1 dX8_refuseTold_23 rfl rfl ?_
    refine get_X8_0 (pc := 24) C rfl tw_194 dX8_refuseTold_24 ?_
    refine g_iload_n (pc := 27) C 2 dX8_refuseTold_27 rfl rfl ?_
    obtain ⟨g_, h⟩ := h
    have hs28_ : shC[(5 + 2 * v2.toNatClampNeg)]? = some (6, 40, 0) := shR5 g_
    refine g_aldR (pc := 28) C rfl g_ dX8_refuseTold_28 ?_
    refine get_X6_1 (pc := 29) C hs28_ tw_183 dX8_refuseTold_29 ?_
    refine g_if_ne (pc := 32) (tgt := 41) C dX8_refuseTold_32 (by decide) (fun c_ => ?_) (fun c_ => ?_)
    · replace h := ite_f h c_
      refine g_aload_n (pc := 41) C 1 dX8_refuseTold_41 rfl rfl ?_
      refine get_X8_0 (pc := 42) C rfl tw_194 dX8_refuseTold_42 ?_
      refine g_iload_n (pc := 45) C 2 dX8_refuseTold_45 rfl rfl ?_
      obtain ⟨g_, h⟩ := h
      have hs46_ : shC[(5 + 2 * v2.toNatClampNeg)]? = some (6, 40, 0) := shR5 g_
      refine g_aldR (pc := 46) C rfl g_ dX8_refuseTold_46 ?_
      refine get_X6_2 (pc := 47) C hs46_ tw_186 dX8_refuseTold_47 ?_
      refine g_iconst (pc := 50) (v := 2) C dX8_refuseTold_50 ic_2 ?_
      refine g_irem (pc := 51) C dX8_refuseTold_51 (by decide) ?_
      refine g_if_eq (pc := 52) (tgt := 61) C dX8_refuseTold_52 (by decide) (fun c_ => ?_) (fun c_ => ?_)
      · replace h := ite_t h c_
        refine g_aload_n (pc := 61) C 1 dX8_refuseTold_61 rfl rfl ?_
        refine get_X8_0 (pc := 62) C rfl tw_194 dX8_refuseTold_62 ?_
        refine g_iload_n (pc := 65) C 2 dX8_refuseTold_65 rfl rfl ?_
        obtain ⟨g_, h⟩ := h
        have hs66_ : shC[(5 + 2 * v2.toNatClampNeg)]? = some (6, 40, 0) := shR5 g_
        refine g_aldR (pc := 66) C rfl g_ dX8_refuseTold_66 ?_
        refine g_iconst (pc := 67) (v := 2) C dX8_refuseTold_67 ic_2 ?_
        refine g_callVip (pc := 68) (As := [.int 2]) (rest := []) C hs66_ rfl rfl rfl (M_X6_hasPulls C.2.2.1 hs66_ h) CyX6_hasPulls tw_471 tw_472 tw_473 (by decide) rfl rfl (Nat.le_of_ble_eq_true rfl) dX8_refuseTold_68 (fun r68 h => ?_)
        refine g_if_eq (pc := 71) (tgt := 78) C dX8_refuseTold_71 (by decide) (fun c_ => ?_) (fun c_ => ?_)
        · replace h := ite_t h c_
          refine g_aload_n (pc := 78) C 1 dX8_refuseTold_78 rfl rfl ?_
          refine g_iconst (pc := 79) (v := 3) C dX8_refuseTold_79 ic_3 ?_
          refine g_callVi (pc := 80) (As := [.int 3]) (rest := []) C rfl rfl rfl rfl (M_X8_find C.2.2.1  h) CyX8_find tw_251 tw_253 ts_1 (by decide) rfl rfl (Nat.le_of_ble_eq_true rfl) dX8_refuseTold_80 (fun r80 t80 h => ?_)
          refine g_lv [] (lv2 := []) rfl ?_
          exact k_X8_refuseTold_83 C  h
        · replace h := ite_f h c_
          refine g_iconst (pc := 74) (v := 0) C dX8_refuseTold_74 ic_0 ?_
          refine g_goto (pc := 75) (tgt := 83) C dX8_refuseTold_75 (by decide) ?_
          refine g_lv [] (lv2 := []) rfl ?_
          exact k_X8_refuseTold_83 C  h
      · replace h := ite_f h c_
        refine g_aload_n (pc := 55) C 1 dX8_refuseTold_55 rfl rfl ?_
        refine g_iconst (pc := 56) (v := 5) C dX8_refuseTold_56 ic_5 ?_
        refine g_callVi (pc := 57) (As := [.int 5]) (rest := []) C rfl rfl rfl rfl (M_X8_find C.2.2.1  h) CyX8_find tw_251 tw_253 ts_1 (by decide) rfl rfl (Nat.le_of_ble_eq_true rfl) dX8_refuseTold_57 (fun r57 t57 h => ?_)
        exact g_iret (pc := 60) C dX8_refuseTold_60 ⟨_, rfl, h⟩
    · replace h := ite_t h c_
      refine g_aload_n (pc := 35) C 1 dX8_refuseTold_35 rfl rfl ?_
      refine g_iconst (pc := 36) (v := 1) C dX8_refuseTold_36 ic_1 ?_
      refine g_callVi (pc := 37) (As := [.int 1]) (rest := []) C rfl rfl rfl rfl (M_X8_find C.2.2.1  h) CyX8_find tw_251 tw_253 ts_1 (by decide) rfl rfl (Nat.le_of_ble_eq_true rfl) dX8_refuseTold_37 (fun r37 t37 h => ?_)
      exact g_iret (pc := 40) C dX8_refuseTold_40 ⟨_, rfl, h⟩
  · replace h := ite_f h c_
    refine g_iload_n (pc := 21) C 0 dX8_refuseTold_21 rfl rfl ?_
    exact g_iret (pc := 22) C dX8_refuseTold_22 ⟨_, rfl, h⟩
set_option maxHeartbeats 4000000 in
set_option maxRecDepth 100000 in
theorem M_X8_refuseTold {l : Launch} {G : Gp} (hD : Dj shC G) {v1 : Int32} {v2 : Int32} {σ : St} {K : Int32 → St → Prop} (h : wp_X8_refuseTold v1 v2 σ K) : MC l shC G yX8_refuseTold cX8_refuseTold 4 (some .int) 3 [.ref (G.2.2 0), .int v1, .int v2] σ (RI K) := by
  unfold wp_X8_refuseTold at h
  refine MC.of (by decide) hD (Nat.le_of_ble_eq_true rfl) ?_
  intro p e s m args below meth c C
  replace C : Cx p (rmD 3) s m args meth c shC G cX8_refuseTold 4 3 RX8 (some .int) 0 0 := C
  show Go p l e (rmD 3) s m args below meth c shC G 4 0 0 (MQ below (Qw shC G (RI K)) args s 0 0 (Fr shC G)) 0 [(0, .ref (G.2.2 0)), (1, .int v1), (2, .int v2)] [] σ
  refine g_iload_n (pc := 0) C 2 dX8_refuseTold_0 rfl rfl ?_
  refine g_callSip (pc := 1) (As := [.int v2]) (rest := []) C (M_X8_isRow C.2.2.1  h) CyX8_isRow tw_244 tw_245 (by decide) rfl rfl (Nat.le_of_ble_eq_true rfl) dX8_refuseTold_1 (fun r1 h => ?_)
  refine g_if_eq (pc := 4) (tgt := 15) C dX8_refuseTold_4 (by decide) (fun c_ => ?_) (fun c_ => ?_)
  · replace h := ite_t h c_
    refine g_iconst (pc := 15) (v := -1) C dX8_refuseTold_15 ic_m1 ?_
    refine g_lv [0, 2] (lv2 := [(0, .ref (G.2.2 0)), (2, .int v2)]) rfl ?_
    exact k_X8_refuseTold_16 C  h
  · replace h := ite_f h c_
    refine g_aload_n (pc := 7) C 0 dX8_refuseTold_7 rfl rfl ?_
    refine g_iload_n (pc := 8) C 1 dX8_refuseTold_8 rfl rfl ?_
    refine g_callVip (pc := 9) (As := [.int v1]) (rest := []) C rfl rfl rfl rfl (M_X8_refuseBell C.2.2.1  h) CyX8_refuseBell tw_435 tw_437 ts_7 (by decide) rfl rfl (Nat.le_of_ble_eq_true rfl) dX8_refuseTold_9 (fun r9 h => ?_)
    refine g_goto (pc := 12) (tgt := 16) C dX8_refuseTold_12 (by decide) ?_
    refine g_lv [0, 2] (lv2 := [(0, .ref (G.2.2 0)), (2, .int v2)]) rfl ?_
    exact k_X8_refuseTold_16 C  h
set_option maxHeartbeats 4000000 in
set_option maxRecDepth 100000 in
theorem k_X8_damps_74 {v2 : Int32} {k4 : Nat} {v5 : Int32} {v6 : Int32} {σ : St} {K : Int32 → St → Prop} {Φ30 : Int32 → Int32 → Prop} (C : Cx p R s m args meth c shC G cX8_damps 7 4 RX8 (some .int) 0 0) (hk4 : shC[k4]? = some (0, 0, 0)) (hΦ30 : ∀ (v5' : Int32) (v6' : Int32), Φ30 v5' v6' → Go p l e R s m args below meth c shC G 7 0 0 (MQ below (Qw shC G (RI K)) args s 0 0 (Fr shC G)) 30 [(0, .ref (G.2.2 0)), (2, .int v2), (4, .ref (G.2.2 k4)), (5, .int (v5')), (6, .int (v6'))] [] σ) (h : J_X8_damps_74 v2 k4 v5 v6 σ K Φ30) : Go p l e R s m args below meth c shC G 7 0 0 (MQ below (Qw shC G (RI K)) args s 0 0 (Fr shC G)) 74 [(0, .ref (G.2.2 0)), (2, .int v2), (4, .ref (G.2.2 k4)), (5, .int v5), (6, .int v6)] [] σ := by
  unfold J_X8_damps_74 at h
  refine g_iinc (pc := 74) (lv2 := [(6, .int (v6 + 1)), (0, .ref (G.2.2 0)), (2, .int v2), (4, .ref (G.2.2 k4)), (5, .int v5)]) C 4 dX8_damps_74 ic_1 rfl (by decide) rfl ?_
  refine g_goto (pc := 77) (tgt := 30) C dX8_damps_77 (by decide) ?_
  refine g_lv [1, 2, 3, 4, 0] (lv2 := [(0, .ref (G.2.2 0)), (2, .int v2), (4, .ref (G.2.2 k4)), (5, .int v5), (6, .int (v6 + 1))]) rfl ?_
  exact hΦ30 _ _ h
set_option maxHeartbeats 4000000 in
set_option maxRecDepth 100000 in
theorem k_X8_damps_30 {v2 : Int32} {k4 : Nat} {v5 : Int32} {v6 : Int32} {σ : St} {K : Int32 → St → Prop} (C : Cx p R s m args meth c shC G cX8_damps 7 4 RX8 (some .int) 0 0) (hk4 : shC[k4]? = some (0, 0, 0)) (h : L_X8_damps_30 v2 k4 σ K v5 v6) : Go p l e R s m args below meth c shC G 7 0 0 (MQ below (Qw shC G (RI K)) args s 0 0 (Fr shC G)) 30 [(0, .ref (G.2.2 0)), (2, .int v2), (4, .ref (G.2.2 k4)), (5, .int v5), (6, .int v6)] [] σ := by
  obtain ⟨n_, h⟩ := h
  induction n_ generalizing v5 v6 with
  | zero => exact h.elim
  | succ n_ ih =>
    replace h : B_X8_damps_30 v2 k4 σ K (it2 (B_X8_damps_30 v2 k4 σ K) n_) v5 v6 := h
    unfold B_X8_damps_30 at h
    refine g_iload (pc := 30) C 4 dX8_damps_30 rfl ?_
    refine g_iconst (pc := 32) (v := 3) C dX8_damps_32 ic_3 ?_
    refine g_icmp_gt (pc := 33) (tgt := 80) C dX8_damps_33 (by decide) (fun c_ => ?_) (fun c_ => ?_)
    · replace h := ite_t h c_
      refine g_iload (pc := 80) C 3 dX8_damps_80 rfl ?_
      exact g_iret (pc := 82) C dX8_damps_82 ⟨_, rfl, h⟩
    · replace h := ite_f h c_
      refine g_aload_n (pc := 36) C 0 dX8_damps_36 rfl rfl ?_
      refine get_X8_0 (pc := 37) C rfl tw_194 dX8_damps_37 ?_
      refine g_iload_n (pc := 40) C 1 dX8_damps_40 rfl rfl ?_
      obtain ⟨g_, h⟩ := h
      have hs41_ : shC[(5 + 2 * v2.toNatClampNeg)]? = some (6, 40, 0) := shR5 g_
      refine g_aldR (pc := 41) C rfl g_ dX8_damps_41 ?_
      refine g_aload (pc := 42) C 2 dX8_damps_42 rfl ?_
      refine get_X0_0 (pc := 44) C hk4 tw_42 dX8_damps_44 ?_
      refine g_aload (pc := 47) C 2 dX8_damps_47 rfl ?_
      refine get_X0_1 (pc := 49) C hk4 tw_45 dX8_damps_49 ?_
      refine g_iload (pc := 52) C 4 dX8_damps_52 rfl ?_
      refine g_aload (pc := 54) C 2 dX8_damps_54 rfl ?_
      refine get_X0_3 (pc := 56) C hk4 tw_50 dX8_damps_56 ?_
      refine g_callSip (pc := 59) (As := [.ref (G.2.2 (5 + 2 * v2.toNatClampNeg)), .int (σ.1 k4 0), .int (σ.1 k4 1), .int v6, .int (σ.1 k4 3)]) (rest := []) C (M_X8_fits C.2.2.1 hs41_ h) CyX8_fits tw_760 tw_761 (by decide) rfl rfl (Nat.le_of_ble_eq_true rfl) dX8_damps_59 (fun r59 h => ?_)
      refine g_if_eq (pc := 62) (tgt := 74) C dX8_damps_62 (by decide) (fun c_ => ?_) (fun c_ => ?_)
      · replace h := ite_t h c_
        refine g_lv [0, 1, 2, 3, 4] (lv2 := [(0, .ref (G.2.2 0)), (2, .int v2), (4, .ref (G.2.2 k4)), (5, .int v5), (6, .int v6)]) rfl ?_
        exact k_X8_damps_74 C hk4 (fun _ _ h_ => ih h_) h
      · replace h := ite_f h c_
        refine g_iload (pc := 65) C 3 dX8_damps_65 rfl ?_
        refine g_iconst (pc := 67) (v := 1) C dX8_damps_67 ic_1 ?_
        refine g_iload (pc := 68) C 4 dX8_damps_68 rfl ?_
        refine g_ishl (pc := 70) C dX8_damps_70 ?_
        refine g_ior (pc := 71) C dX8_damps_71 ?_
        refine g_istore (pc := 72) (lv2 := [(5, .int (v5 ||| (shl 1 v6))), (0, .ref (G.2.2 0)), (2, .int v2), (4, .ref (G.2.2 k4)), (6, .int v6)]) C dX8_damps_72 (by decide) rfl ?_
        refine g_lv [1, 2, 3, 0, 4] (lv2 := [(0, .ref (G.2.2 0)), (2, .int v2), (4, .ref (G.2.2 k4)), (5, .int (v5 ||| (shl 1 v6))), (6, .int v6)]) rfl ?_
        exact k_X8_damps_74 C hk4 (fun _ _ h_ => ih h_) h
set_option maxHeartbeats 4000000 in
set_option maxRecDepth 100000 in
theorem M_X8_damps {l : Launch} {G : Gp} (hD : Dj shC G) {v1 : Int32} {v2 : Int32} {σ : St} {K : Int32 → St → Prop} (h : wp_X8_damps v1 v2 σ K) : MC l shC G yX8_damps cX8_damps 7 (some .int) 4 [.ref (G.2.2 0), .int v1, .int v2] σ (RI K) := by
  unfold wp_X8_damps at h
  refine MC.of (by decide) hD (Nat.le_of_ble_eq_true rfl) ?_
  intro p e s m args below meth c C
  replace C : Cx p (rmD 4) s m args meth c shC G cX8_damps 7 4 RX8 (some .int) 0 0 := C
  show Go p l e (rmD 4) s m args below meth c shC G 7 0 0 (MQ below (Qw shC G (RI K)) args s 0 0 (Fr shC G)) 0 [(0, .ref (G.2.2 0)), (1, .int v1), (2, .int v2)] [] σ
  refine g_aload_n (pc := 0) C 0 dX8_damps_0 rfl rfl ?_
  refine g_iload_n (pc := 1) C 1 dX8_damps_1 rfl rfl ?_
  refine g_iload_n (pc := 2) C 2 dX8_damps_2 rfl rfl ?_
  refine g_callVi (pc := 3) (As := [.int v1, .int v2]) (rest := []) C rfl rfl rfl rfl (M_X8_refuseTold C.2.2.1  h) CyX8_refuseTold tw_756 tw_758 ts_21 (by decide) rfl rfl (Nat.le_of_ble_eq_true rfl) dX8_damps_3 (fun r3 t3 h => ?_)
  refine g_istore_n (pc := 6) (lv2 := [(3, .int r3), (0, .ref (G.2.2 0)), (1, .int v1), (2, .int v2)]) C dX8_damps_6 rfl (by decide) rfl ?_
  refine g_iload_n (pc := 7) C 0 dX8_damps_7 rfl rfl ?_
  refine g_if_eq (pc := 8) (tgt := 13) C dX8_damps_8 (by decide) (fun c_ => ?_) (fun c_ => ?_)
  · replace h := ite_t h c_
    refine g_aload_n (pc := 13) C 1 dX8_damps_13 rfl rfl ?_
    refine get_X8_3 (pc := 14) C rfl tw_197 dX8_damps_14 ?_
    refine get_X7_0 (pc := 17) C rfl tw_72 dX8_damps_17 ?_
    refine g_iload_n (pc := 20) C 2 dX8_damps_20 rfl rfl ?_
    obtain ⟨g_, h⟩ := h
    have hs21_ : shC[(28 + v1.toNatClampNeg)]? = some (0, 0, 0) := sh7_e (k := 25) rfl g_
    refine g_aldB (pc := 21) C (sh7_0 rfl) g_ dX8_damps_21 ?_
    refine g_astore (pc := 22) (lv2 := [(4, .ref (G.2.2 (28 + v1.toNatClampNeg))), (3, .int r3), (0, .ref (G.2.2 0)), (1, .int v1), (2, .int v2)]) C dX8_damps_22 (by decide) rfl ?_
    refine g_iconst (pc := 24) (v := 0) C dX8_damps_24 ic_0 ?_
    refine g_istore (pc := 25) (lv2 := [(5, .int 0), (4, .ref (G.2.2 (28 + v1.toNatClampNeg))), (3, .int r3), (0, .ref (G.2.2 0)), (1, .int v1), (2, .int v2)]) C dX8_damps_25 (by decide) rfl ?_
    refine g_iconst (pc := 27) (v := 0) C dX8_damps_27 ic_0 ?_
    refine g_istore (pc := 28) (lv2 := [(6, .int 0), (5, .int 0), (4, .ref (G.2.2 (28 + v1.toNatClampNeg))), (3, .int r3), (0, .ref (G.2.2 0)), (1, .int v1), (2, .int v2)]) C dX8_damps_28 (by decide) rfl ?_
    refine g_lv [4, 6, 2, 1, 0] (lv2 := [(0, .ref (G.2.2 0)), (2, .int v2), (4, .ref (G.2.2 (28 + v1.toNatClampNeg))), (5, .int 0), (6, .int 0)]) rfl ?_
    exact k_X8_damps_30 C hs21_ h
  · replace h := ite_f h c_
    refine g_iload_n (pc := 11) C 0 dX8_damps_11 rfl rfl ?_
    exact g_iret (pc := 12) C dX8_damps_12 ⟨_, rfl, h⟩
set_option maxHeartbeats 4000000 in
set_option maxRecDepth 100000 in
theorem k_X6_digestOn_26 {k0 : Nat} {n0 : Nat} {v3 : Int64} {v5 : Int32} {σ : St} {K : Int64 → Prop} (C : Cx p R s m args meth c shC G cX6_digestOn 6 1 RX6 (some .long) 0 0) (hk0 : shC[k0]? = some (6, n0, 0)) (h : L_X6_digestOn_26 k0 n0 σ K v3 v5) : Go p l e R s m args below meth c shC G 6 0 0 (MQ below (Qw shC G (RJ (fun r t => t = σ ∧ K r))) args s 0 0 (Fr shC G)) 26 [(0, .ref (G.2.2 k0)), (3, .long v3), (5, .int v5)] [] σ := by
  obtain ⟨n_, h⟩ := h
  induction n_ generalizing v3 v5 with
  | zero => exact h.elim
  | succ n_ ih =>
    replace h : B_X6_digestOn_26 k0 n0 σ K (it2 (B_X6_digestOn_26 k0 n0 σ K) n_) v3 v5 := h
    unfold B_X6_digestOn_26 at h
    refine g_iload (pc := 26) C 2 dX6_digestOn_26 rfl ?_
    refine g_aload_n (pc := 28) C 0 dX6_digestOn_28 rfl rfl ?_
    refine get_X6_2 (pc := 29) C hk0 tw_184 dX6_digestOn_29 ?_
    refine g_icmp_ge (pc := 32) (tgt := 56) C dX6_digestOn_32 (by decide) (fun c_ => ?_) (fun c_ => ?_)
    · replace h := ite_t h c_
      refine g_lload_n (pc := 56) C 1 dX6_digestOn_56 rfl rfl ?_
      exact g_lret (pc := 57) C dX6_digestOn_57 ⟨_, rfl, ⟨rfl, h⟩⟩
    · replace h := ite_f h c_
      refine g_ldc2 (pc := 35) (v := 31) C dX6_digestOn_35 tw_854 ?_
      refine g_lload_n (pc := 38) C 1 dX6_digestOn_38 rfl rfl ?_
      refine g_lmul (pc := 39) C dX6_digestOn_39 ?_
      refine g_aload_n (pc := 40) C 0 dX6_digestOn_40 rfl rfl ?_
      refine get_X6_0 (pc := 41) C hk0 tw_179 dX6_digestOn_41 ?_
      refine g_iload (pc := 44) C 2 dX6_digestOn_44 rfl ?_
      obtain ⟨g_, h⟩ := h
      refine g_iald (pc := 46) C (sh6_0 hk0) g_ dX6_digestOn_46 ?_
      refine g_i2l (pc := 47) C dX6_digestOn_47 ?_
      refine g_ladd (pc := 48) C dX6_digestOn_48 ?_
      refine g_lstore_n (pc := 49) (lv2 := [(3, .long (((31 : Int64) * v3) + (σ.1 (k0 + 1) v5.toNatClampNeg).toInt64)), (0, .ref (G.2.2 k0)), (5, .int v5)]) C dX6_digestOn_49 rfl (by decide) rfl ?_
      refine g_iinc (pc := 50) (lv2 := [(5, .int (v5 + 1)), (3, .long (((31 : Int64) * v3) + (σ.1 (k0 + 1) v5.toNatClampNeg).toInt64)), (0, .ref (G.2.2 k0))]) C 2 dX6_digestOn_50 ic_1 rfl (by decide) rfl ?_
      refine g_goto (pc := 53) (tgt := 26) C dX6_digestOn_53 (by decide) ?_
      refine g_lv [2, 1, 0] (lv2 := [(0, .ref (G.2.2 k0)), (3, .long (((31 : Int64) * v3) + (σ.1 (k0 + 1) v5.toNatClampNeg).toInt64)), (5, .int (v5 + 1))]) rfl ?_
      exact ih h
set_option maxHeartbeats 4000000 in
set_option maxRecDepth 100000 in
theorem k_X6_digestOn_20 {k0 : Nat} {n0 : Nat} {w0 : Int64} {w1 : Int32} {σ : St} {K : Int64 → Prop} (C : Cx p R s m args meth c shC G cX6_digestOn 6 1 RX6 (some .long) 0 0) (hk0 : shC[k0]? = some (6, n0, 0)) (h : J_X6_digestOn_20 k0 n0 w0 w1 σ K) : Go p l e R s m args below meth c shC G 6 0 0 (MQ below (Qw shC G (RJ (fun r t => t = σ ∧ K r))) args s 0 0 (Fr shC G)) 20 [(0, .ref (G.2.2 k0))] [.int w1, .long w0] σ := by
  unfold J_X6_digestOn_20 at h
  refine g_i2l (pc := 20) C dX6_digestOn_20 ?_
  refine g_ladd (pc := 21) C dX6_digestOn_21 ?_
  refine g_lstore_n (pc := 22) (lv2 := [(3, .long (w0 + w1.toInt64)), (0, .ref (G.2.2 k0))]) C dX6_digestOn_22 rfl (by decide) rfl ?_
  refine g_iconst (pc := 23) (v := 0) C dX6_digestOn_23 ic_0 ?_
  refine g_istore (pc := 24) (lv2 := [(5, .int 0), (3, .long (w0 + w1.toInt64)), (0, .ref (G.2.2 k0))]) C dX6_digestOn_24 (by decide) rfl ?_
  refine g_lv [2, 1, 0] (lv2 := [(0, .ref (G.2.2 k0)), (3, .long (w0 + w1.toInt64)), (5, .int 0)]) rfl ?_
  exact k_X6_digestOn_26 C hk0 h
set_option maxHeartbeats 4000000 in
set_option maxRecDepth 100000 in
theorem M_X6_digestOn {l : Launch} {G : Gp} (hD : Dj shC G) {k0 : Nat} {n0 : Nat} {v1 : Int64} {σ : St} {K : Int64 → Prop} (hk0 : shC[k0]? = some (6, n0, 0)) (h : wp_X6_digestOn k0 n0 v1 σ K) : MC l shC G yX6_digestOn cX6_digestOn 6 (some .long) 1 [.ref (G.2.2 k0), .long v1] σ (RJ (fun r t => t = σ ∧ K r)) := by
  unfold wp_X6_digestOn at h
  refine MC.of (by decide) hD (Nat.le_of_ble_eq_true rfl) ?_
  intro p e s m args below meth c C
  replace C : Cx p (rmD 1) s m args meth c shC G cX6_digestOn 6 1 RX6 (some .long) 0 0 := C
  show Go p l e (rmD 1) s m args below meth c shC G 6 0 0 (MQ below (Qw shC G (RJ (fun r t => t = σ ∧ K r))) args s 0 0 (Fr shC G)) 0 [(0, .ref (G.2.2 k0)), (1, .long v1)] [] σ
  refine g_ldc2 (pc := 0) (v := 31) C dX6_digestOn_0 tw_854 ?_
  refine g_lload_n (pc := 3) C 1 dX6_digestOn_3 rfl rfl ?_
  refine g_lmul (pc := 4) C dX6_digestOn_4 ?_
  refine g_aload_n (pc := 5) C 0 dX6_digestOn_5 rfl rfl ?_
  refine get_X6_1 (pc := 6) C hk0 tw_182 dX6_digestOn_6 ?_
  refine g_if_eq (pc := 9) (tgt := 19) C dX6_digestOn_9 (by decide) (fun c_ => ?_) (fun c_ => ?_)
  · replace h := ite_t h c_
    refine g_iconst (pc := 19) (v := -1) C dX6_digestOn_19 ic_m1 ?_
    refine g_lv [0] (lv2 := [(0, .ref (G.2.2 k0))]) rfl ?_
    exact k_X6_digestOn_20 C hk0 h
  · replace h := ite_f h c_
    refine g_aload_n (pc := 12) C 0 dX6_digestOn_12 rfl rfl ?_
    refine get_X6_2 (pc := 13) C hk0 tw_184 dX6_digestOn_13 ?_
    refine g_goto (pc := 16) (tgt := 20) C dX6_digestOn_16 (by decide) ?_
    refine g_lv [0] (lv2 := [(0, .ref (G.2.2 k0))]) rfl ?_
    exact k_X6_digestOn_20 C hk0 h
set_option maxHeartbeats 4000000 in
set_option maxRecDepth 100000 in
theorem k_X8_digest_161 {v1 : Int64} {v3 : Int32} {σ : St} {K : Int64 → Prop} (C : Cx p R s m args meth c shC G cX8_digest 5 4 RX8 (some .long) 0 0) (h : L_X8_digest_161 σ K v1 v3) : Go p l e R s m args below meth c shC G 5 0 0 (MQ below (Qw shC G (RJ (fun r t => t = σ ∧ K r))) args s 0 0 (Fr shC G)) 161 [(0, .ref (G.2.2 0)), (1, .long v1), (3, .int v3)] [] σ := by
  obtain ⟨n_, h⟩ := h
  induction n_ generalizing v1 v3 with
  | zero => exact h.elim
  | succ n_ ih =>
    replace h : B_X8_digest_161 σ K (it2 (B_X8_digest_161 σ K) n_) v1 v3 := h
    unfold B_X8_digest_161 at h
    refine g_iload_n (pc := 161) C 2 dX8_digest_161 rfl rfl ?_
    refine g_iconst (pc := 162) (v := 4) C dX8_digest_162 ic_4 ?_
    refine g_icmp_ge (pc := 163) (tgt := 183) C dX8_digest_163 (by decide) (fun c_ => ?_) (fun c_ => ?_)
    · replace h := ite_t h c_
      refine g_lload_n (pc := 183) C 1 dX8_digest_183 rfl rfl ?_
      exact g_lret (pc := 184) C dX8_digest_184 ⟨_, rfl, ⟨rfl, h⟩⟩
    · replace h := ite_f h c_
      refine g_aload_n (pc := 166) C 0 dX8_digest_166 rfl rfl ?_
      refine get_X8_1 (pc := 167) C rfl tw_195 dX8_digest_167 ?_
      refine g_iload_n (pc := 170) C 2 dX8_digest_170 rfl rfl ?_
      obtain ⟨g_, h⟩ := h
      have hs171_ : shC[(17 + 2 * v3.toNatClampNeg)]? = some (6, 60, 0) := shR17 g_
      refine g_aldR (pc := 171) C rfl g_ dX8_digest_171 ?_
      refine g_lload_n (pc := 172) C 1 dX8_digest_172 rfl rfl ?_
      refine g_callVlp (pc := 173) (As := [.long v1]) (rest := []) C hs171_ rfl rfl rfl (M_X6_digestOn C.2.2.1 hs171_ h) CyX6_digestOn tw_850 tw_851 tw_852 (by decide) rfl rfl (Nat.le_of_ble_eq_true rfl) dX8_digest_173 (fun r173 h => ?_)
      refine g_lstore_n (pc := 176) (lv2 := [(1, .long r173), (0, .ref (G.2.2 0)), (3, .int v3)]) C dX8_digest_176 rfl (by decide) rfl ?_
      refine g_iinc (pc := 177) (lv2 := [(3, .int (v3 + 1)), (1, .long r173), (0, .ref (G.2.2 0))]) C 2 dX8_digest_177 ic_1 rfl (by decide) rfl ?_
      refine g_goto (pc := 180) (tgt := 161) C dX8_digest_180 (by decide) ?_
      refine g_lv [2, 1, 0] (lv2 := [(0, .ref (G.2.2 0)), (1, .long r173), (3, .int (v3 + 1))]) rfl ?_
      exact ih h
set_option maxHeartbeats 4000000 in
set_option maxRecDepth 100000 in
theorem k_X8_digest_136 {v1 : Int64} {v3 : Int32} {σ : St} {K : Int64 → Prop} (C : Cx p R s m args meth c shC G cX8_digest 5 4 RX8 (some .long) 0 0) (h : L_X8_digest_136 σ K v1 v3) : Go p l e R s m args below meth c shC G 5 0 0 (MQ below (Qw shC G (RJ (fun r t => t = σ ∧ K r))) args s 0 0 (Fr shC G)) 136 [(0, .ref (G.2.2 0)), (1, .long v1), (3, .int v3)] [] σ := by
  obtain ⟨n_, h⟩ := h
  induction n_ generalizing v1 v3 with
  | zero => exact h.elim
  | succ n_ ih =>
    replace h : B_X8_digest_136 σ K (it2 (B_X8_digest_136 σ K) n_) v1 v3 := h
    unfold B_X8_digest_136 at h
    refine g_iload_n (pc := 136) C 2 dX8_digest_136 rfl rfl ?_
    refine g_bipush (pc := 137) (v := 6) C dX8_digest_137 bp_6 ?_
    refine g_icmp_ge (pc := 139) (tgt := 159) C dX8_digest_139 (by decide) (fun c_ => ?_) (fun c_ => ?_)
    · replace h := ite_t h c_
      refine g_iconst (pc := 159) (v := 0) C dX8_digest_159 ic_0 ?_
      refine g_istore_n (pc := 160) (lv2 := [(3, .int 0), (0, .ref (G.2.2 0)), (1, .long v1)]) C dX8_digest_160 rfl (by decide) rfl ?_
      refine g_lv [1, 2, 0] (lv2 := [(0, .ref (G.2.2 0)), (1, .long v1), (3, .int 0)]) rfl ?_
      exact k_X8_digest_161 C  h
    · replace h := ite_f h c_
      refine g_aload_n (pc := 142) C 0 dX8_digest_142 rfl rfl ?_
      refine get_X8_0 (pc := 143) C rfl tw_194 dX8_digest_143 ?_
      refine g_iload_n (pc := 146) C 2 dX8_digest_146 rfl rfl ?_
      obtain ⟨g_, h⟩ := h
      have hs147_ : shC[(5 + 2 * v3.toNatClampNeg)]? = some (6, 40, 0) := shR5 g_
      refine g_aldR (pc := 147) C rfl g_ dX8_digest_147 ?_
      refine g_lload_n (pc := 148) C 1 dX8_digest_148 rfl rfl ?_
      refine g_callVlp (pc := 149) (As := [.long v1]) (rest := []) C hs147_ rfl rfl rfl (M_X6_digestOn C.2.2.1 hs147_ h) CyX6_digestOn tw_850 tw_851 tw_852 (by decide) rfl rfl (Nat.le_of_ble_eq_true rfl) dX8_digest_149 (fun r149 h => ?_)
      refine g_lstore_n (pc := 152) (lv2 := [(1, .long r149), (0, .ref (G.2.2 0)), (3, .int v3)]) C dX8_digest_152 rfl (by decide) rfl ?_
      refine g_iinc (pc := 153) (lv2 := [(3, .int (v3 + 1)), (1, .long r149), (0, .ref (G.2.2 0))]) C 2 dX8_digest_153 ic_1 rfl (by decide) rfl ?_
      refine g_goto (pc := 156) (tgt := 136) C dX8_digest_156 (by decide) ?_
      refine g_lv [2, 1, 0] (lv2 := [(0, .ref (G.2.2 0)), (1, .long r149), (3, .int (v3 + 1))]) rfl ?_
      exact ih h
set_option maxHeartbeats 4000000 in
set_option maxRecDepth 100000 in
theorem k_X8_digest_125 {v3 : Int32} {w0 : Int64} {w1 : Int32} {σ : St} {K : Int64 → Prop} {Φ90 : Int64 → Int32 → Prop} (C : Cx p R s m args meth c shC G cX8_digest 5 4 RX8 (some .long) 0 0) (hΦ90 : ∀ (v1' : Int64) (v3' : Int32), Φ90 v1' v3' → Go p l e R s m args below meth c shC G 5 0 0 (MQ below (Qw shC G (RJ (fun r t => t = σ ∧ K r))) args s 0 0 (Fr shC G)) 90 [(0, .ref (G.2.2 0)), (1, .long (v1')), (3, .int (v3'))] [] σ) (h : J_X8_digest_125 v3 w0 w1 σ K Φ90) : Go p l e R s m args below meth c shC G 5 0 0 (MQ below (Qw shC G (RJ (fun r t => t = σ ∧ K r))) args s 0 0 (Fr shC G)) 125 [(0, .ref (G.2.2 0)), (3, .int v3)] [.int w1, .long w0] σ := by
  unfold J_X8_digest_125 at h
  refine g_i2l (pc := 125) C dX8_digest_125 ?_
  refine g_ladd (pc := 126) C dX8_digest_126 ?_
  refine g_lstore_n (pc := 127) (lv2 := [(1, .long (w0 + w1.toInt64)), (0, .ref (G.2.2 0)), (3, .int v3)]) C dX8_digest_127 rfl (by decide) rfl ?_
  refine g_iinc (pc := 128) (lv2 := [(3, .int (v3 + 1)), (1, .long (w0 + w1.toInt64)), (0, .ref (G.2.2 0))]) C 2 dX8_digest_128 ic_1 rfl (by decide) rfl ?_
  refine g_goto (pc := 131) (tgt := 90) C dX8_digest_131 (by decide) ?_
  refine g_lv [2, 1, 0] (lv2 := [(0, .ref (G.2.2 0)), (1, .long (w0 + w1.toInt64)), (3, .int (v3 + 1))]) rfl ?_
  exact hΦ90 _ _ h
set_option maxHeartbeats 4000000 in
set_option maxRecDepth 100000 in
theorem k_X8_digest_90 {v1 : Int64} {v3 : Int32} {σ : St} {K : Int64 → Prop} (C : Cx p R s m args meth c shC G cX8_digest 5 4 RX8 (some .long) 0 0) (h : L_X8_digest_90 σ K v1 v3) : Go p l e R s m args below meth c shC G 5 0 0 (MQ below (Qw shC G (RJ (fun r t => t = σ ∧ K r))) args s 0 0 (Fr shC G)) 90 [(0, .ref (G.2.2 0)), (1, .long v1), (3, .int v3)] [] σ := by
  obtain ⟨n_, h⟩ := h
  induction n_ generalizing v1 v3 with
  | zero => exact h.elim
  | succ n_ ih =>
    replace h : B_X8_digest_90 σ K (it2 (B_X8_digest_90 σ K) n_) v1 v3 := h
    unfold B_X8_digest_90 at h
    refine g_iload_n (pc := 90) C 2 dX8_digest_90 rfl rfl ?_
    refine g_iconst (pc := 91) (v := 3) C dX8_digest_91 ic_3 ?_
    refine g_icmp_ge (pc := 92) (tgt := 134) C dX8_digest_92 (by decide) (fun c_ => ?_) (fun c_ => ?_)
    · replace h := ite_t h c_
      refine g_iconst (pc := 134) (v := 0) C dX8_digest_134 ic_0 ?_
      refine g_istore_n (pc := 135) (lv2 := [(3, .int 0), (0, .ref (G.2.2 0)), (1, .long v1)]) C dX8_digest_135 rfl (by decide) rfl ?_
      refine g_lv [1, 2, 0] (lv2 := [(0, .ref (G.2.2 0)), (1, .long v1), (3, .int 0)]) rfl ?_
      exact k_X8_digest_136 C  h
    · replace h := ite_f h c_
      refine g_ldc2 (pc := 95) (v := 31) C dX8_digest_95 tw_848 ?_
      refine g_lload_n (pc := 98) C 1 dX8_digest_98 rfl rfl ?_
      refine g_lmul (pc := 99) C dX8_digest_99 ?_
      refine g_aload_n (pc := 100) C 0 dX8_digest_100 rfl rfl ?_
      refine get_X8_2 (pc := 101) C rfl tw_196 dX8_digest_101 ?_
      refine g_iload_n (pc := 104) C 2 dX8_digest_104 rfl rfl ?_
      obtain ⟨g_, h⟩ := h
      have hs105_ : shC[(43 + 9 * v3.toNatClampNeg)]? = some (7, 0, 0) := shT g_
      refine g_aldT (pc := 105) C rfl g_ dX8_digest_105 ?_
      refine get_X7_2 (pc := 106) C hs105_ tw_76 dX8_digest_106 ?_
      refine g_if_ne (pc := 109) (tgt := 116) C dX8_digest_109 (by decide) (fun c_ => ?_) (fun c_ => ?_)
      · replace h := ite_f h c_
        refine g_aload_n (pc := 116) C 0 dX8_digest_116 rfl rfl ?_
        refine get_X8_2 (pc := 117) C rfl tw_196 dX8_digest_117 ?_
        refine g_iload_n (pc := 120) C 2 dX8_digest_120 rfl rfl ?_
        obtain ⟨g_, h⟩ := h
        have hs121_ : shC[(43 + 9 * v3.toNatClampNeg)]? = some (7, 0, 0) := shT g_
        refine g_aldT (pc := 121) C rfl g_ dX8_digest_121 ?_
        refine get_X7_4 (pc := 122) C hs121_ tw_80 dX8_digest_122 ?_
        refine g_lv [0, 2] (lv2 := [(0, .ref (G.2.2 0)), (3, .int v3)]) rfl ?_
        exact k_X8_digest_125 C (fun _ _ h_ => ih h_) h
      · replace h := ite_t h c_
        refine g_iconst (pc := 112) (v := -1) C dX8_digest_112 ic_m1 ?_
        refine g_goto (pc := 113) (tgt := 125) C dX8_digest_113 (by decide) ?_
        refine g_lv [0, 2] (lv2 := [(0, .ref (G.2.2 0)), (3, .int v3)]) rfl ?_
        exact k_X8_digest_125 C (fun _ _ h_ => ih h_) h
set_option maxHeartbeats 4000000 in
set_option maxRecDepth 100000 in
theorem k_X8_digest_47 {v1 : Int64} {v3 : Int32} {v4 : Int32} {σ : St} {K : Int64 → Prop} {Φ33 : Int64 → Int32 → Prop} (C : Cx p R s m args meth c shC G cX8_digest 5 4 RX8 (some .long) 0 0) (hΦ33 : ∀ (v1' : Int64) (v3' : Int32), Φ33 v1' v3' → Go p l e R s m args below meth c shC G 5 0 0 (MQ below (Qw shC G (RJ (fun r t => t = σ ∧ K r))) args s 0 0 (Fr shC G)) 33 [(0, .ref (G.2.2 0)), (1, .long (v1')), (3, .int (v3'))] [] σ) (h : L_X8_digest_47 v3 σ K Φ33 v1 v4) : Go p l e R s m args below meth c shC G 5 0 0 (MQ below (Qw shC G (RJ (fun r t => t = σ ∧ K r))) args s 0 0 (Fr shC G)) 47 [(0, .ref (G.2.2 0)), (1, .long v1), (3, .int v3), (4, .int v4)] [] σ := by
  obtain ⟨n_, h⟩ := h
  induction n_ generalizing v1 v4 with
  | zero => exact h.elim
  | succ n_ ih =>
    replace h : B_X8_digest_47 v3 σ K Φ33 (it2 (B_X8_digest_47 v3 σ K Φ33) n_) v1 v4 := h
    unfold B_X8_digest_47 at h
    refine g_iload (pc := 47) C 3 dX8_digest_47 rfl ?_
    refine g_bipush (pc := 49) (v := 6) C dX8_digest_49 bp_6 ?_
    refine g_icmp_ge (pc := 51) (tgt := 82) C dX8_digest_51 (by decide) (fun c_ => ?_) (fun c_ => ?_)
    · replace h := ite_t h c_
      refine g_iinc (pc := 82) (lv2 := [(3, .int (v3 + 1)), (0, .ref (G.2.2 0)), (1, .long v1), (4, .int v4)]) C 2 dX8_digest_82 ic_1 rfl (by decide) rfl ?_
      refine g_goto (pc := 85) (tgt := 33) C dX8_digest_85 (by decide) ?_
      refine g_lv [1, 2, 0] (lv2 := [(0, .ref (G.2.2 0)), (1, .long v1), (3, .int (v3 + 1))]) rfl ?_
      exact hΦ33 _ _ h
    · replace h := ite_f h c_
      refine g_ldc2 (pc := 54) (v := 31) C dX8_digest_54 tw_848 ?_
      refine g_lload_n (pc := 57) C 1 dX8_digest_57 rfl rfl ?_
      refine g_lmul (pc := 58) C dX8_digest_58 ?_
      refine g_aload_n (pc := 59) C 0 dX8_digest_59 rfl rfl ?_
      refine get_X8_3 (pc := 60) C rfl tw_197 dX8_digest_60 ?_
      refine get_X7_0 (pc := 63) C rfl tw_72 dX8_digest_63 ?_
      refine g_iload_n (pc := 66) C 2 dX8_digest_66 rfl rfl ?_
      obtain ⟨g_, h⟩ := h
      have hs67_ : shC[(28 + v3.toNatClampNeg)]? = some (0, 0, 0) := sh7_e (k := 25) rfl g_
      refine g_aldB (pc := 67) C (sh7_0 rfl) g_ dX8_digest_67 ?_
      refine g_iload (pc := 68) C 3 dX8_digest_68 rfl ?_
      refine g_callVip (pc := 70) (As := [.int v4]) (rest := [.long ((31 : Int64) * v1)]) C hs67_ rfl rfl rfl (M_X0_tell C.2.2.1 hs67_ h) CyX0_tell tw_385 tw_386 tw_387 (by decide) rfl rfl (Nat.le_of_ble_eq_true rfl) dX8_digest_70 (fun r70 h => ?_)
      refine g_i2l (pc := 73) C dX8_digest_73 ?_
      refine g_ladd (pc := 74) C dX8_digest_74 ?_
      refine g_lstore_n (pc := 75) (lv2 := [(1, .long (((31 : Int64) * v1) + r70.toInt64)), (0, .ref (G.2.2 0)), (3, .int v3), (4, .int v4)]) C dX8_digest_75 rfl (by decide) rfl ?_
      refine g_iinc (pc := 76) (lv2 := [(4, .int (v4 + 1)), (1, .long (((31 : Int64) * v1) + r70.toInt64)), (0, .ref (G.2.2 0)), (3, .int v3)]) C 3 dX8_digest_76 ic_1 rfl (by decide) rfl ?_
      refine g_goto (pc := 79) (tgt := 47) C dX8_digest_79 (by decide) ?_
      refine g_lv [2, 1, 3, 0] (lv2 := [(0, .ref (G.2.2 0)), (1, .long (((31 : Int64) * v1) + r70.toInt64)), (3, .int v3), (4, .int (v4 + 1))]) rfl ?_
      exact ih h
set_option maxHeartbeats 4000000 in
set_option maxRecDepth 100000 in
theorem k_X8_digest_33 {v1 : Int64} {v3 : Int32} {σ : St} {K : Int64 → Prop} (C : Cx p R s m args meth c shC G cX8_digest 5 4 RX8 (some .long) 0 0) (h : L_X8_digest_33 σ K v1 v3) : Go p l e R s m args below meth c shC G 5 0 0 (MQ below (Qw shC G (RJ (fun r t => t = σ ∧ K r))) args s 0 0 (Fr shC G)) 33 [(0, .ref (G.2.2 0)), (1, .long v1), (3, .int v3)] [] σ := by
  obtain ⟨n_, h⟩ := h
  induction n_ generalizing v1 v3 with
  | zero => exact h.elim
  | succ n_ ih =>
    replace h : B_X8_digest_33 σ K (it2 (B_X8_digest_33 σ K) n_) v1 v3 := h
    unfold B_X8_digest_33 at h
    refine g_iload_n (pc := 33) C 2 dX8_digest_33 rfl rfl ?_
    refine g_aload_n (pc := 34) C 0 dX8_digest_34 rfl rfl ?_
    refine get_X8_3 (pc := 35) C rfl tw_197 dX8_digest_35 ?_
    refine get_X7_2 (pc := 38) C rfl tw_76 dX8_digest_38 ?_
    refine g_icmp_ge (pc := 41) (tgt := 88) C dX8_digest_41 (by decide) (fun c_ => ?_) (fun c_ => ?_)
    · replace h := ite_t h c_
      refine g_iconst (pc := 88) (v := 0) C dX8_digest_88 ic_0 ?_
      refine g_istore_n (pc := 89) (lv2 := [(3, .int 0), (0, .ref (G.2.2 0)), (1, .long v1)]) C dX8_digest_89 rfl (by decide) rfl ?_
      refine g_lv [1, 2, 0] (lv2 := [(0, .ref (G.2.2 0)), (1, .long v1), (3, .int 0)]) rfl ?_
      exact k_X8_digest_90 C  h
    · replace h := ite_f h c_
      refine g_iconst (pc := 44) (v := 0) C dX8_digest_44 ic_0 ?_
      refine g_istore (pc := 45) (lv2 := [(4, .int 0), (0, .ref (G.2.2 0)), (1, .long v1), (3, .int v3)]) C dX8_digest_45 (by decide) rfl ?_
      refine g_lv [1, 2, 3, 0] (lv2 := [(0, .ref (G.2.2 0)), (1, .long v1), (3, .int v3), (4, .int 0)]) rfl ?_
      exact k_X8_digest_47 C (fun _ _ h_ => ih h_) h
set_option maxHeartbeats 4000000 in
set_option maxRecDepth 100000 in
theorem k_X8_digest_6 {v1 : Int64} {v3 : Int32} {σ : St} {K : Int64 → Prop} (C : Cx p R s m args meth c shC G cX8_digest 5 4 RX8 (some .long) 0 0) (h : L_X8_digest_6 σ K v1 v3) : Go p l e R s m args below meth c shC G 5 0 0 (MQ below (Qw shC G (RJ (fun r t => t = σ ∧ K r))) args s 0 0 (Fr shC G)) 6 [(0, .ref (G.2.2 0)), (1, .long v1), (3, .int v3)] [] σ := by
  obtain ⟨n_, h⟩ := h
  induction n_ generalizing v1 v3 with
  | zero => exact h.elim
  | succ n_ ih =>
    replace h : B_X8_digest_6 σ K (it2 (B_X8_digest_6 σ K) n_) v1 v3 := h
    unfold B_X8_digest_6 at h
    refine g_iload_n (pc := 6) C 2 dX8_digest_6 rfl rfl ?_
    refine g_bipush (pc := 7) (v := 9) C dX8_digest_7 bp_9 ?_
    refine g_icmp_ge (pc := 9) (tgt := 31) C dX8_digest_9 (by decide) (fun c_ => ?_) (fun c_ => ?_)
    · replace h := ite_t h c_
      refine g_iconst (pc := 31) (v := 0) C dX8_digest_31 ic_0 ?_
      refine g_istore_n (pc := 32) (lv2 := [(3, .int 0), (0, .ref (G.2.2 0)), (1, .long v1)]) C dX8_digest_32 rfl (by decide) rfl ?_
      refine g_lv [1, 2, 0] (lv2 := [(0, .ref (G.2.2 0)), (1, .long v1), (3, .int 0)]) rfl ?_
      exact k_X8_digest_33 C  h
    · replace h := ite_f h c_
      refine g_ldc2 (pc := 12) (v := 31) C dX8_digest_12 tw_848 ?_
      refine g_lload_n (pc := 15) C 1 dX8_digest_15 rfl rfl ?_
      refine g_lmul (pc := 16) C dX8_digest_16 ?_
      refine g_aload_n (pc := 17) C 0 dX8_digest_17 rfl rfl ?_
      refine g_iload_n (pc := 18) C 2 dX8_digest_18 rfl rfl ?_
      refine g_callVip (pc := 19) (As := [.int v3]) (rest := [.long ((31 : Int64) * v1)]) C rfl rfl rfl rfl (M_X8_count C.2.2.1  h) CyX8_count tw_849 tw_815 tw_816 (by decide) rfl rfl (Nat.le_of_ble_eq_true rfl) dX8_digest_19 (fun r19 h => ?_)
      refine g_i2l (pc := 22) C dX8_digest_22 ?_
      refine g_ladd (pc := 23) C dX8_digest_23 ?_
      refine g_lstore_n (pc := 24) (lv2 := [(1, .long (((31 : Int64) * v1) + r19.toInt64)), (0, .ref (G.2.2 0)), (3, .int v3)]) C dX8_digest_24 rfl (by decide) rfl ?_
      refine g_iinc (pc := 25) (lv2 := [(3, .int (v3 + 1)), (1, .long (((31 : Int64) * v1) + r19.toInt64)), (0, .ref (G.2.2 0))]) C 2 dX8_digest_25 ic_1 rfl (by decide) rfl ?_
      refine g_goto (pc := 28) (tgt := 6) C dX8_digest_28 (by decide) ?_
      refine g_lv [2, 1, 0] (lv2 := [(0, .ref (G.2.2 0)), (1, .long (((31 : Int64) * v1) + r19.toInt64)), (3, .int (v3 + 1))]) rfl ?_
      exact ih h
set_option maxHeartbeats 4000000 in
set_option maxRecDepth 100000 in
theorem M_X8_digest {l : Launch} {G : Gp} (hD : Dj shC G) {σ : St} {K : Int64 → Prop} (h : wp_X8_digest σ K) : MC l shC G yX8_digest cX8_digest 5 (some .long) 4 [.ref (G.2.2 0)] σ (RJ (fun r t => t = σ ∧ K r)) := by
  unfold wp_X8_digest at h
  refine MC.of (by decide) hD (Nat.le_of_ble_eq_true rfl) ?_
  intro p e s m args below meth c C
  replace C : Cx p (rmD 4) s m args meth c shC G cX8_digest 5 4 RX8 (some .long) 0 0 := C
  show Go p l e (rmD 4) s m args below meth c shC G 5 0 0 (MQ below (Qw shC G (RJ (fun r t => t = σ ∧ K r))) args s 0 0 (Fr shC G)) 0 [(0, .ref (G.2.2 0))] [] σ
  refine g_ldc2 (pc := 0) (v := 17) C dX8_digest_0 tw_847 ?_
  refine g_lstore_n (pc := 3) (lv2 := [(1, .long (17 : Int64)), (0, .ref (G.2.2 0))]) C dX8_digest_3 rfl (by decide) rfl ?_
  refine g_iconst (pc := 4) (v := 0) C dX8_digest_4 ic_0 ?_
  refine g_istore_n (pc := 5) (lv2 := [(3, .int 0), (1, .long (17 : Int64)), (0, .ref (G.2.2 0))]) C dX8_digest_5 rfl (by decide) rfl ?_
  refine g_lv [2, 1, 0] (lv2 := [(0, .ref (G.2.2 0)), (1, .long (17 : Int64)), (3, .int 0)]) rfl ?_
  exact k_X8_digest_6 C  h
set_option maxHeartbeats 4000000 in
set_option maxRecDepth 100000 in
theorem k_X8_drops_31 {k3 : Nat} {v4 : Int32} {v5 : Int32} {σ : St} {K : Int32 → Prop} (C : Cx p R s m args meth c shC G cX8_drops 6 3 RX8 (some .int) 0 0) (hk3 : shC[k3]? = some (0, 0, 0)) (h : L_X8_drops_31 k3 σ K v4 v5) : Go p l e R s m args below meth c shC G 6 0 0 (MQ below (Qw shC G (RI (fun r t => t = σ ∧ K r))) args s 0 0 (Fr shC G)) 31 [(3, .ref (G.2.2 k3)), (4, .int v4), (5, .int v5)] [] σ := by
  obtain ⟨n_, h⟩ := h
  induction n_ generalizing v4 v5 with
  | zero => exact h.elim
  | succ n_ ih =>
    replace h : B_X8_drops_31 k3 σ K (it2 (B_X8_drops_31 k3 σ K) n_) v4 v5 := h
    unfold B_X8_drops_31 at h
    refine g_iload (pc := 31) C 2 dX8_drops_31 rfl ?_
    refine g_bipush (pc := 33) (v := 30) C dX8_drops_33 bp_30 ?_
    refine g_icmp_gt (pc := 35) (tgt := 65) C dX8_drops_35 (by decide) (fun c_ => ?_) (fun c_ => ?_)
    · replace h := ite_t h c_
      refine g_bipush (pc := 65) (v := -9) C dX8_drops_65 bp_m9 ?_
      exact g_iret (pc := 67) C dX8_drops_67 ⟨_, rfl, ⟨rfl, h⟩⟩
    · replace h := ite_f h c_
      refine g_iload (pc := 38) C 1 dX8_drops_38 rfl ?_
      refine g_iconst (pc := 40) (v := 5) C dX8_drops_40 ic_5 ?_
      refine g_icmp_ge (pc := 41) (tgt := 47) C dX8_drops_41 (by decide) (fun c_ => ?_) (fun c_ => ?_)
      · replace h := ite_t h c_
        refine g_aload_n (pc := 47) C 0 dX8_drops_47 rfl rfl ?_
        refine get_X0_0 (pc := 48) C hk3 tw_42 dX8_drops_48 ?_
        refine g_iload (pc := 51) C 1 dX8_drops_51 rfl ?_
        refine g_iconst (pc := 53) (v := 0) C dX8_drops_53 ic_0 ?_
        refine g_callSip (pc := 54) (As := [.int (σ.1 k3 0), .int v4, .int 0]) (rest := []) C (M_X8_after C.2.2.1  h) CyX8_after tw_400 tw_401 (by decide) rfl rfl (Nat.le_of_ble_eq_true rfl) dX8_drops_54 (fun r54 h => ?_)
        refine g_istore (pc := 57) (lv2 := [(4, .int r54), (3, .ref (G.2.2 k3)), (5, .int v5)]) C dX8_drops_57 (by decide) rfl ?_
        refine g_iinc (pc := 59) (lv2 := [(5, .int (v5 + 1)), (4, .int r54), (3, .ref (G.2.2 k3))]) C 2 dX8_drops_59 ic_1 rfl (by decide) rfl ?_
        refine g_goto (pc := 62) (tgt := 31) C dX8_drops_62 (by decide) ?_
        refine g_lv [2, 1, 0] (lv2 := [(3, .ref (G.2.2 k3)), (4, .int r54), (5, .int (v5 + 1))]) rfl ?_
        exact ih h
      · replace h := ite_f h c_
        refine g_iload (pc := 44) C 2 dX8_drops_44 rfl ?_
        exact g_iret (pc := 46) C dX8_drops_46 ⟨_, rfl, ⟨rfl, h⟩⟩
set_option maxHeartbeats 4000000 in
set_option maxRecDepth 100000 in
theorem M_X8_drops {l : Launch} {G : Gp} (hD : Dj shC G) {v1 : Int32} {σ : St} {K : Int32 → Prop} (h : wp_X8_drops v1 σ K) : MC l shC G yX8_drops cX8_drops 6 (some .int) 3 [.ref (G.2.2 0), .int v1] σ (RI (fun r t => t = σ ∧ K r)) := by
  unfold wp_X8_drops at h
  refine MC.of (by decide) hD (Nat.le_of_ble_eq_true rfl) ?_
  intro p e s m args below meth c C
  replace C : Cx p (rmD 3) s m args meth c shC G cX8_drops 6 3 RX8 (some .int) 0 0 := C
  show Go p l e (rmD 3) s m args below meth c shC G 6 0 0 (MQ below (Qw shC G (RI (fun r t => t = σ ∧ K r))) args s 0 0 (Fr shC G)) 0 [(0, .ref (G.2.2 0)), (1, .int v1)] [] σ
  refine g_aload_n (pc := 0) C 0 dX8_drops_0 rfl rfl ?_
  refine g_iload_n (pc := 1) C 1 dX8_drops_1 rfl rfl ?_
  refine g_callVip (pc := 2) (As := [.int v1]) (rest := []) C rfl rfl rfl rfl (M_X8_refuseBell C.2.2.1  h) CyX8_refuseBell tw_435 tw_437 ts_7 (by decide) rfl rfl (Nat.le_of_ble_eq_true rfl) dX8_drops_2 (fun r2 h => ?_)
  refine g_istore_n (pc := 5) (lv2 := [(2, .int r2), (0, .ref (G.2.2 0)), (1, .int v1)]) C dX8_drops_5 rfl (by decide) rfl ?_
  refine g_iload_n (pc := 6) C 0 dX8_drops_6 rfl rfl ?_
  refine g_if_eq (pc := 7) (tgt := 12) C dX8_drops_7 (by decide) (fun c_ => ?_) (fun c_ => ?_)
  · replace h := ite_t h c_
    refine g_aload_n (pc := 12) C 1 dX8_drops_12 rfl rfl ?_
    refine get_X8_3 (pc := 13) C rfl tw_197 dX8_drops_13 ?_
    refine get_X7_0 (pc := 16) C rfl tw_72 dX8_drops_16 ?_
    refine g_iload_n (pc := 19) C 2 dX8_drops_19 rfl rfl ?_
    obtain ⟨g_, h⟩ := h
    have hs20_ : shC[(28 + v1.toNatClampNeg)]? = some (0, 0, 0) := sh7_e (k := 25) rfl g_
    refine g_aldB (pc := 20) C (sh7_0 rfl) g_ dX8_drops_20 ?_
    refine g_astore_n (pc := 21) (lv2 := [(3, .ref (G.2.2 (28 + v1.toNatClampNeg))), (2, .int r2), (0, .ref (G.2.2 0)), (1, .int v1)]) C dX8_drops_21 rfl (by decide) rfl ?_
    refine g_aload_n (pc := 22) C 0 dX8_drops_22 rfl rfl ?_
    refine get_X0_3 (pc := 23) C hs20_ tw_50 dX8_drops_23 ?_
    refine g_istore (pc := 26) (lv2 := [(4, .int (σ.1 (28 + v1.toNatClampNeg) 3)), (3, .ref (G.2.2 (28 + v1.toNatClampNeg))), (2, .int r2), (0, .ref (G.2.2 0)), (1, .int v1)]) C dX8_drops_26 (by decide) rfl ?_
    refine g_iconst (pc := 28) (v := 0) C dX8_drops_28 ic_0 ?_
    refine g_istore (pc := 29) (lv2 := [(5, .int 0), (4, .int (σ.1 (28 + v1.toNatClampNeg) 3)), (3, .ref (G.2.2 (28 + v1.toNatClampNeg))), (2, .int r2), (0, .ref (G.2.2 0)), (1, .int v1)]) C dX8_drops_29 (by decide) rfl ?_
    refine g_lv [2, 1, 0] (lv2 := [(3, .ref (G.2.2 (28 + v1.toNatClampNeg))), (4, .int (σ.1 (28 + v1.toNatClampNeg) 3)), (5, .int 0)]) rfl ?_
    exact k_X8_drops_31 C hs20_ h
  · replace h := ite_f h c_
    refine g_iload_n (pc := 10) C 0 dX8_drops_10 rfl rfl ?_
    exact g_iret (pc := 11) C dX8_drops_11 ⟨_, rfl, ⟨rfl, h⟩⟩
set_option maxHeartbeats 4000000 in
set_option maxRecDepth 100000 in
theorem k_X8_listen_88 {σ : St} {K : St → Prop} (C : Cx p R s m args meth c shC G cX8_listen 4 4 RX8 none 0 0) (h : J_X8_listen_88 σ K) : Go p l e R s m args below meth c shC G 4 0 0 (MQ below (Qw shC G (RV K)) args s 0 0 (Fr shC G)) 88 [] [] σ := by
  unfold J_X8_listen_88 at h
  exact g_vret (pc := 88) C dX8_listen_88 ⟨rfl, h⟩
set_option maxHeartbeats 4000000 in
set_option maxRecDepth 100000 in
theorem k_X8_listen_82 {k1 : Nat} {n1 : Nat} {v2 : Int32} {σ : St} {K : St → Prop} {Φ9 : Int32 → St → Prop} (C : Cx p R s m args meth c shC G cX8_listen 4 4 RX8 none 0 0) (hk1 : shC[k1]? = some (6, n1, 0)) (hΦ9 : ∀ (v2' : Int32) (σ' : St), Φ9 v2' σ' → Go p l e R s m args below meth c shC G 4 0 0 (MQ below (Qw shC G (RV K)) args s 0 0 (Fr shC G)) 9 [(0, .ref (G.2.2 0)), (1, .ref (G.2.2 k1)), (2, .int (v2'))] [] σ') (h : J_X8_listen_82 k1 n1 v2 σ K Φ9) : Go p l e R s m args below meth c shC G 4 0 0 (MQ below (Qw shC G (RV K)) args s 0 0 (Fr shC G)) 82 [(0, .ref (G.2.2 0)), (1, .ref (G.2.2 k1)), (2, .int v2)] [] σ := by
  unfold J_X8_listen_82 at h
  refine g_iinc (pc := 82) (lv2 := [(2, .int (v2 + 1)), (0, .ref (G.2.2 0)), (1, .ref (G.2.2 k1))]) C 2 dX8_listen_82 ic_1 rfl (by decide) rfl ?_
  refine g_goto (pc := 85) (tgt := 9) C dX8_listen_85 (by decide) ?_
  refine g_lv [1, 2, 0] (lv2 := [(0, .ref (G.2.2 0)), (1, .ref (G.2.2 k1)), (2, .int (v2 + 1))]) rfl ?_
  exact hΦ9 _ _ h
set_option maxHeartbeats 4000000 in
set_option maxRecDepth 100000 in
theorem k_X8_listen_62 {k1 : Nat} {n1 : Nat} {v2 : Int32} {w0 : Int32} {σ : St} {K : St → Prop} {Φ9 : Int32 → St → Prop} (C : Cx p R s m args meth c shC G cX8_listen 4 4 RX8 none 0 0) (hk1 : shC[k1]? = some (6, n1, 0)) (hΦ9 : ∀ (v2' : Int32) (σ' : St), Φ9 v2' σ' → Go p l e R s m args below meth c shC G 4 0 0 (MQ below (Qw shC G (RV K)) args s 0 0 (Fr shC G)) 9 [(0, .ref (G.2.2 0)), (1, .ref (G.2.2 k1)), (2, .int (v2'))] [] σ') (h : J_X8_listen_62 k1 n1 v2 w0 σ K Φ9) : Go p l e R s m args below meth c shC G 4 0 0 (MQ below (Qw shC G (RV K)) args s 0 0 (Fr shC G)) 62 [(0, .ref (G.2.2 0)), (1, .ref (G.2.2 k1)), (2, .int v2)] [.int w0] σ := by
  unfold J_X8_listen_62 at h
  refine g_istore_n (pc := 62) (lv2 := [(3, .int w0), (0, .ref (G.2.2 0)), (1, .ref (G.2.2 k1)), (2, .int v2)]) C dX8_listen_62 rfl (by decide) rfl ?_
  refine g_iload_n (pc := 63) C 0 dX8_listen_63 rfl rfl ?_
  refine g_bipush (pc := 64) (v := -9) C dX8_listen_64 bp_m9 ?_
  refine g_icmp_eq (pc := 66) (tgt := 82) C dX8_listen_66 (by decide) (fun c_ => ?_) (fun c_ => ?_)
  · replace h := ite_t h c_
    refine g_lv [1, 2, 3] (lv2 := [(0, .ref (G.2.2 0)), (1, .ref (G.2.2 k1)), (2, .int v2)]) rfl ?_
    exact k_X8_listen_82 C hk1 hΦ9 h
  · replace h := ite_f h c_
    refine g_aload_n (pc := 69) C 1 dX8_listen_69 rfl rfl ?_
    refine get_X8_5 (pc := 70) C rfl tw_199 dX8_listen_70 ?_
    refine g_iload_n (pc := 73) C 3 dX8_listen_73 rfl rfl ?_
    refine g_iconst (pc := 74) (v := 2) C dX8_listen_74 ic_2 ?_
    refine g_iload_n (pc := 75) C 3 dX8_listen_75 rfl rfl ?_
    refine g_imul (pc := 76) C dX8_listen_76 ?_
    refine g_iload_n (pc := 77) C 0 dX8_listen_77 rfl rfl ?_
    refine g_iadd (pc := 78) C dX8_listen_78 ?_
    refine g_callVv (pc := 79) (As := [.int v2, .int ((2 * v2) + w0)]) (rest := []) C rfl rfl rfl rfl (M_X3_enter C.2.2.1  h) CyX3_enter tw_484 tw_485 tw_486 (by decide) rfl rfl (Nat.le_of_ble_eq_true rfl) dX8_listen_79 (fun t79 h => ?_)
    refine g_lv [1, 2, 3] (lv2 := [(0, .ref (G.2.2 0)), (1, .ref (G.2.2 k1)), (2, .int v2)]) rfl ?_
    exact k_X8_listen_82 C hk1 hΦ9 h
set_option maxHeartbeats 4000000 in
set_option maxRecDepth 100000 in
theorem k_X8_listen_9 {k1 : Nat} {n1 : Nat} {v2 : Int32} {σ : St} {K : St → Prop} (C : Cx p R s m args meth c shC G cX8_listen 4 4 RX8 none 0 0) (hk1 : shC[k1]? = some (6, n1, 0)) (h : L_X8_listen_9 k1 n1 K v2 σ) : Go p l e R s m args below meth c shC G 4 0 0 (MQ below (Qw shC G (RV K)) args s 0 0 (Fr shC G)) 9 [(0, .ref (G.2.2 0)), (1, .ref (G.2.2 k1)), (2, .int v2)] [] σ := by
  obtain ⟨n_, h⟩ := h
  induction n_ generalizing v2 σ with
  | zero => exact h.elim
  | succ n_ ih =>
    replace h : B_X8_listen_9 k1 n1 K (it2 (B_X8_listen_9 k1 n1 K) n_) v2 σ := h
    unfold B_X8_listen_9 at h
    refine g_iload_n (pc := 9) C 2 dX8_listen_9 rfl rfl ?_
    refine g_aload_n (pc := 10) C 0 dX8_listen_10 rfl rfl ?_
    refine get_X8_3 (pc := 11) C rfl tw_197 dX8_listen_11 ?_
    refine get_X7_2 (pc := 14) C rfl tw_76 dX8_listen_14 ?_
    refine g_icmp_ge (pc := 17) (tgt := 88) C dX8_listen_17 (by decide) (fun c_ => ?_) (fun c_ => ?_)
    · replace h := ite_t h c_
      refine g_lv [] (lv2 := []) rfl ?_
      exact k_X8_listen_88 C  h
    · replace h := ite_f h c_
      refine g_iload_n (pc := 20) C 2 dX8_listen_20 rfl rfl ?_
      refine g_aload_n (pc := 21) C 1 dX8_listen_21 rfl rfl ?_
      refine get_X6_2 (pc := 22) C hk1 tw_186 dX8_listen_22 ?_
      refine g_icmp_ge (pc := 25) (tgt := 88) C dX8_listen_25 (by decide) (fun c_ => ?_) (fun c_ => ?_)
      · replace h := ite_t h c_
        refine g_lv [] (lv2 := []) rfl ?_
        exact k_X8_listen_88 C  h
      · replace h := ite_f h c_
        refine g_aload_n (pc := 28) C 0 dX8_listen_28 rfl rfl ?_
        refine get_X8_3 (pc := 29) C rfl tw_197 dX8_listen_29 ?_
        refine get_X7_0 (pc := 32) C rfl tw_72 dX8_listen_32 ?_
        refine g_iload_n (pc := 35) C 2 dX8_listen_35 rfl rfl ?_
        obtain ⟨g_, h⟩ := h
        have hs36_ : shC[(28 + v2.toNatClampNeg)]? = some (0, 0, 0) := sh7_e (k := 25) rfl g_
        refine g_aldB (pc := 36) C (sh7_0 rfl) g_ dX8_listen_36 ?_
        refine get_X0_5 (pc := 37) C hs36_ tw_55 dX8_listen_37 ?_
        refine g_if_eq (pc := 40) (tgt := 48) C dX8_listen_40 (by decide) (fun c_ => ?_) (fun c_ => ?_)
        · replace h := ite_t h c_
          refine g_aload_n (pc := 48) C 0 dX8_listen_48 rfl rfl ?_
          refine get_X8_3 (pc := 49) C rfl tw_197 dX8_listen_49 ?_
          refine g_iload_n (pc := 52) C 2 dX8_listen_52 rfl rfl ?_
          refine g_aload_n (pc := 53) C 1 dX8_listen_53 rfl rfl ?_
          refine get_X6_0 (pc := 54) C hk1 tw_180 dX8_listen_54 ?_
          refine g_iload_n (pc := 57) C 2 dX8_listen_57 rfl rfl ?_
          obtain ⟨g_, h⟩ := h
          refine g_iald (pc := 58) C (sh6_0 hk1) g_ dX8_listen_58 ?_
          refine g_callVip (pc := 59) (As := [.int v2, .int (σ.1 (k1 + 1) v2.toNatClampNeg)]) (rest := []) C rfl rfl rfl rfl (M_X7_tenthsBy C.2.2.1 rfl h) CyX7_tenthsBy tw_404 tw_405 tw_406 (by decide) rfl rfl (Nat.le_of_ble_eq_true rfl) dX8_listen_59 (fun r59 h => ?_)
          refine g_lv [0, 1, 2] (lv2 := [(0, .ref (G.2.2 0)), (1, .ref (G.2.2 k1)), (2, .int v2)]) rfl ?_
          exact k_X8_listen_62 C hk1 (fun _ _ h_ => ih h_) h
        · replace h := ite_f h c_
          refine g_bipush (pc := 43) (v := -9) C dX8_listen_43 bp_m9 ?_
          refine g_goto (pc := 45) (tgt := 62) C dX8_listen_45 (by decide) ?_
          refine g_lv [0, 1, 2] (lv2 := [(0, .ref (G.2.2 0)), (1, .ref (G.2.2 k1)), (2, .int v2)]) rfl ?_
          exact k_X8_listen_62 C hk1 (fun _ _ h_ => ih h_) h
set_option maxHeartbeats 4000000 in
set_option maxRecDepth 100000 in
theorem M_X8_listen {l : Launch} {G : Gp} (hD : Dj shC G) {k1 : Nat} {n1 : Nat} {σ : St} {K : St → Prop} (hk1 : shC[k1]? = some (6, n1, 0)) (h : wp_X8_listen k1 n1 σ K) : MC l shC G yX8_listen cX8_listen 4 none 4 [.ref (G.2.2 0), .ref (G.2.2 k1)] σ (RV K) := by
  unfold wp_X8_listen at h
  refine MC.of (by decide) hD (Nat.le_of_ble_eq_true rfl) ?_
  intro p e s m args below meth c C
  replace C : Cx p (rmD 4) s m args meth c shC G cX8_listen 4 4 RX8 none 0 0 := C
  show Go p l e (rmD 4) s m args below meth c shC G 4 0 0 (MQ below (Qw shC G (RV K)) args s 0 0 (Fr shC G)) 0 [(0, .ref (G.2.2 0)), (1, .ref (G.2.2 k1))] [] σ
  refine g_aload_n (pc := 0) C 0 dX8_listen_0 rfl rfl ?_
  refine get_X8_5 (pc := 1) C rfl tw_199 dX8_listen_1 ?_
  refine g_callVv (pc := 4) (As := []) (rest := []) C rfl rfl rfl rfl (M_X3_clear C.2.2.1  h) CyX3_clear tw_480 tw_481 tw_482 (by decide) rfl rfl (Nat.le_of_ble_eq_true rfl) dX8_listen_4 (fun t4 h => ?_)
  refine g_iconst (pc := 7) (v := 0) C dX8_listen_7 ic_0 ?_
  refine g_istore_n (pc := 8) (lv2 := [(2, .int 0), (0, .ref (G.2.2 0)), (1, .ref (G.2.2 k1))]) C dX8_listen_8 rfl (by decide) rfl ?_
  refine g_lv [1, 2, 0] (lv2 := [(0, .ref (G.2.2 0)), (1, .ref (G.2.2 k1)), (2, .int 0)]) rfl ?_
  exact k_X8_listen_9 C hk1 h
set_option maxHeartbeats 4000000 in
set_option maxRecDepth 100000 in
theorem k_X8_refuseRound_87 {w0 : Int32} {σ : St} {K : Int32 → St → Prop} (C : Cx p R s m args meth c shC G cX8_refuseRound 2 3 RX8 (some .int) 0 0) (h : J_X8_refuseRound_87 w0 σ K) : Go p l e R s m args below meth c shC G 2 0 0 (MQ below (Qw shC G (RI K)) args s 0 0 (Fr shC G)) 87 [] [.int w0] σ := by
  unfold J_X8_refuseRound_87 at h
  exact g_iret (pc := 87) C dX8_refuseRound_87 ⟨_, rfl, h⟩
set_option maxHeartbeats 4000000 in
set_option maxRecDepth 100000 in
theorem M_X8_refuseRound {l : Launch} {G : Gp} (hD : Dj shC G) {v1 : Int32} {σ : St} {K : Int32 → St → Prop} (h : wp_X8_refuseRound v1 σ K) : MC l shC G yX8_refuseRound cX8_refuseRound 2 (some .int) 3 [.ref (G.2.2 0), .int v1] σ (RI K) := by
  unfold wp_X8_refuseRound at h
  refine MC.of (by decide) hD (Nat.le_of_ble_eq_true rfl) ?_
  intro p e s m args below meth c C
  replace C : Cx p (rmD 3) s m args meth c shC G cX8_refuseRound 2 3 RX8 (some .int) 0 0 := C
  show Go p l e (rmD 3) s m args below meth c shC G 2 0 0 (MQ below (Qw shC G (RI K)) args s 0 0 (Fr shC G)) 0 [(0, .ref (G.2.2 0)), (1, .int v1)] [] σ
  refine g_iload_n (pc := 0) C 1 dX8_refuseRound_0 rfl rfl ?_
  refine g_callSip (pc := 1) (As := [.int v1]) (rest := []) C (M_X8_isRow C.2.2.1  h) CyX8_isRow tw_244 tw_245 (by decide) rfl rfl (Nat.le_of_ble_eq_true rfl) dX8_refuseRound_1 (fun r1 h => ?_)
  refine g_if_ne (pc := 4) (tgt := 9) C dX8_refuseRound_4 (by decide) (fun c_ => ?_) (fun c_ => ?_)
  · replace h := ite_f h c_
    refine g_aload_n (pc := 9) C 0 dX8_refuseRound_9 rfl rfl ?_
    refine get_X8_3 (pc := 10) C rfl tw_197 dX8_refuseRound_10 ?_
    refine get_X7_2 (pc := 13) C rfl tw_76 dX8_refuseRound_13 ?_
    refine g_if_ne (pc := 16) (tgt := 22) C dX8_refuseRound_16 (by decide) (fun c_ => ?_) (fun c_ => ?_)
    · replace h := ite_f h c_
      refine g_aload_n (pc := 22) C 0 dX8_refuseRound_22 rfl rfl ?_
      refine get_X8_0 (pc := 23) C rfl tw_194 dX8_refuseRound_23 ?_
      refine g_iload_n (pc := 26) C 1 dX8_refuseRound_26 rfl rfl ?_
      obtain ⟨g_, h⟩ := h
      have hs27_ : shC[(5 + 2 * v1.toNatClampNeg)]? = some (6, 40, 0) := shR5 g_
      refine g_aldR (pc := 27) C rfl g_ dX8_refuseRound_27 ?_
      refine get_X6_1 (pc := 28) C hs27_ tw_183 dX8_refuseRound_28 ?_
      refine g_if_ne (pc := 31) (tgt := 40) C dX8_refuseRound_31 (by decide) (fun c_ => ?_) (fun c_ => ?_)
      · replace h := ite_f h c_
        refine g_aload_n (pc := 40) C 0 dX8_refuseRound_40 rfl rfl ?_
        refine get_X8_0 (pc := 41) C rfl tw_194 dX8_refuseRound_41 ?_
        refine g_iload_n (pc := 44) C 1 dX8_refuseRound_44 rfl rfl ?_
        obtain ⟨g_, h⟩ := h
        have hs45_ : shC[(5 + 2 * v1.toNatClampNeg)]? = some (6, 40, 0) := shR5 g_
        refine g_aldR (pc := 45) C rfl g_ dX8_refuseRound_45 ?_
        refine get_X6_2 (pc := 46) C hs45_ tw_186 dX8_refuseRound_46 ?_
        refine g_aload_n (pc := 49) C 0 dX8_refuseRound_49 rfl rfl ?_
        refine get_X8_3 (pc := 50) C rfl tw_197 dX8_refuseRound_50 ?_
        refine get_X7_2 (pc := 53) C rfl tw_76 dX8_refuseRound_53 ?_
        refine g_icmp_eq (pc := 56) (tgt := 65) C dX8_refuseRound_56 (by decide) (fun c_ => ?_) (fun c_ => ?_)
        · replace h := ite_t h c_
          refine g_aload_n (pc := 65) C 0 dX8_refuseRound_65 rfl rfl ?_
          refine get_X8_0 (pc := 66) C rfl tw_194 dX8_refuseRound_66 ?_
          refine g_iload_n (pc := 69) C 1 dX8_refuseRound_69 rfl rfl ?_
          obtain ⟨g_, h⟩ := h
          have hs70_ : shC[(5 + 2 * v1.toNatClampNeg)]? = some (6, 40, 0) := shR5 g_
          refine g_aldR (pc := 70) C rfl g_ dX8_refuseRound_70 ?_
          refine g_iconst (pc := 71) (v := 1) C dX8_refuseRound_71 ic_1 ?_
          refine g_callVip (pc := 72) (As := [.int 1]) (rest := []) C hs70_ rfl rfl rfl (M_X6_hasPulls C.2.2.1 hs70_ h) CyX6_hasPulls tw_471 tw_472 tw_473 (by decide) rfl rfl (Nat.le_of_ble_eq_true rfl) dX8_refuseRound_72 (fun r72 h => ?_)
          refine g_if_eq (pc := 75) (tgt := 82) C dX8_refuseRound_75 (by decide) (fun c_ => ?_) (fun c_ => ?_)
          · replace h := ite_t h c_
            refine g_aload_n (pc := 82) C 0 dX8_refuseRound_82 rfl rfl ?_
            refine g_iconst (pc := 83) (v := 3) C dX8_refuseRound_83 ic_3 ?_
            refine g_callVi (pc := 84) (As := [.int 3]) (rest := []) C rfl rfl rfl rfl (M_X8_find C.2.2.1  h) CyX8_find tw_251 tw_253 ts_1 (by decide) rfl rfl (Nat.le_of_ble_eq_true rfl) dX8_refuseRound_84 (fun r84 t84 h => ?_)
            refine g_lv [] (lv2 := []) rfl ?_
            exact k_X8_refuseRound_87 C  h
          · replace h := ite_f h c_
            refine g_iconst (pc := 78) (v := 0) C dX8_refuseRound_78 ic_0 ?_
            refine g_goto (pc := 79) (tgt := 87) C dX8_refuseRound_79 (by decide) ?_
            refine g_lv [] (lv2 := []) rfl ?_
            exact k_X8_refuseRound_87 C  h
        · replace h := ite_f h c_
          refine g_aload_n (pc := 59) C 0 dX8_refuseRound_59 rfl rfl ?_
          refine g_iconst (pc := 60) (v := 5) C dX8_refuseRound_60 ic_5 ?_
          refine g_callVi (pc := 61) (As := [.int 5]) (rest := []) C rfl rfl rfl rfl (M_X8_find C.2.2.1  h) CyX8_find tw_251 tw_253 ts_1 (by decide) rfl rfl (Nat.le_of_ble_eq_true rfl) dX8_refuseRound_61 (fun r61 t61 h => ?_)
          exact g_iret (pc := 64) C dX8_refuseRound_64 ⟨_, rfl, h⟩
      · replace h := ite_t h c_
        refine g_aload_n (pc := 34) C 0 dX8_refuseRound_34 rfl rfl ?_
        refine g_iconst (pc := 35) (v := 1) C dX8_refuseRound_35 ic_1 ?_
        refine g_callVi (pc := 36) (As := [.int 1]) (rest := []) C rfl rfl rfl rfl (M_X8_find C.2.2.1  h) CyX8_find tw_251 tw_253 ts_1 (by decide) rfl rfl (Nat.le_of_ble_eq_true rfl) dX8_refuseRound_36 (fun r36 t36 h => ?_)
        exact g_iret (pc := 39) C dX8_refuseRound_39 ⟨_, rfl, h⟩
    · replace h := ite_t h c_
      refine g_bipush (pc := 19) (v := -4) C dX8_refuseRound_19 bp_m4 ?_
      exact g_iret (pc := 21) C dX8_refuseRound_21 ⟨_, rfl, h⟩
  · replace h := ite_t h c_
    refine g_iconst (pc := 7) (v := -1) C dX8_refuseRound_7 ic_m1 ?_
    exact g_iret (pc := 8) C dX8_refuseRound_8 ⟨_, rfl, h⟩
set_option maxHeartbeats 4000000 in
set_option maxRecDepth 100000 in
theorem k_X3_bits_4 {v1 : Int32} {v2 : Int32} {σ : St} {K : Int32 → Prop} (C : Cx p R s m args meth c shC G cX3_bits 3 1 RX3 (some .int) 0 0) (h : L_X3_bits_4 σ K v1 v2) : Go p l e R s m args below meth c shC G 3 0 0 (MQ below (Qw shC G (RI (fun r t => t = σ ∧ K r))) args s 0 0 (Fr shC G)) 4 [(0, .ref (G.2.2 70)), (1, .int v1), (2, .int v2)] [] σ := by
  obtain ⟨n_, h⟩ := h
  induction n_ generalizing v1 v2 with
  | zero => exact h.elim
  | succ n_ ih =>
    replace h : B_X3_bits_4 σ K (it2 (B_X3_bits_4 σ K) n_) v1 v2 := h
    unfold B_X3_bits_4 at h
    refine g_iload_n (pc := 4) C 2 dX3_bits_4 rfl rfl ?_
    refine g_aload_n (pc := 5) C 0 dX3_bits_5 rfl rfl ?_
    refine get_X3_2 (pc := 6) C rfl tw_102 dX3_bits_6 ?_
    refine g_icmp_ge (pc := 9) (tgt := 29) C dX3_bits_9 (by decide) (fun c_ => ?_) (fun c_ => ?_)
    · replace h := ite_t h c_
      refine g_iload_n (pc := 29) C 1 dX3_bits_29 rfl rfl ?_
      exact g_iret (pc := 30) C dX3_bits_30 ⟨_, rfl, ⟨rfl, h⟩⟩
    · replace h := ite_f h c_
      refine g_iload_n (pc := 12) C 1 dX3_bits_12 rfl rfl ?_
      refine g_iconst (pc := 13) (v := 1) C dX3_bits_13 ic_1 ?_
      refine g_aload_n (pc := 14) C 0 dX3_bits_14 rfl rfl ?_
      refine get_X3_0 (pc := 15) C rfl tw_98 dX3_bits_15 ?_
      refine g_iload_n (pc := 18) C 2 dX3_bits_18 rfl rfl ?_
      obtain ⟨g_, h⟩ := h
      refine g_iald (pc := 19) C rfl g_ dX3_bits_19 ?_
      refine g_ishl (pc := 20) C dX3_bits_20 ?_
      refine g_ior (pc := 21) C dX3_bits_21 ?_
      refine g_istore_n (pc := 22) (lv2 := [(1, .int (v1 ||| (shl 1 (σ.1 71 v2.toNatClampNeg)))), (0, .ref (G.2.2 70)), (2, .int v2)]) C dX3_bits_22 rfl (by decide) rfl ?_
      refine g_iinc (pc := 23) (lv2 := [(2, .int (v2 + 1)), (1, .int (v1 ||| (shl 1 (σ.1 71 v2.toNatClampNeg)))), (0, .ref (G.2.2 70))]) C 2 dX3_bits_23 ic_1 rfl (by decide) rfl ?_
      refine g_goto (pc := 26) (tgt := 4) C dX3_bits_26 (by decide) ?_
      refine g_lv [2, 1, 0] (lv2 := [(0, .ref (G.2.2 70)), (1, .int (v1 ||| (shl 1 (σ.1 71 v2.toNatClampNeg)))), (2, .int (v2 + 1))]) rfl ?_
      exact ih h
set_option maxHeartbeats 4000000 in
set_option maxRecDepth 100000 in
theorem M_X3_bits {l : Launch} {G : Gp} (hD : Dj shC G) {σ : St} {K : Int32 → Prop} (h : wp_X3_bits σ K) : MC l shC G yX3_bits cX3_bits 3 (some .int) 1 [.ref (G.2.2 70)] σ (RI (fun r t => t = σ ∧ K r)) := by
  unfold wp_X3_bits at h
  refine MC.of (by decide) hD (Nat.le_of_ble_eq_true rfl) ?_
  intro p e s m args below meth c C
  replace C : Cx p (rmD 1) s m args meth c shC G cX3_bits 3 1 RX3 (some .int) 0 0 := C
  show Go p l e (rmD 1) s m args below meth c shC G 3 0 0 (MQ below (Qw shC G (RI (fun r t => t = σ ∧ K r))) args s 0 0 (Fr shC G)) 0 [(0, .ref (G.2.2 70))] [] σ
  refine g_iconst (pc := 0) (v := 0) C dX3_bits_0 ic_0 ?_
  refine g_istore_n (pc := 1) (lv2 := [(1, .int 0), (0, .ref (G.2.2 70))]) C dX3_bits_1 rfl (by decide) rfl ?_
  refine g_iconst (pc := 2) (v := 0) C dX3_bits_2 ic_0 ?_
  refine g_istore_n (pc := 3) (lv2 := [(2, .int 0), (1, .int 0), (0, .ref (G.2.2 70))]) C dX3_bits_3 rfl (by decide) rfl ?_
  refine g_lv [2, 1, 0] (lv2 := [(0, .ref (G.2.2 70)), (1, .int 0), (2, .int 0)]) rfl ?_
  exact k_X3_bits_4 C  h
set_option maxHeartbeats 4000000 in
set_option maxRecDepth 100000 in
theorem M_X8_error {l : Launch} {G : Gp} (hD : Dj shC G) {v1 : Int32} {σ : St} {K : Int32 → St → Prop} (h : wp_X8_error v1 σ K) : MC l shC G yX8_error cX8_error 3 (some .int) 5 [.ref (G.2.2 0), .int v1] σ (RI K) := by
  unfold wp_X8_error at h
  refine MC.of (by decide) hD (Nat.le_of_ble_eq_true rfl) ?_
  intro p e s m args below meth c C
  replace C : Cx p (rmD 5) s m args meth c shC G cX8_error 3 5 RX8 (some .int) 0 0 := C
  show Go p l e (rmD 5) s m args below meth c shC G 3 0 0 (MQ below (Qw shC G (RI K)) args s 0 0 (Fr shC G)) 0 [(0, .ref (G.2.2 0)), (1, .int v1)] [] σ
  refine g_aload_n (pc := 0) C 0 dX8_error_0 rfl rfl ?_
  refine g_iload_n (pc := 1) C 1 dX8_error_1 rfl rfl ?_
  refine g_callVi (pc := 2) (As := [.int v1]) (rest := []) C rfl rfl rfl rfl (M_X8_refuseRound C.2.2.1  h) CyX8_refuseRound tw_467 tw_469 ts_9 (by decide) rfl rfl (Nat.le_of_ble_eq_true rfl) dX8_error_2 (fun r2 t2 h => ?_)
  refine g_istore_n (pc := 5) (lv2 := [(2, .int r2), (0, .ref (G.2.2 0)), (1, .int v1)]) C dX8_error_5 rfl (by decide) rfl ?_
  refine g_iload_n (pc := 6) C 0 dX8_error_6 rfl rfl ?_
  refine g_if_eq (pc := 7) (tgt := 12) C dX8_error_7 (by decide) (fun c_ => ?_) (fun c_ => ?_)
  · replace h := ite_t h c_
    refine g_aload_n (pc := 12) C 1 dX8_error_12 rfl rfl ?_
    refine g_aload_n (pc := 13) C 1 dX8_error_13 rfl rfl ?_
    refine get_X8_0 (pc := 14) C rfl tw_194 dX8_error_14 ?_
    refine g_iload_n (pc := 17) C 2 dX8_error_17 rfl rfl ?_
    obtain ⟨g_, h⟩ := h
    have hs18_ : shC[(5 + 2 * v1.toNatClampNeg)]? = some (6, 40, 0) := shR5 g_
    refine g_aldR (pc := 18) C rfl g_ dX8_error_18 ?_
    refine g_callVv (pc := 19) (As := [.ref (G.2.2 (5 + 2 * v1.toNatClampNeg))]) (rest := []) C rfl rfl rfl rfl (M_X8_listen C.2.2.1 hs18_ h) CyX8_listen tw_476 tw_478 ts_10 (by decide) rfl rfl (Nat.le_of_ble_eq_true rfl) dX8_error_19 (fun t19 h => ?_)
    refine g_aload_n (pc := 22) C 1 dX8_error_22 rfl rfl ?_
    refine g_aload_n (pc := 23) C 1 dX8_error_23 rfl rfl ?_
    refine get_X8_5 (pc := 24) C rfl tw_199 dX8_error_24 ?_
    refine g_callVip (pc := 27) (As := []) (rest := [.ref (G.2.2 0)]) C rfl rfl rfl rfl (M_X3_bits C.2.2.1  h) CyX3_bits tw_495 tw_496 tw_497 (by decide) rfl rfl (Nat.le_of_ble_eq_true rfl) dX8_error_27 (fun r27 h => ?_)
    refine put_X8_12 (pc := 30) C rfl tw_206 dX8_error_30 ?_
    refine g_aload_n (pc := 33) C 1 dX8_error_33 rfl rfl ?_
    refine get_X8_5 (pc := 34) C rfl tw_199 dX8_error_34 ?_
    refine g_callVip (pc := 37) (As := []) (rest := []) C rfl rfl rfl rfl (M_X3_unevenness C.2.2.1  h) CyX3_unevenness tw_635 tw_636 tw_637 (by decide) rfl rfl (Nat.le_of_ble_eq_true rfl) dX8_error_37 (fun r37 h => ?_)
    exact g_iret (pc := 40) C dX8_error_40 ⟨_, rfl, h⟩
  · replace h := ite_f h c_
    refine g_iload_n (pc := 10) C 0 dX8_error_10 rfl rfl ?_
    exact g_iret (pc := 11) C dX8_error_11 ⟨_, rfl, h⟩
set_option maxHeartbeats 4000000 in
set_option maxRecDepth 100000 in
theorem M_X1_begin {l : Launch} {G : Gp} (hD : Dj shC G) {σ : St} {K : St → Prop} (h : wp_X1_begin σ K) : MC l shC G yX1_begin cX1_begin 1 none 1 [.ref (G.2.2 73)] σ (RV K) := by
  unfold wp_X1_begin at h
  refine MC.of (by decide) hD (Nat.le_of_ble_eq_true rfl) ?_
  intro p e s m args below meth c C
  replace C : Cx p (rmD 1) s m args meth c shC G cX1_begin 1 1 RX1 none 0 0 := C
  show Go p l e (rmD 1) s m args below meth c shC G 1 0 0 (MQ below (Qw shC G (RV K)) args s 0 0 (Fr shC G)) 0 [(0, .ref (G.2.2 73))] [] σ
  refine g_aload_n (pc := 0) C 0 dX1_begin_0 rfl rfl ?_
  refine g_bipush (pc := 1) (v := -9) C dX1_begin_1 bp_m9 ?_
  refine put_X1_2 (pc := 3) C rfl tw_119 dX1_begin_3 ?_
  exact g_vret (pc := 6) C dX1_begin_6 ⟨rfl, h⟩
set_option maxHeartbeats 4000000 in
set_option maxRecDepth 100000 in
theorem k_X1_take_37 {σ : St} {K : St → Prop} (C : Cx p R s m args meth c shC G cX1_take 2 1 RX1 none 0 0) (h : J_X1_take_37 σ K) : Go p l e R s m args below meth c shC G 2 0 0 (MQ below (Qw shC G (RV K)) args s 0 0 (Fr shC G)) 37 [] [] σ := by
  unfold J_X1_take_37 at h
  exact g_vret (pc := 37) C dX1_take_37 ⟨rfl, h⟩
set_option maxHeartbeats 4000000 in
set_option maxRecDepth 100000 in
theorem k_X1_take_17 {v1 : Int32} {σ : St} {K : St → Prop} (C : Cx p R s m args meth c shC G cX1_take 2 1 RX1 none 0 0) (h : J_X1_take_17 v1 σ K) : Go p l e R s m args below meth c shC G 2 0 0 (MQ below (Qw shC G (RV K)) args s 0 0 (Fr shC G)) 17 [(0, .ref (G.2.2 73)), (1, .int v1)] [] σ := by
  unfold J_X1_take_17 at h
  refine g_aload_n (pc := 17) C 0 dX1_take_17 rfl rfl ?_
  refine g_iload_n (pc := 18) C 1 dX1_take_18 rfl rfl ?_
  refine put_X1_2 (pc := 19) C rfl tw_119 dX1_take_19 ?_
  refine g_aload_n (pc := 22) C 0 dX1_take_22 rfl rfl ?_
  refine get_X1_0 (pc := 23) C rfl tw_117 dX1_take_23 ?_
  refine g_iconst (pc := 26) (v := 0) C dX1_take_26 ic_0 ?_
  refine g_aload_n (pc := 27) C 0 dX1_take_27 rfl rfl ?_
  refine get_X1_1 (pc := 28) C rfl tw_118 dX1_take_28 ?_
  refine g_iconst (pc := 31) (v := 0) C dX1_take_31 ic_0 ?_
  refine g_bipush (pc := 32) (v := 6) C dX1_take_32 bp_6 ?_
  obtain ⟨g1_, g2_, g3_, g4_, g5_, h⟩ := h
  refine g_copyi (pc := 34) C rfl rfl g1_ g2_ g3_ g4_ g5_ dX1_take_34 tw_661 tw_298 tw_297 tw_13 (by decide) (Nat.le_of_ble_eq_true rfl) ?_
  refine g_lv [] (lv2 := []) rfl ?_
  exact k_X1_take_37 C  h
set_option maxHeartbeats 4000000 in
set_option maxRecDepth 100000 in
theorem M_X1_take {l : Launch} {G : Gp} (hD : Dj shC G) {v1 : Int32} {σ : St} {K : St → Prop} (h : wp_X1_take v1 σ K) : MC l shC G yX1_take cX1_take 2 none 1 [.ref (G.2.2 73), .int v1] σ (RV K) := by
  unfold wp_X1_take at h
  refine MC.of (by decide) hD (Nat.le_of_ble_eq_true rfl) ?_
  intro p e s m args below meth c C
  replace C : Cx p (rmD 1) s m args meth c shC G cX1_take 2 1 RX1 none 0 0 := C
  show Go p l e (rmD 1) s m args below meth c shC G 2 0 0 (MQ below (Qw shC G (RV K)) args s 0 0 (Fr shC G)) 0 [(0, .ref (G.2.2 73)), (1, .int v1)] [] σ
  refine g_aload_n (pc := 0) C 0 dX1_take_0 rfl rfl ?_
  refine get_X1_2 (pc := 1) C rfl tw_119 dX1_take_1 ?_
  refine g_bipush (pc := 4) (v := -9) C dX1_take_4 bp_m9 ?_
  refine g_icmp_eq (pc := 6) (tgt := 17) C dX1_take_6 (by decide) (fun c_ => ?_) (fun c_ => ?_)
  · replace h := ite_t h c_
    refine g_lv [0, 1] (lv2 := [(0, .ref (G.2.2 73)), (1, .int v1)]) rfl ?_
    exact k_X1_take_17 C  h
  · replace h := ite_f h c_
    refine g_iload_n (pc := 9) C 1 dX1_take_9 rfl rfl ?_
    refine g_aload_n (pc := 10) C 0 dX1_take_10 rfl rfl ?_
    refine get_X1_2 (pc := 11) C rfl tw_119 dX1_take_11 ?_
    refine g_icmp_ge (pc := 14) (tgt := 37) C dX1_take_14 (by decide) (fun c_ => ?_) (fun c_ => ?_)
    · replace h := ite_t h c_
      refine g_lv [] (lv2 := []) rfl ?_
      exact k_X1_take_37 C  h
    · replace h := ite_f h c_
      refine g_lv [0, 1] (lv2 := [(0, .ref (G.2.2 73)), (1, .int v1)]) rfl ?_
      exact k_X1_take_17 C  h
set_option maxHeartbeats 4000000 in
set_option maxRecDepth 100000 in
theorem k_X3_leave_49 {v1 : Int32} {v2 : Int32} {v3 : Int32} {σ : St} {K : St → Prop} {Φ4 : Int32 → Int32 → St → Prop} (C : Cx p R s m args meth c shC G cX3_leave 4 1 RX3 none 0 0) (hΦ4 : ∀ (v2' : Int32) (v3' : Int32) (σ' : St), Φ4 v2' v3' σ' → Go p l e R s m args below meth c shC G 4 0 0 (MQ below (Qw shC G (RV K)) args s 0 0 (Fr shC G)) 4 [(0, .ref (G.2.2 70)), (1, .int v1), (2, .int (v2')), (3, .int (v3'))] [] σ') (h : J_X3_leave_49 v1 v2 v3 σ K Φ4) : Go p l e R s m args below meth c shC G 4 0 0 (MQ below (Qw shC G (RV K)) args s 0 0 (Fr shC G)) 49 [(0, .ref (G.2.2 70)), (1, .int v1), (2, .int v2), (3, .int v3)] [] σ := by
  unfold J_X3_leave_49 at h
  refine g_iinc (pc := 49) (lv2 := [(3, .int (v3 + 1)), (0, .ref (G.2.2 70)), (1, .int v1), (2, .int v2)]) C 3 dX3_leave_49 ic_1 rfl (by decide) rfl ?_
  refine g_goto (pc := 52) (tgt := 4) C dX3_leave_52 (by decide) ?_
  refine g_lv [1, 2, 3, 0] (lv2 := [(0, .ref (G.2.2 70)), (1, .int v1), (2, .int v2), (3, .int (v3 + 1))]) rfl ?_
  exact hΦ4 _ _ _ h
set_option maxHeartbeats 4000000 in
set_option maxRecDepth 100000 in
theorem k_X3_leave_4 {v1 : Int32} {v2 : Int32} {v3 : Int32} {σ : St} {K : St → Prop} (C : Cx p R s m args meth c shC G cX3_leave 4 1 RX3 none 0 0) (h : L_X3_leave_4 v1 K v2 v3 σ) : Go p l e R s m args below meth c shC G 4 0 0 (MQ below (Qw shC G (RV K)) args s 0 0 (Fr shC G)) 4 [(0, .ref (G.2.2 70)), (1, .int v1), (2, .int v2), (3, .int v3)] [] σ := by
  obtain ⟨n_, h⟩ := h
  induction n_ generalizing v2 v3 σ with
  | zero => exact h.elim
  | succ n_ ih =>
    replace h : B_X3_leave_4 v1 K (it3 (B_X3_leave_4 v1 K) n_) v2 v3 σ := h
    unfold B_X3_leave_4 at h
    refine g_iload_n (pc := 4) C 3 dX3_leave_4 rfl rfl ?_
    refine g_aload_n (pc := 5) C 0 dX3_leave_5 rfl rfl ?_
    refine get_X3_2 (pc := 6) C rfl tw_102 dX3_leave_6 ?_
    refine g_icmp_ge (pc := 9) (tgt := 55) C dX3_leave_9 (by decide) (fun c_ => ?_) (fun c_ => ?_)
    · replace h := ite_t h c_
      refine g_aload_n (pc := 55) C 0 dX3_leave_55 rfl rfl ?_
      refine g_iload_n (pc := 56) C 2 dX3_leave_56 rfl rfl ?_
      refine put_X3_2 (pc := 57) C rfl tw_102 dX3_leave_57 ?_
      exact g_vret (pc := 60) C dX3_leave_60 ⟨rfl, h⟩
    · replace h := ite_f h c_
      refine g_aload_n (pc := 12) C 0 dX3_leave_12 rfl rfl ?_
      refine get_X3_0 (pc := 13) C rfl tw_98 dX3_leave_13 ?_
      refine g_iload_n (pc := 16) C 3 dX3_leave_16 rfl rfl ?_
      obtain ⟨g_, h⟩ := h
      refine g_iald (pc := 17) C rfl g_ dX3_leave_17 ?_
      refine g_iload_n (pc := 18) C 1 dX3_leave_18 rfl rfl ?_
      refine g_icmp_eq (pc := 19) (tgt := 49) C dX3_leave_19 (by decide) (fun c_ => ?_) (fun c_ => ?_)
      · replace h := ite_t h c_
        refine g_lv [0, 1, 2, 3] (lv2 := [(0, .ref (G.2.2 70)), (1, .int v1), (2, .int v2), (3, .int v3)]) rfl ?_
        exact k_X3_leave_49 C (fun _ _ _ h_ => ih h_) h
      · replace h := ite_f h c_
        refine g_aload_n (pc := 22) C 0 dX3_leave_22 rfl rfl ?_
        refine get_X3_0 (pc := 23) C rfl tw_98 dX3_leave_23 ?_
        refine g_iload_n (pc := 26) C 2 dX3_leave_26 rfl rfl ?_
        refine g_aload_n (pc := 27) C 0 dX3_leave_27 rfl rfl ?_
        refine get_X3_0 (pc := 28) C rfl tw_98 dX3_leave_28 ?_
        refine g_iload_n (pc := 31) C 3 dX3_leave_31 rfl rfl ?_
        obtain ⟨g_, h⟩ := h
        refine g_iald (pc := 32) C rfl g_ dX3_leave_32 ?_
        obtain ⟨g_, h⟩ := h
        refine g_iast (pc := 33) C rfl g_ dX3_leave_33 ?_
        refine g_aload_n (pc := 34) C 0 dX3_leave_34 rfl rfl ?_
        refine get_X3_1 (pc := 35) C rfl tw_100 dX3_leave_35 ?_
        refine g_iload_n (pc := 38) C 2 dX3_leave_38 rfl rfl ?_
        refine g_aload_n (pc := 39) C 0 dX3_leave_39 rfl rfl ?_
        refine get_X3_1 (pc := 40) C rfl tw_100 dX3_leave_40 ?_
        refine g_iload_n (pc := 43) C 3 dX3_leave_43 rfl rfl ?_
        obtain ⟨g_, h⟩ := h
        refine g_iald (pc := 44) C rfl g_ dX3_leave_44 ?_
        obtain ⟨g_, h⟩ := h
        refine g_iast (pc := 45) C rfl g_ dX3_leave_45 ?_
        refine g_iinc (pc := 46) (lv2 := [(2, .int (v2 + 1)), (0, .ref (G.2.2 70)), (1, .int v1), (3, .int v3)]) C 2 dX3_leave_46 ic_1 rfl (by decide) rfl ?_
        refine g_lv [1, 2, 0, 3] (lv2 := [(0, .ref (G.2.2 70)), (1, .int v1), (2, .int (v2 + 1)), (3, .int v3)]) rfl ?_
        exact k_X3_leave_49 C (fun _ _ _ h_ => ih h_) h
set_option maxHeartbeats 4000000 in
set_option maxRecDepth 100000 in
theorem M_X3_leave {l : Launch} {G : Gp} (hD : Dj shC G) {v1 : Int32} {σ : St} {K : St → Prop} (h : wp_X3_leave v1 σ K) : MC l shC G yX3_leave cX3_leave 4 none 1 [.ref (G.2.2 70), .int v1] σ (RV K) := by
  unfold wp_X3_leave at h
  refine MC.of (by decide) hD (Nat.le_of_ble_eq_true rfl) ?_
  intro p e s m args below meth c C
  replace C : Cx p (rmD 1) s m args meth c shC G cX3_leave 4 1 RX3 none 0 0 := C
  show Go p l e (rmD 1) s m args below meth c shC G 4 0 0 (MQ below (Qw shC G (RV K)) args s 0 0 (Fr shC G)) 0 [(0, .ref (G.2.2 70)), (1, .int v1)] [] σ
  refine g_iconst (pc := 0) (v := 0) C dX3_leave_0 ic_0 ?_
  refine g_istore_n (pc := 1) (lv2 := [(2, .int 0), (0, .ref (G.2.2 70)), (1, .int v1)]) C dX3_leave_1 rfl (by decide) rfl ?_
  refine g_iconst (pc := 2) (v := 0) C dX3_leave_2 ic_0 ?_
  refine g_istore_n (pc := 3) (lv2 := [(3, .int 0), (2, .int 0), (0, .ref (G.2.2 70)), (1, .int v1)]) C dX3_leave_3 rfl (by decide) rfl ?_
  refine g_lv [2, 3, 1, 0] (lv2 := [(0, .ref (G.2.2 70)), (1, .int v1), (2, .int 0), (3, .int 0)]) rfl ?_
  exact k_X3_leave_4 C  h
set_option maxHeartbeats 4000000 in
set_option maxRecDepth 100000 in
theorem k_X1_seek_14 {f_ : Nat} {σ : St} {K : St → Prop} {Rec : Nat → Int32 → St → (St → Prop) → Prop} (C : Cx p R s m args meth c shC G cX1_seek 7 (4 + f_ + 1) RX1 none 0 0) (hRec : ∀ {k1 : Nat} {a3 : Int32} {σ : St} {K : St → Prop} (hk1 : shC[k1]? = some (7, 0, 0)), Rec k1 a3 σ K → MC l shC G yX1_seek cX1_seek 7 none (4 + f_) [.ref (G.2.2 73), .ref (G.2.2 k1), .ref (G.2.2 70), .int a3] σ (RV K)) (h : J_X1_seek_14 σ Rec K) : Go p l e R s m args below meth c shC G 7 0 0 (MQ below (Qw shC G (RV K)) args s 0 0 (Fr shC G)) 14 [(0, .ref (G.2.2 73)), (2, .ref (G.2.2 70))] [] σ := by
  unfold J_X1_seek_14 at h
  refine g_aload_n (pc := 14) C 0 dX1_seek_14 rfl rfl ?_
  refine g_aload_n (pc := 15) C 1 dX1_seek_15 rfl rfl ?_
  refine g_callVip (pc := 16) (As := []) (rest := [.ref (G.2.2 73)]) C rfl rfl rfl rfl (M_X3_unevenness C.2.2.1  h) CyX3_unevenness tw_656 tw_636 tw_637 (by omega) rfl rfl (Nat.le_of_ble_eq_true rfl) dX1_seek_16 (fun r16 h => ?_)
  refine g_callVv (pc := 19) (As := [.int r16]) (rest := []) C rfl rfl rfl rfl (M_X1_take C.2.2.1  h) CyX1_take tw_657 tw_659 ts_17 (by omega) rfl rfl (Nat.le_of_ble_eq_true rfl) dX1_seek_19 (fun t19 h => ?_)
  exact g_vret (pc := 22) C dX1_seek_22 ⟨rfl, h⟩
set_option maxHeartbeats 4000000 in
set_option maxRecDepth 100000 in
theorem k_X1_seek_126 {f_ : Nat} {k1 : Nat} {v3 : Int32} {v4 : Int32} {v5 : Int32} {σ : St} {K : St → Prop} {Rec : Nat → Int32 → St → (St → Prop) → Prop} {Φ59 : Int32 → Int32 → St → Prop} (C : Cx p R s m args meth c shC G cX1_seek 7 (4 + f_ + 1) RX1 none 0 0) (hk1 : shC[k1]? = some (7, 0, 0)) (hRec : ∀ {k1 : Nat} {a3 : Int32} {σ : St} {K : St → Prop} (hk1 : shC[k1]? = some (7, 0, 0)), Rec k1 a3 σ K → MC l shC G yX1_seek cX1_seek 7 none (4 + f_) [.ref (G.2.2 73), .ref (G.2.2 k1), .ref (G.2.2 70), .int a3] σ (RV K)) (hΦ59 : ∀ (v4' : Int32) (v5' : Int32) (σ' : St), Φ59 v4' v5' σ' → Go p l e R s m args below meth c shC G 7 0 0 (MQ below (Qw shC G (RV K)) args s 0 0 (Fr shC G)) 59 [(0, .ref (G.2.2 73)), (1, .ref (G.2.2 k1)), (2, .ref (G.2.2 70)), (3, .int v3), (4, .int (v4')), (5, .int (v5'))] [] σ') (h : J_X1_seek_126 k1 v3 v4 v5 σ Rec K Φ59) : Go p l e R s m args below meth c shC G 7 0 0 (MQ below (Qw shC G (RV K)) args s 0 0 (Fr shC G)) 126 [(0, .ref (G.2.2 73)), (1, .ref (G.2.2 k1)), (2, .ref (G.2.2 70)), (3, .int v3), (4, .int v4), (5, .int v5)] [] σ := by
  unfold J_X1_seek_126 at h
  refine g_iinc (pc := 126) (lv2 := [(5, .int (v5 + 1)), (0, .ref (G.2.2 73)), (1, .ref (G.2.2 k1)), (2, .ref (G.2.2 70)), (3, .int v3), (4, .int v4)]) C 5 dX1_seek_126 ic_1 rfl (by decide) rfl ?_
  refine g_goto (pc := 129) (tgt := 59) C dX1_seek_129 (by decide) ?_
  refine g_lv [1, 2, 3, 4, 5, 0] (lv2 := [(0, .ref (G.2.2 73)), (1, .ref (G.2.2 k1)), (2, .ref (G.2.2 70)), (3, .int v3), (4, .int v4), (5, .int (v5 + 1))]) rfl ?_
  exact hΦ59 _ _ _ h
set_option maxHeartbeats 4000000 in
set_option maxRecDepth 100000 in
theorem k_X1_seek_59 {f_ : Nat} {k1 : Nat} {v3 : Int32} {v4 : Int32} {v5 : Int32} {σ : St} {K : St → Prop} {Rec : Nat → Int32 → St → (St → Prop) → Prop} (C : Cx p R s m args meth c shC G cX1_seek 7 (4 + f_ + 1) RX1 none 0 0) (hk1 : shC[k1]? = some (7, 0, 0)) (hRec : ∀ {k1 : Nat} {a3 : Int32} {σ : St} {K : St → Prop} (hk1 : shC[k1]? = some (7, 0, 0)), Rec k1 a3 σ K → MC l shC G yX1_seek cX1_seek 7 none (4 + f_) [.ref (G.2.2 73), .ref (G.2.2 k1), .ref (G.2.2 70), .int a3] σ (RV K)) (h : L_X1_seek_59 k1 v3 Rec K v4 v5 σ) : Go p l e R s m args below meth c shC G 7 0 0 (MQ below (Qw shC G (RV K)) args s 0 0 (Fr shC G)) 59 [(0, .ref (G.2.2 73)), (1, .ref (G.2.2 k1)), (2, .ref (G.2.2 70)), (3, .int v3), (4, .int v4), (5, .int v5)] [] σ := by
  obtain ⟨n_, h⟩ := h
  induction n_ generalizing v4 v5 σ with
  | zero => exact h.elim
  | succ n_ ih =>
    replace h : B_X1_seek_59 k1 v3 Rec K (it3 (B_X1_seek_59 k1 v3 Rec K) n_) v4 v5 σ := h
    unfold B_X1_seek_59 at h
    refine g_iload (pc := 59) C 5 dX1_seek_59 rfl ?_
    refine g_bipush (pc := 61) (v := 7) C dX1_seek_61 bp_7 ?_
    refine g_icmp_ge (pc := 63) (tgt := 132) C dX1_seek_63 (by decide) (fun c_ => ?_) (fun c_ => ?_)
    · replace h := ite_t h c_
      exact g_vret (pc := 132) C dX1_seek_132 ⟨rfl, h⟩
    · replace h := ite_f h c_
      refine g_aload_n (pc := 66) C 1 dX1_seek_66 rfl rfl ?_
      refine g_iload_n (pc := 67) C 3 dX1_seek_67 rfl rfl ?_
      refine g_iload (pc := 68) C 5 dX1_seek_68 rfl ?_
      refine g_callVip (pc := 70) (As := [.int v3, .int v5]) (rest := []) C hk1 rfl rfl rfl (M_X7_tenthsBy C.2.2.1 hk1 h) CyX7_tenthsBy tw_663 tw_405 tw_406 (by omega) rfl rfl (Nat.le_of_ble_eq_true rfl) dX1_seek_70 (fun r70 h => ?_)
      refine g_istore (pc := 73) (lv2 := [(6, .int r70), (0, .ref (G.2.2 73)), (1, .ref (G.2.2 k1)), (2, .ref (G.2.2 70)), (3, .int v3), (4, .int v4), (5, .int v5)]) C dX1_seek_73 (by decide) rfl ?_
      refine g_iload (pc := 75) C 0 dX1_seek_75 rfl ?_
      refine g_bipush (pc := 77) (v := -9) C dX1_seek_77 bp_m9 ?_
      refine g_icmp_eq (pc := 79) (tgt := 126) C dX1_seek_79 (by decide) (fun c_ => ?_) (fun c_ => ?_)
      · replace h := ite_t h c_
        refine g_lv [1, 2, 3, 4, 5, 6] (lv2 := [(0, .ref (G.2.2 73)), (1, .ref (G.2.2 k1)), (2, .ref (G.2.2 70)), (3, .int v3), (4, .int v4), (5, .int v5)]) rfl ?_
        exact k_X1_seek_126 C hk1 hRec (fun _ _ _ h_ => ih h_) h
      · replace h := ite_f h c_
        refine g_iload (pc := 82) C 0 dX1_seek_82 rfl ?_
        refine g_iload (pc := 84) C 5 dX1_seek_84 rfl ?_
        refine g_icmp_eq (pc := 86) (tgt := 126) C dX1_seek_86 (by decide) (fun c_ => ?_) (fun c_ => ?_)
        · replace h := ite_t h c_
          refine g_lv [1, 2, 3, 4, 5, 6] (lv2 := [(0, .ref (G.2.2 73)), (1, .ref (G.2.2 k1)), (2, .ref (G.2.2 70)), (3, .int v3), (4, .int v4), (5, .int v5)]) rfl ?_
          exact k_X1_seek_126 C hk1 hRec (fun _ _ _ h_ => ih h_) h
        · replace h := ite_f h c_
          refine g_iload (pc := 89) C 0 dX1_seek_89 rfl ?_
          refine g_istore (pc := 91) (lv2 := [(4, .int r70), (6, .int r70), (0, .ref (G.2.2 73)), (1, .ref (G.2.2 k1)), (2, .ref (G.2.2 70)), (3, .int v3), (5, .int v5)]) C dX1_seek_91 (by decide) rfl ?_
          refine g_aload_n (pc := 93) C 2 dX1_seek_93 rfl rfl ?_
          refine get_X1_0 (pc := 94) C rfl tw_117 dX1_seek_94 ?_
          refine g_iload_n (pc := 97) C 5 dX1_seek_97 rfl rfl ?_
          refine g_iload (pc := 98) C 6 dX1_seek_98 rfl ?_
          obtain ⟨g_, h⟩ := h
          refine g_iast (pc := 100) C rfl g_ dX1_seek_100 ?_
          refine g_aload_n (pc := 101) C 4 dX1_seek_101 rfl rfl ?_
          refine g_iload_n (pc := 102) C 5 dX1_seek_102 rfl rfl ?_
          refine g_iconst (pc := 103) (v := 2) C dX1_seek_103 ic_2 ?_
          refine g_iload_n (pc := 104) C 5 dX1_seek_104 rfl rfl ?_
          refine g_imul (pc := 105) C dX1_seek_105 ?_
          refine g_iload (pc := 106) C 1 dX1_seek_106 rfl ?_
          refine g_iadd (pc := 108) C dX1_seek_108 ?_
          refine g_callVv (pc := 109) (As := [.int v3, .int ((2 * v3) + r70)]) (rest := []) C rfl rfl rfl rfl (M_X3_enter C.2.2.1  h) CyX3_enter tw_664 tw_485 tw_486 (by omega) rfl rfl (Nat.le_of_ble_eq_true rfl) dX1_seek_109 (fun t109 h => ?_)
          refine g_aload_n (pc := 112) C 2 dX1_seek_112 rfl rfl ?_
          refine g_aload_n (pc := 113) C 3 dX1_seek_113 rfl rfl ?_
          refine g_aload_n (pc := 114) C 4 dX1_seek_114 rfl rfl ?_
          refine g_iload_n (pc := 115) C 5 dX1_seek_115 rfl rfl ?_
          refine g_iconst (pc := 116) (v := 1) C dX1_seek_116 ic_1 ?_
          refine g_iadd (pc := 117) C dX1_seek_117 ?_
          refine g_callVv (pc := 118) (As := [.ref (G.2.2 k1), .ref (G.2.2 70), .int (v3 + 1)]) (rest := []) C rfl rfl rfl rfl (hRec hk1 h) CyX1_seek tw_662 tw_654 ts_16 (Nat.le_refl _) rfl rfl (Nat.le_of_ble_eq_true rfl) dX1_seek_118 (fun t118 h => ?_)
          refine g_aload_n (pc := 121) C 4 dX1_seek_121 rfl rfl ?_
          refine g_iload_n (pc := 122) C 5 dX1_seek_122 rfl rfl ?_
          refine g_callVv (pc := 123) (As := [.int v3]) (rest := []) C rfl rfl rfl rfl (M_X3_leave C.2.2.1  h) CyX3_leave tw_665 tw_666 tw_667 (by omega) rfl rfl (Nat.le_of_ble_eq_true rfl) dX1_seek_123 (fun t123 h => ?_)
          refine g_lv [2, 3, 4, 5, 0, 6] (lv2 := [(0, .ref (G.2.2 73)), (1, .ref (G.2.2 k1)), (2, .ref (G.2.2 70)), (3, .int v3), (4, .int r70), (5, .int v5)]) rfl ?_
          exact k_X1_seek_126 C hk1 hRec (fun _ _ _ h_ => ih h_) h
set_option maxHeartbeats 4000000 in
set_option maxRecDepth 100000 in
theorem MR_X1_seek {l : Launch} {G : Gp} (hD : Dj shC G) (f_ : Nat) : ∀ {k1 : Nat} {v3 : Int32} {σ : St} {K : St → Prop} (hk1 : shC[k1]? = some (7, 0, 0)), wpR_X1_seek f_ k1 v3 σ K → MC l shC G yX1_seek cX1_seek 7 none (4 + f_) [.ref (G.2.2 73), .ref (G.2.2 k1), .ref (G.2.2 70), .int v3] σ (RV K) := by
  induction f_ with
  | zero => intro k1 v3 σ K hk1 h; exact h.elim
  | succ f_ ih =>
    intro k1 v3 σ K hk1 h
    replace h : D_X1_seek (wpR_X1_seek f_) k1 v3 σ K := h
    unfold D_X1_seek at h
    refine MC.of (by decide) hD (Nat.le_of_ble_eq_true rfl) ?_
    intro p e s m args below meth c C
    replace C : Cx p (rmD (4 + f_ + 1)) s m args meth c shC G cX1_seek 7 (4 + f_ + 1) RX1 none 0 0 := C
    have hRec := @ih
    show Go p l e (rmD (4 + f_ + 1)) s m args below meth c shC G 7 0 0 (MQ below (Qw shC G (RV K)) args s 0 0 (Fr shC G)) 0 [(0, .ref (G.2.2 73)), (1, .ref (G.2.2 k1)), (2, .ref (G.2.2 70)), (3, .int v3)] [] σ
    refine g_iload_n (pc := 0) C 3 dX1_seek_0 rfl rfl ?_
    refine g_aload_n (pc := 1) C 1 dX1_seek_1 rfl rfl ?_
    refine get_X7_2 (pc := 2) C hk1 tw_74 dX1_seek_2 ?_
    refine g_icmp_ge (pc := 5) (tgt := 14) C dX1_seek_5 (by decide) (fun c_ => ?_) (fun c_ => ?_)
    · replace h := ite_t h c_
      refine g_lv [0, 2] (lv2 := [(0, .ref (G.2.2 73)), (2, .ref (G.2.2 70))]) rfl ?_
      exact k_X1_seek_14 C hRec h
    · replace h := ite_f h c_
      refine g_iload_n (pc := 8) C 3 dX1_seek_8 rfl rfl ?_
      refine g_bipush (pc := 9) (v := 6) C dX1_seek_9 bp_6 ?_
      refine g_icmp_lt (pc := 11) (tgt := 23) C dX1_seek_11 (by decide) (fun c_ => ?_) (fun c_ => ?_)
      · replace h := ite_t h c_
        refine g_aload_n (pc := 23) C 1 dX1_seek_23 rfl rfl ?_
        refine get_X7_0 (pc := 24) C hk1 tw_71 dX1_seek_24 ?_
        refine g_iload_n (pc := 27) C 3 dX1_seek_27 rfl rfl ?_
        obtain ⟨g_, h⟩ := h
        have hs28_ : shC[((k1 + 3) + v3.toNatClampNeg)]? = some (0, 0, 0) := sh7_e (k := k1) hk1 g_
        refine g_aldB (pc := 28) C (sh7_0 hk1) g_ dX1_seek_28 ?_
        refine get_X0_5 (pc := 29) C hs28_ tw_53 dX1_seek_29 ?_
        refine g_if_eq (pc := 32) (tgt := 52) C dX1_seek_32 (by decide) (fun c_ => ?_) (fun c_ => ?_)
        · replace h := ite_t h c_
          refine g_bipush (pc := 52) (v := -9) C dX1_seek_52 bp_m9 ?_
          refine g_istore (pc := 54) (lv2 := [(4, .int (-9)), (0, .ref (G.2.2 73)), (1, .ref (G.2.2 k1)), (2, .ref (G.2.2 70)), (3, .int v3)]) C dX1_seek_54 (by decide) rfl ?_
          refine g_iconst (pc := 56) (v := 0) C dX1_seek_56 ic_0 ?_
          refine g_istore (pc := 57) (lv2 := [(5, .int 0), (4, .int (-9)), (0, .ref (G.2.2 73)), (1, .ref (G.2.2 k1)), (2, .ref (G.2.2 70)), (3, .int v3)]) C dX1_seek_57 (by decide) rfl ?_
          refine g_lv [2, 3, 4, 5, 1, 0] (lv2 := [(0, .ref (G.2.2 73)), (1, .ref (G.2.2 k1)), (2, .ref (G.2.2 70)), (3, .int v3), (4, .int (-9)), (5, .int 0)]) rfl ?_
          exact k_X1_seek_59 C hk1 hRec h
        · replace h := ite_f h c_
          refine g_aload_n (pc := 35) C 0 dX1_seek_35 rfl rfl ?_
          refine get_X1_0 (pc := 36) C rfl tw_117 dX1_seek_36 ?_
          refine g_iload_n (pc := 39) C 3 dX1_seek_39 rfl rfl ?_
          refine g_iconst (pc := 40) (v := 0) C dX1_seek_40 ic_0 ?_
          obtain ⟨g_, h⟩ := h
          refine g_iast (pc := 41) C rfl g_ dX1_seek_41 ?_
          refine g_aload_n (pc := 42) C 0 dX1_seek_42 rfl rfl ?_
          refine g_aload_n (pc := 43) C 1 dX1_seek_43 rfl rfl ?_
          refine g_aload_n (pc := 44) C 2 dX1_seek_44 rfl rfl ?_
          refine g_iload_n (pc := 45) C 3 dX1_seek_45 rfl rfl ?_
          refine g_iconst (pc := 46) (v := 1) C dX1_seek_46 ic_1 ?_
          refine g_iadd (pc := 47) C dX1_seek_47 ?_
          refine g_callVv (pc := 48) (As := [.ref (G.2.2 k1), .ref (G.2.2 70), .int (v3 + 1)]) (rest := []) C rfl rfl rfl rfl (hRec hk1 h) CyX1_seek tw_662 tw_654 ts_16 (Nat.le_refl _) rfl rfl (Nat.le_of_ble_eq_true rfl) dX1_seek_48 (fun t48 h => ?_)
          exact g_vret (pc := 51) C dX1_seek_51 ⟨rfl, h⟩
      · replace h := ite_f h c_
        refine g_lv [0, 2] (lv2 := [(0, .ref (G.2.2 73)), (2, .ref (G.2.2 70))]) rfl ?_
        exact k_X1_seek_14 C hRec h
set_option maxHeartbeats 4000000 in
set_option maxRecDepth 100000 in
theorem M_X1_seek {l : Launch} {G : Gp} (hD : Dj shC G) {k1 : Nat} {v3 : Int32} {σ : St} {K : St → Prop} (hk1 : shC[k1]? = some (7, 0, 0)) (h : wp_X1_seek k1 v3 σ K) : MC l shC G yX1_seek cX1_seek 7 none 12 [.ref (G.2.2 73), .ref (G.2.2 k1), .ref (G.2.2 70), .int v3] σ (RV K) :=
  MR_X1_seek hD 8 hk1 h
set_option maxHeartbeats 4000000 in
set_option maxRecDepth 100000 in
theorem k_X8_even_84 {σ : St} {K : Int32 → St → Prop} (C : Cx p R s m args meth c shC G cX8_even 2 13 RX8 (some .int) 0 0) (h : J_X8_even_84 σ K) : Go p l e R s m args below meth c shC G 2 0 0 (MQ below (Qw shC G (RI K)) args s 0 0 (Fr shC G)) 84 [(0, .ref (G.2.2 0))] [] σ := by
  unfold J_X8_even_84 at h
  refine g_aload_n (pc := 84) C 0 dX8_even_84 rfl rfl ?_
  refine get_X8_6 (pc := 85) C rfl tw_200 dX8_even_85 ?_
  refine get_X1_2 (pc := 88) C rfl tw_120 dX8_even_88 ?_
  exact g_iret (pc := 91) C dX8_even_91 ⟨_, rfl, h⟩
set_option maxHeartbeats 4000000 in
set_option maxRecDepth 100000 in
theorem M_X8_even {l : Launch} {G : Gp} (hD : Dj shC G) {v1 : Int32} {σ : St} {K : Int32 → St → Prop} (h : wp_X8_even v1 σ K) : MC l shC G yX8_even cX8_even 2 (some .int) 13 [.ref (G.2.2 0), .int v1] σ (RI K) := by
  unfold wp_X8_even at h
  refine MC.of (by decide) hD (Nat.le_of_ble_eq_true rfl) ?_
  intro p e s m args below meth c C
  replace C : Cx p (rmD 13) s m args meth c shC G cX8_even 2 13 RX8 (some .int) 0 0 := C
  show Go p l e (rmD 13) s m args below meth c shC G 2 0 0 (MQ below (Qw shC G (RI K)) args s 0 0 (Fr shC G)) 0 [(0, .ref (G.2.2 0)), (1, .int v1)] [] σ
  refine g_iload_n (pc := 0) C 1 dX8_even_0 rfl rfl ?_
  refine g_callSip (pc := 1) (As := [.int v1]) (rest := []) C (M_X8_isRow C.2.2.1  h) CyX8_isRow tw_244 tw_245 (by decide) rfl rfl (Nat.le_of_ble_eq_true rfl) dX8_even_1 (fun r1 h => ?_)
  refine g_if_ne (pc := 4) (tgt := 9) C dX8_even_4 (by decide) (fun c_ => ?_) (fun c_ => ?_)
  · replace h := ite_f h c_
    refine g_aload_n (pc := 9) C 0 dX8_even_9 rfl rfl ?_
    refine get_X8_3 (pc := 10) C rfl tw_197 dX8_even_10 ?_
    refine get_X7_2 (pc := 13) C rfl tw_76 dX8_even_13 ?_
    refine g_if_ne (pc := 16) (tgt := 22) C dX8_even_16 (by decide) (fun c_ => ?_) (fun c_ => ?_)
    · replace h := ite_f h c_
      refine g_aload_n (pc := 22) C 0 dX8_even_22 rfl rfl ?_
      refine get_X8_6 (pc := 23) C rfl tw_200 dX8_even_23 ?_
      refine g_callVv (pc := 26) (As := []) (rest := []) C rfl rfl rfl rfl (M_X1_begin C.2.2.1  h) CyX1_begin tw_648 tw_649 tw_650 (by decide) rfl rfl (Nat.le_of_ble_eq_true rfl) dX8_even_26 (fun t26 h => ?_)
      refine g_aload_n (pc := 29) C 0 dX8_even_29 rfl rfl ?_
      refine get_X8_5 (pc := 30) C rfl tw_199 dX8_even_30 ?_
      refine g_callVv (pc := 33) (As := []) (rest := []) C rfl rfl rfl rfl (M_X3_clear C.2.2.1  h) CyX3_clear tw_480 tw_481 tw_482 (by decide) rfl rfl (Nat.le_of_ble_eq_true rfl) dX8_even_33 (fun t33 h => ?_)
      refine g_aload_n (pc := 36) C 0 dX8_even_36 rfl rfl ?_
      refine get_X8_6 (pc := 37) C rfl tw_200 dX8_even_37 ?_
      refine g_aload_n (pc := 40) C 0 dX8_even_40 rfl rfl ?_
      refine get_X8_3 (pc := 41) C rfl tw_197 dX8_even_41 ?_
      refine g_aload_n (pc := 44) C 0 dX8_even_44 rfl rfl ?_
      refine get_X8_5 (pc := 45) C rfl tw_199 dX8_even_45 ?_
      refine g_iconst (pc := 48) (v := 0) C dX8_even_48 ic_0 ?_
      refine g_callVNv (pc := 49) (As := [.ref (G.2.2 25), .ref (G.2.2 70), .int 0]) (rest := []) C rfl rfl rfl rfl (M_X1_seek C.2.2.1 rfl h) CyX1_seek (List.mem_of_getElem? (i := 0) rfl) tw_654 ts_16 (by decide) rfl rfl (Nat.le_of_ble_eq_true rfl) dX8_even_49 (fun t49 h => ?_)
      refine g_aload_n (pc := 52) C 0 dX8_even_52 rfl rfl ?_
      refine get_X8_6 (pc := 53) C rfl tw_200 dX8_even_53 ?_
      refine get_X1_2 (pc := 56) C rfl tw_120 dX8_even_56 ?_
      refine g_bipush (pc := 59) (v := -9) C dX8_even_59 bp_m9 ?_
      refine g_icmp_eq (pc := 61) (tgt := 84) C dX8_even_61 (by decide) (fun c_ => ?_) (fun c_ => ?_)
      · replace h := ite_t h c_
        refine g_lv [0] (lv2 := [(0, .ref (G.2.2 0))]) rfl ?_
        exact k_X8_even_84 C  h
      · replace h := ite_f h c_
        refine g_aload_n (pc := 64) C 0 dX8_even_64 rfl rfl ?_
        refine get_X8_6 (pc := 65) C rfl tw_200 dX8_even_65 ?_
        refine g_aload_n (pc := 68) C 0 dX8_even_68 rfl rfl ?_
        refine get_X8_3 (pc := 69) C rfl tw_197 dX8_even_69 ?_
        refine get_X7_2 (pc := 72) C rfl tw_76 dX8_even_72 ?_
        refine g_aload_n (pc := 75) C 0 dX8_even_75 rfl rfl ?_
        refine get_X8_0 (pc := 76) C rfl tw_194 dX8_even_76 ?_
        refine g_iload_n (pc := 79) C 1 dX8_even_79 rfl rfl ?_
        obtain ⟨g_, h⟩ := h
        have hs80_ : shC[(5 + 2 * v1.toNatClampNeg)]? = some (6, 40, 0) := shR5 g_
        refine g_aldR (pc := 80) C rfl g_ dX8_even_80 ?_
        refine g_callVv (pc := 81) (As := [.int (t49.1 25 2), .ref (G.2.2 (5 + 2 * v1.toNatClampNeg))]) (rest := []) C rfl rfl rfl rfl (M_X1_layBest C.2.2.1 hs80_ h) CyX1_layBest tw_669 tw_670 tw_671 (by decide) rfl rfl (Nat.le_of_ble_eq_true rfl) dX8_even_81 (fun t81 h => ?_)
        refine g_lv [0] (lv2 := [(0, .ref (G.2.2 0))]) rfl ?_
        exact k_X8_even_84 C  h
    · replace h := ite_t h c_
      refine g_bipush (pc := 19) (v := -4) C dX8_even_19 bp_m4 ?_
      exact g_iret (pc := 21) C dX8_even_21 ⟨_, rfl, h⟩
  · replace h := ite_t h c_
    refine g_iconst (pc := 7) (v := -1) C dX8_even_7 ic_m1 ?_
    exact g_iret (pc := 8) C dX8_even_8 ⟨_, rfl, h⟩
set_option maxHeartbeats 4000000 in
set_option maxRecDepth 100000 in
theorem k_X8_isText_14 {w0 : Int32} {σ : St} {K : Int32 → Prop} (C : Cx p R s m args meth c shC G cX8_isText 1 1 RX8 (some .boolean) 0 0) (h : J_X8_isText_14 w0 K) : Go p l e R s m args below meth c shC G 1 0 0 (MQ below (Qw shC G (RI (fun r t => t = σ ∧ K r))) args s 0 0 (Fr shC G)) 14 [] [.int w0] σ := by
  unfold J_X8_isText_14 at h
  obtain ⟨g_, h⟩ := h
  exact g_zret (pc := 14) C g_ dX8_isText_14 ⟨_, rfl, ⟨rfl, h⟩⟩
set_option maxHeartbeats 4000000 in
set_option maxRecDepth 100000 in
theorem k_X8_isText_13 {σ : St} {K : Int32 → Prop} (C : Cx p R s m args meth c shC G cX8_isText 1 1 RX8 (some .boolean) 0 0) (h : J_X8_isText_13 K) : Go p l e R s m args below meth c shC G 1 0 0 (MQ below (Qw shC G (RI (fun r t => t = σ ∧ K r))) args s 0 0 (Fr shC G)) 13 [] [] σ := by
  unfold J_X8_isText_13 at h
  refine g_iconst (pc := 13) (v := 0) C dX8_isText_13 ic_0 ?_
  refine g_lv [] (lv2 := []) rfl ?_
  exact k_X8_isText_14 C  h
set_option maxHeartbeats 4000000 in
set_option maxRecDepth 100000 in
theorem M_X8_isText {l : Launch} {G : Gp} (hD : Dj shC G) {v0 : Int32} {σ : St} {K : Int32 → Prop} (h : wp_X8_isText v0 K) : MC l shC G yX8_isText cX8_isText 1 (some .boolean) 1 [.int v0] σ (RI (fun r t => t = σ ∧ K r)) := by
  unfold wp_X8_isText at h
  refine MC.of (by decide) hD (Nat.le_of_ble_eq_true rfl) ?_
  intro p e s m args below meth c C
  replace C : Cx p (rmD 1) s m args meth c shC G cX8_isText 1 1 RX8 (some .boolean) 0 0 := C
  show Go p l e (rmD 1) s m args below meth c shC G 1 0 0 (MQ below (Qw shC G (RI (fun r t => t = σ ∧ K r))) args s 0 0 (Fr shC G)) 0 [(0, .int v0)] [] σ
  refine g_iload_n (pc := 0) C 0 dX8_isText_0 rfl rfl ?_
  refine g_if_lt (pc := 1) (tgt := 13) C dX8_isText_1 (by decide) (fun c_ => ?_) (fun c_ => ?_)
  · replace h := ite_t h c_
    refine g_lv [] (lv2 := []) rfl ?_
    exact k_X8_isText_13 C  h
  · replace h := ite_f h c_
    refine g_iload_n (pc := 4) C 0 dX8_isText_4 rfl rfl ?_
    refine g_iconst (pc := 5) (v := 4) C dX8_isText_5 ic_4 ?_
    refine g_icmp_ge (pc := 6) (tgt := 13) C dX8_isText_6 (by decide) (fun c_ => ?_) (fun c_ => ?_)
    · replace h := ite_t h c_
      refine g_lv [] (lv2 := []) rfl ?_
      exact k_X8_isText_13 C  h
    · replace h := ite_f h c_
      refine g_iconst (pc := 9) (v := 1) C dX8_isText_9 ic_1 ?_
      refine g_goto (pc := 10) (tgt := 14) C dX8_isText_10 (by decide) ?_
      refine g_lv [] (lv2 := []) rfl ?_
      exact k_X8_isText_14 C  h
set_option maxHeartbeats 4000000 in
set_option maxRecDepth 100000 in
theorem k_X8_kindOf_104 {σ : St} {K : Int32 → Prop} (C : Cx p R s m args meth c shC G cX8_kindOf 1 1 RX8 (some .int) 0 0) (h : J_X8_kindOf_104 K) : Go p l e R s m args below meth c shC G 1 0 0 (MQ below (Qw shC G (RI (fun r t => t = σ ∧ K r))) args s 0 0 (Fr shC G)) 104 [] [] σ := by
  unfold J_X8_kindOf_104 at h
  refine g_bipush (pc := 104) (v := -9) C dX8_kindOf_104 bp_m9 ?_
  exact g_iret (pc := 106) C dX8_kindOf_106 ⟨_, rfl, ⟨rfl, h⟩⟩
set_option maxHeartbeats 4000000 in
set_option maxRecDepth 100000 in
theorem M_X8_kindOf {l : Launch} {G : Gp} (hD : Dj shC G) {v0 : Int32} {σ : St} {K : Int32 → Prop} (h : wp_X8_kindOf v0 K) : MC l shC G yX8_kindOf cX8_kindOf 1 (some .int) 1 [.int v0] σ (RI (fun r t => t = σ ∧ K r)) := by
  unfold wp_X8_kindOf at h
  refine MC.of (by decide) hD (Nat.le_of_ble_eq_true rfl) ?_
  intro p e s m args below meth c C
  replace C : Cx p (rmD 1) s m args meth c shC G cX8_kindOf 1 1 RX8 (some .int) 0 0 := C
  show Go p l e (rmD 1) s m args below meth c shC G 1 0 0 (MQ below (Qw shC G (RI (fun r t => t = σ ∧ K r))) args s 0 0 (Fr shC G)) 0 [(0, .int v0)] [] σ
  refine g_iload_n (pc := 0) C 0 dX8_kindOf_0 rfl rfl ?_
  by_cases c0_ : v0 = 98
  · replace h := ite_t h c0_
    refine g_tabIn (pc := 1) (tgt := 92) (v := 98) C dX8_kindOf_1 (by rw [c0_]; rfl) (by decide) (by decide) rfl (by decide) ?_
    refine g_iconst (pc := 92) (v := 0) C dX8_kindOf_92 ic_0 ?_
    exact g_iret (pc := 93) C dX8_kindOf_93 ⟨_, rfl, ⟨rfl, h⟩⟩
  replace h := ite_f h c0_
  by_cases c1_ : v0 = 99
  · replace h := ite_t h c1_
    refine g_tabIn (pc := 1) (tgt := 104) (v := 99) C dX8_kindOf_1 (by rw [c1_]; rfl) (by decide) (by decide) rfl (by decide) ?_
    refine g_lv [] (lv2 := []) rfl ?_
    exact k_X8_kindOf_104 C  h
  replace h := ite_f h c1_
  by_cases c2_ : v0 = 100
  · replace h := ite_t h c2_
    refine g_tabIn (pc := 1) (tgt := 104) (v := 100) C dX8_kindOf_1 (by rw [c2_]; rfl) (by decide) (by decide) rfl (by decide) ?_
    refine g_lv [] (lv2 := []) rfl ?_
    exact k_X8_kindOf_104 C  h
  replace h := ite_f h c2_
  by_cases c3_ : v0 = 101
  · replace h := ite_t h c3_
    refine g_tabIn (pc := 1) (tgt := 104) (v := 101) C dX8_kindOf_1 (by rw [c3_]; rfl) (by decide) (by decide) rfl (by decide) ?_
    refine g_lv [] (lv2 := []) rfl ?_
    exact k_X8_kindOf_104 C  h
  replace h := ite_f h c3_
  by_cases c4_ : v0 = 102
  · replace h := ite_t h c4_
    refine g_tabIn (pc := 1) (tgt := 104) (v := 102) C dX8_kindOf_1 (by rw [c4_]; rfl) (by decide) (by decide) rfl (by decide) ?_
    refine g_lv [] (lv2 := []) rfl ?_
    exact k_X8_kindOf_104 C  h
  replace h := ite_f h c4_
  by_cases c5_ : v0 = 103
  · replace h := ite_t h c5_
    refine g_tabIn (pc := 1) (tgt := 100) (v := 103) C dX8_kindOf_1 (by rw [c5_]; rfl) (by decide) (by decide) rfl (by decide) ?_
    refine g_iconst (pc := 100) (v := 4) C dX8_kindOf_100 ic_4 ?_
    exact g_iret (pc := 101) C dX8_kindOf_101 ⟨_, rfl, ⟨rfl, h⟩⟩
  replace h := ite_f h c5_
  by_cases c6_ : v0 = 104
  · replace h := ite_t h c6_
    refine g_tabIn (pc := 1) (tgt := 94) (v := 104) C dX8_kindOf_1 (by rw [c6_]; rfl) (by decide) (by decide) rfl (by decide) ?_
    refine g_iconst (pc := 94) (v := 1) C dX8_kindOf_94 ic_1 ?_
    exact g_iret (pc := 95) C dX8_kindOf_95 ⟨_, rfl, ⟨rfl, h⟩⟩
  replace h := ite_f h c6_
  by_cases c7_ : v0 = 105
  · replace h := ite_t h c7_
    refine g_tabIn (pc := 1) (tgt := 104) (v := 105) C dX8_kindOf_1 (by rw [c7_]; rfl) (by decide) (by decide) rfl (by decide) ?_
    refine g_lv [] (lv2 := []) rfl ?_
    exact k_X8_kindOf_104 C  h
  replace h := ite_f h c7_
  by_cases c8_ : v0 = 106
  · replace h := ite_t h c8_
    refine g_tabIn (pc := 1) (tgt := 104) (v := 106) C dX8_kindOf_1 (by rw [c8_]; rfl) (by decide) (by decide) rfl (by decide) ?_
    refine g_lv [] (lv2 := []) rfl ?_
    exact k_X8_kindOf_104 C  h
  replace h := ite_f h c8_
  by_cases c9_ : v0 = 107
  · replace h := ite_t h c9_
    refine g_tabIn (pc := 1) (tgt := 104) (v := 107) C dX8_kindOf_1 (by rw [c9_]; rfl) (by decide) (by decide) rfl (by decide) ?_
    refine g_lv [] (lv2 := []) rfl ?_
    exact k_X8_kindOf_104 C  h
  replace h := ite_f h c9_
  by_cases c10_ : v0 = 108
  · replace h := ite_t h c10_
    refine g_tabIn (pc := 1) (tgt := 104) (v := 108) C dX8_kindOf_1 (by rw [c10_]; rfl) (by decide) (by decide) rfl (by decide) ?_
    refine g_lv [] (lv2 := []) rfl ?_
    exact k_X8_kindOf_104 C  h
  replace h := ite_f h c10_
  by_cases c11_ : v0 = 109
  · replace h := ite_t h c11_
    refine g_tabIn (pc := 1) (tgt := 104) (v := 109) C dX8_kindOf_1 (by rw [c11_]; rfl) (by decide) (by decide) rfl (by decide) ?_
    refine g_lv [] (lv2 := []) rfl ?_
    exact k_X8_kindOf_104 C  h
  replace h := ite_f h c11_
  by_cases c12_ : v0 = 110
  · replace h := ite_t h c12_
    refine g_tabIn (pc := 1) (tgt := 98) (v := 110) C dX8_kindOf_1 (by rw [c12_]; rfl) (by decide) (by decide) rfl (by decide) ?_
    refine g_iconst (pc := 98) (v := 3) C dX8_kindOf_98 ic_3 ?_
    exact g_iret (pc := 99) C dX8_kindOf_99 ⟨_, rfl, ⟨rfl, h⟩⟩
  replace h := ite_f h c12_
  by_cases c13_ : v0 = 111
  · replace h := ite_t h c13_
    refine g_tabIn (pc := 1) (tgt := 104) (v := 111) C dX8_kindOf_1 (by rw [c13_]; rfl) (by decide) (by decide) rfl (by decide) ?_
    refine g_lv [] (lv2 := []) rfl ?_
    exact k_X8_kindOf_104 C  h
  replace h := ite_f h c13_
  by_cases c14_ : v0 = 112
  · replace h := ite_t h c14_
    refine g_tabIn (pc := 1) (tgt := 104) (v := 112) C dX8_kindOf_1 (by rw [c14_]; rfl) (by decide) (by decide) rfl (by decide) ?_
    refine g_lv [] (lv2 := []) rfl ?_
    exact k_X8_kindOf_104 C  h
  replace h := ite_f h c14_
  by_cases c15_ : v0 = 113
  · replace h := ite_t h c15_
    refine g_tabIn (pc := 1) (tgt := 96) (v := 113) C dX8_kindOf_1 (by rw [c15_]; rfl) (by decide) (by decide) rfl (by decide) ?_
    refine g_iconst (pc := 96) (v := 2) C dX8_kindOf_96 ic_2 ?_
    exact g_iret (pc := 97) C dX8_kindOf_97 ⟨_, rfl, ⟨rfl, h⟩⟩
  replace h := ite_f h c15_
  by_cases c16_ : v0 = 114
  · replace h := ite_t h c16_
    refine g_tabIn (pc := 1) (tgt := 104) (v := 114) C dX8_kindOf_1 (by rw [c16_]; rfl) (by decide) (by decide) rfl (by decide) ?_
    refine g_lv [] (lv2 := []) rfl ?_
    exact k_X8_kindOf_104 C  h
  replace h := ite_f h c16_
  by_cases c17_ : v0 = 115
  · replace h := ite_t h c17_
    refine g_tabIn (pc := 1) (tgt := 104) (v := 115) C dX8_kindOf_1 (by rw [c17_]; rfl) (by decide) (by decide) rfl (by decide) ?_
    refine g_lv [] (lv2 := []) rfl ?_
    exact k_X8_kindOf_104 C  h
  replace h := ite_f h c17_
  by_cases c18_ : v0 = 116
  · replace h := ite_t h c18_
    refine g_tabIn (pc := 1) (tgt := 102) (v := 116) C dX8_kindOf_1 (by rw [c18_]; rfl) (by decide) (by decide) rfl (by decide) ?_
    refine g_iconst (pc := 102) (v := 5) C dX8_kindOf_102 ic_5 ?_
    exact g_iret (pc := 103) C dX8_kindOf_103 ⟨_, rfl, ⟨rfl, h⟩⟩
  replace h := ite_f h c18_
  refine g_tabOut (pc := 1) (tgt := 104) C dX8_kindOf_1 (by have e0_ := lv_neT c0_ (a := 98) (by decide); have e1_ := lv_neT c1_ (a := 99) (by decide); have e2_ := lv_neT c2_ (a := 100) (by decide); have e3_ := lv_neT c3_ (a := 101) (by decide); have e4_ := lv_neT c4_ (a := 102) (by decide); have e5_ := lv_neT c5_ (a := 103) (by decide); have e6_ := lv_neT c6_ (a := 104) (by decide); have e7_ := lv_neT c7_ (a := 105) (by decide); have e8_ := lv_neT c8_ (a := 106) (by decide); have e9_ := lv_neT c9_ (a := 107) (by decide); have e10_ := lv_neT c10_ (a := 108) (by decide); have e11_ := lv_neT c11_ (a := 109) (by decide); have e12_ := lv_neT c12_ (a := 110) (by decide); have e13_ := lv_neT c13_ (a := 111) (by decide); have e14_ := lv_neT c14_ (a := 112) (by decide); have e15_ := lv_neT c15_ (a := 113) (by decide); have e16_ := lv_neT c16_ (a := 114) (by decide); have e17_ := lv_neT c17_ (a := 115) (by decide); have e18_ := lv_neT c18_ (a := 116) (by decide); omega) (by decide) ?_
  refine g_lv [] (lv2 := []) rfl ?_
  exact k_X8_kindOf_104 C  h
set_option maxHeartbeats 4000000 in
set_option maxRecDepth 100000 in
theorem k_X6_sign_20 {w0 : Int32} {σ : St} {K : Int32 → Prop} (C : Cx p R s m args meth c shC G cX6_sign 2 2 RX6 (some .int) 0 0) (h : J_X6_sign_20 w0 σ K) : Go p l e R s m args below meth c shC G 2 0 0 (MQ below (Qw shC G (RI (fun r t => t = σ ∧ K r))) args s 0 0 (Fr shC G)) 20 [] [.int w0] σ := by
  unfold J_X6_sign_20 at h
  exact g_iret (pc := 20) C dX6_sign_20 ⟨_, rfl, ⟨rfl, h⟩⟩
set_option maxHeartbeats 4000000 in
set_option maxRecDepth 100000 in
theorem M_X6_sign {l : Launch} {G : Gp} (hD : Dj shC G) {k0 : Nat} {n0 : Nat} {v1 : Int32} {σ : St} {K : Int32 → Prop} (hk0 : shC[k0]? = some (6, n0, 0)) (h : wp_X6_sign k0 n0 v1 σ K) : MC l shC G yX6_sign cX6_sign 2 (some .int) 2 [.ref (G.2.2 k0), .int v1] σ (RI (fun r t => t = σ ∧ K r)) := by
  unfold wp_X6_sign at h
  refine MC.of (by decide) hD (Nat.le_of_ble_eq_true rfl) ?_
  intro p e s m args below meth c C
  replace C : Cx p (rmD 2) s m args meth c shC G cX6_sign 2 2 RX6 (some .int) 0 0 := C
  show Go p l e (rmD 2) s m args below meth c shC G 2 0 0 (MQ below (Qw shC G (RI (fun r t => t = σ ∧ K r))) args s 0 0 (Fr shC G)) 0 [(0, .ref (G.2.2 k0)), (1, .int v1)] [] σ
  refine g_aload_n (pc := 0) C 0 dX6_sign_0 rfl rfl ?_
  refine g_iload_n (pc := 1) C 1 dX6_sign_1 rfl rfl ?_
  refine g_callVip (pc := 2) (As := [.int v1]) (rest := []) C hk0 rfl rfl rfl (M_X6_has C.2.2.1 hk0 h) CyX6_has tw_334 tw_277 tw_278 (by decide) rfl rfl (Nat.le_of_ble_eq_true rfl) dX6_sign_2 (fun r2 h => ?_)
  refine g_if_eq (pc := 5) (tgt := 17) C dX6_sign_5 (by decide) (fun c_ => ?_) (fun c_ => ?_)
  · replace h := ite_t h c_
    refine g_sipush (pc := 17) (v := 1000) C dX6_sign_17 sp_1000 ?_
    refine g_lv [] (lv2 := []) rfl ?_
    exact k_X6_sign_20 C  h
  · replace h := ite_f h c_
    refine g_aload_n (pc := 8) C 0 dX6_sign_8 rfl rfl ?_
    refine get_X6_0 (pc := 9) C hk0 tw_179 dX6_sign_9 ?_
    refine g_iload_n (pc := 12) C 1 dX6_sign_12 rfl rfl ?_
    obtain ⟨g_, h⟩ := h
    refine g_iald (pc := 13) C (sh6_0 hk0) g_ dX6_sign_13 ?_
    refine g_goto (pc := 14) (tgt := 20) C dX6_sign_14 (by decide) ?_
    refine g_lv [] (lv2 := []) rfl ?_
    exact k_X6_sign_20 C  h
set_option maxHeartbeats 4000000 in
set_option maxRecDepth 100000 in
theorem M_X6_figure {l : Launch} {G : Gp} (hD : Dj shC G) {k0 : Nat} {n0 : Nat} {v1 : Int32} {σ : St} {K : Int32 → Prop} (hk0 : shC[k0]? = some (6, n0, 0)) (h : wp_X6_figure k0 n0 v1 σ K) : MC l shC G yX6_figure cX6_figure 2 (some .int) 3 [.ref (G.2.2 k0), .int v1] σ (RI (fun r t => t = σ ∧ K r)) := by
  unfold wp_X6_figure at h
  refine MC.of (by decide) hD (Nat.le_of_ble_eq_true rfl) ?_
  intro p e s m args below meth c C
  replace C : Cx p (rmD 3) s m args meth c shC G cX6_figure 2 3 RX6 (some .int) 0 0 := C
  show Go p l e (rmD 3) s m args below meth c shC G 2 0 0 (MQ below (Qw shC G (RI (fun r t => t = σ ∧ K r))) args s 0 0 (Fr shC G)) 0 [(0, .ref (G.2.2 k0)), (1, .int v1)] [] σ
  refine g_aload_n (pc := 0) C 0 dX6_figure_0 rfl rfl ?_
  refine g_iload_n (pc := 1) C 1 dX6_figure_1 rfl rfl ?_
  refine g_callVip (pc := 2) (As := [.int v1]) (rest := []) C hk0 rfl rfl rfl (M_X6_sign C.2.2.1 hk0 h) CyX6_sign tw_330 tw_331 tw_332 (by decide) rfl rfl (Nat.le_of_ble_eq_true rfl) dX6_figure_2 (fun r2 h => ?_)
  refine g_bipush (pc := 5) (v := 48) C dX6_figure_5 bp_48 ?_
  refine g_isub (pc := 7) C dX6_figure_7 ?_
  exact g_iret (pc := 8) C dX6_figure_8 ⟨_, rfl, ⟨rfl, h⟩⟩
set_option maxHeartbeats 4000000 in
set_option maxRecDepth 100000 in
theorem k_X6_isFigure_23 {w0 : Int32} {σ : St} {K : Int32 → Prop} (C : Cx p R s m args meth c shC G cX6_isFigure 4 4 RX6 (some .boolean) 0 0) (h : J_X6_isFigure_23 w0 σ K) : Go p l e R s m args below meth c shC G 4 0 0 (MQ below (Qw shC G (RI (fun r t => t = σ ∧ K r))) args s 0 0 (Fr shC G)) 23 [] [.int w0] σ := by
  unfold J_X6_isFigure_23 at h
  obtain ⟨g_, h⟩ := h
  exact g_zret (pc := 23) C g_ dX6_isFigure_23 ⟨_, rfl, ⟨rfl, h⟩⟩
set_option maxHeartbeats 4000000 in
set_option maxRecDepth 100000 in
theorem k_X6_isFigure_22 {σ : St} {K : Int32 → Prop} (C : Cx p R s m args meth c shC G cX6_isFigure 4 4 RX6 (some .boolean) 0 0) (h : J_X6_isFigure_22 σ K) : Go p l e R s m args below meth c shC G 4 0 0 (MQ below (Qw shC G (RI (fun r t => t = σ ∧ K r))) args s 0 0 (Fr shC G)) 22 [] [] σ := by
  unfold J_X6_isFigure_22 at h
  refine g_iconst (pc := 22) (v := 0) C dX6_isFigure_22 ic_0 ?_
  refine g_lv [] (lv2 := []) rfl ?_
  exact k_X6_isFigure_23 C  h
set_option maxHeartbeats 4000000 in
set_option maxRecDepth 100000 in
theorem M_X6_isFigure {l : Launch} {G : Gp} (hD : Dj shC G) {k0 : Nat} {n0 : Nat} {v1 : Int32} {v2 : Int32} {v3 : Int32} {σ : St} {K : Int32 → Prop} (hk0 : shC[k0]? = some (6, n0, 0)) (h : wp_X6_isFigure k0 n0 v1 v2 v3 σ K) : MC l shC G yX6_isFigure cX6_isFigure 4 (some .boolean) 4 [.ref (G.2.2 k0), .int v1, .int v2, .int v3] σ (RI (fun r t => t = σ ∧ K r)) := by
  unfold wp_X6_isFigure at h
  refine MC.of (by decide) hD (Nat.le_of_ble_eq_true rfl) ?_
  intro p e s m args below meth c C
  replace C : Cx p (rmD 4) s m args meth c shC G cX6_isFigure 4 4 RX6 (some .boolean) 0 0 := C
  show Go p l e (rmD 4) s m args below meth c shC G 4 0 0 (MQ below (Qw shC G (RI (fun r t => t = σ ∧ K r))) args s 0 0 (Fr shC G)) 0 [(0, .ref (G.2.2 k0)), (1, .int v1), (2, .int v2), (3, .int v3)] [] σ
  refine g_aload_n (pc := 0) C 0 dX6_isFigure_0 rfl rfl ?_
  refine g_iload_n (pc := 1) C 1 dX6_isFigure_1 rfl rfl ?_
  refine g_callVip (pc := 2) (As := [.int v1]) (rest := []) C hk0 rfl rfl rfl (M_X6_figure C.2.2.1 hk0 h) CyX6_figure tw_340 tw_341 tw_342 (by decide) rfl rfl (Nat.le_of_ble_eq_true rfl) dX6_isFigure_2 (fun r2 h => ?_)
  refine g_iload_n (pc := 5) C 2 dX6_isFigure_5 rfl rfl ?_
  refine g_icmp_lt (pc := 6) (tgt := 22) C dX6_isFigure_6 (by decide) (fun c_ => ?_) (fun c_ => ?_)
  · replace h := ite_t h c_
    refine g_lv [] (lv2 := []) rfl ?_
    exact k_X6_isFigure_22 C  h
  · replace h := ite_f h c_
    refine g_aload_n (pc := 9) C 0 dX6_isFigure_9 rfl rfl ?_
    refine g_iload_n (pc := 10) C 1 dX6_isFigure_10 rfl rfl ?_
    refine g_callVip (pc := 11) (As := [.int v1]) (rest := []) C hk0 rfl rfl rfl (M_X6_figure C.2.2.1 hk0 h) CyX6_figure tw_340 tw_341 tw_342 (by decide) rfl rfl (Nat.le_of_ble_eq_true rfl) dX6_isFigure_11 (fun r11 h => ?_)
    refine g_iload_n (pc := 14) C 3 dX6_isFigure_14 rfl rfl ?_
    refine g_icmp_gt (pc := 15) (tgt := 22) C dX6_isFigure_15 (by decide) (fun c_ => ?_) (fun c_ => ?_)
    · replace h := ite_t h c_
      refine g_lv [] (lv2 := []) rfl ?_
      exact k_X6_isFigure_22 C  h
    · replace h := ite_f h c_
      refine g_iconst (pc := 18) (v := 1) C dX6_isFigure_18 ic_1 ?_
      refine g_goto (pc := 19) (tgt := 23) C dX6_isFigure_19 (by decide) ?_
      refine g_lv [] (lv2 := []) rfl ?_
      exact k_X6_isFigure_23 C  h
set_option maxHeartbeats 4000000 in
set_option maxRecDepth 100000 in
theorem k_X8_itemSigns_78 {w0 : Int32} {σ : St} {K : Int32 → Prop} (C : Cx p R s m args meth c shC G cX8_itemSigns 2 5 RX8 (some .int) 0 0) (h : J_X8_itemSigns_78 w0 σ K) : Go p l e R s m args below meth c shC G 2 0 0 (MQ below (Qw shC G (RI (fun r t => t = σ ∧ K r))) args s 0 0 (Fr shC G)) 78 [] [.int w0] σ := by
  unfold J_X8_itemSigns_78 at h
  exact g_iret (pc := 78) C dX8_itemSigns_78 ⟨_, rfl, ⟨rfl, h⟩⟩
set_option maxHeartbeats 4000000 in
set_option maxRecDepth 100000 in
theorem M_X8_itemSigns {l : Launch} {G : Gp} (hD : Dj shC G) {k0 : Nat} {n0 : Nat} {v1 : Int32} {σ : St} {K : Int32 → Prop} (hk0 : shC[k0]? = some (6, n0, 0)) (h : wp_X8_itemSigns k0 n0 v1 σ K) : MC l shC G yX8_itemSigns cX8_itemSigns 2 (some .int) 5 [.ref (G.2.2 k0), .int v1] σ (RI (fun r t => t = σ ∧ K r)) := by
  unfold wp_X8_itemSigns at h
  refine MC.of (by decide) hD (Nat.le_of_ble_eq_true rfl) ?_
  intro p e s m args below meth c C
  replace C : Cx p (rmD 5) s m args meth c shC G cX8_itemSigns 2 5 RX8 (some .int) 0 0 := C
  show Go p l e (rmD 5) s m args below meth c shC G 2 0 0 (MQ below (Qw shC G (RI (fun r t => t = σ ∧ K r))) args s 0 0 (Fr shC G)) 0 [(0, .ref (G.2.2 k0)), (1, .int v1)] [] σ
  refine g_aload_n (pc := 0) C 0 dX8_itemSigns_0 rfl rfl ?_
  refine g_iload_n (pc := 1) C 1 dX8_itemSigns_1 rfl rfl ?_
  refine g_callVip (pc := 2) (As := [.int v1]) (rest := []) C hk0 rfl rfl rfl (M_X6_sign C.2.2.1 hk0 h) CyX6_sign tw_335 tw_331 tw_332 (by decide) rfl rfl (Nat.le_of_ble_eq_true rfl) dX8_itemSigns_2 (fun r2 h => ?_)
  refine g_callSip (pc := 5) (As := [.int r2]) (rest := []) C (M_X8_kindOf C.2.2.1  h) CyX8_kindOf tw_348 tw_349 (by decide) rfl rfl (Nat.le_of_ble_eq_true rfl) dX8_itemSigns_5 (fun r5 h => ?_)
  refine g_bipush (pc := 8) (v := -9) C dX8_itemSigns_8 bp_m9 ?_
  refine g_icmp_ne (pc := 10) (tgt := 15) C dX8_itemSigns_10 (by decide) (fun c_ => ?_) (fun c_ => ?_)
  · replace h := ite_f h c_
    refine g_aload_n (pc := 15) C 0 dX8_itemSigns_15 rfl rfl ?_
    refine g_iload_n (pc := 16) C 1 dX8_itemSigns_16 rfl rfl ?_
    refine g_iconst (pc := 17) (v := 1) C dX8_itemSigns_17 ic_1 ?_
    refine g_iadd (pc := 18) C dX8_itemSigns_18 ?_
    refine g_iconst (pc := 19) (v := 1) C dX8_itemSigns_19 ic_1 ?_
    refine g_bipush (pc := 20) (v := 9) C dX8_itemSigns_20 bp_9 ?_
    refine g_callVip (pc := 22) (As := [.int (v1 + 1), .int 1, .int 9]) (rest := []) C hk0 rfl rfl rfl (M_X6_isFigure C.2.2.1 hk0 h) CyX6_isFigure tw_336 tw_337 tw_338 (by decide) rfl rfl (Nat.le_of_ble_eq_true rfl) dX8_itemSigns_22 (fun r22 h => ?_)
    refine g_if_ne (pc := 25) (tgt := 30) C dX8_itemSigns_25 (by decide) (fun c_ => ?_) (fun c_ => ?_)
    · replace h := ite_f h c_
      refine g_aload_n (pc := 30) C 0 dX8_itemSigns_30 rfl rfl ?_
      refine g_iload_n (pc := 31) C 1 dX8_itemSigns_31 rfl rfl ?_
      refine g_iconst (pc := 32) (v := 2) C dX8_itemSigns_32 ic_2 ?_
      refine g_iadd (pc := 33) C dX8_itemSigns_33 ?_
      refine g_iconst (pc := 34) (v := 0) C dX8_itemSigns_34 ic_0 ?_
      refine g_iconst (pc := 35) (v := 2) C dX8_itemSigns_35 ic_2 ?_
      refine g_callVip (pc := 36) (As := [.int (v1 + 2), .int 0, .int 2]) (rest := []) C hk0 rfl rfl rfl (M_X6_isFigure C.2.2.1 hk0 h) CyX6_isFigure tw_336 tw_337 tw_338 (by decide) rfl rfl (Nat.le_of_ble_eq_true rfl) dX8_itemSigns_36 (fun r36 h => ?_)
      refine g_if_ne (pc := 39) (tgt := 44) C dX8_itemSigns_39 (by decide) (fun c_ => ?_) (fun c_ => ?_)
      · replace h := ite_f h c_
        refine g_aload_n (pc := 44) C 0 dX8_itemSigns_44 rfl rfl ?_
        refine g_iload_n (pc := 45) C 1 dX8_itemSigns_45 rfl rfl ?_
        refine g_iconst (pc := 46) (v := 3) C dX8_itemSigns_46 ic_3 ?_
        refine g_iadd (pc := 47) C dX8_itemSigns_47 ?_
        refine g_iconst (pc := 48) (v := 0) C dX8_itemSigns_48 ic_0 ?_
        refine g_bipush (pc := 49) (v := 9) C dX8_itemSigns_49 bp_9 ?_
        refine g_bipush (pc := 51) (v := 20) C dX8_itemSigns_51 bp_20 ?_
        refine g_bipush (pc := 53) (v := 10) C dX8_itemSigns_53 bp_10 ?_
        refine g_aload_n (pc := 55) C 0 dX8_itemSigns_55 rfl rfl ?_
        refine g_iload_n (pc := 56) C 1 dX8_itemSigns_56 rfl rfl ?_
        refine g_iconst (pc := 57) (v := 2) C dX8_itemSigns_57 ic_2 ?_
        refine g_iadd (pc := 58) C dX8_itemSigns_58 ?_
        refine g_callVip (pc := 59) (As := [.int (v1 + 2)]) (rest := [.int 10, .int 20, .int 9, .int 0, .int (v1 + 3), .ref (G.2.2 k0)]) C hk0 rfl rfl rfl (M_X6_figure C.2.2.1 hk0 h) CyX6_figure tw_344 tw_341 tw_342 (by decide) rfl rfl (Nat.le_of_ble_eq_true rfl) dX8_itemSigns_59 (fun r59 h => ?_)
        refine g_imul (pc := 62) C dX8_itemSigns_62 ?_
        refine g_isub (pc := 63) C dX8_itemSigns_63 ?_
        refine g_min (pc := 64) C dX8_itemSigns_64 tw_351 tw_260 tw_10 tw_261 (by decide) (Nat.le_of_ble_eq_true rfl) ?_
        refine g_callVip (pc := 67) (As := [.int (v1 + 3), .int 0, .int (imin 9 (20 - (10 * r59)))]) (rest := []) C hk0 rfl rfl rfl (M_X6_isFigure C.2.2.1 hk0 h) CyX6_isFigure tw_336 tw_337 tw_338 (by decide) rfl rfl (Nat.le_of_ble_eq_true rfl) dX8_itemSigns_67 (fun r67 h => ?_)
        refine g_if_eq (pc := 70) (tgt := 77) C dX8_itemSigns_70 (by decide) (fun c_ => ?_) (fun c_ => ?_)
        · replace h := ite_t h c_
          refine g_iconst (pc := 77) (v := 3) C dX8_itemSigns_77 ic_3 ?_
          refine g_lv [] (lv2 := []) rfl ?_
          exact k_X8_itemSigns_78 C  h
        · replace h := ite_f h c_
          refine g_iconst (pc := 73) (v := 4) C dX8_itemSigns_73 ic_4 ?_
          refine g_goto (pc := 74) (tgt := 78) C dX8_itemSigns_74 (by decide) ?_
          refine g_lv [] (lv2 := []) rfl ?_
          exact k_X8_itemSigns_78 C  h
      · replace h := ite_t h c_
        refine g_iconst (pc := 42) (v := 2) C dX8_itemSigns_42 ic_2 ?_
        exact g_iret (pc := 43) C dX8_itemSigns_43 ⟨_, rfl, ⟨rfl, h⟩⟩
    · replace h := ite_t h c_
      refine g_iconst (pc := 28) (v := 1) C dX8_itemSigns_28 ic_1 ?_
      exact g_iret (pc := 29) C dX8_itemSigns_29 ⟨_, rfl, ⟨rfl, h⟩⟩
  · replace h := ite_t h c_
    refine g_iconst (pc := 13) (v := 0) C dX8_itemSigns_13 ic_0 ?_
    exact g_iret (pc := 14) C dX8_itemSigns_14 ⟨_, rfl, ⟨rfl, h⟩⟩
set_option maxHeartbeats 4000000 in
set_option maxRecDepth 100000 in
theorem k_X6_pastBlanks_26 {v2 : Int32} {σ : St} {K : Int32 → Prop} (C : Cx p R s m args meth c shC G cX6_pastBlanks 3 3 RX6 (some .int) 0 0) (h : J_X6_pastBlanks_26 v2 σ K) : Go p l e R s m args below meth c shC G 3 0 0 (MQ below (Qw shC G (RI (fun r t => t = σ ∧ K r))) args s 0 0 (Fr shC G)) 26 [(2, .int v2)] [] σ := by
  unfold J_X6_pastBlanks_26 at h
  refine g_iload_n (pc := 26) C 0 dX6_pastBlanks_26 rfl rfl ?_
  exact g_iret (pc := 27) C dX6_pastBlanks_27 ⟨_, rfl, ⟨rfl, h⟩⟩
set_option maxHeartbeats 4000000 in
set_option maxRecDepth 100000 in
theorem k_X6_pastBlanks_2 {k0 : Nat} {n0 : Nat} {v2 : Int32} {σ : St} {K : Int32 → Prop} (C : Cx p R s m args meth c shC G cX6_pastBlanks 3 3 RX6 (some .int) 0 0) (hk0 : shC[k0]? = some (6, n0, 0)) (h : L_X6_pastBlanks_2 k0 n0 σ K v2) : Go p l e R s m args below meth c shC G 3 0 0 (MQ below (Qw shC G (RI (fun r t => t = σ ∧ K r))) args s 0 0 (Fr shC G)) 2 [(0, .ref (G.2.2 k0)), (2, .int v2)] [] σ := by
  obtain ⟨n_, h⟩ := h
  induction n_ generalizing v2 with
  | zero => exact h.elim
  | succ n_ ih =>
    replace h : B_X6_pastBlanks_2 k0 n0 σ K (it1 (B_X6_pastBlanks_2 k0 n0 σ K) n_) v2 := h
    unfold B_X6_pastBlanks_2 at h
    refine g_iload_n (pc := 2) C 1 dX6_pastBlanks_2 rfl rfl ?_
    refine g_aload_n (pc := 3) C 0 dX6_pastBlanks_3 rfl rfl ?_
    refine get_X6_2 (pc := 4) C hk0 tw_184 dX6_pastBlanks_4 ?_
    refine g_icmp_ge (pc := 7) (tgt := 26) C dX6_pastBlanks_7 (by decide) (fun c_ => ?_) (fun c_ => ?_)
    · replace h := ite_t h c_
      refine g_lv [1] (lv2 := [(2, .int v2)]) rfl ?_
      exact k_X6_pastBlanks_26 C  h
    · replace h := ite_f h c_
      refine g_aload_n (pc := 10) C 0 dX6_pastBlanks_10 rfl rfl ?_
      refine g_iload_n (pc := 11) C 1 dX6_pastBlanks_11 rfl rfl ?_
      refine g_callVip (pc := 12) (As := [.int v2]) (rest := []) C hk0 rfl rfl rfl (M_X6_sign C.2.2.1 hk0 h) CyX6_sign tw_330 tw_331 tw_332 (by decide) rfl rfl (Nat.le_of_ble_eq_true rfl) dX6_pastBlanks_12 (fun r12 h => ?_)
      refine g_bipush (pc := 15) (v := 32) C dX6_pastBlanks_15 bp_32 ?_
      refine g_icmp_ne (pc := 17) (tgt := 26) C dX6_pastBlanks_17 (by decide) (fun c_ => ?_) (fun c_ => ?_)
      · replace h := ite_f h c_
        refine g_lv [1] (lv2 := [(2, .int v2)]) rfl ?_
        exact k_X6_pastBlanks_26 C  h
      · replace h := ite_t h c_
        refine g_iinc (pc := 20) (lv2 := [(2, .int (v2 + 1)), (0, .ref (G.2.2 k0))]) C 1 dX6_pastBlanks_20 ic_1 rfl (by decide) rfl ?_
        refine g_goto (pc := 23) (tgt := 2) C dX6_pastBlanks_23 (by decide) ?_
        refine g_lv [1, 0] (lv2 := [(0, .ref (G.2.2 k0)), (2, .int (v2 + 1))]) rfl ?_
        exact ih h
set_option maxHeartbeats 4000000 in
set_option maxRecDepth 100000 in
theorem M_X6_pastBlanks {l : Launch} {G : Gp} (hD : Dj shC G) {k0 : Nat} {n0 : Nat} {v1 : Int32} {σ : St} {K : Int32 → Prop} (hk0 : shC[k0]? = some (6, n0, 0)) (h : wp_X6_pastBlanks k0 n0 v1 σ K) : MC l shC G yX6_pastBlanks cX6_pastBlanks 3 (some .int) 3 [.ref (G.2.2 k0), .int v1] σ (RI (fun r t => t = σ ∧ K r)) := by
  unfold wp_X6_pastBlanks at h
  refine MC.of (by decide) hD (Nat.le_of_ble_eq_true rfl) ?_
  intro p e s m args below meth c C
  replace C : Cx p (rmD 3) s m args meth c shC G cX6_pastBlanks 3 3 RX6 (some .int) 0 0 := C
  show Go p l e (rmD 3) s m args below meth c shC G 3 0 0 (MQ below (Qw shC G (RI (fun r t => t = σ ∧ K r))) args s 0 0 (Fr shC G)) 0 [(0, .ref (G.2.2 k0)), (1, .int v1)] [] σ
  refine g_iload_n (pc := 0) C 1 dX6_pastBlanks_0 rfl rfl ?_
  refine g_istore_n (pc := 1) (lv2 := [(2, .int v1), (0, .ref (G.2.2 k0)), (1, .int v1)]) C dX6_pastBlanks_1 rfl (by decide) rfl ?_
  refine g_lv [1, 0] (lv2 := [(0, .ref (G.2.2 k0)), (2, .int v1)]) rfl ?_
  exact k_X6_pastBlanks_2 C hk0 h
set_option maxHeartbeats 4000000 in
set_option maxRecDepth 100000 in
theorem M_X0_rewind {l : Launch} {G : Gp} (hD : Dj shC G) {k0 : Nat} {σ : St} {K : St → Prop} (hk0 : shC[k0]? = some (0, 0, 0)) (h : wp_X0_rewind k0 σ K) : MC l shC G yX0_rewind cX0_rewind 1 none 1 [.ref (G.2.2 k0)] σ (RV K) := by
  unfold wp_X0_rewind at h
  refine MC.of (by decide) hD (Nat.le_of_ble_eq_true rfl) ?_
  intro p e s m args below meth c C
  replace C : Cx p (rmD 1) s m args meth c shC G cX0_rewind 1 1 RX0 none 0 0 := C
  show Go p l e (rmD 1) s m args below meth c shC G 1 0 0 (MQ below (Qw shC G (RV K)) args s 0 0 (Fr shC G)) 0 [(0, .ref (G.2.2 k0))] [] σ
  refine g_aload_n (pc := 0) C 0 dX0_rewind_0 rfl rfl ?_
  refine g_aload_n (pc := 1) C 0 dX0_rewind_1 rfl rfl ?_
  refine get_X0_2 (pc := 2) C hk0 tw_46 dX0_rewind_2 ?_
  refine put_X0_3 (pc := 5) C hk0 tw_47 dX0_rewind_5 ?_
  refine g_aload_n (pc := 8) C 0 dX0_rewind_8 rfl rfl ?_
  refine g_iconst (pc := 9) (v := 0) C dX0_rewind_9 ic_0 ?_
  refine put_X0_4 (pc := 10) C hk0 tw_51 dX0_rewind_10 ?_
  refine g_aload_n (pc := 13) C 0 dX0_rewind_13 rfl rfl ?_
  refine g_iconst (pc := 14) (v := 0) C dX0_rewind_14 ic_0 ?_
  refine put_X0_5 (pc := 15) C hk0 (by first | exact Or.inl rfl | exact Or.inr rfl) tw_52 dX0_rewind_15 ?_
  exact g_vret (pc := 18) C dX0_rewind_18 ⟨rfl, h⟩
set_option maxHeartbeats 4000000 in
set_option maxRecDepth 100000 in
theorem M_X0_begin {l : Launch} {G : Gp} (hD : Dj shC G) {k0 : Nat} {v1 : Int32} {v2 : Int32} {v3 : Int32} {σ : St} {K : St → Prop} (hk0 : shC[k0]? = some (0, 0, 0)) (h : wp_X0_begin k0 v1 v2 v3 σ K) : MC l shC G yX0_begin cX0_begin 4 none 2 [.ref (G.2.2 k0), .int v1, .int v2, .int v3] σ (RV K) := by
  unfold wp_X0_begin at h
  refine MC.of (by decide) hD (Nat.le_of_ble_eq_true rfl) ?_
  intro p e s m args below meth c C
  replace C : Cx p (rmD 2) s m args meth c shC G cX0_begin 4 2 RX0 none 0 0 := C
  show Go p l e (rmD 2) s m args below meth c shC G 4 0 0 (MQ below (Qw shC G (RV K)) args s 0 0 (Fr shC G)) 0 [(0, .ref (G.2.2 k0)), (1, .int v1), (2, .int v2), (3, .int v3)] [] σ
  refine g_aload_n (pc := 0) C 0 dX0_begin_0 rfl rfl ?_
  refine g_iload_n (pc := 1) C 1 dX0_begin_1 rfl rfl ?_
  refine put_X0_0 (pc := 2) C hk0 tw_39 dX0_begin_2 ?_
  refine g_aload_n (pc := 5) C 0 dX0_begin_5 rfl rfl ?_
  refine g_iload_n (pc := 6) C 2 dX0_begin_6 rfl rfl ?_
  refine put_X0_1 (pc := 7) C hk0 tw_43 dX0_begin_7 ?_
  refine g_aload_n (pc := 10) C 0 dX0_begin_10 rfl rfl ?_
  refine g_iload_n (pc := 11) C 3 dX0_begin_11 rfl rfl ?_
  refine put_X0_2 (pc := 12) C hk0 tw_46 dX0_begin_12 ?_
  refine g_aload_n (pc := 15) C 0 dX0_begin_15 rfl rfl ?_
  refine g_callVv (pc := 16) (As := []) (rest := []) C hk0 rfl rfl rfl (M_X0_rewind C.2.2.1 hk0 h) CyX0_rewind tw_360 tw_361 tw_362 (by decide) rfl rfl (Nat.le_of_ble_eq_true rfl) dX0_begin_16 (fun t16 h => ?_)
  exact g_vret (pc := 19) C dX0_begin_19 ⟨rfl, h⟩
set_option maxHeartbeats 4000000 in
set_option maxRecDepth 100000 in
theorem k_X7_addBell_34 {σ : St} {K : St → Prop} (C : Cx p R s m args meth c shC G cX7_addBell 4 3 RX7 none 0 0) (h : J_X7_addBell_34 σ K) : Go p l e R s m args below meth c shC G 4 0 0 (MQ below (Qw shC G (RV K)) args s 0 0 (Fr shC G)) 34 [] [] σ := by
  unfold J_X7_addBell_34 at h
  exact g_vret (pc := 34) C dX7_addBell_34 ⟨rfl, h⟩
set_option maxHeartbeats 4000000 in
set_option maxRecDepth 100000 in
theorem M_X7_addBell {l : Launch} {G : Gp} (hD : Dj shC G) {k0 : Nat} {v1 : Int32} {v2 : Int32} {v3 : Int32} {σ : St} {K : St → Prop} (hk0 : shC[k0]? = some (7, 0, 0)) (h : wp_X7_addBell k0 v1 v2 v3 σ K) : MC l shC G yX7_addBell cX7_addBell 4 none 3 [.ref (G.2.2 k0), .int v1, .int v2, .int v3] σ (RV K) := by
  unfold wp_X7_addBell at h
  refine MC.of (by decide) hD (Nat.le_of_ble_eq_true rfl) ?_
  intro p e s m args below meth c C
  replace C : Cx p (rmD 3) s m args meth c shC G cX7_addBell 4 3 RX7 none 0 0 := C
  show Go p l e (rmD 3) s m args below meth c shC G 4 0 0 (MQ below (Qw shC G (RV K)) args s 0 0 (Fr shC G)) 0 [(0, .ref (G.2.2 k0)), (1, .int v1), (2, .int v2), (3, .int v3)] [] σ
  refine g_aload_n (pc := 0) C 0 dX7_addBell_0 rfl rfl ?_
  refine get_X7_2 (pc := 1) C hk0 tw_75 dX7_addBell_1 ?_
  refine g_bipush (pc := 4) (v := 6) C dX7_addBell_4 bp_6 ?_
  refine g_icmp_ge (pc := 6) (tgt := 34) C dX7_addBell_6 (by decide) (fun c_ => ?_) (fun c_ => ?_)
  · replace h := ite_t h c_
    refine g_lv [] (lv2 := []) rfl ?_
    exact k_X7_addBell_34 C  h
  · replace h := ite_f h c_
    refine g_aload_n (pc := 9) C 0 dX7_addBell_9 rfl rfl ?_
    refine get_X7_0 (pc := 10) C hk0 tw_70 dX7_addBell_10 ?_
    refine g_aload_n (pc := 13) C 0 dX7_addBell_13 rfl rfl ?_
    refine get_X7_2 (pc := 14) C hk0 tw_75 dX7_addBell_14 ?_
    obtain ⟨g_, h⟩ := h
    have hs17_ : shC[((k0 + 3) + (σ.1 k0 2).toNatClampNeg)]? = some (0, 0, 0) := sh7_e (k := k0) hk0 g_
    refine g_aldB (pc := 17) C (sh7_0 hk0) g_ dX7_addBell_17 ?_
    refine g_iload_n (pc := 18) C 1 dX7_addBell_18 rfl rfl ?_
    refine g_iload_n (pc := 19) C 2 dX7_addBell_19 rfl rfl ?_
    refine g_iload_n (pc := 20) C 3 dX7_addBell_20 rfl rfl ?_
    refine g_callVv (pc := 21) (As := [.int v1, .int v2, .int v3]) (rest := []) C hs17_ rfl rfl rfl (M_X0_begin C.2.2.1 hs17_ h) CyX0_begin tw_356 tw_357 tw_358 (by decide) rfl rfl (Nat.le_of_ble_eq_true rfl) dX7_addBell_21 (fun t21 h => ?_)
    refine g_aload_n (pc := 24) C 0 dX7_addBell_24 rfl rfl ?_
    refine g_dup (pc := 25) C dX7_addBell_25 rfl ?_
    refine get_X7_2 (pc := 26) C hk0 tw_75 dX7_addBell_26 ?_
    refine g_iconst (pc := 29) (v := 1) C dX7_addBell_29 ic_1 ?_
    refine g_iadd (pc := 30) C dX7_addBell_30 ?_
    refine put_X7_2 (pc := 31) C hk0 tw_75 dX7_addBell_31 ?_
    refine g_lv [] (lv2 := []) rfl ?_
    exact k_X7_addBell_34 C  h
set_option maxHeartbeats 4000000 in
set_option maxRecDepth 100000 in
theorem M_X7_clear {l : Launch} {G : Gp} (hD : Dj shC G) {k0 : Nat} {σ : St} {K : St → Prop} (hk0 : shC[k0]? = some (7, 0, 0)) (h : wp_X7_clear k0 σ K) : MC l shC G yX7_clear cX7_clear 1 none 1 [.ref (G.2.2 k0)] σ (RV K) := by
  unfold wp_X7_clear at h
  refine MC.of (by decide) hD (Nat.le_of_ble_eq_true rfl) ?_
  intro p e s m args below meth c C
  replace C : Cx p (rmD 1) s m args meth c shC G cX7_clear 1 1 RX7 none 0 0 := C
  show Go p l e (rmD 1) s m args below meth c shC G 1 0 0 (MQ below (Qw shC G (RV K)) args s 0 0 (Fr shC G)) 0 [(0, .ref (G.2.2 k0))] [] σ
  refine g_aload_n (pc := 0) C 0 dX7_clear_0 rfl rfl ?_
  refine g_iconst (pc := 1) (v := 0) C dX7_clear_1 ic_0 ?_
  refine put_X7_2 (pc := 2) C hk0 tw_75 dX7_clear_2 ?_
  refine g_aload_n (pc := 5) C 0 dX7_clear_5 rfl rfl ?_
  refine g_iconst (pc := 6) (v := 0) C dX7_clear_6 ic_0 ?_
  refine put_X7_3 (pc := 7) C hk0 tw_77 dX7_clear_7 ?_
  refine g_aload_n (pc := 10) C 0 dX7_clear_10 rfl rfl ?_
  refine g_iconst (pc := 11) (v := 0) C dX7_clear_11 ic_0 ?_
  refine put_X7_4 (pc := 12) C hk0 tw_79 dX7_clear_12 ?_
  exact g_vret (pc := 15) C dX7_clear_15 ⟨rfl, h⟩
set_option maxHeartbeats 4000000 in
set_option maxRecDepth 100000 in
theorem k_X8_scan_101 {k1 : Nat} {n1 : Nat} {v2 : Int32} {v3 : Int32} {w0 : Int32} {σ : St} {K : Int32 → St → Prop} {Φ65 : Int32 → Int32 → St → Prop} (C : Cx p R s m args meth c shC G cX8_scan 6 6 RX8 (some .int) 0 0) (hk1 : shC[k1]? = some (6, n1, 0)) (hΦ65 : ∀ (v2' : Int32) (v3' : Int32) (σ' : St), Φ65 v2' v3' σ' → Go p l e R s m args below meth c shC G 6 0 0 (MQ below (Qw shC G (RI K)) args s 0 0 (Fr shC G)) 65 [(0, .ref (G.2.2 0)), (1, .ref (G.2.2 k1)), (2, .int (v2')), (3, .int (v3'))] [] σ') (h : J_X8_scan_101 k1 n1 v2 v3 w0 σ K Φ65) : Go p l e R s m args below meth c shC G 6 0 0 (MQ below (Qw shC G (RI K)) args s 0 0 (Fr shC G)) 101 [(0, .ref (G.2.2 0)), (1, .ref (G.2.2 k1)), (2, .int v2), (3, .int v3)] [.int w0] σ := by
  unfold J_X8_scan_101 at h
  refine g_istore (pc := 101) (lv2 := [(4, .int w0), (0, .ref (G.2.2 0)), (1, .ref (G.2.2 k1)), (2, .int v2), (3, .int v3)]) C dX8_scan_101 (by decide) rfl ?_
  refine g_iload (pc := 103) C 0 dX8_scan_103 rfl ?_
  refine g_iconst (pc := 105) (v := 4) C dX8_scan_105 ic_4 ?_
  refine g_icmp_ge (pc := 106) (tgt := 114) C dX8_scan_106 (by decide) (fun c_ => ?_) (fun c_ => ?_)
  · replace h := ite_t h c_
    refine g_bipush (pc := 114) (v := 10) C dX8_scan_114 bp_10 ?_
    refine g_aload_n (pc := 116) C 2 dX8_scan_116 rfl rfl ?_
    refine g_iload_n (pc := 117) C 3 dX8_scan_117 rfl rfl ?_
    refine g_iconst (pc := 118) (v := 2) C dX8_scan_118 ic_2 ?_
    refine g_iadd (pc := 119) C dX8_scan_119 ?_
    refine g_callVip (pc := 120) (As := [.int (v2 + 2)]) (rest := [.int 10]) C hk1 rfl rfl rfl (M_X6_figure C.2.2.1 hk1 h) CyX6_figure tw_344 tw_341 tw_342 (by decide) rfl rfl (Nat.le_of_ble_eq_true rfl) dX8_scan_120 (fun r120 h => ?_)
    refine g_imul (pc := 123) C dX8_scan_123 ?_
    refine g_aload_n (pc := 124) C 2 dX8_scan_124 rfl rfl ?_
    refine g_iload_n (pc := 125) C 3 dX8_scan_125 rfl rfl ?_
    refine g_iconst (pc := 126) (v := 3) C dX8_scan_126 ic_3 ?_
    refine g_iadd (pc := 127) C dX8_scan_127 ?_
    refine g_callVip (pc := 128) (As := [.int (v2 + 3)]) (rest := [.int (10 * r120)]) C hk1 rfl rfl rfl (M_X6_figure C.2.2.1 hk1 h) CyX6_figure tw_344 tw_341 tw_342 (by decide) rfl rfl (Nat.le_of_ble_eq_true rfl) dX8_scan_128 (fun r128 h => ?_)
    refine g_iadd (pc := 131) C dX8_scan_131 ?_
    refine g_istore (pc := 132) (lv2 := [(5, .int ((10 * r120) + r128)), (4, .int w0), (0, .ref (G.2.2 0)), (1, .ref (G.2.2 k1)), (2, .int v2), (3, .int v3)]) C dX8_scan_132 (by decide) rfl ?_
    refine g_aload_n (pc := 134) C 2 dX8_scan_134 rfl rfl ?_
    refine get_X8_4 (pc := 135) C rfl tw_198 dX8_scan_135 ?_
    refine g_aload_n (pc := 138) C 3 dX8_scan_138 rfl rfl ?_
    refine g_iload_n (pc := 139) C 4 dX8_scan_139 rfl rfl ?_
    refine g_callVip (pc := 140) (As := [.int v2]) (rest := [.ref (G.2.2 34)]) C hk1 rfl rfl rfl (M_X6_sign C.2.2.1 hk1 h) CyX6_sign tw_335 tw_331 tw_332 (by decide) rfl rfl (Nat.le_of_ble_eq_true rfl) dX8_scan_140 (fun r140 h => ?_)
    refine g_callSip (pc := 143) (As := [.int r140]) (rest := [.ref (G.2.2 34)]) C (M_X8_kindOf C.2.2.1  h) CyX8_kindOf tw_348 tw_349 (by decide) rfl rfl (Nat.le_of_ble_eq_true rfl) dX8_scan_143 (fun r143 h => ?_)
    refine g_aload_n (pc := 146) C 3 dX8_scan_146 rfl rfl ?_
    refine g_iload_n (pc := 147) C 4 dX8_scan_147 rfl rfl ?_
    refine g_iconst (pc := 148) (v := 1) C dX8_scan_148 ic_1 ?_
    refine g_iadd (pc := 149) C dX8_scan_149 ?_
    refine g_callVip (pc := 150) (As := [.int (v2 + 1)]) (rest := [.int r143, .ref (G.2.2 34)]) C hk1 rfl rfl rfl (M_X6_figure C.2.2.1 hk1 h) CyX6_figure tw_344 tw_341 tw_342 (by decide) rfl rfl (Nat.le_of_ble_eq_true rfl) dX8_scan_150 (fun r150 h => ?_)
    refine g_iload (pc := 153) C 0 dX8_scan_153 rfl ?_
    refine g_callVv (pc := 155) (As := [.int r143, .int r150, .int ((10 * r120) + r128)]) (rest := []) C rfl rfl rfl rfl (M_X7_addBell C.2.2.1 rfl h) CyX7_addBell tw_352 tw_353 tw_354 (by decide) rfl rfl (Nat.le_of_ble_eq_true rfl) dX8_scan_155 (fun t155 h => ?_)
    refine g_aload_n (pc := 158) C 3 dX8_scan_158 rfl rfl ?_
    refine g_iload_n (pc := 159) C 4 dX8_scan_159 rfl rfl ?_
    refine g_iconst (pc := 160) (v := 4) C dX8_scan_160 ic_4 ?_
    refine g_iadd (pc := 161) C dX8_scan_161 ?_
    refine g_callVip (pc := 162) (As := [.int (v2 + 4)]) (rest := []) C hk1 rfl rfl rfl (M_X6_pastBlanks C.2.2.1 hk1 h) CyX6_pastBlanks tw_326 tw_327 tw_328 (by decide) rfl rfl (Nat.le_of_ble_eq_true rfl) dX8_scan_162 (fun r162 h => ?_)
    refine g_istore_n (pc := 165) (lv2 := [(2, .int r162), (5, .int ((10 * r120) + r128)), (4, .int w0), (0, .ref (G.2.2 0)), (1, .ref (G.2.2 k1)), (3, .int v3)]) C dX8_scan_165 rfl (by decide) rfl ?_
    refine g_iinc (pc := 166) (lv2 := [(3, .int (v3 + 1)), (2, .int r162), (5, .int ((10 * r120) + r128)), (4, .int w0), (0, .ref (G.2.2 0)), (1, .ref (G.2.2 k1))]) C 5 dX8_scan_166 ic_1 rfl (by decide) rfl ?_
    refine g_goto (pc := 169) (tgt := 65) C dX8_scan_169 (by decide) ?_
    refine g_lv [4, 5, 1, 0] (lv2 := [(0, .ref (G.2.2 0)), (1, .ref (G.2.2 k1)), (2, .int r162), (3, .int (v3 + 1))]) rfl ?_
    exact hΦ65 _ _ _ h
  · replace h := ite_f h c_
    refine g_iload_n (pc := 109) C 3 dX8_scan_109 rfl rfl ?_
    refine g_iload (pc := 110) C 0 dX8_scan_110 rfl ?_
    refine g_iadd (pc := 112) C dX8_scan_112 ?_
    exact g_iret (pc := 113) C dX8_scan_113 ⟨_, rfl, h⟩
set_option maxHeartbeats 4000000 in
set_option maxRecDepth 100000 in
theorem k_X8_scan_86 {k1 : Nat} {n1 : Nat} {v2 : Int32} {v3 : Int32} {σ : St} {K : Int32 → St → Prop} {Φ65 : Int32 → Int32 → St → Prop} (C : Cx p R s m args meth c shC G cX8_scan 6 6 RX8 (some .int) 0 0) (hk1 : shC[k1]? = some (6, n1, 0)) (hΦ65 : ∀ (v2' : Int32) (v3' : Int32) (σ' : St), Φ65 v2' v3' σ' → Go p l e R s m args below meth c shC G 6 0 0 (MQ below (Qw shC G (RI K)) args s 0 0 (Fr shC G)) 65 [(0, .ref (G.2.2 0)), (1, .ref (G.2.2 k1)), (2, .int (v2')), (3, .int (v3'))] [] σ') (h : J_X8_scan_86 k1 n1 v2 v3 σ K Φ65) : Go p l e R s m args below meth c shC G 6 0 0 (MQ below (Qw shC G (RI K)) args s 0 0 (Fr shC G)) 86 [(0, .ref (G.2.2 0)), (1, .ref (G.2.2 k1)), (2, .int v2), (3, .int v3)] [] σ := by
  unfold J_X8_scan_86 at h
  refine g_iload_n (pc := 86) C 3 dX8_scan_86 rfl rfl ?_
  refine g_bipush (pc := 87) (v := 6) C dX8_scan_87 bp_6 ?_
  refine g_icmp_ge (pc := 89) (tgt := 100) C dX8_scan_89 (by decide) (fun c_ => ?_) (fun c_ => ?_)
  · replace h := ite_t h c_
    refine g_iconst (pc := 100) (v := 0) C dX8_scan_100 ic_0 ?_
    refine g_lv [0, 1, 2, 3] (lv2 := [(0, .ref (G.2.2 0)), (1, .ref (G.2.2 k1)), (2, .int v2), (3, .int v3)]) rfl ?_
    exact k_X8_scan_101 C hk1 hΦ65 h
  · replace h := ite_f h c_
    refine g_aload_n (pc := 92) C 1 dX8_scan_92 rfl rfl ?_
    refine g_iload_n (pc := 93) C 2 dX8_scan_93 rfl rfl ?_
    refine g_callSip (pc := 94) (As := [.ref (G.2.2 k1), .int v2]) (rest := []) C (M_X8_itemSigns C.2.2.1 hk1 h) CyX8_itemSigns tw_345 tw_346 (by decide) rfl rfl (Nat.le_of_ble_eq_true rfl) dX8_scan_94 (fun r94 h => ?_)
    refine g_goto (pc := 97) (tgt := 101) C dX8_scan_97 (by decide) ?_
    refine g_lv [0, 1, 2, 3] (lv2 := [(0, .ref (G.2.2 0)), (1, .ref (G.2.2 k1)), (2, .int v2), (3, .int v3)]) rfl ?_
    exact k_X8_scan_101 C hk1 hΦ65 h
set_option maxHeartbeats 4000000 in
set_option maxRecDepth 100000 in
theorem k_X8_scan_65 {k1 : Nat} {n1 : Nat} {v2 : Int32} {v3 : Int32} {σ : St} {K : Int32 → St → Prop} (C : Cx p R s m args meth c shC G cX8_scan 6 6 RX8 (some .int) 0 0) (hk1 : shC[k1]? = some (6, n1, 0)) (h : L_X8_scan_65 k1 n1 K v2 v3 σ) : Go p l e R s m args below meth c shC G 6 0 0 (MQ below (Qw shC G (RI K)) args s 0 0 (Fr shC G)) 65 [(0, .ref (G.2.2 0)), (1, .ref (G.2.2 k1)), (2, .int v2), (3, .int v3)] [] σ := by
  obtain ⟨n_, h⟩ := h
  induction n_ generalizing v2 v3 σ with
  | zero => exact h.elim
  | succ n_ ih =>
    replace h : B_X8_scan_65 k1 n1 K (it3 (B_X8_scan_65 k1 n1 K) n_) v2 v3 σ := h
    unfold B_X8_scan_65 at h
    refine g_iload_n (pc := 65) C 3 dX8_scan_65 rfl rfl ?_
    refine g_bipush (pc := 66) (v := 6) C dX8_scan_66 bp_6 ?_
    refine g_icmp_gt (pc := 68) (tgt := 172) C dX8_scan_68 (by decide) (fun c_ => ?_) (fun c_ => ?_)
    · replace h := ite_t h c_
      refine g_iload_n (pc := 172) C 2 dX8_scan_172 rfl rfl ?_
      exact g_iret (pc := 173) C dX8_scan_173 ⟨_, rfl, h⟩
    · replace h := ite_f h c_
      refine g_iload_n (pc := 71) C 3 dX8_scan_71 rfl rfl ?_
      refine g_if_le (pc := 72) (tgt := 86) C dX8_scan_72 (by decide) (fun c_ => ?_) (fun c_ => ?_)
      · replace h := ite_t h c_
        refine g_lv [0, 1, 2, 3] (lv2 := [(0, .ref (G.2.2 0)), (1, .ref (G.2.2 k1)), (2, .int v2), (3, .int v3)]) rfl ?_
        exact k_X8_scan_86 C hk1 (fun _ _ _ h_ => ih h_) h
      · replace h := ite_f h c_
        refine g_iload_n (pc := 75) C 2 dX8_scan_75 rfl rfl ?_
        refine g_aload_n (pc := 76) C 1 dX8_scan_76 rfl rfl ?_
        refine get_X6_2 (pc := 77) C hk1 tw_186 dX8_scan_77 ?_
        refine g_icmp_lt (pc := 80) (tgt := 86) C dX8_scan_80 (by decide) (fun c_ => ?_) (fun c_ => ?_)
        · replace h := ite_t h c_
          refine g_lv [0, 1, 2, 3] (lv2 := [(0, .ref (G.2.2 0)), (1, .ref (G.2.2 k1)), (2, .int v2), (3, .int v3)]) rfl ?_
          exact k_X8_scan_86 C hk1 (fun _ _ _ h_ => ih h_) h
        · replace h := ite_f h c_
          refine g_bipush (pc := 83) (v := -9) C dX8_scan_83 bp_m9 ?_
          exact g_iret (pc := 85) C dX8_scan_85 ⟨_, rfl, h⟩
set_option maxHeartbeats 4000000 in
set_option maxRecDepth 100000 in
theorem M_X8_scan {l : Launch} {G : Gp} (hD : Dj shC G) {k1 : Nat} {n1 : Nat} {σ : St} {K : Int32 → St → Prop} (hk1 : shC[k1]? = some (6, n1, 0)) (h : wp_X8_scan k1 n1 σ K) : MC l shC G yX8_scan cX8_scan 6 (some .int) 6 [.ref (G.2.2 0), .ref (G.2.2 k1)] σ (RI K) := by
  unfold wp_X8_scan at h
  refine MC.of (by decide) hD (Nat.le_of_ble_eq_true rfl) ?_
  intro p e s m args below meth c C
  replace C : Cx p (rmD 6) s m args meth c shC G cX8_scan 6 6 RX8 (some .int) 0 0 := C
  show Go p l e (rmD 6) s m args below meth c shC G 6 0 0 (MQ below (Qw shC G (RI K)) args s 0 0 (Fr shC G)) 0 [(0, .ref (G.2.2 0)), (1, .ref (G.2.2 k1))] [] σ
  refine g_aload_n (pc := 0) C 0 dX8_scan_0 rfl rfl ?_
  refine get_X8_4 (pc := 1) C rfl tw_198 dX8_scan_1 ?_
  refine g_callVv (pc := 4) (As := []) (rest := []) C rfl rfl rfl rfl (M_X7_clear C.2.2.1 rfl h) CyX7_clear tw_322 tw_323 tw_324 (by decide) rfl rfl (Nat.le_of_ble_eq_true rfl) dX8_scan_4 (fun t4 h => ?_)
  refine g_aload_n (pc := 7) C 1 dX8_scan_7 rfl rfl ?_
  refine g_iconst (pc := 8) (v := 0) C dX8_scan_8 ic_0 ?_
  refine g_callVip (pc := 9) (As := [.int 0]) (rest := []) C hk1 rfl rfl rfl (M_X6_pastBlanks C.2.2.1 hk1 h) CyX6_pastBlanks tw_326 tw_327 tw_328 (by decide) rfl rfl (Nat.le_of_ble_eq_true rfl) dX8_scan_9 (fun r9 h => ?_)
  refine g_istore_n (pc := 12) (lv2 := [(2, .int r9), (0, .ref (G.2.2 0)), (1, .ref (G.2.2 k1))]) C dX8_scan_12 rfl (by decide) rfl ?_
  refine g_aload_n (pc := 13) C 2 dX8_scan_13 rfl rfl ?_
  refine g_iload_n (pc := 14) C 0 dX8_scan_14 rfl rfl ?_
  refine g_callVip (pc := 15) (As := [.int r9]) (rest := []) C hk1 rfl rfl rfl (M_X6_sign C.2.2.1 hk1 h) CyX6_sign tw_335 tw_331 tw_332 (by decide) rfl rfl (Nat.le_of_ble_eq_true rfl) dX8_scan_15 (fun r15 h => ?_)
  refine g_bipush (pc := 18) (v := 100) C dX8_scan_18 bp_100 ?_
  refine g_icmp_eq (pc := 20) (tgt := 25) C dX8_scan_20 (by decide) (fun c_ => ?_) (fun c_ => ?_)
  · replace h := ite_t h c_
    refine g_aload_n (pc := 25) C 2 dX8_scan_25 rfl rfl ?_
    refine g_iload_n (pc := 26) C 0 dX8_scan_26 rfl rfl ?_
    refine g_iconst (pc := 27) (v := 1) C dX8_scan_27 ic_1 ?_
    refine g_iadd (pc := 28) C dX8_scan_28 ?_
    refine g_iconst (pc := 29) (v := 0) C dX8_scan_29 ic_0 ?_
    refine g_iconst (pc := 30) (v := 3) C dX8_scan_30 ic_3 ?_
    refine g_callVip (pc := 31) (As := [.int (r9 + 1), .int 0, .int 3]) (rest := []) C hk1 rfl rfl rfl (M_X6_isFigure C.2.2.1 hk1 h) CyX6_isFigure tw_336 tw_337 tw_338 (by decide) rfl rfl (Nat.le_of_ble_eq_true rfl) dX8_scan_31 (fun r31 h => ?_)
    refine g_if_ne (pc := 34) (tgt := 41) C dX8_scan_34 (by decide) (fun c_ => ?_) (fun c_ => ?_)
    · replace h := ite_f h c_
      refine g_aload_n (pc := 41) C 1 dX8_scan_41 rfl rfl ?_
      refine get_X8_4 (pc := 42) C rfl tw_198 dX8_scan_42 ?_
      refine g_aload_n (pc := 45) C 2 dX8_scan_45 rfl rfl ?_
      refine g_iload_n (pc := 46) C 0 dX8_scan_46 rfl rfl ?_
      refine g_iconst (pc := 47) (v := 1) C dX8_scan_47 ic_1 ?_
      refine g_iadd (pc := 48) C dX8_scan_48 ?_
      refine g_callVip (pc := 49) (As := [.int (r9 + 1)]) (rest := [.ref (G.2.2 34)]) C hk1 rfl rfl rfl (M_X6_figure C.2.2.1 hk1 h) CyX6_figure tw_344 tw_341 tw_342 (by decide) rfl rfl (Nat.le_of_ble_eq_true rfl) dX8_scan_49 (fun r49 h => ?_)
      refine put_X7_3 (pc := 52) C rfl tw_78 dX8_scan_52 ?_
      refine g_aload_n (pc := 55) C 2 dX8_scan_55 rfl rfl ?_
      refine g_iload_n (pc := 56) C 0 dX8_scan_56 rfl rfl ?_
      refine g_iconst (pc := 57) (v := 2) C dX8_scan_57 ic_2 ?_
      refine g_iadd (pc := 58) C dX8_scan_58 ?_
      refine g_callVip (pc := 59) (As := [.int (r9 + 2)]) (rest := []) C hk1 rfl rfl rfl (M_X6_pastBlanks C.2.2.1 hk1 h) CyX6_pastBlanks tw_326 tw_327 tw_328 (by decide) rfl rfl (Nat.le_of_ble_eq_true rfl) dX8_scan_59 (fun r59 h => ?_)
      refine g_istore_n (pc := 62) (lv2 := [(2, .int r59), (0, .ref (G.2.2 0)), (1, .ref (G.2.2 k1))]) C dX8_scan_62 rfl (by decide) rfl ?_
      refine g_iconst (pc := 63) (v := 0) C dX8_scan_63 ic_0 ?_
      refine g_istore_n (pc := 64) (lv2 := [(3, .int 0), (2, .int r59), (0, .ref (G.2.2 0)), (1, .ref (G.2.2 k1))]) C dX8_scan_64 rfl (by decide) rfl ?_
      refine g_lv [2, 3, 1, 0] (lv2 := [(0, .ref (G.2.2 0)), (1, .ref (G.2.2 k1)), (2, .int r59), (3, .int 0)]) rfl ?_
      exact k_X8_scan_65 C hk1 h
    · replace h := ite_t h c_
      refine g_iload_n (pc := 37) C 0 dX8_scan_37 rfl rfl ?_
      refine g_iconst (pc := 38) (v := 1) C dX8_scan_38 ic_1 ?_
      refine g_iadd (pc := 39) C dX8_scan_39 ?_
      exact g_iret (pc := 40) C dX8_scan_40 ⟨_, rfl, h⟩
  · replace h := ite_f h c_
    refine g_iload_n (pc := 23) C 0 dX8_scan_23 rfl rfl ?_
    exact g_iret (pc := 24) C dX8_scan_24 ⟨_, rfl, h⟩
set_option maxHeartbeats 4000000 in
set_option maxRecDepth 100000 in
theorem k_X8_fault_39 {w0 : Int32} {σ : St} {K : Int32 → St → Prop} (C : Cx p R s m args meth c shC G cX8_fault 2 7 RX8 (some .int) 0 0) (h : J_X8_fault_39 w0 σ K) : Go p l e R s m args below meth c shC G 2 0 0 (MQ below (Qw shC G (RI K)) args s 0 0 (Fr shC G)) 39 [] [.int w0] σ := by
  unfold J_X8_fault_39 at h
  exact g_iret (pc := 39) C dX8_fault_39 ⟨_, rfl, h⟩
set_option maxHeartbeats 4000000 in
set_option maxRecDepth 100000 in
theorem M_X8_fault {l : Launch} {G : Gp} (hD : Dj shC G) {v1 : Int32} {σ : St} {K : Int32 → St → Prop} (h : wp_X8_fault v1 σ K) : MC l shC G yX8_fault cX8_fault 2 (some .int) 7 [.ref (G.2.2 0), .int v1] σ (RI K) := by
  unfold wp_X8_fault at h
  refine MC.of (by decide) hD (Nat.le_of_ble_eq_true rfl) ?_
  intro p e s m args below meth c C
  replace C : Cx p (rmD 7) s m args meth c shC G cX8_fault 2 7 RX8 (some .int) 0 0 := C
  show Go p l e (rmD 7) s m args below meth c shC G 2 0 0 (MQ below (Qw shC G (RI K)) args s 0 0 (Fr shC G)) 0 [(0, .ref (G.2.2 0)), (1, .int v1)] [] σ
  refine g_iload_n (pc := 0) C 1 dX8_fault_0 rfl rfl ?_
  refine g_callSip (pc := 1) (As := [.int v1]) (rest := []) C (M_X8_isText C.2.2.1  h) CyX8_isText tw_307 tw_308 (by decide) rfl rfl (Nat.le_of_ble_eq_true rfl) dX8_fault_1 (fun r1 h => ?_)
  refine g_if_ne (pc := 4) (tgt := 9) C dX8_fault_4 (by decide) (fun c_ => ?_) (fun c_ => ?_)
  · replace h := ite_f h c_
    refine g_aload_n (pc := 9) C 0 dX8_fault_9 rfl rfl ?_
    refine get_X8_1 (pc := 10) C rfl tw_195 dX8_fault_10 ?_
    refine g_iload_n (pc := 13) C 1 dX8_fault_13 rfl rfl ?_
    obtain ⟨g_, h⟩ := h
    have hs14_ : shC[(17 + 2 * v1.toNatClampNeg)]? = some (6, 60, 0) := shR17 g_
    refine g_aldR (pc := 14) C rfl g_ dX8_fault_14 ?_
    refine get_X6_1 (pc := 15) C hs14_ tw_183 dX8_fault_15 ?_
    refine g_if_eq (pc := 18) (tgt := 34) C dX8_fault_18 (by decide) (fun c_ => ?_) (fun c_ => ?_)
    · replace h := ite_t h c_
      refine g_aload_n (pc := 34) C 0 dX8_fault_34 rfl rfl ?_
      refine g_iconst (pc := 35) (v := 1) C dX8_fault_35 ic_1 ?_
      refine g_callVi (pc := 36) (As := [.int 1]) (rest := []) C rfl rfl rfl rfl (M_X8_find C.2.2.1  h) CyX8_find tw_251 tw_253 ts_1 (by decide) rfl rfl (Nat.le_of_ble_eq_true rfl) dX8_fault_36 (fun r36 t36 h => ?_)
      refine g_lv [] (lv2 := []) rfl ?_
      exact k_X8_fault_39 C  h
    · replace h := ite_f h c_
      refine g_aload_n (pc := 21) C 0 dX8_fault_21 rfl rfl ?_
      refine g_aload_n (pc := 22) C 0 dX8_fault_22 rfl rfl ?_
      refine get_X8_1 (pc := 23) C rfl tw_195 dX8_fault_23 ?_
      refine g_iload_n (pc := 26) C 1 dX8_fault_26 rfl rfl ?_
      obtain ⟨g_, h⟩ := h
      have hs27_ : shC[(17 + 2 * v1.toNatClampNeg)]? = some (6, 60, 0) := shR17 g_
      refine g_aldR (pc := 27) C rfl g_ dX8_fault_27 ?_
      refine g_callVi (pc := 28) (As := [.ref (G.2.2 (17 + 2 * v1.toNatClampNeg))]) (rest := []) C rfl rfl rfl rfl (M_X8_scan C.2.2.1 hs27_ h) CyX8_scan tw_318 tw_320 ts_3 (by decide) rfl rfl (Nat.le_of_ble_eq_true rfl) dX8_fault_28 (fun r28 t28 h => ?_)
      refine g_goto (pc := 31) (tgt := 39) C dX8_fault_31 (by decide) ?_
      refine g_lv [] (lv2 := []) rfl ?_
      exact k_X8_fault_39 C  h
  · replace h := ite_t h c_
    refine g_iconst (pc := 7) (v := -1) C dX8_fault_7 ic_m1 ?_
    exact g_iret (pc := 8) C dX8_fault_8 ⟨_, rfl, h⟩
set_option maxHeartbeats 4000000 in
set_option maxRecDepth 100000 in
theorem M_X8_finding {l : Launch} {G : Gp} (hD : Dj shC G) {σ : St} {K : Int32 → Prop} (h : wp_X8_finding σ K) : MC l shC G yX8_finding cX8_finding 1 (some .int) 1 [.ref (G.2.2 0)] σ (RI (fun r t => t = σ ∧ K r)) := by
  unfold wp_X8_finding at h
  refine MC.of (by decide) hD (Nat.le_of_ble_eq_true rfl) ?_
  intro p e s m args below meth c C
  replace C : Cx p (rmD 1) s m args meth c shC G cX8_finding 1 1 RX8 (some .int) 0 0 := C
  show Go p l e (rmD 1) s m args below meth c shC G 1 0 0 (MQ below (Qw shC G (RI (fun r t => t = σ ∧ K r))) args s 0 0 (Fr shC G)) 0 [(0, .ref (G.2.2 0))] [] σ
  refine g_aload_n (pc := 0) C 0 dX8_finding_0 rfl rfl ?_
  refine get_X8_11 (pc := 1) C rfl tw_205 dX8_finding_1 ?_
  exact g_iret (pc := 4) C dX8_finding_4 ⟨_, rfl, ⟨rfl, h⟩⟩
set_option maxHeartbeats 4000000 in
set_option maxRecDepth 100000 in
theorem k_X8_findings_20 {w0 : Int32} {σ : St} {K : Int32 → Prop} (C : Cx p R s m args meth c shC G cX8_findings 2 1 RX8 (some .int) 0 0) (h : J_X8_findings_20 w0 σ K) : Go p l e R s m args below meth c shC G 2 0 0 (MQ below (Qw shC G (RI (fun r t => t = σ ∧ K r))) args s 0 0 (Fr shC G)) 20 [] [.int w0] σ := by
  unfold J_X8_findings_20 at h
  exact g_iret (pc := 20) C dX8_findings_20 ⟨_, rfl, ⟨rfl, h⟩⟩
set_option maxHeartbeats 4000000 in
set_option maxRecDepth 100000 in
theorem k_X8_findings_19 {σ : St} {K : Int32 → Prop} (C : Cx p R s m args meth c shC G cX8_findings 2 1 RX8 (some .int) 0 0) (h : J_X8_findings_19 σ K) : Go p l e R s m args below meth c shC G 2 0 0 (MQ below (Qw shC G (RI (fun r t => t = σ ∧ K r))) args s 0 0 (Fr shC G)) 19 [] [] σ := by
  unfold J_X8_findings_19 at h
  refine g_iconst (pc := 19) (v := -1) C dX8_findings_19 ic_m1 ?_
  refine g_lv [] (lv2 := []) rfl ?_
  exact k_X8_findings_20 C  h
set_option maxHeartbeats 4000000 in
set_option maxRecDepth 100000 in
theorem M_X8_findings {l : Launch} {G : Gp} (hD : Dj shC G) {v1 : Int32} {σ : St} {K : Int32 → Prop} (h : wp_X8_findings v1 σ K) : MC l shC G yX8_findings cX8_findings 2 (some .int) 1 [.ref (G.2.2 0), .int v1] σ (RI (fun r t => t = σ ∧ K r)) := by
  unfold wp_X8_findings at h
  refine MC.of (by decide) hD (Nat.le_of_ble_eq_true rfl) ?_
  intro p e s m args below meth c C
  replace C : Cx p (rmD 1) s m args meth c shC G cX8_findings 2 1 RX8 (some .int) 0 0 := C
  show Go p l e (rmD 1) s m args below meth c shC G 2 0 0 (MQ below (Qw shC G (RI (fun r t => t = σ ∧ K r))) args s 0 0 (Fr shC G)) 0 [(0, .ref (G.2.2 0)), (1, .int v1)] [] σ
  refine g_iload_n (pc := 0) C 1 dX8_findings_0 rfl rfl ?_
  refine g_iconst (pc := 1) (v := 1) C dX8_findings_1 ic_1 ?_
  refine g_icmp_lt (pc := 2) (tgt := 19) C dX8_findings_2 (by decide) (fun c_ => ?_) (fun c_ => ?_)
  · replace h := ite_t h c_
    refine g_lv [] (lv2 := []) rfl ?_
    exact k_X8_findings_19 C  h
  · replace h := ite_f h c_
    refine g_iload_n (pc := 5) C 1 dX8_findings_5 rfl rfl ?_
    refine g_iconst (pc := 6) (v := 5) C dX8_findings_6 ic_5 ?_
    refine g_icmp_gt (pc := 7) (tgt := 19) C dX8_findings_7 (by decide) (fun c_ => ?_) (fun c_ => ?_)
    · replace h := ite_t h c_
      refine g_lv [] (lv2 := []) rfl ?_
      exact k_X8_findings_19 C  h
    · replace h := ite_f h c_
      refine g_aload_n (pc := 10) C 0 dX8_findings_10 rfl rfl ?_
      refine get_X8_10 (pc := 11) C rfl tw_204 dX8_findings_11 ?_
      refine g_iload_n (pc := 14) C 1 dX8_findings_14 rfl rfl ?_
      obtain ⟨g_, h⟩ := h
      refine g_iald (pc := 15) C rfl g_ dX8_findings_15 ?_
      refine g_goto (pc := 16) (tgt := 20) C dX8_findings_16 (by decide) ?_
      refine g_lv [] (lv2 := []) rfl ?_
      exact k_X8_findings_20 C  h
set_option maxHeartbeats 4000000 in
set_option maxRecDepth 100000 in
theorem k_X5_winningPull_34 {v1 : Int32} {v2 : Int32} {v3 : Int32} {σ : St} {K : Int32 → Prop} {Φ2 : Int32 → Prop} (C : Cx p R s m args meth c shC G cX5_winningPull 5 3 RX5 (some .int) 0 0) (hΦ2 : ∀ (v3' : Int32), Φ2 v3' → Go p l e R s m args below meth c shC G 5 0 0 (MQ below (Qw shC G (RI (fun r t => t = σ ∧ K r))) args s 0 0 (Fr shC G)) 2 [(0, .ref (G.2.2 82)), (1, .int v1), (2, .int v2), (3, .int (v3'))] [] σ) (h : J_X5_winningPull_34 v1 v2 v3 σ K Φ2) : Go p l e R s m args below meth c shC G 5 0 0 (MQ below (Qw shC G (RI (fun r t => t = σ ∧ K r))) args s 0 0 (Fr shC G)) 34 [(0, .ref (G.2.2 82)), (1, .int v1), (2, .int v2), (3, .int v3)] [] σ := by
  unfold J_X5_winningPull_34 at h
  refine g_iinc (pc := 34) (lv2 := [(3, .int (v3 + 1)), (0, .ref (G.2.2 82)), (1, .int v1), (2, .int v2)]) C 3 dX5_winningPull_34 ic_1 rfl (by decide) rfl ?_
  refine g_goto (pc := 37) (tgt := 2) C dX5_winningPull_37 (by decide) ?_
  refine g_lv [1, 2, 3, 0] (lv2 := [(0, .ref (G.2.2 82)), (1, .int v1), (2, .int v2), (3, .int (v3 + 1))]) rfl ?_
  exact hΦ2 _ h
set_option maxHeartbeats 4000000 in
set_option maxRecDepth 100000 in
theorem k_X5_winningPull_2 {v1 : Int32} {v2 : Int32} {v3 : Int32} {σ : St} {K : Int32 → Prop} (C : Cx p R s m args meth c shC G cX5_winningPull 5 3 RX5 (some .int) 0 0) (h : L_X5_winningPull_2 v1 v2 σ K v3) : Go p l e R s m args below meth c shC G 5 0 0 (MQ below (Qw shC G (RI (fun r t => t = σ ∧ K r))) args s 0 0 (Fr shC G)) 2 [(0, .ref (G.2.2 82)), (1, .int v1), (2, .int v2), (3, .int v3)] [] σ := by
  obtain ⟨n_, h⟩ := h
  induction n_ generalizing v3 with
  | zero => exact h.elim
  | succ n_ ih =>
    replace h : B_X5_winningPull_2 v1 v2 σ K (it1 (B_X5_winningPull_2 v1 v2 σ K) n_) v3 := h
    unfold B_X5_winningPull_2 at h
    refine g_iload_n (pc := 2) C 3 dX5_winningPull_2 rfl rfl ?_
    refine g_bipush (pc := 3) (v := 7) C dX5_winningPull_3 bp_7 ?_
    refine g_icmp_ge (pc := 5) (tgt := 40) C dX5_winningPull_5 (by decide) (fun c_ => ?_) (fun c_ => ?_)
    · replace h := ite_t h c_
      refine g_bipush (pc := 40) (v := -9) C dX5_winningPull_40 bp_m9 ?_
      exact g_iret (pc := 42) C dX5_winningPull_42 ⟨_, rfl, ⟨rfl, h⟩⟩
    · replace h := ite_f h c_
      refine g_iload_n (pc := 8) C 1 dX5_winningPull_8 rfl rfl ?_
      refine g_iload_n (pc := 9) C 2 dX5_winningPull_9 rfl rfl ?_
      refine g_iload_n (pc := 10) C 3 dX5_winningPull_10 rfl rfl ?_
      refine g_callSNip (pc := 11) (As := [.int v1, .int v2, .int v3]) (rest := []) C (M_X8_after C.2.2.1  h) CyX8_after (List.mem_of_getElem? (i := 10) rfl) tw_401 (by decide) rfl rfl (Nat.le_of_ble_eq_true rfl) dX5_winningPull_11 (fun r11 h => ?_)
      refine g_istore (pc := 14) (lv2 := [(4, .int r11), (0, .ref (G.2.2 82)), (1, .int v1), (2, .int v2), (3, .int v3)]) C dX5_winningPull_14 (by decide) rfl ?_
      refine g_iload (pc := 16) C 0 dX5_winningPull_16 rfl ?_
      refine g_iconst (pc := 18) (v := -1) C dX5_winningPull_18 ic_m1 ?_
      refine g_icmp_eq (pc := 19) (tgt := 34) C dX5_winningPull_19 (by decide) (fun c_ => ?_) (fun c_ => ?_)
      · replace h := ite_t h c_
        refine g_lv [1, 2, 3, 4] (lv2 := [(0, .ref (G.2.2 82)), (1, .int v1), (2, .int v2), (3, .int v3)]) rfl ?_
        exact k_X5_winningPull_34 C (fun _ h_ => ih h_) h
      · replace h := ite_f h c_
        refine g_aload_n (pc := 22) C 1 dX5_winningPull_22 rfl rfl ?_
        refine get_X5_1 (pc := 23) C rfl tw_164 dX5_winningPull_23 ?_
        refine g_iload (pc := 26) C 0 dX5_winningPull_26 rfl ?_
        obtain ⟨g_, h⟩ := h
        refine g_zald (pc := 28) C rfl g_ dX5_winningPull_28 ?_
        refine g_if_eq (pc := 29) (tgt := 34) C dX5_winningPull_29 (by decide) (fun c_ => ?_) (fun c_ => ?_)
        · replace h := ite_t h c_
          refine g_lv [1, 2, 3, 4] (lv2 := [(0, .ref (G.2.2 82)), (1, .int v1), (2, .int v2), (3, .int v3)]) rfl ?_
          exact k_X5_winningPull_34 C (fun _ h_ => ih h_) h
        · replace h := ite_f h c_
          refine g_iload_n (pc := 32) C 4 dX5_winningPull_32 rfl rfl ?_
          exact g_iret (pc := 33) C dX5_winningPull_33 ⟨_, rfl, ⟨rfl, h⟩⟩
set_option maxHeartbeats 4000000 in
set_option maxRecDepth 100000 in
theorem M_X5_winningPull {l : Launch} {G : Gp} (hD : Dj shC G) {v1 : Int32} {v2 : Int32} {σ : St} {K : Int32 → Prop} (h : wp_X5_winningPull v1 v2 σ K) : MC l shC G yX5_winningPull cX5_winningPull 5 (some .int) 3 [.ref (G.2.2 82), .int v1, .int v2] σ (RI (fun r t => t = σ ∧ K r)) := by
  unfold wp_X5_winningPull at h
  refine MC.of (by decide) hD (Nat.le_of_ble_eq_true rfl) ?_
  intro p e s m args below meth c C
  replace C : Cx p (rmD 3) s m args meth c shC G cX5_winningPull 5 3 RX5 (some .int) 0 0 := C
  show Go p l e (rmD 3) s m args below meth c shC G 5 0 0 (MQ below (Qw shC G (RI (fun r t => t = σ ∧ K r))) args s 0 0 (Fr shC G)) 0 [(0, .ref (G.2.2 82)), (1, .int v1), (2, .int v2)] [] σ
  refine g_iconst (pc := 0) (v := 0) C dX5_winningPull_0 ic_0 ?_
  refine g_istore_n (pc := 1) (lv2 := [(3, .int 0), (0, .ref (G.2.2 82)), (1, .int v1), (2, .int v2)]) C dX5_winningPull_1 rfl (by decide) rfl ?_
  refine g_lv [1, 2, 3, 0] (lv2 := [(0, .ref (G.2.2 82)), (1, .int v1), (2, .int v2), (3, .int 0)]) rfl ?_
  exact k_X5_winningPull_2 C  h
end MM

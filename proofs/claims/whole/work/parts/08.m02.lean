section MM
variable {p : Program} {l : Launch} {e : Env} {R : Room} {s : State} {m : MethodId} {args : Array Value} {below : List Frame} {meth : Method} {c : Code} {G : Gp}
set_option maxHeartbeats 4000000 in
set_option maxRecDepth 100000 in
theorem k_X5_winsAgainstAll_33 {v1 : Int32} {v2 : Int32} {v3 : Int32} {σ : St} {K : Int32 → Prop} {Φ2 : Int32 → Prop} (C : Cx p R s m args meth c shC G cX5_winsAgainstAll 5 3 RX5 (some .boolean) 0 0) (hΦ2 : ∀ (v3' : Int32), Φ2 v3' → Go p l e R s m args below meth c shC G 5 0 0 (MQ below (Qw shC G (RI (fun r t => t = σ ∧ K r))) args s 0 0 (Fr shC G)) 2 [(0, .ref (G.2.2 82)), (1, .int v1), (2, .int v2), (3, .int (v3'))] [] σ) (h : J_X5_winsAgainstAll_33 v1 v2 v3 σ K Φ2) : Go p l e R s m args below meth c shC G 5 0 0 (MQ below (Qw shC G (RI (fun r t => t = σ ∧ K r))) args s 0 0 (Fr shC G)) 33 [(0, .ref (G.2.2 82)), (1, .int v1), (2, .int v2), (3, .int v3)] [] σ := by
  unfold J_X5_winsAgainstAll_33 at h
  refine g_iinc (pc := 33) (lv2 := [(3, .int (v3 + 1)), (0, .ref (G.2.2 82)), (1, .int v1), (2, .int v2)]) C 3 dX5_winsAgainstAll_33 ic_1 rfl (by decide) rfl ?_
  refine g_goto (pc := 36) (tgt := 2) C dX5_winsAgainstAll_36 (by decide) ?_
  refine g_lv [1, 2, 3, 0] (lv2 := [(0, .ref (G.2.2 82)), (1, .int v1), (2, .int v2), (3, .int (v3 + 1))]) rfl ?_
  exact hΦ2 _ h
set_option maxHeartbeats 4000000 in
set_option maxRecDepth 100000 in
theorem k_X5_winsAgainstAll_2 {v1 : Int32} {v2 : Int32} {v3 : Int32} {σ : St} {K : Int32 → Prop} (C : Cx p R s m args meth c shC G cX5_winsAgainstAll 5 3 RX5 (some .boolean) 0 0) (h : L_X5_winsAgainstAll_2 v1 v2 σ K v3) : Go p l e R s m args below meth c shC G 5 0 0 (MQ below (Qw shC G (RI (fun r t => t = σ ∧ K r))) args s 0 0 (Fr shC G)) 2 [(0, .ref (G.2.2 82)), (1, .int v1), (2, .int v2), (3, .int v3)] [] σ := by
  obtain ⟨n_, h⟩ := h
  induction n_ generalizing v3 with
  | zero => exact h.elim
  | succ n_ ih =>
    replace h : B_X5_winsAgainstAll_2 v1 v2 σ K (it1 (B_X5_winsAgainstAll_2 v1 v2 σ K) n_) v3 := h
    unfold B_X5_winsAgainstAll_2 at h
    refine g_iload_n (pc := 2) C 3 dX5_winsAgainstAll_2 rfl rfl ?_
    refine g_iconst (pc := 3) (v := 4) C dX5_winsAgainstAll_3 ic_4 ?_
    refine g_icmp_ge (pc := 4) (tgt := 39) C dX5_winsAgainstAll_4 (by decide) (fun c_ => ?_) (fun c_ => ?_)
    · replace h := ite_t h c_
      refine g_iconst (pc := 39) (v := 1) C dX5_winsAgainstAll_39 ic_1 ?_
      exact g_zret (pc := 40) C (by first | exact Or.inl rfl | exact Or.inr rfl) dX5_winsAgainstAll_40 ⟨_, rfl, ⟨rfl, h⟩⟩
    · replace h := ite_f h c_
      refine g_iload_n (pc := 7) C 1 dX5_winsAgainstAll_7 rfl rfl ?_
      refine g_iload_n (pc := 8) C 2 dX5_winsAgainstAll_8 rfl rfl ?_
      refine g_iload_n (pc := 9) C 3 dX5_winsAgainstAll_9 rfl rfl ?_
      refine g_callSNip (pc := 10) (As := [.int v1, .int v2, .int v3]) (rest := []) C (M_X8_after C.2.2.1  h) CyX8_after (List.mem_of_getElem? (i := 10) rfl) tw_401 (by decide) rfl rfl (Nat.le_of_ble_eq_true rfl) dX5_winsAgainstAll_10 (fun r10 h => ?_)
      refine g_istore (pc := 13) (lv2 := [(4, .int r10), (0, .ref (G.2.2 82)), (1, .int v1), (2, .int v2), (3, .int v3)]) C dX5_winsAgainstAll_13 (by decide) rfl ?_
      refine g_iload (pc := 15) C 0 dX5_winsAgainstAll_15 rfl ?_
      refine g_iconst (pc := 17) (v := -1) C dX5_winsAgainstAll_17 ic_m1 ?_
      refine g_icmp_eq (pc := 18) (tgt := 33) C dX5_winsAgainstAll_18 (by decide) (fun c_ => ?_) (fun c_ => ?_)
      · replace h := ite_t h c_
        refine g_lv [1, 2, 3, 4] (lv2 := [(0, .ref (G.2.2 82)), (1, .int v1), (2, .int v2), (3, .int v3)]) rfl ?_
        exact k_X5_winsAgainstAll_33 C (fun _ h_ => ih h_) h
      · replace h := ite_f h c_
        refine g_aload_n (pc := 21) C 1 dX5_winsAgainstAll_21 rfl rfl ?_
        refine get_X5_0 (pc := 22) C rfl tw_162 dX5_winsAgainstAll_22 ?_
        refine g_iload (pc := 25) C 0 dX5_winsAgainstAll_25 rfl ?_
        obtain ⟨g_, h⟩ := h
        refine g_zald (pc := 27) C rfl g_ dX5_winsAgainstAll_27 ?_
        refine g_if_ne (pc := 28) (tgt := 33) C dX5_winsAgainstAll_28 (by decide) (fun c_ => ?_) (fun c_ => ?_)
        · replace h := ite_f h c_
          refine g_lv [1, 2, 3, 4] (lv2 := [(0, .ref (G.2.2 82)), (1, .int v1), (2, .int v2), (3, .int v3)]) rfl ?_
          exact k_X5_winsAgainstAll_33 C (fun _ h_ => ih h_) h
        · replace h := ite_t h c_
          refine g_iconst (pc := 31) (v := 0) C dX5_winsAgainstAll_31 ic_0 ?_
          exact g_zret (pc := 32) C (by first | exact Or.inl rfl | exact Or.inr rfl) dX5_winsAgainstAll_32 ⟨_, rfl, ⟨rfl, h⟩⟩
set_option maxHeartbeats 4000000 in
set_option maxRecDepth 100000 in
theorem M_X5_winsAgainstAll {l : Launch} {G : Gp} (hD : Dj shC G) {v1 : Int32} {v2 : Int32} {σ : St} {K : Int32 → Prop} (h : wp_X5_winsAgainstAll v1 v2 σ K) : MC l shC G yX5_winsAgainstAll cX5_winsAgainstAll 5 (some .boolean) 3 [.ref (G.2.2 82), .int v1, .int v2] σ (RI (fun r t => t = σ ∧ K r)) := by
  unfold wp_X5_winsAgainstAll at h
  refine MC.of (by decide) hD (Nat.le_of_ble_eq_true rfl) ?_
  intro p e s m args below meth c C
  replace C : Cx p (rmD 3) s m args meth c shC G cX5_winsAgainstAll 5 3 RX5 (some .boolean) 0 0 := C
  show Go p l e (rmD 3) s m args below meth c shC G 5 0 0 (MQ below (Qw shC G (RI (fun r t => t = σ ∧ K r))) args s 0 0 (Fr shC G)) 0 [(0, .ref (G.2.2 82)), (1, .int v1), (2, .int v2)] [] σ
  refine g_iconst (pc := 0) (v := 0) C dX5_winsAgainstAll_0 ic_0 ?_
  refine g_istore_n (pc := 1) (lv2 := [(3, .int 0), (0, .ref (G.2.2 82)), (1, .int v1), (2, .int v2)]) C dX5_winsAgainstAll_1 rfl (by decide) rfl ?_
  refine g_lv [1, 2, 3, 0] (lv2 := [(0, .ref (G.2.2 82)), (1, .int v1), (2, .int v2), (3, .int 0)]) rfl ?_
  exact k_X5_winsAgainstAll_2 C  h
set_option maxHeartbeats 4000000 in
set_option maxRecDepth 100000 in
theorem k_X5_reckon_101 {v1 : Int32} {v2 : Int32} {v3 : Int32} {v4 : Int32} {kw0 : Nat} {nw0 : Nat} {w1 : Int32} {w2 : Int32} {σ : St} {K : St → Prop} {Φ33 : Int32 → St → Prop} {Φ71 : Int32 → St → Prop} (C : Cx p R s m args meth c shC G cX5_reckon 5 4 RX5 none 0 0) (hkw0 : shC[kw0]? = some (11, nw0, 0)) (hΦ33 : ∀ (v3' : Int32) (σ' : St), Φ33 v3' σ' → Go p l e R s m args below meth c shC G 5 0 0 (MQ below (Qw shC G (RV K)) args s 0 0 (Fr shC G)) 33 [(0, .ref (G.2.2 82)), (1, .int v1), (2, .int v2), (3, .int (v3'))] [] σ') (hΦ71 : ∀ (v4' : Int32) (σ' : St), Φ71 v4' σ' → Go p l e R s m args below meth c shC G 5 0 0 (MQ below (Qw shC G (RV K)) args s 0 0 (Fr shC G)) 71 [(0, .ref (G.2.2 82)), (1, .int v1), (2, .int v2), (3, .int v3), (4, .int (v4'))] [] σ') (h : J_X5_reckon_101 v1 v2 v3 v4 kw0 nw0 w1 w2 σ K Φ33 Φ71) : Go p l e R s m args below meth c shC G 5 0 0 (MQ below (Qw shC G (RV K)) args s 0 0 (Fr shC G)) 101 [(0, .ref (G.2.2 82)), (1, .int v1), (2, .int v2), (3, .int v3), (4, .int v4)] [.int w2, .int w1, .ref (G.2.2 kw0)] σ := by
  unfold J_X5_reckon_101 at h
  obtain ⟨g_, h⟩ := h
  refine g_zast (pc := 101) C hkw0 g_ dX5_reckon_101 ?_
  refine g_iinc (pc := 102) (lv2 := [(4, .int (v4 + 1)), (0, .ref (G.2.2 82)), (1, .int v1), (2, .int v2), (3, .int v3)]) C 4 dX5_reckon_102 ic_1 rfl (by decide) rfl ?_
  refine g_goto (pc := 105) (tgt := 71) C dX5_reckon_105 (by decide) ?_
  refine g_lv [1, 2, 3, 4, 0] (lv2 := [(0, .ref (G.2.2 82)), (1, .int v1), (2, .int v2), (3, .int v3), (4, .int (v4 + 1))]) rfl ?_
  exact hΦ71 _ _ h
set_option maxHeartbeats 4000000 in
set_option maxRecDepth 100000 in
theorem k_X5_reckon_71 {v1 : Int32} {v2 : Int32} {v3 : Int32} {v4 : Int32} {σ : St} {K : St → Prop} {Φ33 : Int32 → St → Prop} (C : Cx p R s m args meth c shC G cX5_reckon 5 4 RX5 none 0 0) (hΦ33 : ∀ (v3' : Int32) (σ' : St), Φ33 v3' σ' → Go p l e R s m args below meth c shC G 5 0 0 (MQ below (Qw shC G (RV K)) args s 0 0 (Fr shC G)) 33 [(0, .ref (G.2.2 82)), (1, .int v1), (2, .int v2), (3, .int (v3'))] [] σ') (h : L_X5_reckon_71 v1 v2 v3 K Φ33 v4 σ) : Go p l e R s m args below meth c shC G 5 0 0 (MQ below (Qw shC G (RV K)) args s 0 0 (Fr shC G)) 71 [(0, .ref (G.2.2 82)), (1, .int v1), (2, .int v2), (3, .int v3), (4, .int v4)] [] σ := by
  obtain ⟨n_, h⟩ := h
  induction n_ generalizing v4 σ with
  | zero => exact h.elim
  | succ n_ ih =>
    replace h : B_X5_reckon_71 v1 v2 v3 K Φ33 (it2 (B_X5_reckon_71 v1 v2 v3 K Φ33) n_) v4 σ := h
    unfold B_X5_reckon_71 at h
    refine g_iload (pc := 71) C 4 dX5_reckon_71 rfl ?_
    refine g_bipush (pc := 73) (v := 21) C dX5_reckon_73 bp_21 ?_
    refine g_icmp_ge (pc := 75) (tgt := 108) C dX5_reckon_75 (by decide) (fun c_ => ?_) (fun c_ => ?_)
    · replace h := ite_t h c_
      refine g_iinc (pc := 108) (lv2 := [(3, .int (v3 + 1)), (0, .ref (G.2.2 82)), (1, .int v1), (2, .int v2), (4, .int v4)]) C 3 dX5_reckon_108 ic_1 rfl (by decide) rfl ?_
      refine g_goto (pc := 111) (tgt := 33) C dX5_reckon_111 (by decide) ?_
      refine g_lv [1, 2, 3, 0] (lv2 := [(0, .ref (G.2.2 82)), (1, .int v1), (2, .int v2), (3, .int (v3 + 1))]) rfl ?_
      exact hΦ33 _ _ h
    · replace h := ite_f h c_
      refine g_aload_n (pc := 78) C 0 dX5_reckon_78 rfl rfl ?_
      refine get_X5_0 (pc := 79) C rfl tw_162 dX5_reckon_79 ?_
      refine g_iload (pc := 82) C 4 dX5_reckon_82 rfl ?_
      refine g_aload_n (pc := 84) C 0 dX5_reckon_84 rfl rfl ?_
      refine g_iload_n (pc := 85) C 1 dX5_reckon_85 rfl rfl ?_
      refine g_iload (pc := 86) C 4 dX5_reckon_86 rfl ?_
      refine g_callVip (pc := 88) (As := [.int v1, .int v4]) (rest := [.int v4, .ref (G.2.2 83)]) C rfl rfl rfl rfl (M_X5_winningPull C.2.2.1  h) CyX5_winningPull tw_743 tw_744 tw_745 (by decide) rfl rfl (Nat.le_of_ble_eq_true rfl) dX5_reckon_88 (fun r88 h => ?_)
      refine g_bipush (pc := 91) (v := -9) C dX5_reckon_91 bp_m9 ?_
      refine g_icmp_eq (pc := 93) (tgt := 100) C dX5_reckon_93 (by decide) (fun c_ => ?_) (fun c_ => ?_)
      · replace h := ite_t h c_
        refine g_iconst (pc := 100) (v := 0) C dX5_reckon_100 ic_0 ?_
        refine g_lv [0, 1, 2, 3, 4] (lv2 := [(0, .ref (G.2.2 82)), (1, .int v1), (2, .int v2), (3, .int v3), (4, .int v4)]) rfl ?_
        exact k_X5_reckon_101 C rfl hΦ33 (fun _ _ h_ => ih h_) h
      · replace h := ite_f h c_
        refine g_iconst (pc := 96) (v := 1) C dX5_reckon_96 ic_1 ?_
        refine g_goto (pc := 97) (tgt := 101) C dX5_reckon_97 (by decide) ?_
        refine g_lv [0, 1, 2, 3, 4] (lv2 := [(0, .ref (G.2.2 82)), (1, .int v1), (2, .int v2), (3, .int v3), (4, .int v4)]) rfl ?_
        exact k_X5_reckon_101 C rfl hΦ33 (fun _ _ h_ => ih h_) h
set_option maxHeartbeats 4000000 in
set_option maxRecDepth 100000 in
theorem k_X5_reckon_41 {v1 : Int32} {v2 : Int32} {v3 : Int32} {v4 : Int32} {σ : St} {K : St → Prop} {Φ33 : Int32 → St → Prop} (C : Cx p R s m args meth c shC G cX5_reckon 5 4 RX5 none 0 0) (hΦ33 : ∀ (v3' : Int32) (σ' : St), Φ33 v3' σ' → Go p l e R s m args below meth c shC G 5 0 0 (MQ below (Qw shC G (RV K)) args s 0 0 (Fr shC G)) 33 [(0, .ref (G.2.2 82)), (1, .int v1), (2, .int v2), (3, .int (v3'))] [] σ') (h : L_X5_reckon_41 v1 v2 v3 K Φ33 v4 σ) : Go p l e R s m args below meth c shC G 5 0 0 (MQ below (Qw shC G (RV K)) args s 0 0 (Fr shC G)) 41 [(0, .ref (G.2.2 82)), (1, .int v1), (2, .int v2), (3, .int v3), (4, .int v4)] [] σ := by
  obtain ⟨n_, h⟩ := h
  induction n_ generalizing v4 σ with
  | zero => exact h.elim
  | succ n_ ih =>
    replace h : B_X5_reckon_41 v1 v2 v3 K Φ33 (it2 (B_X5_reckon_41 v1 v2 v3 K Φ33) n_) v4 σ := h
    unfold B_X5_reckon_41 at h
    refine g_iload (pc := 41) C 4 dX5_reckon_41 rfl ?_
    refine g_bipush (pc := 43) (v := 21) C dX5_reckon_43 bp_21 ?_
    refine g_icmp_ge (pc := 45) (tgt := 68) C dX5_reckon_45 (by decide) (fun c_ => ?_) (fun c_ => ?_)
    · replace h := ite_t h c_
      refine g_iconst (pc := 68) (v := 0) C dX5_reckon_68 ic_0 ?_
      refine g_istore (pc := 69) (lv2 := [(4, .int 0), (0, .ref (G.2.2 82)), (1, .int v1), (2, .int v2), (3, .int v3)]) C dX5_reckon_69 (by decide) rfl ?_
      refine g_lv [1, 2, 3, 4, 0] (lv2 := [(0, .ref (G.2.2 82)), (1, .int v1), (2, .int v2), (3, .int v3), (4, .int 0)]) rfl ?_
      exact k_X5_reckon_71 C hΦ33 h
    · replace h := ite_f h c_
      refine g_aload_n (pc := 48) C 0 dX5_reckon_48 rfl rfl ?_
      refine get_X5_1 (pc := 49) C rfl tw_164 dX5_reckon_49 ?_
      refine g_iload (pc := 52) C 4 dX5_reckon_52 rfl ?_
      refine g_aload_n (pc := 54) C 0 dX5_reckon_54 rfl rfl ?_
      refine g_iload_n (pc := 55) C 1 dX5_reckon_55 rfl rfl ?_
      refine g_iload (pc := 56) C 4 dX5_reckon_56 rfl ?_
      refine g_callVip (pc := 58) (As := [.int v1, .int v4]) (rest := [.int v4, .ref (G.2.2 84)]) C rfl rfl rfl rfl (M_X5_winsAgainstAll C.2.2.1  h) CyX5_winsAgainstAll tw_738 tw_740 ts_20 (by decide) rfl rfl (Nat.le_of_ble_eq_true rfl) dX5_reckon_58 (fun r58 h => ?_)
      obtain ⟨g_, h⟩ := h
      refine g_zast (pc := 61) C rfl g_ dX5_reckon_61 ?_
      refine g_iinc (pc := 62) (lv2 := [(4, .int (v4 + 1)), (0, .ref (G.2.2 82)), (1, .int v1), (2, .int v2), (3, .int v3)]) C 4 dX5_reckon_62 ic_1 rfl (by decide) rfl ?_
      refine g_goto (pc := 65) (tgt := 41) C dX5_reckon_65 (by decide) ?_
      refine g_lv [1, 2, 3, 4, 0] (lv2 := [(0, .ref (G.2.2 82)), (1, .int v1), (2, .int v2), (3, .int v3), (4, .int (v4 + 1))]) rfl ?_
      exact ih h
set_option maxHeartbeats 4000000 in
set_option maxRecDepth 100000 in
theorem k_X5_reckon_33 {v1 : Int32} {v2 : Int32} {v3 : Int32} {σ : St} {K : St → Prop} (C : Cx p R s m args meth c shC G cX5_reckon 5 4 RX5 none 0 0) (h : L_X5_reckon_33 v1 v2 K v3 σ) : Go p l e R s m args below meth c shC G 5 0 0 (MQ below (Qw shC G (RV K)) args s 0 0 (Fr shC G)) 33 [(0, .ref (G.2.2 82)), (1, .int v1), (2, .int v2), (3, .int v3)] [] σ := by
  obtain ⟨n_, h⟩ := h
  induction n_ generalizing v3 σ with
  | zero => exact h.elim
  | succ n_ ih =>
    replace h : B_X5_reckon_33 v1 v2 K (it2 (B_X5_reckon_33 v1 v2 K) n_) v3 σ := h
    unfold B_X5_reckon_33 at h
    refine g_iload_n (pc := 33) C 3 dX5_reckon_33 rfl rfl ?_
    refine g_iload_n (pc := 34) C 2 dX5_reckon_34 rfl rfl ?_
    refine g_icmp_ge (pc := 35) (tgt := 114) C dX5_reckon_35 (by decide) (fun c_ => ?_) (fun c_ => ?_)
    · replace h := ite_t h c_
      exact g_vret (pc := 114) C dX5_reckon_114 ⟨rfl, h⟩
    · replace h := ite_f h c_
      refine g_iconst (pc := 38) (v := 0) C dX5_reckon_38 ic_0 ?_
      refine g_istore (pc := 39) (lv2 := [(4, .int 0), (0, .ref (G.2.2 82)), (1, .int v1), (2, .int v2), (3, .int v3)]) C dX5_reckon_39 (by decide) rfl ?_
      refine g_lv [1, 2, 3, 4, 0] (lv2 := [(0, .ref (G.2.2 82)), (1, .int v1), (2, .int v2), (3, .int v3), (4, .int 0)]) rfl ?_
      exact k_X5_reckon_41 C (fun _ _ h_ => ih h_) h
set_option maxHeartbeats 4000000 in
set_option maxRecDepth 100000 in
theorem k_X5_reckon_24 {v1 : Int32} {v2 : Int32} {v3 : Int32} {kw0 : Nat} {nw0 : Nat} {w1 : Int32} {w2 : Int32} {σ : St} {K : St → Prop} {Φ2 : Int32 → St → Prop} (C : Cx p R s m args meth c shC G cX5_reckon 5 4 RX5 none 0 0) (hkw0 : shC[kw0]? = some (11, nw0, 0)) (hΦ2 : ∀ (v3' : Int32) (σ' : St), Φ2 v3' σ' → Go p l e R s m args below meth c shC G 5 0 0 (MQ below (Qw shC G (RV K)) args s 0 0 (Fr shC G)) 2 [(0, .ref (G.2.2 82)), (1, .int v1), (2, .int v2), (3, .int (v3'))] [] σ') (h : J_X5_reckon_24 v1 v2 v3 kw0 nw0 w1 w2 σ K Φ2) : Go p l e R s m args below meth c shC G 5 0 0 (MQ below (Qw shC G (RV K)) args s 0 0 (Fr shC G)) 24 [(0, .ref (G.2.2 82)), (1, .int v1), (2, .int v2), (3, .int v3)] [.int w2, .int w1, .ref (G.2.2 kw0)] σ := by
  unfold J_X5_reckon_24 at h
  obtain ⟨g_, h⟩ := h
  refine g_zast (pc := 24) C hkw0 g_ dX5_reckon_24 ?_
  refine g_iinc (pc := 25) (lv2 := [(3, .int (v3 + 1)), (0, .ref (G.2.2 82)), (1, .int v1), (2, .int v2)]) C 3 dX5_reckon_25 ic_1 rfl (by decide) rfl ?_
  refine g_goto (pc := 28) (tgt := 2) C dX5_reckon_28 (by decide) ?_
  refine g_lv [1, 2, 3, 0] (lv2 := [(0, .ref (G.2.2 82)), (1, .int v1), (2, .int v2), (3, .int (v3 + 1))]) rfl ?_
  exact hΦ2 _ _ h
set_option maxHeartbeats 4000000 in
set_option maxRecDepth 100000 in
theorem k_X5_reckon_2 {v1 : Int32} {v2 : Int32} {v3 : Int32} {σ : St} {K : St → Prop} (C : Cx p R s m args meth c shC G cX5_reckon 5 4 RX5 none 0 0) (h : L_X5_reckon_2 v1 v2 K v3 σ) : Go p l e R s m args below meth c shC G 5 0 0 (MQ below (Qw shC G (RV K)) args s 0 0 (Fr shC G)) 2 [(0, .ref (G.2.2 82)), (1, .int v1), (2, .int v2), (3, .int v3)] [] σ := by
  obtain ⟨n_, h⟩ := h
  induction n_ generalizing v3 σ with
  | zero => exact h.elim
  | succ n_ ih =>
    replace h : B_X5_reckon_2 v1 v2 K (it2 (B_X5_reckon_2 v1 v2 K) n_) v3 σ := h
    unfold B_X5_reckon_2 at h
    refine g_iload_n (pc := 2) C 3 dX5_reckon_2 rfl rfl ?_
    refine g_bipush (pc := 3) (v := 21) C dX5_reckon_3 bp_21 ?_
    refine g_icmp_ge (pc := 5) (tgt := 31) C dX5_reckon_5 (by decide) (fun c_ => ?_) (fun c_ => ?_)
    · replace h := ite_t h c_
      refine g_iconst (pc := 31) (v := 0) C dX5_reckon_31 ic_0 ?_
      refine g_istore_n (pc := 32) (lv2 := [(3, .int 0), (0, .ref (G.2.2 82)), (1, .int v1), (2, .int v2)]) C dX5_reckon_32 rfl (by decide) rfl ?_
      refine g_lv [1, 2, 3, 0] (lv2 := [(0, .ref (G.2.2 82)), (1, .int v1), (2, .int v2), (3, .int 0)]) rfl ?_
      exact k_X5_reckon_33 C  h
    · replace h := ite_f h c_
      refine g_aload_n (pc := 8) C 0 dX5_reckon_8 rfl rfl ?_
      refine get_X5_0 (pc := 9) C rfl tw_162 dX5_reckon_9 ?_
      refine g_iload_n (pc := 12) C 3 dX5_reckon_12 rfl rfl ?_
      refine g_iload_n (pc := 13) C 3 dX5_reckon_13 rfl rfl ?_
      refine g_bipush (pc := 14) (v := 20) C dX5_reckon_14 bp_20 ?_
      refine g_icmp_ne (pc := 16) (tgt := 23) C dX5_reckon_16 (by decide) (fun c_ => ?_) (fun c_ => ?_)
      · replace h := ite_f h c_
        refine g_iconst (pc := 23) (v := 0) C dX5_reckon_23 ic_0 ?_
        refine g_lv [0, 1, 2, 3] (lv2 := [(0, .ref (G.2.2 82)), (1, .int v1), (2, .int v2), (3, .int v3)]) rfl ?_
        exact k_X5_reckon_24 C rfl (fun _ _ h_ => ih h_) h
      · replace h := ite_t h c_
        refine g_iconst (pc := 19) (v := 1) C dX5_reckon_19 ic_1 ?_
        refine g_goto (pc := 20) (tgt := 24) C dX5_reckon_20 (by decide) ?_
        refine g_lv [0, 1, 2, 3] (lv2 := [(0, .ref (G.2.2 82)), (1, .int v1), (2, .int v2), (3, .int v3)]) rfl ?_
        exact k_X5_reckon_24 C rfl (fun _ _ h_ => ih h_) h
set_option maxHeartbeats 4000000 in
set_option maxRecDepth 100000 in
theorem M_X5_reckon {l : Launch} {G : Gp} (hD : Dj shC G) {v1 : Int32} {v2 : Int32} {σ : St} {K : St → Prop} (h : wp_X5_reckon v1 v2 σ K) : MC l shC G yX5_reckon cX5_reckon 5 none 4 [.ref (G.2.2 82), .int v1, .int v2] σ (RV K) := by
  unfold wp_X5_reckon at h
  refine MC.of (by decide) hD (Nat.le_of_ble_eq_true rfl) ?_
  intro p e s m args below meth c C
  replace C : Cx p (rmD 4) s m args meth c shC G cX5_reckon 5 4 RX5 none 0 0 := C
  show Go p l e (rmD 4) s m args below meth c shC G 5 0 0 (MQ below (Qw shC G (RV K)) args s 0 0 (Fr shC G)) 0 [(0, .ref (G.2.2 82)), (1, .int v1), (2, .int v2)] [] σ
  refine g_iconst (pc := 0) (v := 0) C dX5_reckon_0 ic_0 ?_
  refine g_istore_n (pc := 1) (lv2 := [(3, .int 0), (0, .ref (G.2.2 82)), (1, .int v1), (2, .int v2)]) C dX5_reckon_1 rfl (by decide) rfl ?_
  refine g_lv [1, 2, 3, 0] (lv2 := [(0, .ref (G.2.2 82)), (1, .int v1), (2, .int v2), (3, .int 0)]) rfl ?_
  exact k_X5_reckon_2 C  h
set_option maxHeartbeats 4000000 in
set_option maxRecDepth 100000 in
theorem k_X8_first_10 {σ : St} {K : Int32 → St → Prop} (C : Cx p R s m args meth c shC G cX8_first 4 5 RX8 (some .int) 0 0) (h : J_X8_first_10 σ K) : Go p l e R s m args below meth c shC G 4 0 0 (MQ below (Qw shC G (RI K)) args s 0 0 (Fr shC G)) 10 [] [] σ := by
  unfold J_X8_first_10 at h
  refine g_iconst (pc := 10) (v := -1) C dX8_first_10 ic_m1 ?_
  exact g_iret (pc := 11) C dX8_first_11 ⟨_, rfl, h⟩
set_option maxHeartbeats 4000000 in
set_option maxRecDepth 100000 in
theorem M_X8_first {l : Launch} {G : Gp} (hD : Dj shC G) {v1 : Int32} {v2 : Int32} {σ : St} {K : Int32 → St → Prop} (h : wp_X8_first v1 v2 σ K) : MC l shC G yX8_first cX8_first 4 (some .int) 5 [.ref (G.2.2 0), .int v1, .int v2] σ (RI K) := by
  unfold wp_X8_first at h
  refine MC.of (by decide) hD (Nat.le_of_ble_eq_true rfl) ?_
  intro p e s m args below meth c C
  replace C : Cx p (rmD 5) s m args meth c shC G cX8_first 4 5 RX8 (some .int) 0 0 := C
  show Go p l e (rmD 5) s m args below meth c shC G 4 0 0 (MQ below (Qw shC G (RI K)) args s 0 0 (Fr shC G)) 0 [(0, .ref (G.2.2 0)), (1, .int v1), (2, .int v2)] [] σ
  refine g_iload_n (pc := 0) C 2 dX8_first_0 rfl rfl ?_
  refine g_iconst (pc := 1) (v := 1) C dX8_first_1 ic_1 ?_
  refine g_icmp_lt (pc := 2) (tgt := 10) C dX8_first_2 (by decide) (fun c_ => ?_) (fun c_ => ?_)
  · replace h := ite_t h c_
    refine g_lv [] (lv2 := []) rfl ?_
    exact k_X8_first_10 C  h
  · replace h := ite_f h c_
    refine g_iload_n (pc := 5) C 2 dX8_first_5 rfl rfl ?_
    refine g_iconst (pc := 6) (v := 3) C dX8_first_6 ic_3 ?_
    refine g_icmp_le (pc := 7) (tgt := 12) C dX8_first_7 (by decide) (fun c_ => ?_) (fun c_ => ?_)
    · replace h := ite_t h c_
      refine g_aload_n (pc := 12) C 0 dX8_first_12 rfl rfl ?_
      refine g_iload_n (pc := 13) C 1 dX8_first_13 rfl rfl ?_
      refine g_callVip (pc := 14) (As := [.int v1]) (rest := []) C rfl rfl rfl rfl (M_X8_refuseBell C.2.2.1  h) CyX8_refuseBell tw_435 tw_437 ts_7 (by decide) rfl rfl (Nat.le_of_ble_eq_true rfl) dX8_first_14 (fun r14 h => ?_)
      refine g_istore_n (pc := 17) (lv2 := [(3, .int r14), (0, .ref (G.2.2 0)), (1, .int v1), (2, .int v2)]) C dX8_first_17 rfl (by decide) rfl ?_
      refine g_iload_n (pc := 18) C 0 dX8_first_18 rfl rfl ?_
      refine g_if_eq (pc := 19) (tgt := 24) C dX8_first_19 (by decide) (fun c_ => ?_) (fun c_ => ?_)
      · replace h := ite_t h c_
        refine g_aload_n (pc := 24) C 1 dX8_first_24 rfl rfl ?_
        refine get_X8_9 (pc := 25) C rfl tw_203 dX8_first_25 ?_
        refine g_aload_n (pc := 28) C 1 dX8_first_28 rfl rfl ?_
        refine get_X8_3 (pc := 29) C rfl tw_197 dX8_first_29 ?_
        refine get_X7_0 (pc := 32) C rfl tw_72 dX8_first_32 ?_
        refine g_iload_n (pc := 35) C 2 dX8_first_35 rfl rfl ?_
        obtain ⟨g_, h⟩ := h
        have hs36_ : shC[(28 + v1.toNatClampNeg)]? = some (0, 0, 0) := sh7_e (k := 25) rfl g_
        refine g_aldB (pc := 36) C (sh7_0 rfl) g_ dX8_first_36 ?_
        refine get_X0_0 (pc := 37) C hs36_ tw_42 dX8_first_37 ?_
        refine g_iload_n (pc := 40) C 3 dX8_first_40 rfl rfl ?_
        refine g_callVv (pc := 41) (As := [.int (σ.1 (28 + v1.toNatClampNeg) 0), .int v2]) (rest := []) C rfl rfl rfl rfl (M_X5_reckon C.2.2.1  h) CyX5_reckon tw_734 tw_735 tw_736 (by decide) rfl rfl (Nat.le_of_ble_eq_true rfl) dX8_first_41 (fun t41 h => ?_)
        refine g_aload_n (pc := 44) C 1 dX8_first_44 rfl rfl ?_
        refine get_X8_9 (pc := 45) C rfl tw_203 dX8_first_45 ?_
        refine g_aload_n (pc := 48) C 1 dX8_first_48 rfl rfl ?_
        refine get_X8_3 (pc := 49) C rfl tw_197 dX8_first_49 ?_
        refine get_X7_0 (pc := 52) C rfl tw_72 dX8_first_52 ?_
        refine g_iload_n (pc := 55) C 2 dX8_first_55 rfl rfl ?_
        obtain ⟨g_, h⟩ := h
        have hs56_ : shC[(28 + v1.toNatClampNeg)]? = some (0, 0, 0) := sh7_e (k := 25) rfl g_
        refine g_aldB (pc := 56) C (sh7_0 rfl) g_ dX8_first_56 ?_
        refine get_X0_0 (pc := 57) C hs56_ tw_42 dX8_first_57 ?_
        refine g_aload_n (pc := 60) C 1 dX8_first_60 rfl rfl ?_
        refine get_X8_3 (pc := 61) C rfl tw_197 dX8_first_61 ?_
        refine get_X7_0 (pc := 64) C rfl tw_72 dX8_first_64 ?_
        refine g_iload_n (pc := 67) C 2 dX8_first_67 rfl rfl ?_
        obtain ⟨g_, h⟩ := h
        have hs68_ : shC[(28 + v1.toNatClampNeg)]? = some (0, 0, 0) := sh7_e (k := 25) rfl g_
        refine g_aldB (pc := 68) C (sh7_0 rfl) g_ dX8_first_68 ?_
        refine get_X0_3 (pc := 69) C hs68_ tw_50 dX8_first_69 ?_
        refine g_callVip (pc := 72) (As := [.int (t41.1 (28 + v1.toNatClampNeg) 0), .int (t41.1 (28 + v1.toNatClampNeg) 3)]) (rest := []) C rfl rfl rfl rfl (M_X5_winningPull C.2.2.1  h) CyX5_winningPull tw_751 tw_744 tw_745 (by decide) rfl rfl (Nat.le_of_ble_eq_true rfl) dX8_first_72 (fun r72 h => ?_)
        exact g_iret (pc := 75) C dX8_first_75 ⟨_, rfl, h⟩
      · replace h := ite_f h c_
        refine g_iload_n (pc := 22) C 0 dX8_first_22 rfl rfl ?_
        exact g_iret (pc := 23) C dX8_first_23 ⟨_, rfl, h⟩
    · replace h := ite_f h c_
      refine g_lv [] (lv2 := []) rfl ?_
      exact k_X8_first_10 C  h
set_option maxHeartbeats 4000000 in
set_option maxRecDepth 100000 in
theorem k_X8_game_9 {σ : St} {K : Int32 → St → Prop} (C : Cx p R s m args meth c shC G cX8_game 4 5 RX8 (some .int) 0 0) (h : J_X8_game_9 σ K) : Go p l e R s m args below meth c shC G 4 0 0 (MQ below (Qw shC G (RI K)) args s 0 0 (Fr shC G)) 9 [] [] σ := by
  unfold J_X8_game_9 at h
  refine g_iconst (pc := 9) (v := -1) C dX8_game_9 ic_m1 ?_
  exact g_iret (pc := 10) C dX8_game_10 ⟨_, rfl, h⟩
set_option maxHeartbeats 4000000 in
set_option maxRecDepth 100000 in
theorem k_X8_game_71 {w0 : Int32} {σ : St} {K : Int32 → St → Prop} (C : Cx p R s m args meth c shC G cX8_game 4 5 RX8 (some .int) 0 0) (h : J_X8_game_71 w0 σ K) : Go p l e R s m args below meth c shC G 4 0 0 (MQ below (Qw shC G (RI K)) args s 0 0 (Fr shC G)) 71 [] [.int w0] σ := by
  unfold J_X8_game_71 at h
  exact g_iret (pc := 71) C dX8_game_71 ⟨_, rfl, h⟩
set_option maxHeartbeats 4000000 in
set_option maxRecDepth 100000 in
theorem M_X8_game {l : Launch} {G : Gp} (hD : Dj shC G) {v1 : Int32} {v2 : Int32} {σ : St} {K : Int32 → St → Prop} (h : wp_X8_game v1 v2 σ K) : MC l shC G yX8_game cX8_game 4 (some .int) 5 [.ref (G.2.2 0), .int v1, .int v2] σ (RI K) := by
  unfold wp_X8_game at h
  refine MC.of (by decide) hD (Nat.le_of_ble_eq_true rfl) ?_
  intro p e s m args below meth c C
  replace C : Cx p (rmD 5) s m args meth c shC G cX8_game 4 5 RX8 (some .int) 0 0 := C
  show Go p l e (rmD 5) s m args below meth c shC G 4 0 0 (MQ below (Qw shC G (RI K)) args s 0 0 (Fr shC G)) 0 [(0, .ref (G.2.2 0)), (1, .int v1), (2, .int v2)] [] σ
  refine g_iload_n (pc := 0) C 2 dX8_game_0 rfl rfl ?_
  refine g_if_lt (pc := 1) (tgt := 9) C dX8_game_1 (by decide) (fun c_ => ?_) (fun c_ => ?_)
  · replace h := ite_t h c_
    refine g_lv [] (lv2 := []) rfl ?_
    exact k_X8_game_9 C  h
  · replace h := ite_f h c_
    refine g_iload_n (pc := 4) C 2 dX8_game_4 rfl rfl ?_
    refine g_iconst (pc := 5) (v := 3) C dX8_game_5 ic_3 ?_
    refine g_icmp_le (pc := 6) (tgt := 11) C dX8_game_6 (by decide) (fun c_ => ?_) (fun c_ => ?_)
    · replace h := ite_t h c_
      refine g_aload_n (pc := 11) C 0 dX8_game_11 rfl rfl ?_
      refine g_iload_n (pc := 12) C 1 dX8_game_12 rfl rfl ?_
      refine g_callVip (pc := 13) (As := [.int v1]) (rest := []) C rfl rfl rfl rfl (M_X8_refuseBell C.2.2.1  h) CyX8_refuseBell tw_435 tw_437 ts_7 (by decide) rfl rfl (Nat.le_of_ble_eq_true rfl) dX8_game_13 (fun r13 h => ?_)
      refine g_istore_n (pc := 16) (lv2 := [(3, .int r13), (0, .ref (G.2.2 0)), (1, .int v1), (2, .int v2)]) C dX8_game_16 rfl (by decide) rfl ?_
      refine g_iload_n (pc := 17) C 0 dX8_game_17 rfl rfl ?_
      refine g_if_eq (pc := 18) (tgt := 23) C dX8_game_18 (by decide) (fun c_ => ?_) (fun c_ => ?_)
      · replace h := ite_t h c_
        refine g_aload_n (pc := 23) C 1 dX8_game_23 rfl rfl ?_
        refine get_X8_9 (pc := 24) C rfl tw_203 dX8_game_24 ?_
        refine g_aload_n (pc := 27) C 1 dX8_game_27 rfl rfl ?_
        refine get_X8_3 (pc := 28) C rfl tw_197 dX8_game_28 ?_
        refine get_X7_0 (pc := 31) C rfl tw_72 dX8_game_31 ?_
        refine g_iload_n (pc := 34) C 2 dX8_game_34 rfl rfl ?_
        obtain ⟨g_, h⟩ := h
        have hs35_ : shC[(28 + v1.toNatClampNeg)]? = some (0, 0, 0) := sh7_e (k := 25) rfl g_
        refine g_aldB (pc := 35) C (sh7_0 rfl) g_ dX8_game_35 ?_
        refine get_X0_0 (pc := 36) C hs35_ tw_42 dX8_game_36 ?_
        refine g_iload_n (pc := 39) C 3 dX8_game_39 rfl rfl ?_
        refine g_callVv (pc := 40) (As := [.int (σ.1 (28 + v1.toNatClampNeg) 0), .int v2]) (rest := []) C rfl rfl rfl rfl (M_X5_reckon C.2.2.1  h) CyX5_reckon tw_734 tw_735 tw_736 (by decide) rfl rfl (Nat.le_of_ble_eq_true rfl) dX8_game_40 (fun t40 h => ?_)
        refine g_aload_n (pc := 43) C 1 dX8_game_43 rfl rfl ?_
        refine get_X8_9 (pc := 44) C rfl tw_203 dX8_game_44 ?_
        refine get_X5_0 (pc := 47) C rfl tw_163 dX8_game_47 ?_
        refine g_aload_n (pc := 50) C 1 dX8_game_50 rfl rfl ?_
        refine get_X8_3 (pc := 51) C rfl tw_197 dX8_game_51 ?_
        refine get_X7_0 (pc := 54) C rfl tw_72 dX8_game_54 ?_
        refine g_iload_n (pc := 57) C 2 dX8_game_57 rfl rfl ?_
        obtain ⟨g_, h⟩ := h
        have hs58_ : shC[(28 + v1.toNatClampNeg)]? = some (0, 0, 0) := sh7_e (k := 25) rfl g_
        refine g_aldB (pc := 58) C (sh7_0 rfl) g_ dX8_game_58 ?_
        refine get_X0_3 (pc := 59) C hs58_ tw_50 dX8_game_59 ?_
        obtain ⟨g_, h⟩ := h
        refine g_zald (pc := 62) C rfl g_ dX8_game_62 ?_
        refine g_if_eq (pc := 63) (tgt := 70) C dX8_game_63 (by decide) (fun c_ => ?_) (fun c_ => ?_)
        · replace h := ite_t h c_
          refine g_iconst (pc := 70) (v := 0) C dX8_game_70 ic_0 ?_
          refine g_lv [] (lv2 := []) rfl ?_
          exact k_X8_game_71 C  h
        · replace h := ite_f h c_
          refine g_iconst (pc := 66) (v := 1) C dX8_game_66 ic_1 ?_
          refine g_goto (pc := 67) (tgt := 71) C dX8_game_67 (by decide) ?_
          refine g_lv [] (lv2 := []) rfl ?_
          exact k_X8_game_71 C  h
      · replace h := ite_f h c_
        refine g_iload_n (pc := 21) C 0 dX8_game_21 rfl rfl ?_
        exact g_iret (pc := 22) C dX8_game_22 ⟨_, rfl, h⟩
    · replace h := ite_f h c_
      refine g_lv [] (lv2 := []) rfl ?_
      exact k_X8_game_9 C  h
set_option maxHeartbeats 4000000 in
set_option maxRecDepth 100000 in
theorem k_X8_greatestWhole_3 {k1 : Nat} {v2 : Int32} {σ : St} {K : Int32 → Prop} (C : Cx p R s m args meth c shC G cX8_greatestWhole 3 3 RX8 (some .int) 0 0) (hk1 : shC[k1]? = some (0, 0, 0)) (h : L_X8_greatestWhole_3 k1 σ K v2) : Go p l e R s m args below meth c shC G 3 0 0 (MQ below (Qw shC G (RI (fun r t => t = σ ∧ K r))) args s 0 0 (Fr shC G)) 3 [(1, .ref (G.2.2 k1)), (2, .int v2)] [] σ := by
  obtain ⟨n_, h⟩ := h
  induction n_ generalizing v2 with
  | zero => exact h.elim
  | succ n_ ih =>
    replace h : B_X8_greatestWhole_3 k1 σ K (it1 (B_X8_greatestWhole_3 k1 σ K) n_) v2 := h
    unfold B_X8_greatestWhole_3 at h
    refine g_iload_n (pc := 3) C 1 dX8_greatestWhole_3 rfl rfl ?_
    refine g_if_le (pc := 4) (tgt := 31) C dX8_greatestWhole_4 (by decide) (fun c_ => ?_) (fun c_ => ?_)
    · replace h := ite_t h c_
      refine g_iconst (pc := 31) (v := 0) C dX8_greatestWhole_31 ic_0 ?_
      exact g_iret (pc := 32) C dX8_greatestWhole_32 ⟨_, rfl, ⟨rfl, h⟩⟩
    · replace h := ite_f h c_
      refine g_aload_n (pc := 7) C 0 dX8_greatestWhole_7 rfl rfl ?_
      refine get_X0_0 (pc := 8) C hk1 tw_42 dX8_greatestWhole_8 ?_
      refine g_aload_n (pc := 11) C 0 dX8_greatestWhole_11 rfl rfl ?_
      refine get_X0_3 (pc := 12) C hk1 tw_50 dX8_greatestWhole_12 ?_
      refine g_iload_n (pc := 15) C 1 dX8_greatestWhole_15 rfl rfl ?_
      refine g_callSip (pc := 16) (As := [.int (σ.1 k1 0), .int (σ.1 k1 3), .int v2]) (rest := []) C (M_X8_after C.2.2.1  h) CyX8_after tw_400 tw_401 (by decide) rfl rfl (Nat.le_of_ble_eq_true rfl) dX8_greatestWhole_16 (fun r16 h => ?_)
      refine g_iconst (pc := 19) (v := -1) C dX8_greatestWhole_19 ic_m1 ?_
      refine g_icmp_eq (pc := 20) (tgt := 25) C dX8_greatestWhole_20 (by decide) (fun c_ => ?_) (fun c_ => ?_)
      · replace h := ite_t h c_
        refine g_iinc (pc := 25) (lv2 := [(2, .int (v2 + (-1))), (1, .ref (G.2.2 k1))]) C 1 dX8_greatestWhole_25 ic_m1 rfl (by decide) rfl ?_
        refine g_goto (pc := 28) (tgt := 3) C dX8_greatestWhole_28 (by decide) ?_
        refine g_lv [1, 0] (lv2 := [(1, .ref (G.2.2 k1)), (2, .int (v2 + (-1)))]) rfl ?_
        exact ih h
      · replace h := ite_f h c_
        refine g_iload_n (pc := 23) C 1 dX8_greatestWhole_23 rfl rfl ?_
        exact g_iret (pc := 24) C dX8_greatestWhole_24 ⟨_, rfl, ⟨rfl, h⟩⟩
set_option maxHeartbeats 4000000 in
set_option maxRecDepth 100000 in
theorem M_X8_greatestWhole {l : Launch} {G : Gp} (hD : Dj shC G) {k1 : Nat} {σ : St} {K : Int32 → Prop} (hk1 : shC[k1]? = some (0, 0, 0)) (h : wp_X8_greatestWhole k1 σ K) : MC l shC G yX8_greatestWhole cX8_greatestWhole 3 (some .int) 3 [.ref (G.2.2 0), .ref (G.2.2 k1)] σ (RI (fun r t => t = σ ∧ K r)) := by
  unfold wp_X8_greatestWhole at h
  refine MC.of (by decide) hD (Nat.le_of_ble_eq_true rfl) ?_
  intro p e s m args below meth c C
  replace C : Cx p (rmD 3) s m args meth c shC G cX8_greatestWhole 3 3 RX8 (some .int) 0 0 := C
  show Go p l e (rmD 3) s m args below meth c shC G 3 0 0 (MQ below (Qw shC G (RI (fun r t => t = σ ∧ K r))) args s 0 0 (Fr shC G)) 0 [(0, .ref (G.2.2 0)), (1, .ref (G.2.2 k1))] [] σ
  refine g_bipush (pc := 0) (v := 6) C dX8_greatestWhole_0 bp_6 ?_
  refine g_istore_n (pc := 2) (lv2 := [(2, .int 6), (0, .ref (G.2.2 0)), (1, .ref (G.2.2 k1))]) C dX8_greatestWhole_2 rfl (by decide) rfl ?_
  refine g_lv [2, 0] (lv2 := [(1, .ref (G.2.2 k1)), (2, .int 6)]) rfl ?_
  exact k_X8_greatestWhole_3 C hk1 h
set_option maxHeartbeats 4000000 in
set_option maxRecDepth 100000 in
theorem k_X8_heard_10 {σ : St} {K : Int32 → St → Prop} (C : Cx p R s m args meth c shC G cX8_heard 4 5 RX8 (some .int) 0 0) (h : J_X8_heard_10 σ K) : Go p l e R s m args below meth c shC G 4 0 0 (MQ below (Qw shC G (RI K)) args s 0 0 (Fr shC G)) 10 [] [] σ := by
  unfold J_X8_heard_10 at h
  refine g_iconst (pc := 10) (v := -1) C dX8_heard_10 ic_m1 ?_
  exact g_iret (pc := 11) C dX8_heard_11 ⟨_, rfl, h⟩
set_option maxHeartbeats 4000000 in
set_option maxRecDepth 100000 in
theorem M_X8_heard {l : Launch} {G : Gp} (hD : Dj shC G) {v1 : Int32} {v2 : Int32} {σ : St} {K : Int32 → St → Prop} (h : wp_X8_heard v1 v2 σ K) : MC l shC G yX8_heard cX8_heard 4 (some .int) 5 [.ref (G.2.2 0), .int v1, .int v2] σ (RI K) := by
  unfold wp_X8_heard at h
  refine MC.of (by decide) hD (Nat.le_of_ble_eq_true rfl) ?_
  intro p e s m args below meth c C
  replace C : Cx p (rmD 5) s m args meth c shC G cX8_heard 4 5 RX8 (some .int) 0 0 := C
  show Go p l e (rmD 5) s m args below meth c shC G 4 0 0 (MQ below (Qw shC G (RI K)) args s 0 0 (Fr shC G)) 0 [(0, .ref (G.2.2 0)), (1, .int v1), (2, .int v2)] [] σ
  refine g_iload_n (pc := 0) C 2 dX8_heard_0 rfl rfl ?_
  refine g_if_lt (pc := 1) (tgt := 10) C dX8_heard_1 (by decide) (fun c_ => ?_) (fun c_ => ?_)
  · replace h := ite_t h c_
    refine g_lv [] (lv2 := []) rfl ?_
    exact k_X8_heard_10 C  h
  · replace h := ite_f h c_
    refine g_iload_n (pc := 4) C 2 dX8_heard_4 rfl rfl ?_
    refine g_bipush (pc := 5) (v := 6) C dX8_heard_5 bp_6 ?_
    refine g_icmp_lt (pc := 7) (tgt := 12) C dX8_heard_7 (by decide) (fun c_ => ?_) (fun c_ => ?_)
    · replace h := ite_t h c_
      refine g_aload_n (pc := 12) C 0 dX8_heard_12 rfl rfl ?_
      refine g_iload_n (pc := 13) C 1 dX8_heard_13 rfl rfl ?_
      refine g_callVi (pc := 14) (As := [.int v1]) (rest := []) C rfl rfl rfl rfl (M_X8_refuseRound C.2.2.1  h) CyX8_refuseRound tw_467 tw_469 ts_9 (by decide) rfl rfl (Nat.le_of_ble_eq_true rfl) dX8_heard_14 (fun r14 t14 h => ?_)
      refine g_istore_n (pc := 17) (lv2 := [(3, .int r14), (0, .ref (G.2.2 0)), (1, .int v1), (2, .int v2)]) C dX8_heard_17 rfl (by decide) rfl ?_
      refine g_iload_n (pc := 18) C 0 dX8_heard_18 rfl rfl ?_
      refine g_if_eq (pc := 19) (tgt := 24) C dX8_heard_19 (by decide) (fun c_ => ?_) (fun c_ => ?_)
      · replace h := ite_t h c_
        refine g_aload_n (pc := 24) C 1 dX8_heard_24 rfl rfl ?_
        refine g_aload_n (pc := 25) C 1 dX8_heard_25 rfl rfl ?_
        refine get_X8_0 (pc := 26) C rfl tw_194 dX8_heard_26 ?_
        refine g_iload_n (pc := 29) C 2 dX8_heard_29 rfl rfl ?_
        obtain ⟨g_, h⟩ := h
        have hs30_ : shC[(5 + 2 * v1.toNatClampNeg)]? = some (6, 40, 0) := shR5 g_
        refine g_aldR (pc := 30) C rfl g_ dX8_heard_30 ?_
        refine g_callVv (pc := 31) (As := [.ref (G.2.2 (5 + 2 * v1.toNatClampNeg))]) (rest := []) C rfl rfl rfl rfl (M_X8_listen C.2.2.1 hs30_ h) CyX8_listen tw_476 tw_478 ts_10 (by decide) rfl rfl (Nat.le_of_ble_eq_true rfl) dX8_heard_31 (fun t31 h => ?_)
        refine g_iload_n (pc := 34) C 3 dX8_heard_34 rfl rfl ?_
        refine g_aload_n (pc := 35) C 1 dX8_heard_35 rfl rfl ?_
        refine get_X8_5 (pc := 36) C rfl tw_199 dX8_heard_36 ?_
        refine get_X3_2 (pc := 39) C rfl tw_103 dX8_heard_39 ?_
        refine g_icmp_lt (pc := 42) (tgt := 48) C dX8_heard_42 (by decide) (fun c_ => ?_) (fun c_ => ?_)
        · replace h := ite_t h c_
          refine g_aload_n (pc := 48) C 1 dX8_heard_48 rfl rfl ?_
          refine g_aload_n (pc := 49) C 1 dX8_heard_49 rfl rfl ?_
          refine get_X8_5 (pc := 50) C rfl tw_199 dX8_heard_50 ?_
          refine get_X3_1 (pc := 53) C rfl tw_101 dX8_heard_53 ?_
          refine g_iload_n (pc := 56) C 3 dX8_heard_56 rfl rfl ?_
          obtain ⟨g_, h⟩ := h
          refine g_iald (pc := 57) C rfl g_ dX8_heard_57 ?_
          refine put_X8_12 (pc := 58) C rfl tw_206 dX8_heard_58 ?_
          refine g_aload_n (pc := 61) C 1 dX8_heard_61 rfl rfl ?_
          refine get_X8_5 (pc := 62) C rfl tw_199 dX8_heard_62 ?_
          refine get_X3_0 (pc := 65) C rfl tw_99 dX8_heard_65 ?_
          refine g_iload_n (pc := 68) C 3 dX8_heard_68 rfl rfl ?_
          obtain ⟨g_, h⟩ := h
          refine g_iald (pc := 69) C rfl g_ dX8_heard_69 ?_
          exact g_iret (pc := 70) C dX8_heard_70 ⟨_, rfl, h⟩
        · replace h := ite_f h c_
          refine g_bipush (pc := 45) (v := -9) C dX8_heard_45 bp_m9 ?_
          exact g_iret (pc := 47) C dX8_heard_47 ⟨_, rfl, h⟩
      · replace h := ite_f h c_
        refine g_iload_n (pc := 22) C 0 dX8_heard_22 rfl rfl ?_
        exact g_iret (pc := 23) C dX8_heard_23 ⟨_, rfl, h⟩
    · replace h := ite_f h c_
      refine g_lv [] (lv2 := []) rfl ?_
      exact k_X8_heard_10 C  h
set_option maxHeartbeats 4000000 in
set_option maxRecDepth 100000 in
theorem k_X8_heights_77 {v2 : Int32} {k4 : Nat} {v5 : Int32} {v6 : Int32} {σ : St} {K : Int32 → St → Prop} {Φ30 : Int32 → Int32 → Prop} (C : Cx p R s m args meth c shC G cX8_heights 7 4 RX8 (some .int) 0 0) (hk4 : shC[k4]? = some (0, 0, 0)) (hΦ30 : ∀ (v5' : Int32) (v6' : Int32), Φ30 v5' v6' → Go p l e R s m args below meth c shC G 7 0 0 (MQ below (Qw shC G (RI K)) args s 0 0 (Fr shC G)) 30 [(0, .ref (G.2.2 0)), (2, .int v2), (4, .ref (G.2.2 k4)), (5, .int (v5')), (6, .int (v6'))] [] σ) (h : J_X8_heights_77 v2 k4 v5 v6 σ K Φ30) : Go p l e R s m args below meth c shC G 7 0 0 (MQ below (Qw shC G (RI K)) args s 0 0 (Fr shC G)) 77 [(0, .ref (G.2.2 0)), (2, .int v2), (4, .ref (G.2.2 k4)), (5, .int v5), (6, .int v6)] [] σ := by
  unfold J_X8_heights_77 at h
  refine g_iinc (pc := 77) (lv2 := [(6, .int (v6 + 1)), (0, .ref (G.2.2 0)), (2, .int v2), (4, .ref (G.2.2 k4)), (5, .int v5)]) C 4 dX8_heights_77 ic_1 rfl (by decide) rfl ?_
  refine g_goto (pc := 80) (tgt := 30) C dX8_heights_80 (by decide) ?_
  refine g_lv [1, 2, 3, 4, 0] (lv2 := [(0, .ref (G.2.2 0)), (2, .int v2), (4, .ref (G.2.2 k4)), (5, .int v5), (6, .int (v6 + 1))]) rfl ?_
  exact hΦ30 _ _ h
set_option maxHeartbeats 4000000 in
set_option maxRecDepth 100000 in
theorem k_X8_heights_30 {v2 : Int32} {k4 : Nat} {v5 : Int32} {v6 : Int32} {σ : St} {K : Int32 → St → Prop} (C : Cx p R s m args meth c shC G cX8_heights 7 4 RX8 (some .int) 0 0) (hk4 : shC[k4]? = some (0, 0, 0)) (h : L_X8_heights_30 v2 k4 σ K v5 v6) : Go p l e R s m args below meth c shC G 7 0 0 (MQ below (Qw shC G (RI K)) args s 0 0 (Fr shC G)) 30 [(0, .ref (G.2.2 0)), (2, .int v2), (4, .ref (G.2.2 k4)), (5, .int v5), (6, .int v6)] [] σ := by
  obtain ⟨n_, h⟩ := h
  induction n_ generalizing v5 v6 with
  | zero => exact h.elim
  | succ n_ ih =>
    replace h : B_X8_heights_30 v2 k4 σ K (it2 (B_X8_heights_30 v2 k4 σ K) n_) v5 v6 := h
    unfold B_X8_heights_30 at h
    refine g_iload (pc := 30) C 4 dX8_heights_30 rfl ?_
    refine g_bipush (pc := 32) (v := 21) C dX8_heights_32 bp_21 ?_
    refine g_icmp_ge (pc := 34) (tgt := 83) C dX8_heights_34 (by decide) (fun c_ => ?_) (fun c_ => ?_)
    · replace h := ite_t h c_
      refine g_iload (pc := 83) C 3 dX8_heights_83 rfl ?_
      exact g_iret (pc := 85) C dX8_heights_85 ⟨_, rfl, h⟩
    · replace h := ite_f h c_
      refine g_aload_n (pc := 37) C 0 dX8_heights_37 rfl rfl ?_
      refine get_X8_0 (pc := 38) C rfl tw_194 dX8_heights_38 ?_
      refine g_iload_n (pc := 41) C 1 dX8_heights_41 rfl rfl ?_
      obtain ⟨g_, h⟩ := h
      have hs42_ : shC[(5 + 2 * v2.toNatClampNeg)]? = some (6, 40, 0) := shR5 g_
      refine g_aldR (pc := 42) C rfl g_ dX8_heights_42 ?_
      refine g_aload (pc := 43) C 2 dX8_heights_43 rfl ?_
      refine get_X0_0 (pc := 45) C hk4 tw_42 dX8_heights_45 ?_
      refine g_aload (pc := 48) C 2 dX8_heights_48 rfl ?_
      refine get_X0_1 (pc := 50) C hk4 tw_45 dX8_heights_50 ?_
      refine g_aload_n (pc := 53) C 0 dX8_heights_53 rfl rfl ?_
      refine get_X8_3 (pc := 54) C rfl tw_197 dX8_heights_54 ?_
      refine get_X7_3 (pc := 57) C rfl tw_78 dX8_heights_57 ?_
      refine g_iload (pc := 60) C 4 dX8_heights_60 rfl ?_
      refine g_callSip (pc := 62) (As := [.ref (G.2.2 (5 + 2 * v2.toNatClampNeg)), .int (σ.1 k4 0), .int (σ.1 k4 1), .int (σ.1 25 3), .int v6]) (rest := []) C (M_X8_fits C.2.2.1 hs42_ h) CyX8_fits tw_760 tw_761 (by decide) rfl rfl (Nat.le_of_ble_eq_true rfl) dX8_heights_62 (fun r62 h => ?_)
      refine g_if_eq (pc := 65) (tgt := 77) C dX8_heights_65 (by decide) (fun c_ => ?_) (fun c_ => ?_)
      · replace h := ite_t h c_
        refine g_lv [0, 1, 2, 3, 4] (lv2 := [(0, .ref (G.2.2 0)), (2, .int v2), (4, .ref (G.2.2 k4)), (5, .int v5), (6, .int v6)]) rfl ?_
        exact k_X8_heights_77 C hk4 (fun _ _ h_ => ih h_) h
      · replace h := ite_f h c_
        refine g_iload (pc := 68) C 3 dX8_heights_68 rfl ?_
        refine g_iconst (pc := 70) (v := 1) C dX8_heights_70 ic_1 ?_
        refine g_iload (pc := 71) C 4 dX8_heights_71 rfl ?_
        refine g_ishl (pc := 73) C dX8_heights_73 ?_
        refine g_ior (pc := 74) C dX8_heights_74 ?_
        refine g_istore (pc := 75) (lv2 := [(5, .int (v5 ||| (shl 1 v6))), (0, .ref (G.2.2 0)), (2, .int v2), (4, .ref (G.2.2 k4)), (6, .int v6)]) C dX8_heights_75 (by decide) rfl ?_
        refine g_lv [1, 2, 3, 0, 4] (lv2 := [(0, .ref (G.2.2 0)), (2, .int v2), (4, .ref (G.2.2 k4)), (5, .int (v5 ||| (shl 1 v6))), (6, .int v6)]) rfl ?_
        exact k_X8_heights_77 C hk4 (fun _ _ h_ => ih h_) h
set_option maxHeartbeats 4000000 in
set_option maxRecDepth 100000 in
theorem M_X8_heights {l : Launch} {G : Gp} (hD : Dj shC G) {v1 : Int32} {v2 : Int32} {σ : St} {K : Int32 → St → Prop} (h : wp_X8_heights v1 v2 σ K) : MC l shC G yX8_heights cX8_heights 7 (some .int) 4 [.ref (G.2.2 0), .int v1, .int v2] σ (RI K) := by
  unfold wp_X8_heights at h
  refine MC.of (by decide) hD (Nat.le_of_ble_eq_true rfl) ?_
  intro p e s m args below meth c C
  replace C : Cx p (rmD 4) s m args meth c shC G cX8_heights 7 4 RX8 (some .int) 0 0 := C
  show Go p l e (rmD 4) s m args below meth c shC G 7 0 0 (MQ below (Qw shC G (RI K)) args s 0 0 (Fr shC G)) 0 [(0, .ref (G.2.2 0)), (1, .int v1), (2, .int v2)] [] σ
  refine g_aload_n (pc := 0) C 0 dX8_heights_0 rfl rfl ?_
  refine g_iload_n (pc := 1) C 1 dX8_heights_1 rfl rfl ?_
  refine g_iload_n (pc := 2) C 2 dX8_heights_2 rfl rfl ?_
  refine g_callVi (pc := 3) (As := [.int v1, .int v2]) (rest := []) C rfl rfl rfl rfl (M_X8_refuseTold C.2.2.1  h) CyX8_refuseTold tw_756 tw_758 ts_21 (by decide) rfl rfl (Nat.le_of_ble_eq_true rfl) dX8_heights_3 (fun r3 t3 h => ?_)
  refine g_istore_n (pc := 6) (lv2 := [(3, .int r3), (0, .ref (G.2.2 0)), (1, .int v1), (2, .int v2)]) C dX8_heights_6 rfl (by decide) rfl ?_
  refine g_iload_n (pc := 7) C 0 dX8_heights_7 rfl rfl ?_
  refine g_if_eq (pc := 8) (tgt := 13) C dX8_heights_8 (by decide) (fun c_ => ?_) (fun c_ => ?_)
  · replace h := ite_t h c_
    refine g_aload_n (pc := 13) C 1 dX8_heights_13 rfl rfl ?_
    refine get_X8_3 (pc := 14) C rfl tw_197 dX8_heights_14 ?_
    refine get_X7_0 (pc := 17) C rfl tw_72 dX8_heights_17 ?_
    refine g_iload_n (pc := 20) C 2 dX8_heights_20 rfl rfl ?_
    obtain ⟨g_, h⟩ := h
    have hs21_ : shC[(28 + v1.toNatClampNeg)]? = some (0, 0, 0) := sh7_e (k := 25) rfl g_
    refine g_aldB (pc := 21) C (sh7_0 rfl) g_ dX8_heights_21 ?_
    refine g_astore (pc := 22) (lv2 := [(4, .ref (G.2.2 (28 + v1.toNatClampNeg))), (3, .int r3), (0, .ref (G.2.2 0)), (1, .int v1), (2, .int v2)]) C dX8_heights_22 (by decide) rfl ?_
    refine g_iconst (pc := 24) (v := 0) C dX8_heights_24 ic_0 ?_
    refine g_istore (pc := 25) (lv2 := [(5, .int 0), (4, .ref (G.2.2 (28 + v1.toNatClampNeg))), (3, .int r3), (0, .ref (G.2.2 0)), (1, .int v1), (2, .int v2)]) C dX8_heights_25 (by decide) rfl ?_
    refine g_iconst (pc := 27) (v := 0) C dX8_heights_27 ic_0 ?_
    refine g_istore (pc := 28) (lv2 := [(6, .int 0), (5, .int 0), (4, .ref (G.2.2 (28 + v1.toNatClampNeg))), (3, .int r3), (0, .ref (G.2.2 0)), (1, .int v1), (2, .int v2)]) C dX8_heights_28 (by decide) rfl ?_
    refine g_lv [4, 6, 2, 1, 0] (lv2 := [(0, .ref (G.2.2 0)), (2, .int v2), (4, .ref (G.2.2 (28 + v1.toNatClampNeg))), (5, .int 0), (6, .int 0)]) rfl ?_
    exact k_X8_heights_30 C hs21_ h
  · replace h := ite_f h c_
    refine g_iload_n (pc := 11) C 0 dX8_heights_11 rfl rfl ?_
    exact g_iret (pc := 12) C dX8_heights_12 ⟨_, rfl, h⟩
set_option maxHeartbeats 4000000 in
set_option maxRecDepth 100000 in
theorem k_X8_hold_10 {σ : St} {K : Int32 → St → Prop} (C : Cx p R s m args meth c shC G cX8_hold 9 4 RX8 (some .int) 0 0) (h : J_X8_hold_10 σ K) : Go p l e R s m args below meth c shC G 9 0 0 (MQ below (Qw shC G (RI K)) args s 0 0 (Fr shC G)) 10 [] [] σ := by
  unfold J_X8_hold_10 at h
  refine g_iconst (pc := 10) (v := -1) C dX8_hold_10 ic_m1 ?_
  exact g_iret (pc := 11) C dX8_hold_11 ⟨_, rfl, h⟩
set_option maxHeartbeats 4000000 in
set_option maxRecDepth 100000 in
theorem k_X8_hold_105 {v4 : Int32} {σ : St} {K : Int32 → St → Prop} (C : Cx p R s m args meth c shC G cX8_hold 9 4 RX8 (some .int) 0 0) (h : J_X8_hold_105 v4 σ K) : Go p l e R s m args below meth c shC G 9 0 0 (MQ below (Qw shC G (RI K)) args s 0 0 (Fr shC G)) 105 [(4, .int v4)] [] σ := by
  unfold J_X8_hold_105 at h
  refine g_iload (pc := 105) C 0 dX8_hold_105 rfl ?_
  exact g_iret (pc := 107) C dX8_hold_107 ⟨_, rfl, h⟩
set_option maxHeartbeats 4000000 in
set_option maxRecDepth 100000 in
theorem k_X8_hold_86 {v1 : Int32} {v2 : Int32} {v4 : Int32} {v5 : Int32} {v6 : Int32} {σ : St} {K : Int32 → St → Prop} {Φ36 : Int32 → Int32 → Int32 → Prop} (C : Cx p R s m args meth c shC G cX8_hold 9 4 RX8 (some .int) 0 0) (hΦ36 : ∀ (v4' : Int32) (v5' : Int32) (v6' : Int32), Φ36 v4' v5' v6' → Go p l e R s m args below meth c shC G 9 0 0 (MQ below (Qw shC G (RI K)) args s 0 0 (Fr shC G)) 36 [(0, .ref (G.2.2 0)), (1, .int v1), (2, .int v2), (4, .int (v4')), (5, .int (v5')), (6, .int (v6'))] [] σ) (h : J_X8_hold_86 v1 v2 v4 v5 v6 σ K Φ36) : Go p l e R s m args below meth c shC G 9 0 0 (MQ below (Qw shC G (RI K)) args s 0 0 (Fr shC G)) 86 [(0, .ref (G.2.2 0)), (1, .int v1), (2, .int v2), (4, .int v4), (5, .int v5), (6, .int v6)] [] σ := by
  unfold J_X8_hold_86 at h
  refine g_iinc (pc := 86) (lv2 := [(6, .int (v6 + 1)), (0, .ref (G.2.2 0)), (1, .int v1), (2, .int v2), (4, .int v4), (5, .int v5)]) C 5 dX8_hold_86 ic_1 rfl (by decide) rfl ?_
  refine g_goto (pc := 89) (tgt := 36) C dX8_hold_89 (by decide) ?_
  refine g_lv [1, 2, 3, 4, 5, 0] (lv2 := [(0, .ref (G.2.2 0)), (1, .int v1), (2, .int v2), (4, .int v4), (5, .int v5), (6, .int (v6 + 1))]) rfl ?_
  exact hΦ36 _ _ _ h
set_option maxHeartbeats 4000000 in
set_option maxRecDepth 100000 in
theorem k_X8_hold_36 {v1 : Int32} {v2 : Int32} {v4 : Int32} {v5 : Int32} {v6 : Int32} {σ : St} {K : Int32 → St → Prop} (C : Cx p R s m args meth c shC G cX8_hold 9 4 RX8 (some .int) 0 0) (h : L_X8_hold_36 v1 v2 σ K v4 v5 v6) : Go p l e R s m args below meth c shC G 9 0 0 (MQ below (Qw shC G (RI K)) args s 0 0 (Fr shC G)) 36 [(0, .ref (G.2.2 0)), (1, .int v1), (2, .int v2), (4, .int v4), (5, .int v5), (6, .int v6)] [] σ := by
  obtain ⟨n_, h⟩ := h
  induction n_ generalizing v4 v5 v6 with
  | zero => exact h.elim
  | succ n_ ih =>
    replace h : B_X8_hold_36 v1 v2 σ K (it3 (B_X8_hold_36 v1 v2 σ K) n_) v4 v5 v6 := h
    unfold B_X8_hold_36 at h
    refine g_iload (pc := 36) C 5 dX8_hold_36 rfl ?_
    refine g_bipush (pc := 38) (v := 7) C dX8_hold_38 bp_7 ?_
    refine g_icmp_ge (pc := 40) (tgt := 92) C dX8_hold_40 (by decide) (fun c_ => ?_) (fun c_ => ?_)
    · replace h := ite_t h c_
      refine g_iload (pc := 92) C 3 dX8_hold_92 rfl ?_
      refine g_bipush (pc := 94) (v := -9) C dX8_hold_94 bp_m9 ?_
      refine g_icmp_eq (pc := 96) (tgt := 105) C dX8_hold_96 (by decide) (fun c_ => ?_) (fun c_ => ?_)
      · replace h := ite_t h c_
        refine g_lv [3] (lv2 := [(4, .int v4)]) rfl ?_
        exact k_X8_hold_105 C  h
      · replace h := ite_f h c_
        refine g_aload_n (pc := 99) C 0 dX8_hold_99 rfl rfl ?_
        refine g_iload (pc := 100) C 4 dX8_hold_100 rfl ?_
        refine put_X8_12 (pc := 102) C rfl tw_206 dX8_hold_102 ?_
        refine g_lv [3] (lv2 := [(4, .int v4)]) rfl ?_
        exact k_X8_hold_105 C  h
    · replace h := ite_f h c_
      refine g_aload_n (pc := 43) C 0 dX8_hold_43 rfl rfl ?_
      refine get_X8_3 (pc := 44) C rfl tw_197 dX8_hold_44 ?_
      refine g_iload_n (pc := 47) C 1 dX8_hold_47 rfl rfl ?_
      refine g_iload (pc := 48) C 5 dX8_hold_48 rfl ?_
      refine g_callVip (pc := 50) (As := [.int v1, .int v6]) (rest := []) C rfl rfl rfl rfl (M_X7_tenthsBy C.2.2.1 rfl h) CyX7_tenthsBy tw_404 tw_405 tw_406 (by decide) rfl rfl (Nat.le_of_ble_eq_true rfl) dX8_hold_50 (fun r50 h => ?_)
      refine g_istore (pc := 53) (lv2 := [(7, .int r50), (0, .ref (G.2.2 0)), (1, .int v1), (2, .int v2), (4, .int v4), (5, .int v5), (6, .int v6)]) C dX8_hold_53 (by decide) rfl ?_
      refine g_iload (pc := 55) C 0 dX8_hold_55 rfl ?_
      refine g_iload_n (pc := 57) C 3 dX8_hold_57 rfl rfl ?_
      refine g_isub (pc := 58) C dX8_hold_58 ?_
      refine g_abs (pc := 59) C dX8_hold_59 tw_620 tw_621 tw_10 tw_622 (by decide) (Nat.le_of_ble_eq_true rfl) ?_
      refine g_istore (pc := 62) (lv2 := [(8, .int (iabs (r50 - v2))), (7, .int r50), (0, .ref (G.2.2 0)), (1, .int v1), (2, .int v2), (4, .int v4), (5, .int v5), (6, .int v6)]) C dX8_hold_62 (by decide) rfl ?_
      refine g_iload (pc := 64) C 1 dX8_hold_64 rfl ?_
      refine g_bipush (pc := 66) (v := -9) C dX8_hold_66 bp_m9 ?_
      refine g_icmp_eq (pc := 68) (tgt := 86) C dX8_hold_68 (by decide) (fun c_ => ?_) (fun c_ => ?_)
      · replace h := ite_t h c_
        refine g_lv [2, 3, 4, 5, 6, 7] (lv2 := [(0, .ref (G.2.2 0)), (1, .int v1), (2, .int v2), (4, .int v4), (5, .int v5), (6, .int v6)]) rfl ?_
        exact k_X8_hold_86 C (fun _ _ _ h_ => ih h_) h
      · replace h := ite_f h c_
        refine g_iload (pc := 71) C 0 dX8_hold_71 rfl ?_
        refine g_iload (pc := 73) C 6 dX8_hold_73 rfl ?_
        refine g_icmp_ge (pc := 75) (tgt := 86) C dX8_hold_75 (by decide) (fun c_ => ?_) (fun c_ => ?_)
        · replace h := ite_t h c_
          refine g_lv [2, 3, 4, 5, 6, 7] (lv2 := [(0, .ref (G.2.2 0)), (1, .int v1), (2, .int v2), (4, .int v4), (5, .int v5), (6, .int v6)]) rfl ?_
          exact k_X8_hold_86 C (fun _ _ _ h_ => ih h_) h
        · replace h := ite_f h c_
          refine g_iload (pc := 78) C 7 dX8_hold_78 rfl ?_
          refine g_istore (pc := 80) (lv2 := [(4, .int v6), (8, .int (iabs (r50 - v2))), (7, .int r50), (0, .ref (G.2.2 0)), (1, .int v1), (2, .int v2), (5, .int v5), (6, .int v6)]) C dX8_hold_80 (by decide) rfl ?_
          refine g_iload (pc := 82) C 1 dX8_hold_82 rfl ?_
          refine g_istore (pc := 84) (lv2 := [(5, .int (iabs (r50 - v2))), (4, .int v6), (8, .int (iabs (r50 - v2))), (7, .int r50), (0, .ref (G.2.2 0)), (1, .int v1), (2, .int v2), (6, .int v6)]) C dX8_hold_84 (by decide) rfl ?_
          refine g_lv [4, 5, 6, 1, 0, 7] (lv2 := [(0, .ref (G.2.2 0)), (1, .int v1), (2, .int v2), (4, .int v6), (5, .int (iabs (r50 - v2))), (6, .int v6)]) rfl ?_
          exact k_X8_hold_86 C (fun _ _ _ h_ => ih h_) h
set_option maxHeartbeats 4000000 in
set_option maxRecDepth 100000 in
theorem M_X8_hold {l : Launch} {G : Gp} (hD : Dj shC G) {v1 : Int32} {v2 : Int32} {σ : St} {K : Int32 → St → Prop} (h : wp_X8_hold v1 v2 σ K) : MC l shC G yX8_hold cX8_hold 9 (some .int) 4 [.ref (G.2.2 0), .int v1, .int v2] σ (RI K) := by
  unfold wp_X8_hold at h
  refine MC.of (by decide) hD (Nat.le_of_ble_eq_true rfl) ?_
  intro p e s m args below meth c C
  replace C : Cx p (rmD 4) s m args meth c shC G cX8_hold 9 4 RX8 (some .int) 0 0 := C
  show Go p l e (rmD 4) s m args below meth c shC G 9 0 0 (MQ below (Qw shC G (RI K)) args s 0 0 (Fr shC G)) 0 [(0, .ref (G.2.2 0)), (1, .int v1), (2, .int v2)] [] σ
  refine g_iload_n (pc := 0) C 2 dX8_hold_0 rfl rfl ?_
  refine g_if_lt (pc := 1) (tgt := 10) C dX8_hold_1 (by decide) (fun c_ => ?_) (fun c_ => ?_)
  · replace h := ite_t h c_
    refine g_lv [] (lv2 := []) rfl ?_
    exact k_X8_hold_10 C  h
  · replace h := ite_f h c_
    refine g_iload_n (pc := 4) C 2 dX8_hold_4 rfl rfl ?_
    refine g_bipush (pc := 5) (v := 40) C dX8_hold_5 bp_40 ?_
    refine g_icmp_le (pc := 7) (tgt := 12) C dX8_hold_7 (by decide) (fun c_ => ?_) (fun c_ => ?_)
    · replace h := ite_t h c_
      refine g_aload_n (pc := 12) C 0 dX8_hold_12 rfl rfl ?_
      refine g_iload_n (pc := 13) C 1 dX8_hold_13 rfl rfl ?_
      refine g_callVip (pc := 14) (As := [.int v1]) (rest := []) C rfl rfl rfl rfl (M_X8_refuseBell C.2.2.1  h) CyX8_refuseBell tw_435 tw_437 ts_7 (by decide) rfl rfl (Nat.le_of_ble_eq_true rfl) dX8_hold_14 (fun r14 h => ?_)
      refine g_istore_n (pc := 17) (lv2 := [(3, .int r14), (0, .ref (G.2.2 0)), (1, .int v1), (2, .int v2)]) C dX8_hold_17 rfl (by decide) rfl ?_
      refine g_iload_n (pc := 18) C 0 dX8_hold_18 rfl rfl ?_
      refine g_if_eq (pc := 19) (tgt := 24) C dX8_hold_19 (by decide) (fun c_ => ?_) (fun c_ => ?_)
      · replace h := ite_t h c_
        refine g_bipush (pc := 24) (v := -9) C dX8_hold_24 bp_m9 ?_
        refine g_istore (pc := 26) (lv2 := [(4, .int (-9)), (3, .int r14), (0, .ref (G.2.2 0)), (1, .int v1), (2, .int v2)]) C dX8_hold_26 (by decide) rfl ?_
        refine g_sipush (pc := 28) (v := 1000) C dX8_hold_28 sp_1000 ?_
        refine g_istore (pc := 31) (lv2 := [(5, .int 1000), (4, .int (-9)), (3, .int r14), (0, .ref (G.2.2 0)), (1, .int v1), (2, .int v2)]) C dX8_hold_31 (by decide) rfl ?_
        refine g_iconst (pc := 33) (v := 0) C dX8_hold_33 ic_0 ?_
        refine g_istore (pc := 34) (lv2 := [(6, .int 0), (5, .int 1000), (4, .int (-9)), (3, .int r14), (0, .ref (G.2.2 0)), (1, .int v1), (2, .int v2)]) C dX8_hold_34 (by decide) rfl ?_
        refine g_lv [4, 5, 6, 2, 1, 0] (lv2 := [(0, .ref (G.2.2 0)), (1, .int v1), (2, .int v2), (4, .int (-9)), (5, .int 1000), (6, .int 0)]) rfl ?_
        exact k_X8_hold_36 C  h
      · replace h := ite_f h c_
        refine g_iload_n (pc := 22) C 0 dX8_hold_22 rfl rfl ?_
        exact g_iret (pc := 23) C dX8_hold_23 ⟨_, rfl, h⟩
    · replace h := ite_f h c_
      refine g_lv [] (lv2 := []) rfl ?_
      exact k_X8_hold_10 C  h
set_option maxHeartbeats 4000000 in
set_option maxRecDepth 100000 in
theorem k_X8_isKept_14 {w0 : Int32} {σ : St} {K : Int32 → Prop} (C : Cx p R s m args meth c shC G cX8_isKept 1 1 RX8 (some .boolean) 0 0) (h : J_X8_isKept_14 w0 K) : Go p l e R s m args below meth c shC G 1 0 0 (MQ below (Qw shC G (RI (fun r t => t = σ ∧ K r))) args s 0 0 (Fr shC G)) 14 [] [.int w0] σ := by
  unfold J_X8_isKept_14 at h
  obtain ⟨g_, h⟩ := h
  exact g_zret (pc := 14) C g_ dX8_isKept_14 ⟨_, rfl, ⟨rfl, h⟩⟩
set_option maxHeartbeats 4000000 in
set_option maxRecDepth 100000 in
theorem k_X8_isKept_13 {σ : St} {K : Int32 → Prop} (C : Cx p R s m args meth c shC G cX8_isKept 1 1 RX8 (some .boolean) 0 0) (h : J_X8_isKept_13 K) : Go p l e R s m args below meth c shC G 1 0 0 (MQ below (Qw shC G (RI (fun r t => t = σ ∧ K r))) args s 0 0 (Fr shC G)) 13 [] [] σ := by
  unfold J_X8_isKept_13 at h
  refine g_iconst (pc := 13) (v := 0) C dX8_isKept_13 ic_0 ?_
  refine g_lv [] (lv2 := []) rfl ?_
  exact k_X8_isKept_14 C  h
set_option maxHeartbeats 4000000 in
set_option maxRecDepth 100000 in
theorem M_X8_isKept {l : Launch} {G : Gp} (hD : Dj shC G) {v0 : Int32} {σ : St} {K : Int32 → Prop} (h : wp_X8_isKept v0 K) : MC l shC G yX8_isKept cX8_isKept 1 (some .boolean) 1 [.int v0] σ (RI (fun r t => t = σ ∧ K r)) := by
  unfold wp_X8_isKept at h
  refine MC.of (by decide) hD (Nat.le_of_ble_eq_true rfl) ?_
  intro p e s m args below meth c C
  replace C : Cx p (rmD 1) s m args meth c shC G cX8_isKept 1 1 RX8 (some .boolean) 0 0 := C
  show Go p l e (rmD 1) s m args below meth c shC G 1 0 0 (MQ below (Qw shC G (RI (fun r t => t = σ ∧ K r))) args s 0 0 (Fr shC G)) 0 [(0, .int v0)] [] σ
  refine g_iload_n (pc := 0) C 0 dX8_isKept_0 rfl rfl ?_
  refine g_if_lt (pc := 1) (tgt := 13) C dX8_isKept_1 (by decide) (fun c_ => ?_) (fun c_ => ?_)
  · replace h := ite_t h c_
    refine g_lv [] (lv2 := []) rfl ?_
    exact k_X8_isKept_13 C  h
  · replace h := ite_f h c_
    refine g_iload_n (pc := 4) C 0 dX8_isKept_4 rfl rfl ?_
    refine g_iconst (pc := 5) (v := 3) C dX8_isKept_5 ic_3 ?_
    refine g_icmp_ge (pc := 6) (tgt := 13) C dX8_isKept_6 (by decide) (fun c_ => ?_) (fun c_ => ?_)
    · replace h := ite_t h c_
      refine g_lv [] (lv2 := []) rfl ?_
      exact k_X8_isKept_13 C  h
    · replace h := ite_f h c_
      refine g_iconst (pc := 9) (v := 1) C dX8_isKept_9 ic_1 ?_
      refine g_goto (pc := 10) (tgt := 14) C dX8_isKept_10 (by decide) ?_
      refine g_lv [] (lv2 := []) rfl ?_
      exact k_X8_isKept_14 C  h
set_option maxHeartbeats 4000000 in
set_option maxRecDepth 100000 in
theorem M_X0_become {l : Launch} {G : Gp} (hD : Dj shC G) {k0 : Nat} {k1 : Nat} {σ : St} {K : St → Prop} (hk0 : shC[k0]? = some (0, 0, 0)) (hk1 : shC[k1]? = some (0, 0, 0)) (h : wp_X0_become k0 k1 σ K) : MC l shC G yX0_become cX0_become 2 none 3 [.ref (G.2.2 k0), .ref (G.2.2 k1)] σ (RV K) := by
  unfold wp_X0_become at h
  refine MC.of (by decide) hD (Nat.le_of_ble_eq_true rfl) ?_
  intro p e s m args below meth c C
  replace C : Cx p (rmD 3) s m args meth c shC G cX0_become 2 3 RX0 none 0 0 := C
  show Go p l e (rmD 3) s m args below meth c shC G 2 0 0 (MQ below (Qw shC G (RV K)) args s 0 0 (Fr shC G)) 0 [(0, .ref (G.2.2 k0)), (1, .ref (G.2.2 k1))] [] σ
  refine g_aload_n (pc := 0) C 0 dX0_become_0 rfl rfl ?_
  refine g_aload_n (pc := 1) C 1 dX0_become_1 rfl rfl ?_
  refine get_X0_0 (pc := 2) C hk1 tw_39 dX0_become_2 ?_
  refine g_aload_n (pc := 5) C 1 dX0_become_5 rfl rfl ?_
  refine get_X0_1 (pc := 6) C hk1 tw_43 dX0_become_6 ?_
  refine g_aload_n (pc := 9) C 1 dX0_become_9 rfl rfl ?_
  refine get_X0_2 (pc := 10) C hk1 tw_46 dX0_become_10 ?_
  refine g_callVv (pc := 13) (As := [.int (σ.1 k1 0), .int (σ.1 k1 1), .int (σ.1 k1 2)]) (rest := []) C hk0 rfl rfl rfl (M_X0_begin C.2.2.1 hk0 h) CyX0_begin tw_376 tw_357 tw_358 (by decide) rfl rfl (Nat.le_of_ble_eq_true rfl) dX0_become_13 (fun t13 h => ?_)
  refine g_aload_n (pc := 16) C 0 dX0_become_16 rfl rfl ?_
  refine g_aload_n (pc := 17) C 1 dX0_become_17 rfl rfl ?_
  refine get_X0_3 (pc := 18) C hk1 tw_47 dX0_become_18 ?_
  refine put_X0_3 (pc := 21) C hk0 tw_47 dX0_become_21 ?_
  refine g_aload_n (pc := 24) C 0 dX0_become_24 rfl rfl ?_
  refine g_aload_n (pc := 25) C 1 dX0_become_25 rfl rfl ?_
  refine get_X0_4 (pc := 26) C hk1 tw_51 dX0_become_26 ?_
  refine put_X0_4 (pc := 29) C hk0 tw_51 dX0_become_29 ?_
  refine g_aload_n (pc := 32) C 0 dX0_become_32 rfl rfl ?_
  refine g_aload_n (pc := 33) C 1 dX0_become_33 rfl rfl ?_
  refine get_X0_5 (pc := 34) C hk1 tw_52 dX0_become_34 ?_
  obtain ⟨g_, h⟩ := h
  refine put_X0_5 (pc := 37) C hk0 g_ tw_52 dX0_become_37 ?_
  exact g_vret (pc := 40) C dX0_become_40 ⟨rfl, h⟩
set_option maxHeartbeats 4000000 in
set_option maxRecDepth 100000 in
theorem k_X7_become_57 {k0 : Nat} {k1 : Nat} {v2 : Int32} {σ : St} {K : St → Prop} (C : Cx p R s m args meth c shC G cX7_become 3 4 RX7 none 0 0) (hk0 : shC[k0]? = some (7, 0, 0)) (hk1 : shC[k1]? = some (7, 0, 0)) (h : L_X7_become_57 k0 k1 K v2 σ) : Go p l e R s m args below meth c shC G 3 0 0 (MQ below (Qw shC G (RV K)) args s 0 0 (Fr shC G)) 57 [(0, .ref (G.2.2 k0)), (1, .ref (G.2.2 k1)), (2, .int v2)] [] σ := by
  obtain ⟨n_, h⟩ := h
  induction n_ generalizing v2 σ with
  | zero => exact h.elim
  | succ n_ ih =>
    replace h : B_X7_become_57 k0 k1 K (it2 (B_X7_become_57 k0 k1 K) n_) v2 σ := h
    unfold B_X7_become_57 at h
    refine g_iload_n (pc := 57) C 2 dX7_become_57 rfl rfl ?_
    refine g_aload_n (pc := 58) C 0 dX7_become_58 rfl rfl ?_
    refine get_X7_4 (pc := 59) C hk0 tw_79 dX7_become_59 ?_
    refine g_icmp_ge (pc := 62) (tgt := 83) C dX7_become_62 (by decide) (fun c_ => ?_) (fun c_ => ?_)
    · replace h := ite_t h c_
      exact g_vret (pc := 83) C dX7_become_83 ⟨rfl, h⟩
    · replace h := ite_f h c_
      refine g_aload_n (pc := 65) C 0 dX7_become_65 rfl rfl ?_
      refine get_X7_1 (pc := 66) C hk0 tw_73 dX7_become_66 ?_
      refine g_iload_n (pc := 69) C 2 dX7_become_69 rfl rfl ?_
      refine g_aload_n (pc := 70) C 1 dX7_become_70 rfl rfl ?_
      refine get_X7_1 (pc := 71) C hk1 tw_73 dX7_become_71 ?_
      refine g_iload_n (pc := 74) C 2 dX7_become_74 rfl rfl ?_
      obtain ⟨g_, h⟩ := h
      refine g_iald (pc := 75) C (sh7_1 hk1) g_ dX7_become_75 ?_
      obtain ⟨g_, h⟩ := h
      refine g_iast (pc := 76) C (sh7_1 hk0) g_ dX7_become_76 ?_
      refine g_iinc (pc := 77) (lv2 := [(2, .int (v2 + 1)), (0, .ref (G.2.2 k0)), (1, .ref (G.2.2 k1))]) C 2 dX7_become_77 ic_1 rfl (by decide) rfl ?_
      refine g_goto (pc := 80) (tgt := 57) C dX7_become_80 (by decide) ?_
      refine g_lv [1, 2, 0] (lv2 := [(0, .ref (G.2.2 k0)), (1, .ref (G.2.2 k1)), (2, .int (v2 + 1))]) rfl ?_
      exact ih h
set_option maxHeartbeats 4000000 in
set_option maxRecDepth 100000 in
theorem k_X7_become_26 {k0 : Nat} {k1 : Nat} {v2 : Int32} {σ : St} {K : St → Prop} (C : Cx p R s m args meth c shC G cX7_become 3 4 RX7 none 0 0) (hk0 : shC[k0]? = some (7, 0, 0)) (hk1 : shC[k1]? = some (7, 0, 0)) (h : L_X7_become_26 k0 k1 K v2 σ) : Go p l e R s m args below meth c shC G 3 0 0 (MQ below (Qw shC G (RV K)) args s 0 0 (Fr shC G)) 26 [(0, .ref (G.2.2 k0)), (1, .ref (G.2.2 k1)), (2, .int v2)] [] σ := by
  obtain ⟨n_, h⟩ := h
  induction n_ generalizing v2 σ with
  | zero => exact h.elim
  | succ n_ ih =>
    replace h : B_X7_become_26 k0 k1 K (it2 (B_X7_become_26 k0 k1 K) n_) v2 σ := h
    unfold B_X7_become_26 at h
    refine g_iload_n (pc := 26) C 2 dX7_become_26 rfl rfl ?_
    refine g_aload_n (pc := 27) C 0 dX7_become_27 rfl rfl ?_
    refine get_X7_2 (pc := 28) C hk0 tw_75 dX7_become_28 ?_
    refine g_icmp_ge (pc := 31) (tgt := 55) C dX7_become_31 (by decide) (fun c_ => ?_) (fun c_ => ?_)
    · replace h := ite_t h c_
      refine g_iconst (pc := 55) (v := 0) C dX7_become_55 ic_0 ?_
      refine g_istore_n (pc := 56) (lv2 := [(2, .int 0), (0, .ref (G.2.2 k0)), (1, .ref (G.2.2 k1))]) C dX7_become_56 rfl (by decide) rfl ?_
      refine g_lv [1, 2, 0] (lv2 := [(0, .ref (G.2.2 k0)), (1, .ref (G.2.2 k1)), (2, .int 0)]) rfl ?_
      exact k_X7_become_57 C hk0 hk1 h
    · replace h := ite_f h c_
      refine g_aload_n (pc := 34) C 0 dX7_become_34 rfl rfl ?_
      refine get_X7_0 (pc := 35) C hk0 tw_70 dX7_become_35 ?_
      refine g_iload_n (pc := 38) C 2 dX7_become_38 rfl rfl ?_
      obtain ⟨g_, h⟩ := h
      have hs39_ : shC[((k0 + 3) + v2.toNatClampNeg)]? = some (0, 0, 0) := sh7_e (k := k0) hk0 g_
      refine g_aldB (pc := 39) C (sh7_0 hk0) g_ dX7_become_39 ?_
      refine g_aload_n (pc := 40) C 1 dX7_become_40 rfl rfl ?_
      refine get_X7_0 (pc := 41) C hk1 tw_70 dX7_become_41 ?_
      refine g_iload_n (pc := 44) C 2 dX7_become_44 rfl rfl ?_
      obtain ⟨g_, h⟩ := h
      have hs45_ : shC[((k1 + 3) + v2.toNatClampNeg)]? = some (0, 0, 0) := sh7_e (k := k1) hk1 g_
      refine g_aldB (pc := 45) C (sh7_0 hk1) g_ dX7_become_45 ?_
      refine g_callVv (pc := 46) (As := [.ref (G.2.2 ((k1 + 3) + v2.toNatClampNeg))]) (rest := []) C hs39_ rfl rfl rfl (M_X0_become C.2.2.1 hs39_ hs45_ h) CyX0_become tw_372 tw_373 tw_374 (by decide) rfl rfl (Nat.le_of_ble_eq_true rfl) dX7_become_46 (fun t46 h => ?_)
      refine g_iinc (pc := 49) (lv2 := [(2, .int (v2 + 1)), (0, .ref (G.2.2 k0)), (1, .ref (G.2.2 k1))]) C 2 dX7_become_49 ic_1 rfl (by decide) rfl ?_
      refine g_goto (pc := 52) (tgt := 26) C dX7_become_52 (by decide) ?_
      refine g_lv [1, 2, 0] (lv2 := [(0, .ref (G.2.2 k0)), (1, .ref (G.2.2 k1)), (2, .int (v2 + 1))]) rfl ?_
      exact ih h
set_option maxHeartbeats 4000000 in
set_option maxRecDepth 100000 in
theorem M_X7_become {l : Launch} {G : Gp} (hD : Dj shC G) {k0 : Nat} {k1 : Nat} {σ : St} {K : St → Prop} (hk0 : shC[k0]? = some (7, 0, 0)) (hk1 : shC[k1]? = some (7, 0, 0)) (h : wp_X7_become k0 k1 σ K) : MC l shC G yX7_become cX7_become 3 none 4 [.ref (G.2.2 k0), .ref (G.2.2 k1)] σ (RV K) := by
  unfold wp_X7_become at h
  refine MC.of (by decide) hD (Nat.le_of_ble_eq_true rfl) ?_
  intro p e s m args below meth c C
  replace C : Cx p (rmD 4) s m args meth c shC G cX7_become 3 4 RX7 none 0 0 := C
  show Go p l e (rmD 4) s m args below meth c shC G 3 0 0 (MQ below (Qw shC G (RV K)) args s 0 0 (Fr shC G)) 0 [(0, .ref (G.2.2 k0)), (1, .ref (G.2.2 k1))] [] σ
  refine g_aload_n (pc := 0) C 0 dX7_become_0 rfl rfl ?_
  refine g_aload_n (pc := 1) C 1 dX7_become_1 rfl rfl ?_
  refine get_X7_2 (pc := 2) C hk1 tw_75 dX7_become_2 ?_
  refine put_X7_2 (pc := 5) C hk0 tw_75 dX7_become_5 ?_
  refine g_aload_n (pc := 8) C 0 dX7_become_8 rfl rfl ?_
  refine g_aload_n (pc := 9) C 1 dX7_become_9 rfl rfl ?_
  refine get_X7_3 (pc := 10) C hk1 tw_77 dX7_become_10 ?_
  refine put_X7_3 (pc := 13) C hk0 tw_77 dX7_become_13 ?_
  refine g_aload_n (pc := 16) C 0 dX7_become_16 rfl rfl ?_
  refine g_aload_n (pc := 17) C 1 dX7_become_17 rfl rfl ?_
  refine get_X7_4 (pc := 18) C hk1 tw_79 dX7_become_18 ?_
  refine put_X7_4 (pc := 21) C hk0 tw_79 dX7_become_21 ?_
  refine g_iconst (pc := 24) (v := 0) C dX7_become_24 ic_0 ?_
  refine g_istore_n (pc := 25) (lv2 := [(2, .int 0), (0, .ref (G.2.2 k0)), (1, .ref (G.2.2 k1))]) C dX7_become_25 rfl (by decide) rfl ?_
  refine g_lv [1, 2, 0] (lv2 := [(0, .ref (G.2.2 k0)), (1, .ref (G.2.2 k1)), (2, .int 0)]) rfl ?_
  exact k_X7_become_26 C hk0 hk1 h
set_option maxHeartbeats 4000000 in
set_option maxRecDepth 100000 in
theorem M_X8_keep {l : Launch} {G : Gp} (hD : Dj shC G) {v1 : Int32} {σ : St} {K : Int32 → St → Prop} (h : wp_X8_keep v1 σ K) : MC l shC G yX8_keep cX8_keep 2 (some .int) 5 [.ref (G.2.2 0), .int v1] σ (RI K) := by
  unfold wp_X8_keep at h
  refine MC.of (by decide) hD (Nat.le_of_ble_eq_true rfl) ?_
  intro p e s m args below meth c C
  replace C : Cx p (rmD 5) s m args meth c shC G cX8_keep 2 5 RX8 (some .int) 0 0 := C
  show Go p l e (rmD 5) s m args below meth c shC G 2 0 0 (MQ below (Qw shC G (RI K)) args s 0 0 (Fr shC G)) 0 [(0, .ref (G.2.2 0)), (1, .int v1)] [] σ
  refine g_iload_n (pc := 0) C 1 dX8_keep_0 rfl rfl ?_
  refine g_callSip (pc := 1) (As := [.int v1]) (rest := []) C (M_X8_isKept C.2.2.1  h) CyX8_isKept tw_521 tw_522 (by decide) rfl rfl (Nat.le_of_ble_eq_true rfl) dX8_keep_1 (fun r1 h => ?_)
  refine g_if_ne (pc := 4) (tgt := 9) C dX8_keep_4 (by decide) (fun c_ => ?_) (fun c_ => ?_)
  · replace h := ite_f h c_
    refine g_aload_n (pc := 9) C 0 dX8_keep_9 rfl rfl ?_
    refine get_X8_3 (pc := 10) C rfl tw_197 dX8_keep_10 ?_
    refine get_X7_2 (pc := 13) C rfl tw_76 dX8_keep_13 ?_
    refine g_if_ne (pc := 16) (tgt := 22) C dX8_keep_16 (by decide) (fun c_ => ?_) (fun c_ => ?_)
    · replace h := ite_f h c_
      refine g_aload_n (pc := 22) C 0 dX8_keep_22 rfl rfl ?_
      refine get_X8_2 (pc := 23) C rfl tw_196 dX8_keep_23 ?_
      refine g_iload_n (pc := 26) C 1 dX8_keep_26 rfl rfl ?_
      obtain ⟨g_, h⟩ := h
      have hs27_ : shC[(43 + 9 * v1.toNatClampNeg)]? = some (7, 0, 0) := shT g_
      refine g_aldT (pc := 27) C rfl g_ dX8_keep_27 ?_
      refine g_aload_n (pc := 28) C 0 dX8_keep_28 rfl rfl ?_
      refine get_X8_3 (pc := 29) C rfl tw_197 dX8_keep_29 ?_
      refine g_callVv (pc := 32) (As := [.ref (G.2.2 25)]) (rest := []) C hs27_ rfl rfl rfl (M_X7_become C.2.2.1 hs27_ rfl h) CyX7_become tw_368 tw_369 tw_370 (by decide) rfl rfl (Nat.le_of_ble_eq_true rfl) dX8_keep_32 (fun t32 h => ?_)
      refine g_aload_n (pc := 35) C 0 dX8_keep_35 rfl rfl ?_
      refine get_X8_3 (pc := 36) C rfl tw_197 dX8_keep_36 ?_
      refine get_X7_4 (pc := 39) C rfl tw_80 dX8_keep_39 ?_
      exact g_iret (pc := 42) C dX8_keep_42 ⟨_, rfl, h⟩
    · replace h := ite_t h c_
      refine g_bipush (pc := 19) (v := -4) C dX8_keep_19 bp_m4 ?_
      exact g_iret (pc := 21) C dX8_keep_21 ⟨_, rfl, h⟩
  · replace h := ite_t h c_
    refine g_iconst (pc := 7) (v := -1) C dX8_keep_7 ic_m1 ?_
    exact g_iret (pc := 8) C dX8_keep_8 ⟨_, rfl, h⟩
set_option maxHeartbeats 4000000 in
set_option maxRecDepth 100000 in
theorem k_X8_kinds_77 {v2 : Int32} {k4 : Nat} {v5 : Int32} {v6 : Int32} {σ : St} {K : Int32 → St → Prop} {Φ30 : Int32 → Int32 → Prop} (C : Cx p R s m args meth c shC G cX8_kinds 7 4 RX8 (some .int) 0 0) (hk4 : shC[k4]? = some (0, 0, 0)) (hΦ30 : ∀ (v5' : Int32) (v6' : Int32), Φ30 v5' v6' → Go p l e R s m args below meth c shC G 7 0 0 (MQ below (Qw shC G (RI K)) args s 0 0 (Fr shC G)) 30 [(0, .ref (G.2.2 0)), (2, .int v2), (4, .ref (G.2.2 k4)), (5, .int (v5')), (6, .int (v6'))] [] σ) (h : J_X8_kinds_77 v2 k4 v5 v6 σ K Φ30) : Go p l e R s m args below meth c shC G 7 0 0 (MQ below (Qw shC G (RI K)) args s 0 0 (Fr shC G)) 77 [(0, .ref (G.2.2 0)), (2, .int v2), (4, .ref (G.2.2 k4)), (5, .int v5), (6, .int v6)] [] σ := by
  unfold J_X8_kinds_77 at h
  refine g_iinc (pc := 77) (lv2 := [(6, .int (v6 + 1)), (0, .ref (G.2.2 0)), (2, .int v2), (4, .ref (G.2.2 k4)), (5, .int v5)]) C 4 dX8_kinds_77 ic_1 rfl (by decide) rfl ?_
  refine g_goto (pc := 80) (tgt := 30) C dX8_kinds_80 (by decide) ?_
  refine g_lv [1, 2, 3, 4, 0] (lv2 := [(0, .ref (G.2.2 0)), (2, .int v2), (4, .ref (G.2.2 k4)), (5, .int v5), (6, .int (v6 + 1))]) rfl ?_
  exact hΦ30 _ _ h
set_option maxHeartbeats 4000000 in
set_option maxRecDepth 100000 in
theorem k_X8_kinds_30 {v2 : Int32} {k4 : Nat} {v5 : Int32} {v6 : Int32} {σ : St} {K : Int32 → St → Prop} (C : Cx p R s m args meth c shC G cX8_kinds 7 4 RX8 (some .int) 0 0) (hk4 : shC[k4]? = some (0, 0, 0)) (h : L_X8_kinds_30 v2 k4 σ K v5 v6) : Go p l e R s m args below meth c shC G 7 0 0 (MQ below (Qw shC G (RI K)) args s 0 0 (Fr shC G)) 30 [(0, .ref (G.2.2 0)), (2, .int v2), (4, .ref (G.2.2 k4)), (5, .int v5), (6, .int v6)] [] σ := by
  obtain ⟨n_, h⟩ := h
  induction n_ generalizing v5 v6 with
  | zero => exact h.elim
  | succ n_ ih =>
    replace h : B_X8_kinds_30 v2 k4 σ K (it2 (B_X8_kinds_30 v2 k4 σ K) n_) v5 v6 := h
    unfold B_X8_kinds_30 at h
    refine g_iload (pc := 30) C 4 dX8_kinds_30 rfl ?_
    refine g_bipush (pc := 32) (v := 6) C dX8_kinds_32 bp_6 ?_
    refine g_icmp_ge (pc := 34) (tgt := 83) C dX8_kinds_34 (by decide) (fun c_ => ?_) (fun c_ => ?_)
    · replace h := ite_t h c_
      refine g_iload (pc := 83) C 3 dX8_kinds_83 rfl ?_
      exact g_iret (pc := 85) C dX8_kinds_85 ⟨_, rfl, h⟩
    · replace h := ite_f h c_
      refine g_aload_n (pc := 37) C 0 dX8_kinds_37 rfl rfl ?_
      refine get_X8_0 (pc := 38) C rfl tw_194 dX8_kinds_38 ?_
      refine g_iload_n (pc := 41) C 1 dX8_kinds_41 rfl rfl ?_
      obtain ⟨g_, h⟩ := h
      have hs42_ : shC[(5 + 2 * v2.toNatClampNeg)]? = some (6, 40, 0) := shR5 g_
      refine g_aldR (pc := 42) C rfl g_ dX8_kinds_42 ?_
      refine g_iload (pc := 43) C 4 dX8_kinds_43 rfl ?_
      refine g_aload (pc := 45) C 2 dX8_kinds_45 rfl ?_
      refine get_X0_1 (pc := 47) C hk4 tw_45 dX8_kinds_47 ?_
      refine g_aload_n (pc := 50) C 0 dX8_kinds_50 rfl rfl ?_
      refine get_X8_3 (pc := 51) C rfl tw_197 dX8_kinds_51 ?_
      refine get_X7_3 (pc := 54) C rfl tw_78 dX8_kinds_54 ?_
      refine g_aload (pc := 57) C 2 dX8_kinds_57 rfl ?_
      refine get_X0_3 (pc := 59) C hk4 tw_50 dX8_kinds_59 ?_
      refine g_callSip (pc := 62) (As := [.ref (G.2.2 (5 + 2 * v2.toNatClampNeg)), .int v6, .int (σ.1 k4 1), .int (σ.1 25 3), .int (σ.1 k4 3)]) (rest := []) C (M_X8_fits C.2.2.1 hs42_ h) CyX8_fits tw_760 tw_761 (by decide) rfl rfl (Nat.le_of_ble_eq_true rfl) dX8_kinds_62 (fun r62 h => ?_)
      refine g_if_eq (pc := 65) (tgt := 77) C dX8_kinds_65 (by decide) (fun c_ => ?_) (fun c_ => ?_)
      · replace h := ite_t h c_
        refine g_lv [0, 1, 2, 3, 4] (lv2 := [(0, .ref (G.2.2 0)), (2, .int v2), (4, .ref (G.2.2 k4)), (5, .int v5), (6, .int v6)]) rfl ?_
        exact k_X8_kinds_77 C hk4 (fun _ _ h_ => ih h_) h
      · replace h := ite_f h c_
        refine g_iload (pc := 68) C 3 dX8_kinds_68 rfl ?_
        refine g_iconst (pc := 70) (v := 1) C dX8_kinds_70 ic_1 ?_
        refine g_iload (pc := 71) C 4 dX8_kinds_71 rfl ?_
        refine g_ishl (pc := 73) C dX8_kinds_73 ?_
        refine g_ior (pc := 74) C dX8_kinds_74 ?_
        refine g_istore (pc := 75) (lv2 := [(5, .int (v5 ||| (shl 1 v6))), (0, .ref (G.2.2 0)), (2, .int v2), (4, .ref (G.2.2 k4)), (6, .int v6)]) C dX8_kinds_75 (by decide) rfl ?_
        refine g_lv [1, 2, 3, 0, 4] (lv2 := [(0, .ref (G.2.2 0)), (2, .int v2), (4, .ref (G.2.2 k4)), (5, .int (v5 ||| (shl 1 v6))), (6, .int v6)]) rfl ?_
        exact k_X8_kinds_77 C hk4 (fun _ _ h_ => ih h_) h
set_option maxHeartbeats 4000000 in
set_option maxRecDepth 100000 in
theorem M_X8_kinds {l : Launch} {G : Gp} (hD : Dj shC G) {v1 : Int32} {v2 : Int32} {σ : St} {K : Int32 → St → Prop} (h : wp_X8_kinds v1 v2 σ K) : MC l shC G yX8_kinds cX8_kinds 7 (some .int) 4 [.ref (G.2.2 0), .int v1, .int v2] σ (RI K) := by
  unfold wp_X8_kinds at h
  refine MC.of (by decide) hD (Nat.le_of_ble_eq_true rfl) ?_
  intro p e s m args below meth c C
  replace C : Cx p (rmD 4) s m args meth c shC G cX8_kinds 7 4 RX8 (some .int) 0 0 := C
  show Go p l e (rmD 4) s m args below meth c shC G 7 0 0 (MQ below (Qw shC G (RI K)) args s 0 0 (Fr shC G)) 0 [(0, .ref (G.2.2 0)), (1, .int v1), (2, .int v2)] [] σ
  refine g_aload_n (pc := 0) C 0 dX8_kinds_0 rfl rfl ?_
  refine g_iload_n (pc := 1) C 1 dX8_kinds_1 rfl rfl ?_
  refine g_iload_n (pc := 2) C 2 dX8_kinds_2 rfl rfl ?_
  refine g_callVi (pc := 3) (As := [.int v1, .int v2]) (rest := []) C rfl rfl rfl rfl (M_X8_refuseTold C.2.2.1  h) CyX8_refuseTold tw_756 tw_758 ts_21 (by decide) rfl rfl (Nat.le_of_ble_eq_true rfl) dX8_kinds_3 (fun r3 t3 h => ?_)
  refine g_istore_n (pc := 6) (lv2 := [(3, .int r3), (0, .ref (G.2.2 0)), (1, .int v1), (2, .int v2)]) C dX8_kinds_6 rfl (by decide) rfl ?_
  refine g_iload_n (pc := 7) C 0 dX8_kinds_7 rfl rfl ?_
  refine g_if_eq (pc := 8) (tgt := 13) C dX8_kinds_8 (by decide) (fun c_ => ?_) (fun c_ => ?_)
  · replace h := ite_t h c_
    refine g_aload_n (pc := 13) C 1 dX8_kinds_13 rfl rfl ?_
    refine get_X8_3 (pc := 14) C rfl tw_197 dX8_kinds_14 ?_
    refine get_X7_0 (pc := 17) C rfl tw_72 dX8_kinds_17 ?_
    refine g_iload_n (pc := 20) C 2 dX8_kinds_20 rfl rfl ?_
    obtain ⟨g_, h⟩ := h
    have hs21_ : shC[(28 + v1.toNatClampNeg)]? = some (0, 0, 0) := sh7_e (k := 25) rfl g_
    refine g_aldB (pc := 21) C (sh7_0 rfl) g_ dX8_kinds_21 ?_
    refine g_astore (pc := 22) (lv2 := [(4, .ref (G.2.2 (28 + v1.toNatClampNeg))), (3, .int r3), (0, .ref (G.2.2 0)), (1, .int v1), (2, .int v2)]) C dX8_kinds_22 (by decide) rfl ?_
    refine g_iconst (pc := 24) (v := 0) C dX8_kinds_24 ic_0 ?_
    refine g_istore (pc := 25) (lv2 := [(5, .int 0), (4, .ref (G.2.2 (28 + v1.toNatClampNeg))), (3, .int r3), (0, .ref (G.2.2 0)), (1, .int v1), (2, .int v2)]) C dX8_kinds_25 (by decide) rfl ?_
    refine g_iconst (pc := 27) (v := 0) C dX8_kinds_27 ic_0 ?_
    refine g_istore (pc := 28) (lv2 := [(6, .int 0), (5, .int 0), (4, .ref (G.2.2 (28 + v1.toNatClampNeg))), (3, .int r3), (0, .ref (G.2.2 0)), (1, .int v1), (2, .int v2)]) C dX8_kinds_28 (by decide) rfl ?_
    refine g_lv [4, 6, 2, 1, 0] (lv2 := [(0, .ref (G.2.2 0)), (2, .int v2), (4, .ref (G.2.2 (28 + v1.toNatClampNeg))), (5, .int 0), (6, .int 0)]) rfl ?_
    exact k_X8_kinds_30 C hs21_ h
  · replace h := ite_f h c_
    refine g_iload_n (pc := 11) C 0 dX8_kinds_11 rfl rfl ?_
    exact g_iret (pc := 12) C dX8_kinds_12 ⟨_, rfl, h⟩
set_option maxHeartbeats 4000000 in
set_option maxRecDepth 100000 in
theorem k_X8_late_108 {v3 : Int32} {σ : St} {K : Int32 → St → Prop} (C : Cx p R s m args meth c shC G cX8_late 7 5 RX8 (some .int) 0 0) (h : J_X8_late_108 v3 σ K) : Go p l e R s m args below meth c shC G 7 0 0 (MQ below (Qw shC G (RI K)) args s 0 0 (Fr shC G)) 108 [(3, .int v3)] [] σ := by
  unfold J_X8_late_108 at h
  refine g_iload_n (pc := 108) C 0 dX8_late_108 rfl rfl ?_
  exact g_iret (pc := 109) C dX8_late_109 ⟨_, rfl, h⟩
set_option maxHeartbeats 4000000 in
set_option maxRecDepth 100000 in
theorem k_X8_late_90 {v3 : Int32} {v4 : Int32} {v5 : Int32} {σ : St} {K : Int32 → St → Prop} {Φ31 : Int32 → Int32 → Int32 → Prop} (C : Cx p R s m args meth c shC G cX8_late 7 5 RX8 (some .int) 0 0) (hΦ31 : ∀ (v3' : Int32) (v4' : Int32) (v5' : Int32), Φ31 v3' v4' v5' → Go p l e R s m args below meth c shC G 7 0 0 (MQ below (Qw shC G (RI K)) args s 0 0 (Fr shC G)) 31 [(0, .ref (G.2.2 0)), (3, .int (v3')), (4, .int (v4')), (5, .int (v5'))] [] σ) (h : J_X8_late_90 v3 v4 v5 σ K Φ31) : Go p l e R s m args below meth c shC G 7 0 0 (MQ below (Qw shC G (RI K)) args s 0 0 (Fr shC G)) 90 [(0, .ref (G.2.2 0)), (3, .int v3), (4, .int v4), (5, .int v5)] [] σ := by
  unfold J_X8_late_90 at h
  refine g_iinc (pc := 90) (lv2 := [(5, .int (v5 + 1)), (0, .ref (G.2.2 0)), (3, .int v3), (4, .int v4)]) C 3 dX8_late_90 ic_1 rfl (by decide) rfl ?_
  refine g_goto (pc := 93) (tgt := 31) C dX8_late_93 (by decide) ?_
  refine g_lv [1, 2, 3, 0] (lv2 := [(0, .ref (G.2.2 0)), (3, .int v3), (4, .int v4), (5, .int (v5 + 1))]) rfl ?_
  exact hΦ31 _ _ _ h
set_option maxHeartbeats 4000000 in
set_option maxRecDepth 100000 in
theorem k_X8_late_31 {v3 : Int32} {v4 : Int32} {v5 : Int32} {σ : St} {K : Int32 → St → Prop} (C : Cx p R s m args meth c shC G cX8_late 7 5 RX8 (some .int) 0 0) (h : L_X8_late_31 σ K v3 v4 v5) : Go p l e R s m args below meth c shC G 7 0 0 (MQ below (Qw shC G (RI K)) args s 0 0 (Fr shC G)) 31 [(0, .ref (G.2.2 0)), (3, .int v3), (4, .int v4), (5, .int v5)] [] σ := by
  obtain ⟨n_, h⟩ := h
  induction n_ generalizing v3 v4 v5 with
  | zero => exact h.elim
  | succ n_ ih =>
    replace h : B_X8_late_31 σ K (it3 (B_X8_late_31 σ K) n_) v3 v4 v5 := h
    unfold B_X8_late_31 at h
    refine g_iload (pc := 31) C 3 dX8_late_31 rfl ?_
    refine g_aload_n (pc := 33) C 0 dX8_late_33 rfl rfl ?_
    refine get_X8_5 (pc := 34) C rfl tw_199 dX8_late_34 ?_
    refine get_X3_2 (pc := 37) C rfl tw_103 dX8_late_37 ?_
    refine g_icmp_ge (pc := 40) (tgt := 96) C dX8_late_40 (by decide) (fun c_ => ?_) (fun c_ => ?_)
    · replace h := ite_t h c_
      refine g_iload_n (pc := 96) C 1 dX8_late_96 rfl rfl ?_
      refine g_bipush (pc := 97) (v := -9) C dX8_late_97 bp_m9 ?_
      refine g_icmp_eq (pc := 99) (tgt := 108) C dX8_late_99 (by decide) (fun c_ => ?_) (fun c_ => ?_)
      · replace h := ite_t h c_
        refine g_lv [1] (lv2 := [(3, .int v3)]) rfl ?_
        exact k_X8_late_108 C  h
      · replace h := ite_f h c_
        refine g_aload_n (pc := 102) C 0 dX8_late_102 rfl rfl ?_
        refine g_iload (pc := 103) C 2 dX8_late_103 rfl ?_
        refine put_X8_12 (pc := 105) C rfl tw_206 dX8_late_105 ?_
        refine g_lv [1] (lv2 := [(3, .int v3)]) rfl ?_
        exact k_X8_late_108 C  h
    · replace h := ite_f h c_
      refine g_aload_n (pc := 43) C 0 dX8_late_43 rfl rfl ?_
      refine get_X8_5 (pc := 44) C rfl tw_199 dX8_late_44 ?_
      refine get_X3_1 (pc := 47) C rfl tw_101 dX8_late_47 ?_
      refine g_iload (pc := 50) C 3 dX8_late_50 rfl ?_
      obtain ⟨g_, h⟩ := h
      refine g_iald (pc := 52) C rfl g_ dX8_late_52 ?_
      refine g_aload_n (pc := 53) C 0 dX8_late_53 rfl rfl ?_
      refine get_X8_5 (pc := 54) C rfl tw_199 dX8_late_54 ?_
      refine get_X3_1 (pc := 57) C rfl tw_101 dX8_late_57 ?_
      refine g_iload (pc := 60) C 3 dX8_late_60 rfl ?_
      refine g_iconst (pc := 62) (v := 1) C dX8_late_62 ic_1 ?_
      refine g_isub (pc := 63) C dX8_late_63 ?_
      obtain ⟨g_, h⟩ := h
      refine g_iald (pc := 64) C rfl g_ dX8_late_64 ?_
      refine g_isub (pc := 65) C dX8_late_65 ?_
      refine g_istore (pc := 66) (lv2 := [(6, .int ((σ.1 72 v5.toNatClampNeg) - (σ.1 72 (v5 - 1).toNatClampNeg))), (0, .ref (G.2.2 0)), (3, .int v3), (4, .int v4), (5, .int v5)]) C dX8_late_66 (by decide) rfl ?_
      refine g_iload (pc := 68) C 0 dX8_late_68 rfl ?_
      refine g_iload (pc := 70) C 3 dX8_late_70 rfl ?_
      refine g_icmp_le (pc := 72) (tgt := 90) C dX8_late_72 (by decide) (fun c_ => ?_) (fun c_ => ?_)
      · replace h := ite_t h c_
        refine g_lv [1, 2, 3, 4] (lv2 := [(0, .ref (G.2.2 0)), (3, .int v3), (4, .int v4), (5, .int v5)]) rfl ?_
        exact k_X8_late_90 C (fun _ _ _ h_ => ih h_) h
      · replace h := ite_f h c_
        refine g_iload (pc := 75) C 0 dX8_late_75 rfl ?_
        refine g_istore (pc := 77) (lv2 := [(4, .int ((σ.1 72 v5.toNatClampNeg) - (σ.1 72 (v5 - 1).toNatClampNeg))), (6, .int ((σ.1 72 v5.toNatClampNeg) - (σ.1 72 (v5 - 1).toNatClampNeg))), (0, .ref (G.2.2 0)), (3, .int v3), (5, .int v5)]) C dX8_late_77 (by decide) rfl ?_
        refine g_aload_n (pc := 79) C 2 dX8_late_79 rfl rfl ?_
        refine get_X8_5 (pc := 80) C rfl tw_199 dX8_late_80 ?_
        refine get_X3_0 (pc := 83) C rfl tw_99 dX8_late_83 ?_
        refine g_iload (pc := 86) C 4 dX8_late_86 rfl ?_
        obtain ⟨g_, h⟩ := h
        refine g_iald (pc := 88) C rfl g_ dX8_late_88 ?_
        refine g_istore_n (pc := 89) (lv2 := [(3, .int (σ.1 71 v5.toNatClampNeg)), (4, .int ((σ.1 72 v5.toNatClampNeg) - (σ.1 72 (v5 - 1).toNatClampNeg))), (6, .int ((σ.1 72 v5.toNatClampNeg) - (σ.1 72 (v5 - 1).toNatClampNeg))), (0, .ref (G.2.2 0)), (5, .int v5)]) C dX8_late_89 rfl (by decide) rfl ?_
        refine g_lv [3, 0, 1, 4] (lv2 := [(0, .ref (G.2.2 0)), (3, .int (σ.1 71 v5.toNatClampNeg)), (4, .int ((σ.1 72 v5.toNatClampNeg) - (σ.1 72 (v5 - 1).toNatClampNeg))), (5, .int v5)]) rfl ?_
        exact k_X8_late_90 C (fun _ _ _ h_ => ih h_) h
set_option maxHeartbeats 4000000 in
set_option maxRecDepth 100000 in
theorem M_X8_late {l : Launch} {G : Gp} (hD : Dj shC G) {v1 : Int32} {σ : St} {K : Int32 → St → Prop} (h : wp_X8_late v1 σ K) : MC l shC G yX8_late cX8_late 7 (some .int) 5 [.ref (G.2.2 0), .int v1] σ (RI K) := by
  unfold wp_X8_late at h
  refine MC.of (by decide) hD (Nat.le_of_ble_eq_true rfl) ?_
  intro p e s m args below meth c C
  replace C : Cx p (rmD 5) s m args meth c shC G cX8_late 7 5 RX8 (some .int) 0 0 := C
  show Go p l e (rmD 5) s m args below meth c shC G 7 0 0 (MQ below (Qw shC G (RI K)) args s 0 0 (Fr shC G)) 0 [(0, .ref (G.2.2 0)), (1, .int v1)] [] σ
  refine g_aload_n (pc := 0) C 0 dX8_late_0 rfl rfl ?_
  refine g_iload_n (pc := 1) C 1 dX8_late_1 rfl rfl ?_
  refine g_callVi (pc := 2) (As := [.int v1]) (rest := []) C rfl rfl rfl rfl (M_X8_refuseRound C.2.2.1  h) CyX8_refuseRound tw_467 tw_469 ts_9 (by decide) rfl rfl (Nat.le_of_ble_eq_true rfl) dX8_late_2 (fun r2 t2 h => ?_)
  refine g_istore_n (pc := 5) (lv2 := [(2, .int r2), (0, .ref (G.2.2 0)), (1, .int v1)]) C dX8_late_5 rfl (by decide) rfl ?_
  refine g_iload_n (pc := 6) C 0 dX8_late_6 rfl rfl ?_
  refine g_if_eq (pc := 7) (tgt := 12) C dX8_late_7 (by decide) (fun c_ => ?_) (fun c_ => ?_)
  · replace h := ite_t h c_
    refine g_aload_n (pc := 12) C 1 dX8_late_12 rfl rfl ?_
    refine g_aload_n (pc := 13) C 1 dX8_late_13 rfl rfl ?_
    refine get_X8_0 (pc := 14) C rfl tw_194 dX8_late_14 ?_
    refine g_iload_n (pc := 17) C 2 dX8_late_17 rfl rfl ?_
    obtain ⟨g_, h⟩ := h
    have hs18_ : shC[(5 + 2 * v1.toNatClampNeg)]? = some (6, 40, 0) := shR5 g_
    refine g_aldR (pc := 18) C rfl g_ dX8_late_18 ?_
    refine g_callVv (pc := 19) (As := [.ref (G.2.2 (5 + 2 * v1.toNatClampNeg))]) (rest := []) C rfl rfl rfl rfl (M_X8_listen C.2.2.1 hs18_ h) CyX8_listen tw_476 tw_478 ts_10 (by decide) rfl rfl (Nat.le_of_ble_eq_true rfl) dX8_late_19 (fun t19 h => ?_)
    refine g_bipush (pc := 22) (v := -9) C dX8_late_22 bp_m9 ?_
    refine g_istore_n (pc := 24) (lv2 := [(3, .int (-9)), (2, .int r2), (0, .ref (G.2.2 0)), (1, .int v1)]) C dX8_late_24 rfl (by decide) rfl ?_
    refine g_iconst (pc := 25) (v := -1) C dX8_late_25 ic_m1 ?_
    refine g_istore (pc := 26) (lv2 := [(4, .int (-1)), (3, .int (-9)), (2, .int r2), (0, .ref (G.2.2 0)), (1, .int v1)]) C dX8_late_26 (by decide) rfl ?_
    refine g_iconst (pc := 28) (v := 1) C dX8_late_28 ic_1 ?_
    refine g_istore (pc := 29) (lv2 := [(5, .int 1), (4, .int (-1)), (3, .int (-9)), (2, .int r2), (0, .ref (G.2.2 0)), (1, .int v1)]) C dX8_late_29 (by decide) rfl ?_
    refine g_lv [4, 2, 1, 0] (lv2 := [(0, .ref (G.2.2 0)), (3, .int (-9)), (4, .int (-1)), (5, .int 1)]) rfl ?_
    exact k_X8_late_31 C  h
  · replace h := ite_f h c_
    refine g_iload_n (pc := 10) C 0 dX8_late_10 rfl rfl ?_
    exact g_iret (pc := 11) C dX8_late_11 ⟨_, rfl, h⟩
set_option maxHeartbeats 4000000 in
set_option maxRecDepth 100000 in
theorem M_X8_lay {l : Launch} {G : Gp} (hD : Dj shC G) {v1 : Int32} {v2 : Int32} {v3 : Int32} {σ : St} {K : Int32 → St → Prop} (h : wp_X8_lay v1 v2 v3 σ K) : MC l shC G yX8_lay cX8_lay 5 (some .int) 3 [.ref (G.2.2 0), .int v1, .int v2, .int v3] σ (RI K) := by
  unfold wp_X8_lay at h
  refine MC.of (by decide) hD (Nat.le_of_ble_eq_true rfl) ?_
  intro p e s m args below meth c C
  replace C : Cx p (rmD 3) s m args meth c shC G cX8_lay 5 3 RX8 (some .int) 0 0 := C
  show Go p l e (rmD 3) s m args below meth c shC G 5 0 0 (MQ below (Qw shC G (RI K)) args s 0 0 (Fr shC G)) 0 [(0, .ref (G.2.2 0)), (1, .int v1), (2, .int v2), (3, .int v3)] [] σ
  refine g_aload_n (pc := 0) C 0 dX8_lay_0 rfl rfl ?_
  refine g_iload_n (pc := 1) C 1 dX8_lay_1 rfl rfl ?_
  refine g_iload_n (pc := 2) C 2 dX8_lay_2 rfl rfl ?_
  refine g_callVi (pc := 3) (As := [.int v1, .int v2]) (rest := []) C rfl rfl rfl rfl (M_X8_refusePlace C.2.2.1  h) CyX8_refusePlace tw_272 tw_274 ts_2 (by decide) rfl rfl (Nat.le_of_ble_eq_true rfl) dX8_lay_3 (fun r3 t3 h => ?_)
  refine g_istore (pc := 6) (lv2 := [(4, .int r3), (0, .ref (G.2.2 0)), (1, .int v1), (2, .int v2), (3, .int v3)]) C dX8_lay_6 (by decide) rfl ?_
  refine g_iload (pc := 8) C 0 dX8_lay_8 rfl ?_
  refine g_if_eq (pc := 10) (tgt := 16) C dX8_lay_10 (by decide) (fun c_ => ?_) (fun c_ => ?_)
  · replace h := ite_t h c_
    refine g_aload_n (pc := 16) C 1 dX8_lay_16 rfl rfl ?_
    refine g_aload_n (pc := 17) C 1 dX8_lay_17 rfl rfl ?_
    refine get_X8_0 (pc := 18) C rfl tw_194 dX8_lay_18 ?_
    refine g_iload_n (pc := 21) C 2 dX8_lay_21 rfl rfl ?_
    obtain ⟨g_, h⟩ := h
    have hs22_ : shC[(5 + 2 * v1.toNatClampNeg)]? = some (6, 40, 0) := shR5 g_
    refine g_aldR (pc := 22) C rfl g_ dX8_lay_22 ?_
    refine get_X6_0 (pc := 23) C hs22_ tw_180 dX8_lay_23 ?_
    refine g_iload_n (pc := 26) C 3 dX8_lay_26 rfl rfl ?_
    obtain ⟨g_, h⟩ := h
    refine g_iald (pc := 27) C (sh6_0 hs22_) g_ dX8_lay_27 ?_
    refine put_X8_12 (pc := 28) C rfl tw_206 dX8_lay_28 ?_
    refine g_aload_n (pc := 31) C 1 dX8_lay_31 rfl rfl ?_
    refine get_X8_0 (pc := 32) C rfl tw_194 dX8_lay_32 ?_
    refine g_iload_n (pc := 35) C 2 dX8_lay_35 rfl rfl ?_
    obtain ⟨g_, h⟩ := h
    have hs36_ : shC[(5 + 2 * v1.toNatClampNeg)]? = some (6, 40, 0) := shR5 g_
    refine g_aldR (pc := 36) C rfl g_ dX8_lay_36 ?_
    refine get_X6_0 (pc := 37) C hs36_ tw_180 dX8_lay_37 ?_
    refine g_iload_n (pc := 40) C 3 dX8_lay_40 rfl rfl ?_
    refine g_iload_n (pc := 41) C 4 dX8_lay_41 rfl rfl ?_
    obtain ⟨g_, h⟩ := h
    refine g_iast (pc := 42) C (sh6_0 hs36_) g_ dX8_lay_42 ?_
    refine g_iconst (pc := 43) (v := 1) C dX8_lay_43 ic_1 ?_
    exact g_iret (pc := 44) C dX8_lay_44 ⟨_, rfl, h⟩
  · replace h := ite_f h c_
    refine g_iload (pc := 13) C 0 dX8_lay_13 rfl ?_
    exact g_iret (pc := 15) C dX8_lay_15 ⟨_, rfl, h⟩
set_option maxHeartbeats 4000000 in
set_option maxRecDepth 100000 in
theorem M_X0_renewStay {l : Launch} {G : Gp} (hD : Dj shC G) {k0 : Nat} {σ : St} {K : St → Prop} (hk0 : shC[k0]? = some (0, 0, 0)) (h : wp_X0_renewStay k0 σ K) : MC l shC G yX0_renewStay cX0_renewStay 1 none 1 [.ref (G.2.2 k0)] σ (RV K) := by
  unfold wp_X0_renewStay at h
  refine MC.of (by decide) hD (Nat.le_of_ble_eq_true rfl) ?_
  intro p e s m args below meth c C
  replace C : Cx p (rmD 1) s m args meth c shC G cX0_renewStay 1 1 RX0 none 0 0 := C
  show Go p l e (rmD 1) s m args below meth c shC G 1 0 0 (MQ below (Qw shC G (RV K)) args s 0 0 (Fr shC G)) 0 [(0, .ref (G.2.2 k0))] [] σ
  refine g_aload_n (pc := 0) C 0 dX0_renewStay_0 rfl rfl ?_
  refine g_iconst (pc := 1) (v := 0) C dX0_renewStay_1 ic_0 ?_
  refine put_X0_5 (pc := 2) C hk0 (by first | exact Or.inl rfl | exact Or.inr rfl) tw_52 dX0_renewStay_2 ?_
  refine g_aload_n (pc := 5) C 0 dX0_renewStay_5 rfl rfl ?_
  refine g_iconst (pc := 6) (v := 0) C dX0_renewStay_6 ic_0 ?_
  refine put_X0_3 (pc := 7) C hk0 tw_47 dX0_renewStay_7 ?_
  exact g_vret (pc := 10) C dX0_renewStay_10 ⟨rfl, h⟩
set_option maxHeartbeats 4000000 in
set_option maxRecDepth 100000 in
theorem k_X0_swing_48 {k0 : Nat} {kw0 : Nat} {w1 : Int32} {σ : St} {K : St → Prop} (C : Cx p R s m args meth c shC G cX0_swing 3 3 RX0 none 0 0) (hk0 : shC[k0]? = some (0, 0, 0)) (hkw0 : shC[kw0]? = some (0, 0, 0)) (h : J_X0_swing_48 k0 kw0 w1 σ K) : Go p l e R s m args below meth c shC G 3 0 0 (MQ below (Qw shC G (RV K)) args s 0 0 (Fr shC G)) 48 [(0, .ref (G.2.2 k0))] [.int w1, .ref (G.2.2 kw0)] σ := by
  unfold J_X0_swing_48 at h
  refine put_X0_3 (pc := 48) C hkw0 tw_47 dX0_swing_48 ?_
  refine g_aload_n (pc := 51) C 0 dX0_swing_51 rfl rfl ?_
  refine g_dup (pc := 52) C dX0_swing_52 rfl ?_
  refine get_X0_4 (pc := 53) C hk0 tw_51 dX0_swing_53 ?_
  refine g_iconst (pc := 56) (v := 1) C dX0_swing_56 ic_1 ?_
  refine g_iadd (pc := 57) C dX0_swing_57 ?_
  refine put_X0_4 (pc := 58) C hk0 tw_51 dX0_swing_58 ?_
  exact g_vret (pc := 61) C dX0_swing_61 ⟨rfl, h⟩
set_option maxHeartbeats 4000000 in
set_option maxRecDepth 100000 in
theorem k_X0_swing_32 {k0 : Nat} {v2 : Int32} {kw0 : Nat} {w1 : Int32} {σ : St} {K : St → Prop} (C : Cx p R s m args meth c shC G cX0_swing 3 3 RX0 none 0 0) (hk0 : shC[k0]? = some (0, 0, 0)) (hkw0 : shC[kw0]? = some (0, 0, 0)) (h : J_X0_swing_32 k0 v2 kw0 w1 σ K) : Go p l e R s m args below meth c shC G 3 0 0 (MQ below (Qw shC G (RV K)) args s 0 0 (Fr shC G)) 32 [(0, .ref (G.2.2 k0)), (2, .int v2)] [.int w1, .ref (G.2.2 kw0)] σ := by
  unfold J_X0_swing_32 at h
  obtain ⟨g_, h⟩ := h
  refine put_X0_5 (pc := 32) C hkw0 g_ tw_52 dX0_swing_32 ?_
  refine g_aload_n (pc := 35) C 0 dX0_swing_35 rfl rfl ?_
  refine g_aload_n (pc := 36) C 0 dX0_swing_36 rfl rfl ?_
  refine get_X0_5 (pc := 37) C hk0 tw_52 dX0_swing_37 ?_
  refine g_if_eq (pc := 40) (tgt := 47) C dX0_swing_40 (by decide) (fun c_ => ?_) (fun c_ => ?_)
  · replace h := ite_t h c_
    refine g_iload_n (pc := 47) C 1 dX0_swing_47 rfl rfl ?_
    refine g_lv [0] (lv2 := [(0, .ref (G.2.2 k0))]) rfl ?_
    exact k_X0_swing_48 C hk0 hk0 h
  · replace h := ite_f h c_
    refine g_iconst (pc := 43) (v := 0) C dX0_swing_43 ic_0 ?_
    refine g_goto (pc := 44) (tgt := 48) C dX0_swing_44 (by decide) ?_
    refine g_lv [0] (lv2 := [(0, .ref (G.2.2 k0))]) rfl ?_
    exact k_X0_swing_48 C hk0 hk0 h
set_option maxHeartbeats 4000000 in
set_option maxRecDepth 100000 in
theorem M_X0_swing {l : Launch} {G : Gp} (hD : Dj shC G) {k0 : Nat} {v1 : Int32} {σ : St} {K : St → Prop} (hk0 : shC[k0]? = some (0, 0, 0)) (h : wp_X0_swing k0 v1 σ K) : MC l shC G yX0_swing cX0_swing 3 none 3 [.ref (G.2.2 k0), .int v1] σ (RV K) := by
  unfold wp_X0_swing at h
  refine MC.of (by decide) hD (Nat.le_of_ble_eq_true rfl) ?_
  intro p e s m args below meth c C
  replace C : Cx p (rmD 3) s m args meth c shC G cX0_swing 3 3 RX0 none 0 0 := C
  show Go p l e (rmD 3) s m args below meth c shC G 3 0 0 (MQ below (Qw shC G (RV K)) args s 0 0 (Fr shC G)) 0 [(0, .ref (G.2.2 k0)), (1, .int v1)] [] σ
  refine g_aload_n (pc := 0) C 0 dX0_swing_0 rfl rfl ?_
  refine get_X0_5 (pc := 1) C hk0 tw_52 dX0_swing_1 ?_
  refine g_if_eq (pc := 4) (tgt := 8) C dX0_swing_4 (by decide) (fun c_ => ?_) (fun c_ => ?_)
  · replace h := ite_t h c_
    refine g_aload_n (pc := 8) C 0 dX0_swing_8 rfl rfl ?_
    refine get_X0_0 (pc := 9) C hk0 tw_39 dX0_swing_9 ?_
    refine g_aload_n (pc := 12) C 0 dX0_swing_12 rfl rfl ?_
    refine get_X0_3 (pc := 13) C hk0 tw_47 dX0_swing_13 ?_
    refine g_iload_n (pc := 16) C 1 dX0_swing_16 rfl rfl ?_
    refine g_callSNip (pc := 17) (As := [.int (σ.1 k0 0), .int (σ.1 k0 3), .int v1]) (rest := []) C (M_X8_after C.2.2.1  h) CyX8_after (List.mem_of_getElem? (i := 7) rfl) tw_401 (by decide) rfl rfl (Nat.le_of_ble_eq_true rfl) dX0_swing_17 (fun r17 h => ?_)
    refine g_istore_n (pc := 20) (lv2 := [(2, .int r17), (0, .ref (G.2.2 k0)), (1, .int v1)]) C dX0_swing_20 rfl (by decide) rfl ?_
    refine g_aload_n (pc := 21) C 1 dX0_swing_21 rfl rfl ?_
    refine g_iload_n (pc := 22) C 0 dX0_swing_22 rfl rfl ?_
    refine g_iconst (pc := 23) (v := -1) C dX0_swing_23 ic_m1 ?_
    refine g_icmp_ne (pc := 24) (tgt := 31) C dX0_swing_24 (by decide) (fun c_ => ?_) (fun c_ => ?_)
    · replace h := ite_f h c_
      refine g_iconst (pc := 31) (v := 0) C dX0_swing_31 ic_0 ?_
      refine g_lv [1, 0] (lv2 := [(0, .ref (G.2.2 k0)), (2, .int r17)]) rfl ?_
      exact k_X0_swing_32 C hk0 hk0 h
    · replace h := ite_t h c_
      refine g_iconst (pc := 27) (v := 1) C dX0_swing_27 ic_1 ?_
      refine g_goto (pc := 28) (tgt := 32) C dX0_swing_28 (by decide) ?_
      refine g_lv [1, 0] (lv2 := [(0, .ref (G.2.2 k0)), (2, .int r17)]) rfl ?_
      exact k_X0_swing_32 C hk0 hk0 h
  · replace h := ite_f h c_
    exact g_vret (pc := 7) C dX0_swing_7 ⟨rfl, h⟩
set_option maxHeartbeats 4000000 in
set_option maxRecDepth 100000 in
theorem k_X7_perform_107 {σ : St} {K : St → Prop} (C : Cx p R s m args meth c shC G cX7_perform 4 4 RX7 none 0 0) (h : J_X7_perform_107 σ K) : Go p l e R s m args below meth c shC G 4 0 0 (MQ below (Qw shC G (RV K)) args s 0 0 (Fr shC G)) 107 [] [] σ := by
  unfold J_X7_perform_107 at h
  exact g_vret (pc := 107) C dX7_perform_107 ⟨rfl, h⟩
set_option maxHeartbeats 4000000 in
set_option maxRecDepth 100000 in
theorem k_X7_perform_13 {k0 : Nat} {v2 : Int32} {v3 : Int32} {σ : St} {K : St → Prop} (C : Cx p R s m args meth c shC G cX7_perform 4 4 RX7 none 0 0) (hk0 : shC[k0]? = some (7, 0, 0)) (h : L_X7_perform_13 k0 K v2 v3 σ) : Go p l e R s m args below meth c shC G 4 0 0 (MQ below (Qw shC G (RV K)) args s 0 0 (Fr shC G)) 13 [(0, .ref (G.2.2 k0)), (2, .int v2), (3, .int v3)] [] σ := by
  obtain ⟨n_, h⟩ := h
  induction n_ generalizing v2 v3 σ with
  | zero => exact h.elim
  | succ n_ ih =>
    replace h : B_X7_perform_13 k0 K (it3 (B_X7_perform_13 k0 K) n_) v2 v3 σ := h
    unfold B_X7_perform_13 at h
    refine g_iload_n (pc := 13) C 2 dX7_perform_13 rfl rfl ?_
    refine g_aload_n (pc := 14) C 0 dX7_perform_14 rfl rfl ?_
    refine get_X7_2 (pc := 15) C hk0 tw_75 dX7_perform_15 ?_
    refine g_icmp_ge (pc := 18) (tgt := 45) C dX7_perform_18 (by decide) (fun c_ => ?_) (fun c_ => ?_)
    · replace h := ite_t h c_
      refine g_goto (pc := 45) (tgt := 107) C dX7_perform_45 (by decide) ?_
      refine g_lv [] (lv2 := []) rfl ?_
      exact k_X7_perform_107 C  h
    · replace h := ite_f h c_
      refine g_aload_n (pc := 21) C 0 dX7_perform_21 rfl rfl ?_
      refine get_X7_0 (pc := 22) C hk0 tw_70 dX7_perform_22 ?_
      refine g_iload_n (pc := 25) C 2 dX7_perform_25 rfl rfl ?_
      obtain ⟨g_, h⟩ := h
      have hs26_ : shC[((k0 + 3) + v3.toNatClampNeg)]? = some (0, 0, 0) := sh7_e (k := k0) hk0 g_
      refine g_aldB (pc := 26) C (sh7_0 hk0) g_ dX7_perform_26 ?_
      refine g_iload_n (pc := 27) C 1 dX7_perform_27 rfl rfl ?_
      refine g_bipush (pc := 28) (v := 7) C dX7_perform_28 bp_7 ?_
      refine g_irem (pc := 30) C dX7_perform_30 (by decide) ?_
      refine g_callVv (pc := 31) (As := [.int (irm v2 7)]) (rest := []) C hs26_ rfl rfl rfl (M_X0_swing C.2.2.1 hs26_ h) CyX0_swing tw_454 tw_455 tw_456 (by decide) rfl rfl (Nat.le_of_ble_eq_true rfl) dX7_perform_31 (fun t31 h => ?_)
      refine g_iload_n (pc := 34) C 1 dX7_perform_34 rfl rfl ?_
      refine g_bipush (pc := 35) (v := 7) C dX7_perform_35 bp_7 ?_
      refine g_idiv (pc := 37) C dX7_perform_37 (by decide) ?_
      refine g_istore_n (pc := 38) (lv2 := [(2, .int (v2 / 7)), (0, .ref (G.2.2 k0)), (3, .int v3)]) C dX7_perform_38 rfl (by decide) rfl ?_
      refine g_iinc (pc := 39) (lv2 := [(3, .int (v3 + 1)), (2, .int (v2 / 7)), (0, .ref (G.2.2 k0))]) C 2 dX7_perform_39 ic_1 rfl (by decide) rfl ?_
      refine g_goto (pc := 42) (tgt := 13) C dX7_perform_42 (by decide) ?_
      refine g_lv [2, 1, 0] (lv2 := [(0, .ref (G.2.2 k0)), (2, .int (v2 / 7)), (3, .int (v3 + 1))]) rfl ?_
      exact ih h
set_option maxHeartbeats 4000000 in
set_option maxRecDepth 100000 in
theorem M_X7_perform {l : Launch} {G : Gp} (hD : Dj shC G) {k0 : Nat} {v1 : Int32} {σ : St} {K : St → Prop} (hk0 : shC[k0]? = some (7, 0, 0)) (h : wp_X7_perform k0 v1 σ K) : MC l shC G yX7_perform cX7_perform 4 none 4 [.ref (G.2.2 k0), .int v1] σ (RV K) := by
  unfold wp_X7_perform at h
  refine MC.of (by decide) hD (Nat.le_of_ble_eq_true rfl) ?_
  intro p e s m args below meth c C
  replace C : Cx p (rmD 4) s m args meth c shC G cX7_perform 4 4 RX7 none 0 0 := C
  show Go p l e (rmD 4) s m args below meth c shC G 4 0 0 (MQ below (Qw shC G (RV K)) args s 0 0 (Fr shC G)) 0 [(0, .ref (G.2.2 k0)), (1, .int v1)] [] σ
  refine g_iload_n (pc := 0) C 1 dX7_perform_0 rfl rfl ?_
  refine g_bipush (pc := 1) (v := 48) C dX7_perform_1 bp_48 ?_
  refine g_icmp_lt (pc := 3) (tgt := 48) C dX7_perform_3 (by decide) (fun c_ => ?_) (fun c_ => ?_)
  · replace h := ite_t h c_
    refine g_iload_n (pc := 48) C 1 dX7_perform_48 rfl rfl ?_
    refine g_bipush (pc := 49) (v := 42) C dX7_perform_49 bp_42 ?_
    refine g_icmp_lt (pc := 51) (tgt := 80) C dX7_perform_51 (by decide) (fun c_ => ?_) (fun c_ => ?_)
    · replace h := ite_t h c_
      refine g_aload_n (pc := 80) C 0 dX7_perform_80 rfl rfl ?_
      refine g_iload_n (pc := 81) C 1 dX7_perform_81 rfl rfl ?_
      refine g_bipush (pc := 82) (v := 7) C dX7_perform_82 bp_7 ?_
      refine g_idiv (pc := 84) C dX7_perform_84 (by decide) ?_
      refine g_callVip (pc := 85) (As := [.int (v1 / 7)]) (rest := []) C hk0 rfl rfl rfl (M_X7_has C.2.2.1 hk0 h) CyX7_has tw_408 tw_382 tw_383 (by decide) rfl rfl (Nat.le_of_ble_eq_true rfl) dX7_perform_85 (fun r85 h => ?_)
      refine g_if_eq (pc := 88) (tgt := 107) C dX7_perform_88 (by decide) (fun c_ => ?_) (fun c_ => ?_)
      · replace h := ite_t h c_
        refine g_lv [] (lv2 := []) rfl ?_
        exact k_X7_perform_107 C  h
      · replace h := ite_f h c_
        refine g_aload_n (pc := 91) C 0 dX7_perform_91 rfl rfl ?_
        refine get_X7_0 (pc := 92) C hk0 tw_70 dX7_perform_92 ?_
        refine g_iload_n (pc := 95) C 1 dX7_perform_95 rfl rfl ?_
        refine g_bipush (pc := 96) (v := 7) C dX7_perform_96 bp_7 ?_
        refine g_idiv (pc := 98) C dX7_perform_98 (by decide) ?_
        obtain ⟨g_, h⟩ := h
        have hs99_ : shC[((k0 + 3) + (v1 / 7).toNatClampNeg)]? = some (0, 0, 0) := sh7_e (k := k0) hk0 g_
        refine g_aldB (pc := 99) C (sh7_0 hk0) g_ dX7_perform_99 ?_
        refine g_iload_n (pc := 100) C 1 dX7_perform_100 rfl rfl ?_
        refine g_bipush (pc := 101) (v := 7) C dX7_perform_101 bp_7 ?_
        refine g_irem (pc := 103) C dX7_perform_103 (by decide) ?_
        refine g_callVv (pc := 104) (As := [.int (irm v1 7)]) (rest := []) C hs99_ rfl rfl rfl (M_X0_swing C.2.2.1 hs99_ h) CyX0_swing tw_454 tw_455 tw_456 (by decide) rfl rfl (Nat.le_of_ble_eq_true rfl) dX7_perform_104 (fun t104 h => ?_)
        refine g_lv [] (lv2 := []) rfl ?_
        exact k_X7_perform_107 C  h
    · replace h := ite_f h c_
      refine g_aload_n (pc := 54) C 0 dX7_perform_54 rfl rfl ?_
      refine g_iload_n (pc := 55) C 1 dX7_perform_55 rfl rfl ?_
      refine g_bipush (pc := 56) (v := 42) C dX7_perform_56 bp_42 ?_
      refine g_isub (pc := 58) C dX7_perform_58 ?_
      refine g_callVip (pc := 59) (As := [.int (v1 - 42)]) (rest := []) C hk0 rfl rfl rfl (M_X7_has C.2.2.1 hk0 h) CyX7_has tw_408 tw_382 tw_383 (by decide) rfl rfl (Nat.le_of_ble_eq_true rfl) dX7_perform_59 (fun r59 h => ?_)
      refine g_if_eq (pc := 62) (tgt := 107) C dX7_perform_62 (by decide) (fun c_ => ?_) (fun c_ => ?_)
      · replace h := ite_t h c_
        refine g_lv [] (lv2 := []) rfl ?_
        exact k_X7_perform_107 C  h
      · replace h := ite_f h c_
        refine g_aload_n (pc := 65) C 0 dX7_perform_65 rfl rfl ?_
        refine get_X7_0 (pc := 66) C hk0 tw_70 dX7_perform_66 ?_
        refine g_iload_n (pc := 69) C 1 dX7_perform_69 rfl rfl ?_
        refine g_bipush (pc := 70) (v := 42) C dX7_perform_70 bp_42 ?_
        refine g_isub (pc := 72) C dX7_perform_72 ?_
        obtain ⟨g_, h⟩ := h
        have hs73_ : shC[((k0 + 3) + (v1 - 42).toNatClampNeg)]? = some (0, 0, 0) := sh7_e (k := k0) hk0 g_
        refine g_aldB (pc := 73) C (sh7_0 hk0) g_ dX7_perform_73 ?_
        refine g_callVv (pc := 74) (As := []) (rest := []) C hs73_ rfl rfl rfl (M_X0_renewStay C.2.2.1 hs73_ h) CyX0_renewStay tw_459 tw_460 tw_461 (by decide) rfl rfl (Nat.le_of_ble_eq_true rfl) dX7_perform_74 (fun t74 h => ?_)
        refine g_goto (pc := 77) (tgt := 107) C dX7_perform_77 (by decide) ?_
        refine g_lv [] (lv2 := []) rfl ?_
        exact k_X7_perform_107 C  h
  · replace h := ite_f h c_
    refine g_iload_n (pc := 6) C 1 dX7_perform_6 rfl rfl ?_
    refine g_bipush (pc := 7) (v := 48) C dX7_perform_7 bp_48 ?_
    refine g_isub (pc := 9) C dX7_perform_9 ?_
    refine g_istore_n (pc := 10) (lv2 := [(2, .int (v1 - 48)), (0, .ref (G.2.2 k0)), (1, .int v1)]) C dX7_perform_10 rfl (by decide) rfl ?_
    refine g_iconst (pc := 11) (v := 0) C dX7_perform_11 ic_0 ?_
    refine g_istore_n (pc := 12) (lv2 := [(3, .int 0), (2, .int (v1 - 48)), (0, .ref (G.2.2 k0)), (1, .int v1)]) C dX7_perform_12 rfl (by decide) rfl ?_
    refine g_lv [2, 1, 0] (lv2 := [(0, .ref (G.2.2 k0)), (2, .int (v1 - 48)), (3, .int 0)]) rfl ?_
    exact k_X7_perform_13 C hk0 h
set_option maxHeartbeats 4000000 in
set_option maxRecDepth 100000 in
theorem k_X7_act_34 {σ : St} {K : St → Prop} (C : Cx p R s m args meth c shC G cX7_act 2 5 RX7 none 0 0) (h : J_X7_act_34 σ K) : Go p l e R s m args below meth c shC G 2 0 0 (MQ below (Qw shC G (RV K)) args s 0 0 (Fr shC G)) 34 [] [] σ := by
  unfold J_X7_act_34 at h
  exact g_vret (pc := 34) C dX7_act_34 ⟨rfl, h⟩
set_option maxHeartbeats 4000000 in
set_option maxRecDepth 100000 in
theorem M_X7_act {l : Launch} {G : Gp} (hD : Dj shC G) {k0 : Nat} {v1 : Int32} {σ : St} {K : St → Prop} (hk0 : shC[k0]? = some (7, 0, 0)) (h : wp_X7_act k0 v1 σ K) : MC l shC G yX7_act cX7_act 2 none 5 [.ref (G.2.2 k0), .int v1] σ (RV K) := by
  unfold wp_X7_act at h
  refine MC.of (by decide) hD (Nat.le_of_ble_eq_true rfl) ?_
  intro p e s m args below meth c C
  replace C : Cx p (rmD 5) s m args meth c shC G cX7_act 2 5 RX7 none 0 0 := C
  show Go p l e (rmD 5) s m args below meth c shC G 2 0 0 (MQ below (Qw shC G (RV K)) args s 0 0 (Fr shC G)) 0 [(0, .ref (G.2.2 k0)), (1, .int v1)] [] σ
  refine g_aload_n (pc := 0) C 0 dX7_act_0 rfl rfl ?_
  refine get_X7_4 (pc := 1) C hk0 tw_79 dX7_act_1 ?_
  refine g_bipush (pc := 4) (v := 40) C dX7_act_4 bp_40 ?_
  refine g_icmp_ge (pc := 6) (tgt := 34) C dX7_act_6 (by decide) (fun c_ => ?_) (fun c_ => ?_)
  · replace h := ite_t h c_
    refine g_lv [] (lv2 := []) rfl ?_
    exact k_X7_act_34 C  h
  · replace h := ite_f h c_
    refine g_aload_n (pc := 9) C 0 dX7_act_9 rfl rfl ?_
    refine get_X7_1 (pc := 10) C hk0 tw_73 dX7_act_10 ?_
    refine g_aload_n (pc := 13) C 0 dX7_act_13 rfl rfl ?_
    refine get_X7_4 (pc := 14) C hk0 tw_79 dX7_act_14 ?_
    refine g_iload_n (pc := 17) C 1 dX7_act_17 rfl rfl ?_
    obtain ⟨g_, h⟩ := h
    refine g_iast (pc := 18) C (sh7_1 hk0) g_ dX7_act_18 ?_
    refine g_aload_n (pc := 19) C 0 dX7_act_19 rfl rfl ?_
    refine g_dup (pc := 20) C dX7_act_20 rfl ?_
    refine get_X7_4 (pc := 21) C hk0 tw_79 dX7_act_21 ?_
    refine g_iconst (pc := 24) (v := 1) C dX7_act_24 ic_1 ?_
    refine g_iadd (pc := 25) C dX7_act_25 ?_
    refine put_X7_4 (pc := 26) C hk0 tw_79 dX7_act_26 ?_
    refine g_aload_n (pc := 29) C 0 dX7_act_29 rfl rfl ?_
    refine g_iload_n (pc := 30) C 1 dX7_act_30 rfl rfl ?_
    refine g_callVv (pc := 31) (As := [.int v1]) (rest := []) C hk0 rfl rfl rfl (M_X7_perform C.2.2.1 hk0 h) CyX7_perform tw_450 tw_452 ts_8 (by decide) rfl rfl (Nat.le_of_ble_eq_true rfl) dX7_act_31 (fun t31 h => ?_)
    refine g_lv [] (lv2 := []) rfl ?_
    exact k_X7_act_34 C  h
set_option maxHeartbeats 4000000 in
set_option maxRecDepth 100000 in
theorem M_X7_roomLeft {l : Launch} {G : Gp} (hD : Dj shC G) {k0 : Nat} {σ : St} {K : Int32 → Prop} (hk0 : shC[k0]? = some (7, 0, 0)) (h : wp_X7_roomLeft k0 σ K) : MC l shC G yX7_roomLeft cX7_roomLeft 1 (some .int) 1 [.ref (G.2.2 k0)] σ (RI (fun r t => t = σ ∧ K r)) := by
  unfold wp_X7_roomLeft at h
  refine MC.of (by decide) hD (Nat.le_of_ble_eq_true rfl) ?_
  intro p e s m args below meth c C
  replace C : Cx p (rmD 1) s m args meth c shC G cX7_roomLeft 1 1 RX7 (some .int) 0 0 := C
  show Go p l e (rmD 1) s m args below meth c shC G 1 0 0 (MQ below (Qw shC G (RI (fun r t => t = σ ∧ K r))) args s 0 0 (Fr shC G)) 0 [(0, .ref (G.2.2 k0))] [] σ
  refine g_bipush (pc := 0) (v := 40) C dX7_roomLeft_0 bp_40 ?_
  refine g_aload_n (pc := 2) C 0 dX7_roomLeft_2 rfl rfl ?_
  refine get_X7_4 (pc := 3) C hk0 tw_79 dX7_roomLeft_3 ?_
  refine g_isub (pc := 6) C dX7_roomLeft_6 ?_
  exact g_iret (pc := 7) C dX7_roomLeft_7 ⟨_, rfl, ⟨rfl, h⟩⟩
set_option maxHeartbeats 4000000 in
set_option maxRecDepth 100000 in
theorem k_X8_lots_23 {σ : St} {K : Int32 → St → Prop} (C : Cx p R s m args meth c shC G cX8_lots 9 6 RX8 (some .int) 0 0) (h : J_X8_lots_23 σ K) : Go p l e R s m args below meth c shC G 9 0 0 (MQ below (Qw shC G (RI K)) args s 0 0 (Fr shC G)) 23 [] [] σ := by
  unfold J_X8_lots_23 at h
  refine g_iconst (pc := 23) (v := -1) C dX8_lots_23 ic_m1 ?_
  exact g_iret (pc := 24) C dX8_lots_24 ⟨_, rfl, h⟩
set_option maxHeartbeats 4000000 in
set_option maxRecDepth 100000 in
theorem k_X8_lots_130 {v1 : Int32} {v3 : Int64} {v5 : Int32} {v6 : Int32} {v7 : Int32} {v8 : Int32} {σ : St} {K : Int32 → St → Prop} {Φ58 : Int64 → Int32 → St → Prop} {Φ74 : Int64 → Int32 → Int32 → Int32 → Prop} (C : Cx p R s m args meth c shC G cX8_lots 9 6 RX8 (some .int) 0 0) (hΦ58 : ∀ (v3' : Int64) (v5' : Int32) (σ' : St), Φ58 v3' v5' σ' → Go p l e R s m args below meth c shC G 9 0 0 (MQ below (Qw shC G (RI K)) args s 0 0 (Fr shC G)) 58 [(0, .ref (G.2.2 0)), (1, .int v1), (3, .long (v3')), (5, .int (v5'))] [] σ') (hΦ74 : ∀ (v3' : Int64) (v6' : Int32) (v7' : Int32) (v8' : Int32), Φ74 v3' v6' v7' v8' → Go p l e R s m args below meth c shC G 9 0 0 (MQ below (Qw shC G (RI K)) args s 0 0 (Fr shC G)) 74 [(0, .ref (G.2.2 0)), (1, .int v1), (3, .long (v3')), (5, .int v5), (6, .int (v6')), (7, .int (v7')), (8, .int (v8'))] [] σ) (h : J_X8_lots_130 v1 v3 v5 v6 v7 v8 σ K Φ58 Φ74) : Go p l e R s m args below meth c shC G 9 0 0 (MQ below (Qw shC G (RI K)) args s 0 0 (Fr shC G)) 130 [(0, .ref (G.2.2 0)), (1, .int v1), (3, .long v3), (5, .int v5), (6, .int v6), (7, .int v7), (8, .int v8)] [] σ := by
  unfold J_X8_lots_130 at h
  refine g_iload (pc := 130) C 5 dX8_lots_130 rfl ?_
  refine g_bipush (pc := 132) (v := 7) C dX8_lots_132 bp_7 ?_
  refine g_imul (pc := 134) C dX8_lots_134 ?_
  refine g_istore (pc := 135) (lv2 := [(7, .int (v7 * 7)), (0, .ref (G.2.2 0)), (1, .int v1), (3, .long v3), (5, .int v5), (6, .int v6), (8, .int v8)]) C dX8_lots_135 (by decide) rfl ?_
  refine g_iinc (pc := 137) (lv2 := [(8, .int (v8 + 1)), (7, .int (v7 * 7)), (0, .ref (G.2.2 0)), (1, .int v1), (3, .long v3), (5, .int v5), (6, .int v6)]) C 6 dX8_lots_137 ic_1 rfl (by decide) rfl ?_
  refine g_goto (pc := 140) (tgt := 74) C dX8_lots_140 (by decide) ?_
  refine g_lv [2, 3, 4, 5, 6, 1, 0] (lv2 := [(0, .ref (G.2.2 0)), (1, .int v1), (3, .long v3), (5, .int v5), (6, .int v6), (7, .int (v7 * 7)), (8, .int (v8 + 1))]) rfl ?_
  exact hΦ74 _ _ _ _ h
set_option maxHeartbeats 4000000 in
set_option maxRecDepth 100000 in
theorem k_X8_lots_74 {v1 : Int32} {v3 : Int64} {v5 : Int32} {v6 : Int32} {v7 : Int32} {v8 : Int32} {σ : St} {K : Int32 → St → Prop} {Φ58 : Int64 → Int32 → St → Prop} (C : Cx p R s m args meth c shC G cX8_lots 9 6 RX8 (some .int) 0 0) (hΦ58 : ∀ (v3' : Int64) (v5' : Int32) (σ' : St), Φ58 v3' v5' σ' → Go p l e R s m args below meth c shC G 9 0 0 (MQ below (Qw shC G (RI K)) args s 0 0 (Fr shC G)) 58 [(0, .ref (G.2.2 0)), (1, .int v1), (3, .long (v3')), (5, .int (v5'))] [] σ') (h : L_X8_lots_74 v1 v5 σ K Φ58 v3 v6 v7 v8) : Go p l e R s m args below meth c shC G 9 0 0 (MQ below (Qw shC G (RI K)) args s 0 0 (Fr shC G)) 74 [(0, .ref (G.2.2 0)), (1, .int v1), (3, .long v3), (5, .int v5), (6, .int v6), (7, .int v7), (8, .int v8)] [] σ := by
  obtain ⟨n_, h⟩ := h
  induction n_ generalizing v3 v6 v7 v8 with
  | zero => exact h.elim
  | succ n_ ih =>
    replace h : B_X8_lots_74 v1 v5 σ K Φ58 (it4 (B_X8_lots_74 v1 v5 σ K Φ58) n_) v3 v6 v7 v8 := h
    unfold B_X8_lots_74 at h
    refine g_iload (pc := 74) C 6 dX8_lots_74 rfl ?_
    refine g_aload_n (pc := 76) C 0 dX8_lots_76 rfl rfl ?_
    refine get_X8_3 (pc := 77) C rfl tw_197 dX8_lots_77 ?_
    refine get_X7_2 (pc := 80) C rfl tw_76 dX8_lots_80 ?_
    refine g_icmp_ge (pc := 83) (tgt := 143) C dX8_lots_83 (by decide) (fun c_ => ?_) (fun c_ => ?_)
    · replace h := ite_t h c_
      refine g_aload_n (pc := 143) C 0 dX8_lots_143 rfl rfl ?_
      refine get_X8_3 (pc := 144) C rfl tw_197 dX8_lots_144 ?_
      refine g_iload (pc := 147) C 4 dX8_lots_147 rfl ?_
      refine g_callVv (pc := 149) (As := [.int v6]) (rest := []) C rfl rfl rfl rfl (M_X7_act C.2.2.1 rfl h) CyX7_act tw_446 tw_447 tw_448 (by decide) rfl rfl (Nat.le_of_ble_eq_true rfl) dX8_lots_149 (fun t149 h => ?_)
      refine g_iinc (pc := 152) (lv2 := [(5, .int (v5 + 1)), (0, .ref (G.2.2 0)), (1, .int v1), (3, .long v3), (6, .int v6), (7, .int v7), (8, .int v8)]) C 3 dX8_lots_152 ic_1 rfl (by decide) rfl ?_
      refine g_goto (pc := 155) (tgt := 58) C dX8_lots_155 (by decide) ?_
      refine g_lv [1, 2, 3, 0] (lv2 := [(0, .ref (G.2.2 0)), (1, .int v1), (3, .long v3), (5, .int (v5 + 1))]) rfl ?_
      exact hΦ58 _ _ _ h
    · replace h := ite_f h c_
      refine g_aload_n (pc := 86) C 0 dX8_lots_86 rfl rfl ?_
      refine get_X8_3 (pc := 87) C rfl tw_197 dX8_lots_87 ?_
      refine get_X7_0 (pc := 90) C rfl tw_72 dX8_lots_90 ?_
      refine g_iload (pc := 93) C 6 dX8_lots_93 rfl ?_
      obtain ⟨g_, h⟩ := h
      have hs95_ : shC[(28 + v8.toNatClampNeg)]? = some (0, 0, 0) := sh7_e (k := 25) rfl g_
      refine g_aldB (pc := 95) C (sh7_0 rfl) g_ dX8_lots_95 ?_
      refine get_X0_5 (pc := 96) C hs95_ tw_55 dX8_lots_96 ?_
      refine g_if_ne (pc := 99) (tgt := 130) C dX8_lots_99 (by decide) (fun c_ => ?_) (fun c_ => ?_)
      · replace h := ite_f h c_
        refine g_lv [0, 1, 2, 3, 4, 5, 6] (lv2 := [(0, .ref (G.2.2 0)), (1, .int v1), (3, .long v3), (5, .int v5), (6, .int v6), (7, .int v7), (8, .int v8)]) rfl ?_
        exact k_X8_lots_130 C hΦ58 (fun _ _ _ _ h_ => ih h_) h
      · replace h := ite_t h c_
        refine g_lload_n (pc := 102) C 2 dX8_lots_102 rfl rfl ?_
        refine g_ldc2 (pc := 103) (v := 48271) C dX8_lots_103 tw_798 ?_
        refine g_lmul (pc := 106) C dX8_lots_106 ?_
        refine g_ldc2 (pc := 107) (v := 2147483647) C dX8_lots_107 tw_799 ?_
        refine g_lrem (pc := 110) C dX8_lots_110 (by decide) ?_
        refine g_lstore_n (pc := 111) (lv2 := [(3, .long (lrm (v3 * (48271 : Int64)) (2147483647 : Int64))), (0, .ref (G.2.2 0)), (1, .int v1), (5, .int v5), (6, .int v6), (7, .int v7), (8, .int v8)]) C dX8_lots_111 rfl (by decide) rfl ?_
        refine g_iload (pc := 112) C 4 dX8_lots_112 rfl ?_
        refine g_lload_n (pc := 114) C 0 dX8_lots_114 rfl rfl ?_
        refine g_ldc2 (pc := 115) (v := 16) C dX8_lots_115 tw_800 ?_
        refine g_ldiv (pc := 118) C dX8_lots_118 (by decide) ?_
        refine g_ldc2 (pc := 119) (v := 4) C dX8_lots_119 tw_801 ?_
        refine g_lrem (pc := 122) C dX8_lots_122 (by decide) ?_
        refine g_l2i (pc := 123) C dX8_lots_123 ?_
        refine g_iload (pc := 124) C 5 dX8_lots_124 rfl ?_
        refine g_imul (pc := 126) C dX8_lots_126 ?_
        refine g_iadd (pc := 127) C dX8_lots_127 ?_
        refine g_istore (pc := 128) (lv2 := [(6, .int (v6 + ((lrm ((lrm (v3 * (48271 : Int64)) (2147483647 : Int64)) / (16 : Int64)) (4 : Int64)).toInt32 * v7))), (3, .long (lrm (v3 * (48271 : Int64)) (2147483647 : Int64))), (0, .ref (G.2.2 0)), (1, .int v1), (5, .int v5), (7, .int v7), (8, .int v8)]) C dX8_lots_128 (by decide) rfl ?_
        refine g_lv [2, 3, 1, 4, 0, 5, 6] (lv2 := [(0, .ref (G.2.2 0)), (1, .int v1), (3, .long (lrm (v3 * (48271 : Int64)) (2147483647 : Int64))), (5, .int v5), (6, .int (v6 + ((lrm ((lrm (v3 * (48271 : Int64)) (2147483647 : Int64)) / (16 : Int64)) (4 : Int64)).toInt32 * v7))), (7, .int v7), (8, .int v8)]) rfl ?_
        exact k_X8_lots_130 C hΦ58 (fun _ _ _ _ h_ => ih h_) h
set_option maxHeartbeats 4000000 in
set_option maxRecDepth 100000 in
theorem k_X8_lots_58 {v1 : Int32} {v3 : Int64} {v5 : Int32} {σ : St} {K : Int32 → St → Prop} (C : Cx p R s m args meth c shC G cX8_lots 9 6 RX8 (some .int) 0 0) (h : L_X8_lots_58 v1 K v3 v5 σ) : Go p l e R s m args below meth c shC G 9 0 0 (MQ below (Qw shC G (RI K)) args s 0 0 (Fr shC G)) 58 [(0, .ref (G.2.2 0)), (1, .int v1), (3, .long v3), (5, .int v5)] [] σ := by
  obtain ⟨n_, h⟩ := h
  induction n_ generalizing v3 v5 σ with
  | zero => exact h.elim
  | succ n_ ih =>
    replace h : B_X8_lots_58 v1 K (it3 (B_X8_lots_58 v1 K) n_) v3 v5 σ := h
    unfold B_X8_lots_58 at h
    refine g_iload (pc := 58) C 3 dX8_lots_58 rfl ?_
    refine g_iload_n (pc := 60) C 1 dX8_lots_60 rfl rfl ?_
    refine g_icmp_ge (pc := 61) (tgt := 158) C dX8_lots_61 (by decide) (fun c_ => ?_) (fun c_ => ?_)
    · replace h := ite_t h c_
      refine g_aload_n (pc := 158) C 0 dX8_lots_158 rfl rfl ?_
      refine get_X8_3 (pc := 159) C rfl tw_197 dX8_lots_159 ?_
      refine g_callVip (pc := 162) (As := []) (rest := []) C rfl rfl rfl rfl (M_X7_ringing C.2.2.1 rfl h) CyX7_ringing tw_679 tw_680 tw_681 (by decide) rfl rfl (Nat.le_of_ble_eq_true rfl) dX8_lots_162 (fun r162 h => ?_)
      exact g_iret (pc := 165) C dX8_lots_165 ⟨_, rfl, h⟩
    · replace h := ite_f h c_
      refine g_bipush (pc := 64) (v := 48) C dX8_lots_64 bp_48 ?_
      refine g_istore (pc := 66) (lv2 := [(6, .int 48), (0, .ref (G.2.2 0)), (1, .int v1), (3, .long v3), (5, .int v5)]) C dX8_lots_66 (by decide) rfl ?_
      refine g_iconst (pc := 68) (v := 1) C dX8_lots_68 ic_1 ?_
      refine g_istore (pc := 69) (lv2 := [(7, .int 1), (6, .int 48), (0, .ref (G.2.2 0)), (1, .int v1), (3, .long v3), (5, .int v5)]) C dX8_lots_69 (by decide) rfl ?_
      refine g_iconst (pc := 71) (v := 0) C dX8_lots_71 ic_0 ?_
      refine g_istore (pc := 72) (lv2 := [(8, .int 0), (7, .int 1), (6, .int 48), (0, .ref (G.2.2 0)), (1, .int v1), (3, .long v3), (5, .int v5)]) C dX8_lots_72 (by decide) rfl ?_
      refine g_lv [3, 4, 5, 6, 2, 1, 0] (lv2 := [(0, .ref (G.2.2 0)), (1, .int v1), (3, .long v3), (5, .int v5), (6, .int 48), (7, .int 1), (8, .int 0)]) rfl ?_
      exact k_X8_lots_74 C (fun _ _ _ h_ => ih h_) h
set_option maxHeartbeats 4000000 in
set_option maxRecDepth 100000 in
theorem M_X8_lots {l : Launch} {G : Gp} (hD : Dj shC G) {v1 : Int32} {v2 : Int32} {σ : St} {K : Int32 → St → Prop} (h : wp_X8_lots v1 v2 σ K) : MC l shC G yX8_lots cX8_lots 9 (some .int) 6 [.ref (G.2.2 0), .int v1, .int v2] σ (RI K) := by
  unfold wp_X8_lots at h
  refine MC.of (by decide) hD (Nat.le_of_ble_eq_true rfl) ?_
  intro p e s m args below meth c C
  replace C : Cx p (rmD 6) s m args meth c shC G cX8_lots 9 6 RX8 (some .int) 0 0 := C
  show Go p l e (rmD 6) s m args below meth c shC G 9 0 0 (MQ below (Qw shC G (RI K)) args s 0 0 (Fr shC G)) 0 [(0, .ref (G.2.2 0)), (1, .int v1), (2, .int v2)] [] σ
  refine g_iload_n (pc := 0) C 1 dX8_lots_0 rfl rfl ?_
  refine g_iconst (pc := 1) (v := 1) C dX8_lots_1 ic_1 ?_
  refine g_icmp_lt (pc := 2) (tgt := 23) C dX8_lots_2 (by decide) (fun c_ => ?_) (fun c_ => ?_)
  · replace h := ite_t h c_
    refine g_lv [] (lv2 := []) rfl ?_
    exact k_X8_lots_23 C  h
  · replace h := ite_f h c_
    refine g_iload_n (pc := 5) C 1 dX8_lots_5 rfl rfl ?_
    refine g_bipush (pc := 6) (v := 20) C dX8_lots_6 bp_20 ?_
    refine g_icmp_gt (pc := 8) (tgt := 23) C dX8_lots_8 (by decide) (fun c_ => ?_) (fun c_ => ?_)
    · replace h := ite_t h c_
      refine g_lv [] (lv2 := []) rfl ?_
      exact k_X8_lots_23 C  h
    · replace h := ite_f h c_
      refine g_iload_n (pc := 11) C 2 dX8_lots_11 rfl rfl ?_
      refine g_iconst (pc := 12) (v := 1) C dX8_lots_12 ic_1 ?_
      refine g_icmp_lt (pc := 13) (tgt := 23) C dX8_lots_13 (by decide) (fun c_ => ?_) (fun c_ => ?_)
      · replace h := ite_t h c_
        refine g_lv [] (lv2 := []) rfl ?_
        exact k_X8_lots_23 C  h
      · replace h := ite_f h c_
        refine g_iload_n (pc := 16) C 2 dX8_lots_16 rfl rfl ?_
        refine g_ldcw (pc := 17) (v := 2147483646) C dX8_lots_17 tw_797 ?_
        refine g_icmp_le (pc := 20) (tgt := 25) C dX8_lots_20 (by decide) (fun c_ => ?_) (fun c_ => ?_)
        · replace h := ite_t h c_
          refine g_aload_n (pc := 25) C 0 dX8_lots_25 rfl rfl ?_
          refine get_X8_3 (pc := 26) C rfl tw_197 dX8_lots_26 ?_
          refine get_X7_2 (pc := 29) C rfl tw_76 dX8_lots_29 ?_
          refine g_if_ne (pc := 32) (tgt := 38) C dX8_lots_32 (by decide) (fun c_ => ?_) (fun c_ => ?_)
          · replace h := ite_f h c_
            refine g_aload_n (pc := 38) C 0 dX8_lots_38 rfl rfl ?_
            refine get_X8_3 (pc := 39) C rfl tw_197 dX8_lots_39 ?_
            refine g_callVip (pc := 42) (As := []) (rest := []) C rfl rfl rfl rfl (M_X7_roomLeft C.2.2.1 rfl h) CyX7_roomLeft tw_439 tw_440 tw_441 (by decide) rfl rfl (Nat.le_of_ble_eq_true rfl) dX8_lots_42 (fun r42 h => ?_)
            refine g_iload_n (pc := 45) C 1 dX8_lots_45 rfl rfl ?_
            refine g_icmp_ge (pc := 46) (tgt := 52) C dX8_lots_46 (by decide) (fun c_ => ?_) (fun c_ => ?_)
            · replace h := ite_t h c_
              refine g_iload_n (pc := 52) C 2 dX8_lots_52 rfl rfl ?_
              refine g_i2l (pc := 53) C dX8_lots_53 ?_
              refine g_lstore_n (pc := 54) (lv2 := [(3, .long v2.toInt64), (0, .ref (G.2.2 0)), (1, .int v1), (2, .int v2)]) C dX8_lots_54 rfl (by decide) rfl ?_
              refine g_iconst (pc := 55) (v := 0) C dX8_lots_55 ic_0 ?_
              refine g_istore (pc := 56) (lv2 := [(5, .int 0), (3, .long v2.toInt64), (0, .ref (G.2.2 0)), (1, .int v1), (2, .int v2)]) C dX8_lots_56 (by decide) rfl ?_
              refine g_lv [2, 3, 1, 0] (lv2 := [(0, .ref (G.2.2 0)), (1, .int v1), (3, .long v2.toInt64), (5, .int 0)]) rfl ?_
              exact k_X8_lots_58 C  h
            · replace h := ite_f h c_
              refine g_bipush (pc := 49) (v := -2) C dX8_lots_49 bp_m2 ?_
              exact g_iret (pc := 51) C dX8_lots_51 ⟨_, rfl, h⟩
          · replace h := ite_t h c_
            refine g_bipush (pc := 35) (v := -4) C dX8_lots_35 bp_m4 ?_
            exact g_iret (pc := 37) C dX8_lots_37 ⟨_, rfl, h⟩
        · replace h := ite_f h c_
          refine g_lv [] (lv2 := []) rfl ?_
          exact k_X8_lots_23 C  h
set_option maxHeartbeats 4000000 in
set_option maxRecDepth 100000 in
theorem M_X8_lower {l : Launch} {G : Gp} (hD : Dj shC G) {σ : St} {K : Int64 → Prop} (h : wp_X8_lower σ K) : MC l shC G yX8_lower cX8_lower 1 (some .long) 1 [.ref (G.2.2 0)] σ (RJ (fun r t => t = σ ∧ K r)) := by
  unfold wp_X8_lower at h
  refine MC.of (by decide) hD (Nat.le_of_ble_eq_true rfl) ?_
  intro p e s m args below meth c C
  replace C : Cx p (rmD 1) s m args meth c shC G cX8_lower 1 1 RX8 (some .long) 0 0 := C
  show Go p l e (rmD 1) s m args below meth c shC G 1 0 0 (MQ below (Qw shC G (RJ (fun r t => t = σ ∧ K r))) args s 0 0 (Fr shC G)) 0 [(0, .ref (G.2.2 0))] [] σ
  refine g_aload_n (pc := 0) C 0 dX8_lower_0 rfl rfl ?_
  refine get_X8_14 (pc := 1) C rfl tw_208 dX8_lower_1 ?_
  exact g_lret (pc := 4) C dX8_lower_4 ⟨_, rfl, ⟨rfl, h⟩⟩
set_option maxHeartbeats 4000000 in
set_option maxRecDepth 100000 in
theorem k_X8_othersAsHeavy_50 {v1 : Int32} {v2 : Int32} {v3 : Int32} {σ : St} {K : Int32 → Prop} {Φ4 : Int32 → Int32 → Prop} (C : Cx p R s m args meth c shC G cX8_othersAsHeavy 4 1 RX8 (some .int) 0 0) (hΦ4 : ∀ (v2' : Int32) (v3' : Int32), Φ4 v2' v3' → Go p l e R s m args below meth c shC G 4 0 0 (MQ below (Qw shC G (RI (fun r t => t = σ ∧ K r))) args s 0 0 (Fr shC G)) 4 [(0, .ref (G.2.2 0)), (1, .int v1), (2, .int (v2')), (3, .int (v3'))] [] σ) (h : J_X8_othersAsHeavy_50 v1 v2 v3 σ K Φ4) : Go p l e R s m args below meth c shC G 4 0 0 (MQ below (Qw shC G (RI (fun r t => t = σ ∧ K r))) args s 0 0 (Fr shC G)) 50 [(0, .ref (G.2.2 0)), (1, .int v1), (2, .int v2), (3, .int v3)] [] σ := by
  unfold J_X8_othersAsHeavy_50 at h
  refine g_iinc (pc := 50) (lv2 := [(3, .int (v3 + 1)), (0, .ref (G.2.2 0)), (1, .int v1), (2, .int v2)]) C 3 dX8_othersAsHeavy_50 ic_1 rfl (by decide) rfl ?_
  refine g_goto (pc := 53) (tgt := 4) C dX8_othersAsHeavy_53 (by decide) ?_
  refine g_lv [1, 2, 3, 0] (lv2 := [(0, .ref (G.2.2 0)), (1, .int v1), (2, .int v2), (3, .int (v3 + 1))]) rfl ?_
  exact hΦ4 _ _ h
set_option maxHeartbeats 4000000 in
set_option maxRecDepth 100000 in
theorem k_X8_othersAsHeavy_4 {v1 : Int32} {v2 : Int32} {v3 : Int32} {σ : St} {K : Int32 → Prop} (C : Cx p R s m args meth c shC G cX8_othersAsHeavy 4 1 RX8 (some .int) 0 0) (h : L_X8_othersAsHeavy_4 v1 σ K v2 v3) : Go p l e R s m args below meth c shC G 4 0 0 (MQ below (Qw shC G (RI (fun r t => t = σ ∧ K r))) args s 0 0 (Fr shC G)) 4 [(0, .ref (G.2.2 0)), (1, .int v1), (2, .int v2), (3, .int v3)] [] σ := by
  obtain ⟨n_, h⟩ := h
  induction n_ generalizing v2 v3 with
  | zero => exact h.elim
  | succ n_ ih =>
    replace h : B_X8_othersAsHeavy_4 v1 σ K (it2 (B_X8_othersAsHeavy_4 v1 σ K) n_) v2 v3 := h
    unfold B_X8_othersAsHeavy_4 at h
    refine g_iload_n (pc := 4) C 3 dX8_othersAsHeavy_4 rfl rfl ?_
    refine g_aload_n (pc := 5) C 0 dX8_othersAsHeavy_5 rfl rfl ?_
    refine get_X8_3 (pc := 6) C rfl tw_197 dX8_othersAsHeavy_6 ?_
    refine get_X7_2 (pc := 9) C rfl tw_76 dX8_othersAsHeavy_9 ?_
    refine g_icmp_ge (pc := 12) (tgt := 56) C dX8_othersAsHeavy_12 (by decide) (fun c_ => ?_) (fun c_ => ?_)
    · replace h := ite_t h c_
      refine g_iload_n (pc := 56) C 2 dX8_othersAsHeavy_56 rfl rfl ?_
      exact g_iret (pc := 57) C dX8_othersAsHeavy_57 ⟨_, rfl, ⟨rfl, h⟩⟩
    · replace h := ite_f h c_
      refine g_iload_n (pc := 15) C 3 dX8_othersAsHeavy_15 rfl rfl ?_
      refine g_iload_n (pc := 16) C 1 dX8_othersAsHeavy_16 rfl rfl ?_
      refine g_icmp_eq (pc := 17) (tgt := 50) C dX8_othersAsHeavy_17 (by decide) (fun c_ => ?_) (fun c_ => ?_)
      · replace h := ite_t h c_
        refine g_lv [0, 1, 2, 3] (lv2 := [(0, .ref (G.2.2 0)), (1, .int v1), (2, .int v2), (3, .int v3)]) rfl ?_
        exact k_X8_othersAsHeavy_50 C (fun _ _ h_ => ih h_) h
      · replace h := ite_f h c_
        refine g_aload_n (pc := 20) C 0 dX8_othersAsHeavy_20 rfl rfl ?_
        refine get_X8_3 (pc := 21) C rfl tw_197 dX8_othersAsHeavy_21 ?_
        refine get_X7_0 (pc := 24) C rfl tw_72 dX8_othersAsHeavy_24 ?_
        refine g_iload_n (pc := 27) C 3 dX8_othersAsHeavy_27 rfl rfl ?_
        obtain ⟨g_, h⟩ := h
        have hs28_ : shC[(28 + v3.toNatClampNeg)]? = some (0, 0, 0) := sh7_e (k := 25) rfl g_
        refine g_aldB (pc := 28) C (sh7_0 rfl) g_ dX8_othersAsHeavy_28 ?_
        refine get_X0_1 (pc := 29) C hs28_ tw_45 dX8_othersAsHeavy_29 ?_
        refine g_aload_n (pc := 32) C 0 dX8_othersAsHeavy_32 rfl rfl ?_
        refine get_X8_3 (pc := 33) C rfl tw_197 dX8_othersAsHeavy_33 ?_
        refine get_X7_0 (pc := 36) C rfl tw_72 dX8_othersAsHeavy_36 ?_
        refine g_iload_n (pc := 39) C 1 dX8_othersAsHeavy_39 rfl rfl ?_
        obtain ⟨g_, h⟩ := h
        have hs40_ : shC[(28 + v1.toNatClampNeg)]? = some (0, 0, 0) := sh7_e (k := 25) rfl g_
        refine g_aldB (pc := 40) C (sh7_0 rfl) g_ dX8_othersAsHeavy_40 ?_
        refine get_X0_1 (pc := 41) C hs40_ tw_45 dX8_othersAsHeavy_41 ?_
        refine g_icmp_lt (pc := 44) (tgt := 50) C dX8_othersAsHeavy_44 (by decide) (fun c_ => ?_) (fun c_ => ?_)
        · replace h := ite_t h c_
          refine g_lv [0, 1, 2, 3] (lv2 := [(0, .ref (G.2.2 0)), (1, .int v1), (2, .int v2), (3, .int v3)]) rfl ?_
          exact k_X8_othersAsHeavy_50 C (fun _ _ h_ => ih h_) h
        · replace h := ite_f h c_
          refine g_iinc (pc := 47) (lv2 := [(2, .int (v2 + 1)), (0, .ref (G.2.2 0)), (1, .int v1), (3, .int v3)]) C 2 dX8_othersAsHeavy_47 ic_1 rfl (by decide) rfl ?_
          refine g_lv [1, 2, 0, 3] (lv2 := [(0, .ref (G.2.2 0)), (1, .int v1), (2, .int (v2 + 1)), (3, .int v3)]) rfl ?_
          exact k_X8_othersAsHeavy_50 C (fun _ _ h_ => ih h_) h
set_option maxHeartbeats 4000000 in
set_option maxRecDepth 100000 in
theorem M_X8_othersAsHeavy {l : Launch} {G : Gp} (hD : Dj shC G) {v1 : Int32} {σ : St} {K : Int32 → Prop} (h : wp_X8_othersAsHeavy v1 σ K) : MC l shC G yX8_othersAsHeavy cX8_othersAsHeavy 4 (some .int) 1 [.ref (G.2.2 0), .int v1] σ (RI (fun r t => t = σ ∧ K r)) := by
  unfold wp_X8_othersAsHeavy at h
  refine MC.of (by decide) hD (Nat.le_of_ble_eq_true rfl) ?_
  intro p e s m args below meth c C
  replace C : Cx p (rmD 1) s m args meth c shC G cX8_othersAsHeavy 4 1 RX8 (some .int) 0 0 := C
  show Go p l e (rmD 1) s m args below meth c shC G 4 0 0 (MQ below (Qw shC G (RI (fun r t => t = σ ∧ K r))) args s 0 0 (Fr shC G)) 0 [(0, .ref (G.2.2 0)), (1, .int v1)] [] σ
  refine g_iconst (pc := 0) (v := 0) C dX8_othersAsHeavy_0 ic_0 ?_
  refine g_istore_n (pc := 1) (lv2 := [(2, .int 0), (0, .ref (G.2.2 0)), (1, .int v1)]) C dX8_othersAsHeavy_1 rfl (by decide) rfl ?_
  refine g_iconst (pc := 2) (v := 0) C dX8_othersAsHeavy_2 ic_0 ?_
  refine g_istore_n (pc := 3) (lv2 := [(3, .int 0), (2, .int 0), (0, .ref (G.2.2 0)), (1, .int v1)]) C dX8_othersAsHeavy_3 rfl (by decide) rfl ?_
  refine g_lv [2, 3, 1, 0] (lv2 := [(0, .ref (G.2.2 0)), (1, .int v1), (2, .int 0), (3, .int 0)]) rfl ?_
  exact k_X8_othersAsHeavy_4 C  h
set_option maxHeartbeats 4000000 in
set_option maxRecDepth 100000 in
theorem k_X8_othersSooner_64 {v2 : Int32} {v3 : Int32} {v4 : Int32} {σ : St} {K : Int32 → Prop} {Φ24 : Int32 → Int32 → Prop} (C : Cx p R s m args meth c shC G cX8_othersSooner 6 4 RX8 (some .int) 0 0) (hΦ24 : ∀ (v3' : Int32) (v4' : Int32), Φ24 v3' v4' → Go p l e R s m args below meth c shC G 6 0 0 (MQ below (Qw shC G (RI (fun r t => t = σ ∧ K r))) args s 0 0 (Fr shC G)) 24 [(0, .ref (G.2.2 0)), (2, .int v2), (3, .int (v3')), (4, .int (v4'))] [] σ) (h : J_X8_othersSooner_64 v2 v3 v4 σ K Φ24) : Go p l e R s m args below meth c shC G 6 0 0 (MQ below (Qw shC G (RI (fun r t => t = σ ∧ K r))) args s 0 0 (Fr shC G)) 64 [(0, .ref (G.2.2 0)), (2, .int v2), (3, .int v3), (4, .int v4)] [] σ := by
  unfold J_X8_othersSooner_64 at h
  refine g_iinc (pc := 64) (lv2 := [(4, .int (v4 + 1)), (0, .ref (G.2.2 0)), (2, .int v2), (3, .int v3)]) C 3 dX8_othersSooner_64 ic_1 rfl (by decide) rfl ?_
  refine g_goto (pc := 67) (tgt := 24) C dX8_othersSooner_67 (by decide) ?_
  refine g_lv [1, 2, 3, 0] (lv2 := [(0, .ref (G.2.2 0)), (2, .int v2), (3, .int v3), (4, .int (v4 + 1))]) rfl ?_
  exact hΦ24 _ _ h
set_option maxHeartbeats 4000000 in
set_option maxRecDepth 100000 in
theorem k_X8_othersSooner_24 {v2 : Int32} {v3 : Int32} {v4 : Int32} {σ : St} {K : Int32 → Prop} (C : Cx p R s m args meth c shC G cX8_othersSooner 6 4 RX8 (some .int) 0 0) (h : L_X8_othersSooner_24 v2 σ K v3 v4) : Go p l e R s m args below meth c shC G 6 0 0 (MQ below (Qw shC G (RI (fun r t => t = σ ∧ K r))) args s 0 0 (Fr shC G)) 24 [(0, .ref (G.2.2 0)), (2, .int v2), (3, .int v3), (4, .int v4)] [] σ := by
  obtain ⟨n_, h⟩ := h
  induction n_ generalizing v3 v4 with
  | zero => exact h.elim
  | succ n_ ih =>
    replace h : B_X8_othersSooner_24 v2 σ K (it2 (B_X8_othersSooner_24 v2 σ K) n_) v3 v4 := h
    unfold B_X8_othersSooner_24 at h
    refine g_iload (pc := 24) C 3 dX8_othersSooner_24 rfl ?_
    refine g_aload_n (pc := 26) C 0 dX8_othersSooner_26 rfl rfl ?_
    refine get_X8_3 (pc := 27) C rfl tw_197 dX8_othersSooner_27 ?_
    refine get_X7_2 (pc := 30) C rfl tw_76 dX8_othersSooner_30 ?_
    refine g_icmp_ge (pc := 33) (tgt := 70) C dX8_othersSooner_33 (by decide) (fun c_ => ?_) (fun c_ => ?_)
    · replace h := ite_t h c_
      refine g_iload_n (pc := 70) C 2 dX8_othersSooner_70 rfl rfl ?_
      exact g_iret (pc := 71) C dX8_othersSooner_71 ⟨_, rfl, ⟨rfl, h⟩⟩
    · replace h := ite_f h c_
      refine g_aload_n (pc := 36) C 0 dX8_othersSooner_36 rfl rfl ?_
      refine get_X8_3 (pc := 37) C rfl tw_197 dX8_othersSooner_37 ?_
      refine g_iload (pc := 40) C 3 dX8_othersSooner_40 rfl ?_
      refine g_iconst (pc := 42) (v := 1) C dX8_othersSooner_42 ic_1 ?_
      refine g_callVip (pc := 43) (As := [.int v4, .int 1]) (rest := []) C rfl rfl rfl rfl (M_X7_tenthsBy C.2.2.1 rfl h) CyX7_tenthsBy tw_404 tw_405 tw_406 (by decide) rfl rfl (Nat.le_of_ble_eq_true rfl) dX8_othersSooner_43 (fun r43 h => ?_)
      refine g_istore (pc := 46) (lv2 := [(5, .int r43), (0, .ref (G.2.2 0)), (2, .int v2), (3, .int v3), (4, .int v4)]) C dX8_othersSooner_46 (by decide) rfl ?_
      refine g_iload (pc := 48) C 0 dX8_othersSooner_48 rfl ?_
      refine g_bipush (pc := 50) (v := -9) C dX8_othersSooner_50 bp_m9 ?_
      refine g_icmp_eq (pc := 52) (tgt := 64) C dX8_othersSooner_52 (by decide) (fun c_ => ?_) (fun c_ => ?_)
      · replace h := ite_t h c_
        refine g_lv [1, 2, 3, 4] (lv2 := [(0, .ref (G.2.2 0)), (2, .int v2), (3, .int v3), (4, .int v4)]) rfl ?_
        exact k_X8_othersSooner_64 C (fun _ _ h_ => ih h_) h
      · replace h := ite_f h c_
        refine g_iload (pc := 55) C 0 dX8_othersSooner_55 rfl ?_
        refine g_iload_n (pc := 57) C 2 dX8_othersSooner_57 rfl rfl ?_
        refine g_icmp_ge (pc := 58) (tgt := 64) C dX8_othersSooner_58 (by decide) (fun c_ => ?_) (fun c_ => ?_)
        · replace h := ite_t h c_
          refine g_lv [1, 2, 3, 4] (lv2 := [(0, .ref (G.2.2 0)), (2, .int v2), (3, .int v3), (4, .int v4)]) rfl ?_
          exact k_X8_othersSooner_64 C (fun _ _ h_ => ih h_) h
        · replace h := ite_f h c_
          refine g_iinc (pc := 61) (lv2 := [(3, .int (v3 + 1)), (5, .int r43), (0, .ref (G.2.2 0)), (2, .int v2), (4, .int v4)]) C 3 dX8_othersSooner_61 ic_1 rfl (by decide) rfl ?_
          refine g_lv [2, 3, 0, 4] (lv2 := [(0, .ref (G.2.2 0)), (2, .int v2), (3, .int (v3 + 1)), (4, .int v4)]) rfl ?_
          exact k_X8_othersSooner_64 C (fun _ _ h_ => ih h_) h
set_option maxHeartbeats 4000000 in
set_option maxRecDepth 100000 in
theorem M_X8_othersSooner {l : Launch} {G : Gp} (hD : Dj shC G) {v1 : Int32} {σ : St} {K : Int32 → Prop} (h : wp_X8_othersSooner v1 σ K) : MC l shC G yX8_othersSooner cX8_othersSooner 6 (some .int) 4 [.ref (G.2.2 0), .int v1] σ (RI (fun r t => t = σ ∧ K r)) := by
  unfold wp_X8_othersSooner at h
  refine MC.of (by decide) hD (Nat.le_of_ble_eq_true rfl) ?_
  intro p e s m args below meth c C
  replace C : Cx p (rmD 4) s m args meth c shC G cX8_othersSooner 6 4 RX8 (some .int) 0 0 := C
  show Go p l e (rmD 4) s m args below meth c shC G 6 0 0 (MQ below (Qw shC G (RI (fun r t => t = σ ∧ K r))) args s 0 0 (Fr shC G)) 0 [(0, .ref (G.2.2 0)), (1, .int v1)] [] σ
  refine g_aload_n (pc := 0) C 0 dX8_othersSooner_0 rfl rfl ?_
  refine get_X8_3 (pc := 1) C rfl tw_197 dX8_othersSooner_1 ?_
  refine g_iload_n (pc := 4) C 1 dX8_othersSooner_4 rfl rfl ?_
  refine g_iconst (pc := 5) (v := 1) C dX8_othersSooner_5 ic_1 ?_
  refine g_callVip (pc := 6) (As := [.int v1, .int 1]) (rest := []) C rfl rfl rfl rfl (M_X7_tenthsBy C.2.2.1 rfl h) CyX7_tenthsBy tw_404 tw_405 tw_406 (by decide) rfl rfl (Nat.le_of_ble_eq_true rfl) dX8_othersSooner_6 (fun r6 h => ?_)
  refine g_istore_n (pc := 9) (lv2 := [(2, .int r6), (0, .ref (G.2.2 0)), (1, .int v1)]) C dX8_othersSooner_9 rfl (by decide) rfl ?_
  refine g_iload_n (pc := 10) C 0 dX8_othersSooner_10 rfl rfl ?_
  refine g_bipush (pc := 11) (v := -9) C dX8_othersSooner_11 bp_m9 ?_
  refine g_icmp_ne (pc := 13) (tgt := 19) C dX8_othersSooner_13 (by decide) (fun c_ => ?_) (fun c_ => ?_)
  · replace h := ite_f h c_
    refine g_iconst (pc := 19) (v := 0) C dX8_othersSooner_19 ic_0 ?_
    refine g_istore_n (pc := 20) (lv2 := [(3, .int 0), (2, .int r6), (0, .ref (G.2.2 0)), (1, .int v1)]) C dX8_othersSooner_20 rfl (by decide) rfl ?_
    refine g_iconst (pc := 21) (v := 0) C dX8_othersSooner_21 ic_0 ?_
    refine g_istore (pc := 22) (lv2 := [(4, .int 0), (3, .int 0), (2, .int r6), (0, .ref (G.2.2 0)), (1, .int v1)]) C dX8_othersSooner_22 (by decide) rfl ?_
    refine g_lv [3, 2, 1, 0] (lv2 := [(0, .ref (G.2.2 0)), (2, .int r6), (3, .int 0), (4, .int 0)]) rfl ?_
    exact k_X8_othersSooner_24 C  h
  · replace h := ite_t h c_
    refine g_bipush (pc := 16) (v := -9) C dX8_othersSooner_16 bp_m9 ?_
    exact g_iret (pc := 18) C dX8_othersSooner_18 ⟨_, rfl, ⟨rfl, h⟩⟩
set_option maxHeartbeats 4000000 in
set_option maxRecDepth 100000 in
theorem k_X8_mark_21 {σ : St} {K : Int32 → St → Prop} (C : Cx p R s m args meth c shC G cX8_mark 4 5 RX8 (some .int) 0 0) (h : J_X8_mark_21 σ K) : Go p l e R s m args below meth c shC G 4 0 0 (MQ below (Qw shC G (RI K)) args s 0 0 (Fr shC G)) 21 [] [] σ := by
  unfold J_X8_mark_21 at h
  refine g_iconst (pc := 21) (v := -1) C dX8_mark_21 ic_m1 ?_
  exact g_iret (pc := 22) C dX8_mark_22 ⟨_, rfl, h⟩
set_option maxHeartbeats 4000000 in
set_option maxRecDepth 100000 in
theorem M_X8_mark {l : Launch} {G : Gp} (hD : Dj shC G) {v1 : Int32} {v2 : Int32} {σ : St} {K : Int32 → St → Prop} (h : wp_X8_mark v1 v2 σ K) : MC l shC G yX8_mark cX8_mark 4 (some .int) 5 [.ref (G.2.2 0), .int v1, .int v2] σ (RI K) := by
  unfold wp_X8_mark at h
  refine MC.of (by decide) hD (Nat.le_of_ble_eq_true rfl) ?_
  intro p e s m args below meth c C
  replace C : Cx p (rmD 5) s m args meth c shC G cX8_mark 4 5 RX8 (some .int) 0 0 := C
  show Go p l e (rmD 5) s m args below meth c shC G 4 0 0 (MQ below (Qw shC G (RI K)) args s 0 0 (Fr shC G)) 0 [(0, .ref (G.2.2 0)), (1, .int v1), (2, .int v2)] [] σ
  refine g_aload_n (pc := 0) C 0 dX8_mark_0 rfl rfl ?_
  refine get_X8_3 (pc := 1) C rfl tw_197 dX8_mark_1 ?_
  refine g_iload_n (pc := 4) C 1 dX8_mark_4 rfl rfl ?_
  refine g_callVip (pc := 5) (As := [.int v1]) (rest := []) C rfl rfl rfl rfl (M_X7_has C.2.2.1 rfl h) CyX7_has tw_381 tw_382 tw_383 (by decide) rfl rfl (Nat.le_of_ble_eq_true rfl) dX8_mark_5 (fun r5 h => ?_)
  refine g_if_eq (pc := 8) (tgt := 21) C dX8_mark_8 (by decide) (fun c_ => ?_) (fun c_ => ?_)
  · replace h := ite_t h c_
    refine g_lv [] (lv2 := []) rfl ?_
    exact k_X8_mark_21 C  h
  · replace h := ite_f h c_
    refine g_iload_n (pc := 11) C 2 dX8_mark_11 rfl rfl ?_
    refine g_if_le (pc := 12) (tgt := 21) C dX8_mark_12 (by decide) (fun c_ => ?_) (fun c_ => ?_)
    · replace h := ite_t h c_
      refine g_lv [] (lv2 := []) rfl ?_
      exact k_X8_mark_21 C  h
    · replace h := ite_f h c_
      refine g_iload_n (pc := 15) C 2 dX8_mark_15 rfl rfl ?_
      refine g_bipush (pc := 16) (v := 6) C dX8_mark_16 bp_6 ?_
      refine g_icmp_lt (pc := 18) (tgt := 23) C dX8_mark_18 (by decide) (fun c_ => ?_) (fun c_ => ?_)
      · replace h := ite_t h c_
        refine g_aload_n (pc := 23) C 0 dX8_mark_23 rfl rfl ?_
        refine get_X8_3 (pc := 24) C rfl tw_197 dX8_mark_24 ?_
        refine get_X7_0 (pc := 27) C rfl tw_72 dX8_mark_27 ?_
        refine g_iload_n (pc := 30) C 1 dX8_mark_30 rfl rfl ?_
        obtain ⟨g_, h⟩ := h
        have hs31_ : shC[(28 + v1.toNatClampNeg)]? = some (0, 0, 0) := sh7_e (k := 25) rfl g_
        refine g_aldB (pc := 31) C (sh7_0 rfl) g_ dX8_mark_31 ?_
        refine g_astore_n (pc := 32) (lv2 := [(3, .ref (G.2.2 (28 + v1.toNatClampNeg))), (0, .ref (G.2.2 0)), (1, .int v1), (2, .int v2)]) C dX8_mark_32 rfl (by decide) rfl ?_
        refine g_aload_n (pc := 33) C 0 dX8_mark_33 rfl rfl ?_
        refine get_X0_0 (pc := 34) C hs31_ tw_42 dX8_mark_34 ?_
        refine g_iload_n (pc := 37) C 3 dX8_mark_37 rfl rfl ?_
        refine g_callSip (pc := 38) (As := [.int (σ.1 (28 + v1.toNatClampNeg) 0), .int v2]) (rest := []) C (M_X8_isOf C.2.2.1  h) CyX8_isOf tw_393 tw_394 (by decide) rfl rfl (Nat.le_of_ble_eq_true rfl) dX8_mark_38 (fun r38 h => ?_)
        refine g_if_ne (pc := 41) (tgt := 50) C dX8_mark_41 (by decide) (fun c_ => ?_) (fun c_ => ?_)
        · replace h := ite_f h c_
          refine g_iload_n (pc := 50) C 3 dX8_mark_50 rfl rfl ?_
          by_cases c0_ : v2 = 1
          · replace h := ite_t h c0_
            refine g_tabIn (pc := 51) (tgt := 80) (v := 1) C dX8_mark_51 (by rw [c0_]; rfl) (by decide) (by decide) rfl (by decide) ?_
            refine g_aload_n (pc := 80) C 1 dX8_mark_80 rfl rfl ?_
            refine g_aload_n (pc := 81) C 0 dX8_mark_81 rfl rfl ?_
            refine g_callVip (pc := 82) (As := [.ref (G.2.2 (28 + v1.toNatClampNeg))]) (rest := []) C rfl rfl rfl rfl (M_X8_greatestWhole C.2.2.1 hs31_ h) CyX8_greatestWhole tw_396 tw_398 ts_4 (by decide) rfl rfl (Nat.le_of_ble_eq_true rfl) dX8_mark_82 (fun r82 h => ?_)
            exact g_iret (pc := 85) C dX8_mark_85 ⟨_, rfl, h⟩
          replace h := ite_f h c0_
          by_cases c1_ : v2 = 2
          · replace h := ite_t h c1_
            refine g_tabIn (pc := 51) (tgt := 86) (v := 2) C dX8_mark_51 (by rw [c1_]; rfl) (by decide) (by decide) rfl (by decide) ?_
            refine g_bipush (pc := 86) (v := 20) C dX8_mark_86 bp_20 ?_
            refine g_aload_n (pc := 88) C 0 dX8_mark_88 rfl rfl ?_
            refine get_X0_3 (pc := 89) C hs31_ tw_50 dX8_mark_89 ?_
            refine g_isub (pc := 92) C dX8_mark_92 ?_
            exact g_iret (pc := 93) C dX8_mark_93 ⟨_, rfl, h⟩
          replace h := ite_f h c1_
          by_cases c2_ : v2 = 3
          · replace h := ite_t h c2_
            refine g_tabIn (pc := 51) (tgt := 94) (v := 3) C dX8_mark_51 (by rw [c2_]; rfl) (by decide) (by decide) rfl (by decide) ?_
            refine g_aload_n (pc := 94) C 1 dX8_mark_94 rfl rfl ?_
            refine get_X8_3 (pc := 95) C rfl tw_197 dX8_mark_95 ?_
            refine g_iload_n (pc := 98) C 2 dX8_mark_98 rfl rfl ?_
            refine g_iconst (pc := 99) (v := 1) C dX8_mark_99 ic_1 ?_
            refine g_callVip (pc := 100) (As := [.int v1, .int 1]) (rest := []) C rfl rfl rfl rfl (M_X7_tenthsBy C.2.2.1 rfl h) CyX7_tenthsBy tw_404 tw_405 tw_406 (by decide) rfl rfl (Nat.le_of_ble_eq_true rfl) dX8_mark_100 (fun r100 h => ?_)
            exact g_iret (pc := 103) C dX8_mark_103 ⟨_, rfl, h⟩
          replace h := ite_f h c2_
          by_cases c3_ : v2 = 4
          · replace h := ite_t h c3_
            refine g_tabIn (pc := 51) (tgt := 104) (v := 4) C dX8_mark_51 (by rw [c3_]; rfl) (by decide) (by decide) rfl (by decide) ?_
            refine g_aload_n (pc := 104) C 1 dX8_mark_104 rfl rfl ?_
            refine g_iload_n (pc := 105) C 2 dX8_mark_105 rfl rfl ?_
            refine g_callVip (pc := 106) (As := [.int v1]) (rest := []) C rfl rfl rfl rfl (M_X8_othersAsHeavy C.2.2.1  h) CyX8_othersAsHeavy tw_416 tw_418 ts_5 (by decide) rfl rfl (Nat.le_of_ble_eq_true rfl) dX8_mark_106 (fun r106 h => ?_)
            exact g_iret (pc := 109) C dX8_mark_109 ⟨_, rfl, h⟩
          replace h := ite_f h c3_
          refine g_tabOut (pc := 51) (tgt := 110) C dX8_mark_51 (by have e0_ := lv_neT c0_ (a := 1) (by decide); have e1_ := lv_neT c1_ (a := 2) (by decide); have e2_ := lv_neT c2_ (a := 3) (by decide); have e3_ := lv_neT c3_ (a := 4) (by decide); omega) (by decide) ?_
          refine g_aload_n (pc := 110) C 1 dX8_mark_110 rfl rfl ?_
          refine g_iload_n (pc := 111) C 2 dX8_mark_111 rfl rfl ?_
          refine g_callVip (pc := 112) (As := [.int v1]) (rest := []) C rfl rfl rfl rfl (M_X8_othersSooner C.2.2.1  h) CyX8_othersSooner tw_420 tw_422 ts_6 (by decide) rfl rfl (Nat.le_of_ble_eq_true rfl) dX8_mark_112 (fun r112 h => ?_)
          exact g_iret (pc := 115) C dX8_mark_115 ⟨_, rfl, h⟩
        · replace h := ite_t h c_
          refine g_aload_n (pc := 44) C 1 dX8_mark_44 rfl rfl ?_
          refine g_iconst (pc := 45) (v := 3) C dX8_mark_45 ic_3 ?_
          refine g_callVi (pc := 46) (As := [.int 3]) (rest := []) C rfl rfl rfl rfl (M_X8_find C.2.2.1  h) CyX8_find tw_251 tw_253 ts_1 (by decide) rfl rfl (Nat.le_of_ble_eq_true rfl) dX8_mark_46 (fun r46 t46 h => ?_)
          exact g_iret (pc := 49) C dX8_mark_49 ⟨_, rfl, h⟩
      · replace h := ite_f h c_
        refine g_lv [] (lv2 := []) rfl ?_
        exact k_X8_mark_21 C  h
set_option maxHeartbeats 4000000 in
set_option maxRecDepth 100000 in
theorem k_X8_mean_47 {k2 : Nat} {n2 : Nat} {v3 : Int64} {v5 : Int32} {σ : St} {K : Int32 → St → Prop} (C : Cx p R s m args meth c shC G cX8_mean 6 2 RX8 (some .int) 0 0) (hk2 : shC[k2]? = some (6, n2, 0)) (h : L_X8_mean_47 k2 n2 σ K v3 v5) : Go p l e R s m args below meth c shC G 6 0 0 (MQ below (Qw shC G (RI K)) args s 0 0 (Fr shC G)) 47 [(0, .ref (G.2.2 0)), (2, .ref (G.2.2 k2)), (3, .long v3), (5, .int v5)] [] σ := by
  obtain ⟨n_, h⟩ := h
  induction n_ generalizing v3 v5 with
  | zero => exact h.elim
  | succ n_ ih =>
    replace h : B_X8_mean_47 k2 n2 σ K (it2 (B_X8_mean_47 k2 n2 σ K) n_) v3 v5 := h
    unfold B_X8_mean_47 at h
    refine g_iload (pc := 47) C 3 dX8_mean_47 rfl ?_
    refine g_aload_n (pc := 49) C 1 dX8_mean_49 rfl rfl ?_
    refine get_X6_2 (pc := 50) C hk2 tw_186 dX8_mean_50 ?_
    refine g_icmp_ge (pc := 53) (tgt := 73) C dX8_mean_53 (by decide) (fun c_ => ?_) (fun c_ => ?_)
    · replace h := ite_t h c_
      refine g_aload_n (pc := 73) C 0 dX8_mean_73 rfl rfl ?_
      refine g_lload_n (pc := 74) C 2 dX8_mean_74 rfl rfl ?_
      refine g_aload_n (pc := 75) C 1 dX8_mean_75 rfl rfl ?_
      refine get_X6_2 (pc := 76) C hk2 tw_186 dX8_mean_76 ?_
      refine g_i2l (pc := 79) C dX8_mean_79 ?_
      obtain ⟨g_, h⟩ := h
      refine g_ldiv (pc := 80) C dX8_mean_80 g_ ?_
      refine g_l2i (pc := 81) C dX8_mean_81 ?_
      refine put_X8_12 (pc := 82) C rfl tw_206 dX8_mean_82 ?_
      refine g_iconst (pc := 85) (v := 1) C dX8_mean_85 ic_1 ?_
      exact g_iret (pc := 86) C dX8_mean_86 ⟨_, rfl, h⟩
    · replace h := ite_f h c_
      refine g_lload_n (pc := 56) C 2 dX8_mean_56 rfl rfl ?_
      refine g_aload_n (pc := 57) C 1 dX8_mean_57 rfl rfl ?_
      refine get_X6_0 (pc := 58) C hk2 tw_180 dX8_mean_58 ?_
      refine g_iload (pc := 61) C 3 dX8_mean_61 rfl ?_
      obtain ⟨g_, h⟩ := h
      refine g_iald (pc := 63) C (sh6_0 hk2) g_ dX8_mean_63 ?_
      refine g_i2l (pc := 64) C dX8_mean_64 ?_
      refine g_ladd (pc := 65) C dX8_mean_65 ?_
      refine g_lstore_n (pc := 66) (lv2 := [(3, .long (v3 + (σ.1 (k2 + 1) v5.toNatClampNeg).toInt64)), (0, .ref (G.2.2 0)), (2, .ref (G.2.2 k2)), (5, .int v5)]) C dX8_mean_66 rfl (by decide) rfl ?_
      refine g_iinc (pc := 67) (lv2 := [(5, .int (v5 + 1)), (3, .long (v3 + (σ.1 (k2 + 1) v5.toNatClampNeg).toInt64)), (0, .ref (G.2.2 0)), (2, .ref (G.2.2 k2))]) C 3 dX8_mean_67 ic_1 rfl (by decide) rfl ?_
      refine g_goto (pc := 70) (tgt := 47) C dX8_mean_70 (by decide) ?_
      refine g_lv [2, 3, 1, 0] (lv2 := [(0, .ref (G.2.2 0)), (2, .ref (G.2.2 k2)), (3, .long (v3 + (σ.1 (k2 + 1) v5.toNatClampNeg).toInt64)), (5, .int (v5 + 1))]) rfl ?_
      exact ih h
set_option maxHeartbeats 4000000 in
set_option maxRecDepth 100000 in
theorem M_X8_mean {l : Launch} {G : Gp} (hD : Dj shC G) {v1 : Int32} {σ : St} {K : Int32 → St → Prop} (h : wp_X8_mean v1 σ K) : MC l shC G yX8_mean cX8_mean 6 (some .int) 2 [.ref (G.2.2 0), .int v1] σ (RI K) := by
  unfold wp_X8_mean at h
  refine MC.of (by decide) hD (Nat.le_of_ble_eq_true rfl) ?_
  intro p e s m args below meth c C
  replace C : Cx p (rmD 2) s m args meth c shC G cX8_mean 6 2 RX8 (some .int) 0 0 := C
  show Go p l e (rmD 2) s m args below meth c shC G 6 0 0 (MQ below (Qw shC G (RI K)) args s 0 0 (Fr shC G)) 0 [(0, .ref (G.2.2 0)), (1, .int v1)] [] σ
  refine g_iload_n (pc := 0) C 1 dX8_mean_0 rfl rfl ?_
  refine g_callSip (pc := 1) (As := [.int v1]) (rest := []) C (M_X8_isRow C.2.2.1  h) CyX8_isRow tw_244 tw_245 (by decide) rfl rfl (Nat.le_of_ble_eq_true rfl) dX8_mean_1 (fun r1 h => ?_)
  refine g_if_ne (pc := 4) (tgt := 9) C dX8_mean_4 (by decide) (fun c_ => ?_) (fun c_ => ?_)
  · replace h := ite_f h c_
    refine g_aload_n (pc := 9) C 0 dX8_mean_9 rfl rfl ?_
    refine get_X8_0 (pc := 10) C rfl tw_194 dX8_mean_10 ?_
    refine g_iload_n (pc := 13) C 1 dX8_mean_13 rfl rfl ?_
    obtain ⟨g_, h⟩ := h
    have hs14_ : shC[(5 + 2 * v1.toNatClampNeg)]? = some (6, 40, 0) := shR5 g_
    refine g_aldR (pc := 14) C rfl g_ dX8_mean_14 ?_
    refine g_astore_n (pc := 15) (lv2 := [(2, .ref (G.2.2 (5 + 2 * v1.toNatClampNeg))), (0, .ref (G.2.2 0)), (1, .int v1)]) C dX8_mean_15 rfl (by decide) rfl ?_
    refine g_aload_n (pc := 16) C 0 dX8_mean_16 rfl rfl ?_
    refine get_X6_1 (pc := 17) C hs14_ tw_183 dX8_mean_17 ?_
    refine g_if_ne (pc := 20) (tgt := 29) C dX8_mean_20 (by decide) (fun c_ => ?_) (fun c_ => ?_)
    · replace h := ite_f h c_
      refine g_aload_n (pc := 29) C 0 dX8_mean_29 rfl rfl ?_
      refine get_X6_2 (pc := 30) C hs14_ tw_186 dX8_mean_30 ?_
      refine g_if_ne (pc := 33) (tgt := 42) C dX8_mean_33 (by decide) (fun c_ => ?_) (fun c_ => ?_)
      · replace h := ite_f h c_
        refine g_lconst (pc := 42) (v := 0) C dX8_mean_42 lc_0 ?_
        refine g_lstore_n (pc := 43) (lv2 := [(3, .long (0 : Int64)), (2, .ref (G.2.2 (5 + 2 * v1.toNatClampNeg))), (0, .ref (G.2.2 0)), (1, .int v1)]) C dX8_mean_43 rfl (by decide) rfl ?_
        refine g_iconst (pc := 44) (v := 0) C dX8_mean_44 ic_0 ?_
        refine g_istore (pc := 45) (lv2 := [(5, .int 0), (3, .long (0 : Int64)), (2, .ref (G.2.2 (5 + 2 * v1.toNatClampNeg))), (0, .ref (G.2.2 0)), (1, .int v1)]) C dX8_mean_45 (by decide) rfl ?_
        refine g_lv [3, 2, 1, 0] (lv2 := [(0, .ref (G.2.2 0)), (2, .ref (G.2.2 (5 + 2 * v1.toNatClampNeg))), (3, .long (0 : Int64)), (5, .int 0)]) rfl ?_
        exact k_X8_mean_47 C hs14_ h
      · replace h := ite_t h c_
        refine g_aload_n (pc := 36) C 1 dX8_mean_36 rfl rfl ?_
        refine g_iconst (pc := 37) (v := 4) C dX8_mean_37 ic_4 ?_
        refine g_callVi (pc := 38) (As := [.int 4]) (rest := []) C rfl rfl rfl rfl (M_X8_find C.2.2.1  h) CyX8_find tw_251 tw_253 ts_1 (by decide) rfl rfl (Nat.le_of_ble_eq_true rfl) dX8_mean_38 (fun r38 t38 h => ?_)
        exact g_iret (pc := 41) C dX8_mean_41 ⟨_, rfl, h⟩
    · replace h := ite_t h c_
      refine g_aload_n (pc := 23) C 1 dX8_mean_23 rfl rfl ?_
      refine g_iconst (pc := 24) (v := 1) C dX8_mean_24 ic_1 ?_
      refine g_callVi (pc := 25) (As := [.int 1]) (rest := []) C rfl rfl rfl rfl (M_X8_find C.2.2.1  h) CyX8_find tw_251 tw_253 ts_1 (by decide) rfl rfl (Nat.le_of_ble_eq_true rfl) dX8_mean_25 (fun r25 t25 h => ?_)
      exact g_iret (pc := 28) C dX8_mean_28 ⟨_, rfl, h⟩
  · replace h := ite_t h c_
    refine g_iconst (pc := 7) (v := -1) C dX8_mean_7 ic_m1 ?_
    exact g_iret (pc := 8) C dX8_mean_8 ⟨_, rfl, h⟩
set_option maxHeartbeats 4000000 in
set_option maxRecDepth 100000 in
theorem M_X7_mendDeed {l : Launch} {G : Gp} (hD : Dj shC G) {v0 : Int32} {σ : St} {K : Int32 → Prop} (h : wp_X7_mendDeed v0 K) : MC l shC G yX7_mendDeed cX7_mendDeed 1 (some .int) 1 [.int v0] σ (RI (fun r t => t = σ ∧ K r)) := by
  unfold wp_X7_mendDeed at h
  refine MC.of (by decide) hD (Nat.le_of_ble_eq_true rfl) ?_
  intro p e s m args below meth c C
  replace C : Cx p (rmD 1) s m args meth c shC G cX7_mendDeed 1 1 RX7 (some .int) 0 0 := C
  show Go p l e (rmD 1) s m args below meth c shC G 1 0 0 (MQ below (Qw shC G (RI (fun r t => t = σ ∧ K r))) args s 0 0 (Fr shC G)) 0 [(0, .int v0)] [] σ
  refine g_bipush (pc := 0) (v := 42) C dX7_mendDeed_0 bp_42 ?_
  refine g_iload_n (pc := 2) C 0 dX7_mendDeed_2 rfl rfl ?_
  refine g_iadd (pc := 3) C dX7_mendDeed_3 ?_
  exact g_iret (pc := 4) C dX7_mendDeed_4 ⟨_, rfl, ⟨rfl, h⟩⟩
set_option maxHeartbeats 4000000 in
set_option maxRecDepth 100000 in
theorem M_X8_mend {l : Launch} {G : Gp} (hD : Dj shC G) {v1 : Int32} {σ : St} {K : Int32 → St → Prop} (h : wp_X8_mend v1 σ K) : MC l shC G yX8_mend cX8_mend 2 (some .int) 6 [.ref (G.2.2 0), .int v1] σ (RI K) := by
  unfold wp_X8_mend at h
  refine MC.of (by decide) hD (Nat.le_of_ble_eq_true rfl) ?_
  intro p e s m args below meth c C
  replace C : Cx p (rmD 6) s m args meth c shC G cX8_mend 2 6 RX8 (some .int) 0 0 := C
  show Go p l e (rmD 6) s m args below meth c shC G 2 0 0 (MQ below (Qw shC G (RI K)) args s 0 0 (Fr shC G)) 0 [(0, .ref (G.2.2 0)), (1, .int v1)] [] σ
  refine g_aload_n (pc := 0) C 0 dX8_mend_0 rfl rfl ?_
  refine get_X8_3 (pc := 1) C rfl tw_197 dX8_mend_1 ?_
  refine g_iload_n (pc := 4) C 1 dX8_mend_4 rfl rfl ?_
  refine g_callVip (pc := 5) (As := [.int v1]) (rest := []) C rfl rfl rfl rfl (M_X7_has C.2.2.1 rfl h) CyX7_has tw_381 tw_382 tw_383 (by decide) rfl rfl (Nat.le_of_ble_eq_true rfl) dX8_mend_5 (fun r5 h => ?_)
  refine g_if_ne (pc := 8) (tgt := 13) C dX8_mend_8 (by decide) (fun c_ => ?_) (fun c_ => ?_)
  · replace h := ite_f h c_
    refine g_aload_n (pc := 13) C 0 dX8_mend_13 rfl rfl ?_
    refine get_X8_3 (pc := 14) C rfl tw_197 dX8_mend_14 ?_
    refine get_X7_0 (pc := 17) C rfl tw_72 dX8_mend_17 ?_
    refine g_iload_n (pc := 20) C 1 dX8_mend_20 rfl rfl ?_
    obtain ⟨g_, h⟩ := h
    have hs21_ : shC[(28 + v1.toNatClampNeg)]? = some (0, 0, 0) := sh7_e (k := 25) rfl g_
    refine g_aldB (pc := 21) C (sh7_0 rfl) g_ dX8_mend_21 ?_
    refine get_X0_5 (pc := 22) C hs21_ tw_55 dX8_mend_22 ?_
    refine g_if_ne (pc := 25) (tgt := 31) C dX8_mend_25 (by decide) (fun c_ => ?_) (fun c_ => ?_)
    · replace h := ite_f h c_
      refine g_aload_n (pc := 31) C 0 dX8_mend_31 rfl rfl ?_
      refine get_X8_3 (pc := 32) C rfl tw_197 dX8_mend_32 ?_
      refine g_callVip (pc := 35) (As := []) (rest := []) C rfl rfl rfl rfl (M_X7_roomLeft C.2.2.1 rfl h) CyX7_roomLeft tw_439 tw_440 tw_441 (by decide) rfl rfl (Nat.le_of_ble_eq_true rfl) dX8_mend_35 (fun r35 h => ?_)
      refine g_iconst (pc := 38) (v := 1) C dX8_mend_38 ic_1 ?_
      refine g_icmp_ge (pc := 39) (tgt := 45) C dX8_mend_39 (by decide) (fun c_ => ?_) (fun c_ => ?_)
      · replace h := ite_t h c_
        refine g_aload_n (pc := 45) C 0 dX8_mend_45 rfl rfl ?_
        refine get_X8_3 (pc := 46) C rfl tw_197 dX8_mend_46 ?_
        refine g_iload_n (pc := 49) C 1 dX8_mend_49 rfl rfl ?_
        refine g_callSip (pc := 50) (As := [.int v1]) (rest := [.ref (G.2.2 25)]) C (M_X7_mendDeed C.2.2.1  h) CyX7_mendDeed tw_503 tw_504 (by decide) rfl rfl (Nat.le_of_ble_eq_true rfl) dX8_mend_50 (fun r50 h => ?_)
        refine g_callVv (pc := 53) (As := [.int r50]) (rest := []) C rfl rfl rfl rfl (M_X7_act C.2.2.1 rfl h) CyX7_act tw_446 tw_447 tw_448 (by decide) rfl rfl (Nat.le_of_ble_eq_true rfl) dX8_mend_53 (fun t53 h => ?_)
        refine g_iconst (pc := 56) (v := 1) C dX8_mend_56 ic_1 ?_
        exact g_iret (pc := 57) C dX8_mend_57 ⟨_, rfl, h⟩
      · replace h := ite_f h c_
        refine g_bipush (pc := 42) (v := -2) C dX8_mend_42 bp_m2 ?_
        exact g_iret (pc := 44) C dX8_mend_44 ⟨_, rfl, h⟩
    · replace h := ite_t h c_
      refine g_bipush (pc := 28) (v := -4) C dX8_mend_28 bp_m4 ?_
      exact g_iret (pc := 30) C dX8_mend_30 ⟨_, rfl, h⟩
  · replace h := ite_t h c_
    refine g_iconst (pc := 11) (v := -1) C dX8_mend_11 ic_m1 ?_
    exact g_iret (pc := 12) C dX8_mend_12 ⟨_, rfl, h⟩
set_option maxHeartbeats 4000000 in
set_option maxRecDepth 100000 in
theorem k_X8_refuseSlips_29 {σ : St} {K : Int32 → Prop} (C : Cx p R s m args meth c shC G cX8_refuseSlips 5 3 RX8 (some .int) 0 0) (h : J_X8_refuseSlips_29 σ K) : Go p l e R s m args below meth c shC G 5 0 0 (MQ below (Qw shC G (RI (fun r t => t = σ ∧ K r))) args s 0 0 (Fr shC G)) 29 [] [] σ := by
  unfold J_X8_refuseSlips_29 at h
  refine g_iconst (pc := 29) (v := -1) C dX8_refuseSlips_29 ic_m1 ?_
  exact g_iret (pc := 30) C dX8_refuseSlips_30 ⟨_, rfl, ⟨rfl, h⟩⟩
set_option maxHeartbeats 4000000 in
set_option maxRecDepth 100000 in
theorem M_X8_refuseSlips {l : Launch} {G : Gp} (hD : Dj shC G) {v1 : Int32} {v2 : Int32} {v3 : Int32} {v4 : Int32} {σ : St} {K : Int32 → Prop} (h : wp_X8_refuseSlips v1 v2 v3 v4 σ K) : MC l shC G yX8_refuseSlips cX8_refuseSlips 5 (some .int) 3 [.ref (G.2.2 0), .int v1, .int v2, .int v3, .int v4] σ (RI (fun r t => t = σ ∧ K r)) := by
  unfold wp_X8_refuseSlips at h
  refine MC.of (by decide) hD (Nat.le_of_ble_eq_true rfl) ?_
  intro p e s m args below meth c C
  replace C : Cx p (rmD 3) s m args meth c shC G cX8_refuseSlips 5 3 RX8 (some .int) 0 0 := C
  show Go p l e (rmD 3) s m args below meth c shC G 5 0 0 (MQ below (Qw shC G (RI (fun r t => t = σ ∧ K r))) args s 0 0 (Fr shC G)) 0 [(0, .ref (G.2.2 0)), (1, .int v1), (2, .int v2), (3, .int v3), (4, .int v4)] [] σ
  refine g_iload_n (pc := 0) C 2 dX8_refuseSlips_0 rfl rfl ?_
  refine g_callSip (pc := 1) (As := [.int v2]) (rest := []) C (M_X8_isPull C.2.2.1  h) CyX8_isPull tw_432 tw_433 (by decide) rfl rfl (Nat.le_of_ble_eq_true rfl) dX8_refuseSlips_1 (fun r1 h => ?_)
  refine g_if_eq (pc := 4) (tgt := 29) C dX8_refuseSlips_4 (by decide) (fun c_ => ?_) (fun c_ => ?_)
  · replace h := ite_t h c_
    refine g_lv [] (lv2 := []) rfl ?_
    exact k_X8_refuseSlips_29 C  h
  · replace h := ite_f h c_
    refine g_iload_n (pc := 7) C 3 dX8_refuseSlips_7 rfl rfl ?_
    refine g_if_lt (pc := 8) (tgt := 29) C dX8_refuseSlips_8 (by decide) (fun c_ => ?_) (fun c_ => ?_)
    · replace h := ite_t h c_
      refine g_lv [] (lv2 := []) rfl ?_
      exact k_X8_refuseSlips_29 C  h
    · replace h := ite_f h c_
      refine g_iload_n (pc := 11) C 3 dX8_refuseSlips_11 rfl rfl ?_
      refine g_bipush (pc := 12) (v := 8) C dX8_refuseSlips_12 bp_8 ?_
      refine g_icmp_gt (pc := 14) (tgt := 29) C dX8_refuseSlips_14 (by decide) (fun c_ => ?_) (fun c_ => ?_)
      · replace h := ite_t h c_
        refine g_lv [] (lv2 := []) rfl ?_
        exact k_X8_refuseSlips_29 C  h
      · replace h := ite_f h c_
        refine g_iload (pc := 17) C 4 dX8_refuseSlips_17 rfl ?_
        refine g_if_lt (pc := 19) (tgt := 29) C dX8_refuseSlips_19 (by decide) (fun c_ => ?_) (fun c_ => ?_)
        · replace h := ite_t h c_
          refine g_lv [] (lv2 := []) rfl ?_
          exact k_X8_refuseSlips_29 C  h
        · replace h := ite_f h c_
          refine g_iload (pc := 22) C 4 dX8_refuseSlips_22 rfl ?_
          refine g_bipush (pc := 24) (v := 12) C dX8_refuseSlips_24 bp_12 ?_
          refine g_icmp_le (pc := 26) (tgt := 31) C dX8_refuseSlips_26 (by decide) (fun c_ => ?_) (fun c_ => ?_)
          · replace h := ite_t h c_
            refine g_aload_n (pc := 31) C 0 dX8_refuseSlips_31 rfl rfl ?_
            refine g_iload_n (pc := 32) C 1 dX8_refuseSlips_32 rfl rfl ?_
            refine g_callVip (pc := 33) (As := [.int v1]) (rest := []) C rfl rfl rfl rfl (M_X8_refuseBell C.2.2.1  h) CyX8_refuseBell tw_435 tw_437 ts_7 (by decide) rfl rfl (Nat.le_of_ble_eq_true rfl) dX8_refuseSlips_33 (fun r33 h => ?_)
            exact g_iret (pc := 36) C dX8_refuseSlips_36 ⟨_, rfl, ⟨rfl, h⟩⟩
          · replace h := ite_f h c_
            refine g_lv [] (lv2 := []) rfl ?_
            exact k_X8_refuseSlips_29 C  h
set_option maxHeartbeats 4000000 in
set_option maxRecDepth 100000 in
theorem k_J7_fill_d0a16_6 {k0 : Nat} {n0 : Nat} {v1 : Int64} {v3 : Int32} {v4 : Int32} {σ : St} {K : St → Prop} (C : Cx p R s m args meth c shC G cJ7_fill_d0a16 5 1 RJ7 none 0 0) (hk0 : shC[k0]? = some (12, n0, 0)) (h : L_J7_fill_d0a16_6 k0 n0 v1 v4 K v3 σ) : Go p l e R s m args below meth c shC G 5 0 0 (MQ below (Qw shC G (RV K)) args s 0 0 (Fr shC G)) 6 [(0, .ref (G.2.2 k0)), (1, .long v1), (3, .int v3), (4, .int v4)] [] σ := by
  obtain ⟨n_, h⟩ := h
  induction n_ generalizing v3 σ with
  | zero => exact h.elim
  | succ n_ ih =>
    replace h : B_J7_fill_d0a16_6 k0 n0 v1 v4 K (it2 (B_J7_fill_d0a16_6 k0 n0 v1 v4 K) n_) v3 σ := h
    unfold B_J7_fill_d0a16_6 at h
    refine g_iload_n (pc := 6) C 2 dJ7_fill_d0a16_6 rfl rfl ?_
    refine g_iload (pc := 7) C 3 dJ7_fill_d0a16_7 rfl ?_
    refine g_icmp_ge (pc := 9) (tgt := 22) C dJ7_fill_d0a16_9 (by decide) (fun c_ => ?_) (fun c_ => ?_)
    · replace h := ite_t h c_
      exact g_vret (pc := 22) C dJ7_fill_d0a16_22 ⟨rfl, h⟩
    · replace h := ite_f h c_
      refine g_aload_n (pc := 12) C 0 dJ7_fill_d0a16_12 rfl rfl ?_
      refine g_iload_n (pc := 13) C 2 dJ7_fill_d0a16_13 rfl rfl ?_
      refine g_lload_n (pc := 14) C 1 dJ7_fill_d0a16_14 rfl rfl ?_
      obtain ⟨g_, h⟩ := h
      refine g_last (pc := 15) C hk0 g_ dJ7_fill_d0a16_15 ?_
      refine g_iinc (pc := 16) (lv2 := [(3, .int (v3 + 1)), (0, .ref (G.2.2 k0)), (1, .long v1), (4, .int v4)]) C 2 dJ7_fill_d0a16_16 ic_1 rfl (by decide) rfl ?_
      refine g_goto (pc := 19) (tgt := 6) C dJ7_fill_d0a16_19 (by decide) ?_
      refine g_lv [1, 2, 0, 3] (lv2 := [(0, .ref (G.2.2 k0)), (1, .long v1), (3, .int (v3 + 1)), (4, .int v4)]) rfl ?_
      exact ih h
set_option maxHeartbeats 4000000 in
set_option maxRecDepth 100000 in
theorem M_J7_fill_d0a16 {l : Launch} {G : Gp} (hD : Dj shC G) {k0 : Nat} {n0 : Nat} {v1 : Int64} {σ : St} {K : St → Prop} (hk0 : shC[k0]? = some (12, n0, 0)) (h : wp_J7_fill_d0a16 k0 n0 v1 σ K) : MC l shC G yJ7_fill_d0a16 cJ7_fill_d0a16 5 none 1 [.ref (G.2.2 k0), .long v1] σ (RV K) := by
  unfold wp_J7_fill_d0a16 at h
  refine MC.of (by decide) hD (Nat.le_of_ble_eq_true rfl) ?_
  intro p e s m args below meth c C
  replace C : Cx p (rmD 1) s m args meth c shC G cJ7_fill_d0a16 5 1 RJ7 none 0 0 := C
  show Go p l e (rmD 1) s m args below meth c shC G 5 0 0 (MQ below (Qw shC G (RV K)) args s 0 0 (Fr shC G)) 0 [(0, .ref (G.2.2 k0)), (1, .long v1)] [] σ
  refine g_iconst (pc := 0) (v := 0) C dJ7_fill_d0a16_0 ic_0 ?_
  refine g_istore_n (pc := 1) (lv2 := [(3, .int 0), (0, .ref (G.2.2 k0)), (1, .long v1)]) C dJ7_fill_d0a16_1 rfl (by decide) rfl ?_
  refine g_aload_n (pc := 2) C 1 dJ7_fill_d0a16_2 rfl rfl ?_
  refine g_alen12 (pc := 3) C hk0 dJ7_fill_d0a16_3 ?_
  refine g_istore (pc := 4) (lv2 := [(4, .int (nI n0)), (3, .int 0), (0, .ref (G.2.2 k0)), (1, .long v1)]) C dJ7_fill_d0a16_4 (by decide) rfl ?_
  refine g_lv [2, 3, 1, 0] (lv2 := [(0, .ref (G.2.2 k0)), (1, .long v1), (3, .int 0), (4, .int (nI n0))]) rfl ?_
  exact k_J7_fill_d0a16_6 C hk0 h
set_option maxHeartbeats 4000000 in
set_option maxRecDepth 100000 in
theorem k_X2_begin_33 {σ : St} {K : St → Prop} (C : Cx p R s m args meth c shC G cX2_begin 2 2 RX2 none 0 0) (h : J_X2_begin_33 σ K) : Go p l e R s m args below meth c shC G 2 0 0 (MQ below (Qw shC G (RV K)) args s 0 0 (Fr shC G)) 33 [] [] σ := by
  unfold J_X2_begin_33 at h
  exact g_vret (pc := 33) C dX2_begin_33 ⟨rfl, h⟩
set_option maxHeartbeats 4000000 in
set_option maxRecDepth 100000 in
theorem M_X2_begin {l : Launch} {G : Gp} (hD : Dj shC G) {v1 : Int32} {σ : St} {K : St → Prop} (h : wp_X2_begin v1 σ K) : MC l shC G yX2_begin cX2_begin 2 none 2 [.ref (G.2.2 79), .int v1] σ (RV K) := by
  unfold wp_X2_begin at h
  refine MC.of (by decide) hD (Nat.le_of_ble_eq_true rfl) ?_
  intro p e s m args below meth c C
  replace C : Cx p (rmD 2) s m args meth c shC G cX2_begin 2 2 RX2 none 0 0 := C
  show Go p l e (rmD 2) s m args below meth c shC G 2 0 0 (MQ below (Qw shC G (RV K)) args s 0 0 (Fr shC G)) 0 [(0, .ref (G.2.2 79)), (1, .int v1)] [] σ
  refine g_aload_n (pc := 0) C 0 dX2_begin_0 rfl rfl ?_
  refine get_X2_0 (pc := 1) C rfl tw_147 dX2_begin_1 ?_
  refine g_lconst (pc := 4) (v := 0) C dX2_begin_4 lc_0 ?_
  refine g_callSv (pc := 5) (As := [.ref (G.2.2 80), .long (0 : Int64)]) (rest := []) C (M_J7_fill_d0a16 C.2.2.1 rfl h) CyJ7_fill_d0a16 tw_571 tw_572 (by decide) rfl rfl (Nat.le_of_ble_eq_true rfl) dX2_begin_5 (fun t5 h => ?_)
  refine g_aload_n (pc := 8) C 0 dX2_begin_8 rfl rfl ?_
  refine get_X2_1 (pc := 9) C rfl tw_149 dX2_begin_9 ?_
  refine g_lconst (pc := 12) (v := 0) C dX2_begin_12 lc_0 ?_
  refine g_callSv (pc := 13) (As := [.ref (G.2.2 81), .long (0 : Int64)]) (rest := []) C (M_J7_fill_d0a16 C.2.2.1 rfl h) CyJ7_fill_d0a16 tw_571 tw_572 (by decide) rfl rfl (Nat.le_of_ble_eq_true rfl) dX2_begin_13 (fun t13 h => ?_)
  refine g_iload_n (pc := 16) C 1 dX2_begin_16 rfl rfl ?_
  refine g_if_lt (pc := 17) (tgt := 33) C dX2_begin_17 (by decide) (fun c_ => ?_) (fun c_ => ?_)
  · replace h := ite_t h c_
    refine g_lv [] (lv2 := []) rfl ?_
    exact k_X2_begin_33 C  h
  · replace h := ite_f h c_
    refine g_iload_n (pc := 20) C 1 dX2_begin_20 rfl rfl ?_
    refine g_bipush (pc := 21) (v := 21) C dX2_begin_21 bp_21 ?_
    refine g_icmp_ge (pc := 23) (tgt := 33) C dX2_begin_23 (by decide) (fun c_ => ?_) (fun c_ => ?_)
    · replace h := ite_t h c_
      refine g_lv [] (lv2 := []) rfl ?_
      exact k_X2_begin_33 C  h
    · replace h := ite_f h c_
      refine g_aload_n (pc := 26) C 0 dX2_begin_26 rfl rfl ?_
      refine get_X2_0 (pc := 27) C rfl tw_147 dX2_begin_27 ?_
      refine g_iload_n (pc := 30) C 1 dX2_begin_30 rfl rfl ?_
      refine g_lconst (pc := 31) (v := 1) C dX2_begin_31 lc_1 ?_
      obtain ⟨g_, h⟩ := h
      refine g_last (pc := 32) C rfl g_ dX2_begin_32 ?_
      refine g_lv [] (lv2 := []) rfl ?_
      exact k_X2_begin_33 C  h
set_option maxHeartbeats 4000000 in
set_option maxRecDepth 100000 in
theorem k_X2_spread_44 {v1 : Int32} {v2 : Int32} {v3 : Int64} {v5 : Int32} {σ : St} {K : St → Prop} {Φ3 : Int32 → St → Prop} (C : Cx p R s m args meth c shC G cX2_spread 7 3 RX2 none 0 0) (hΦ3 : ∀ (v5' : Int32) (σ' : St), Φ3 v5' σ' → Go p l e R s m args below meth c shC G 7 0 0 (MQ below (Qw shC G (RV K)) args s 0 0 (Fr shC G)) 3 [(0, .ref (G.2.2 79)), (1, .int v1), (2, .int v2), (3, .long v3), (5, .int (v5'))] [] σ') (h : J_X2_spread_44 v1 v2 v3 v5 σ K Φ3) : Go p l e R s m args below meth c shC G 7 0 0 (MQ below (Qw shC G (RV K)) args s 0 0 (Fr shC G)) 44 [(0, .ref (G.2.2 79)), (1, .int v1), (2, .int v2), (3, .long v3), (5, .int v5)] [] σ := by
  unfold J_X2_spread_44 at h
  refine g_iinc (pc := 44) (lv2 := [(5, .int (v5 + 1)), (0, .ref (G.2.2 79)), (1, .int v1), (2, .int v2), (3, .long v3)]) C 4 dX2_spread_44 ic_1 rfl (by decide) rfl ?_
  refine g_goto (pc := 47) (tgt := 3) C dX2_spread_47 (by decide) ?_
  refine g_lv [1, 2, 3, 4, 0] (lv2 := [(0, .ref (G.2.2 79)), (1, .int v1), (2, .int v2), (3, .long v3), (5, .int (v5 + 1))]) rfl ?_
  exact hΦ3 _ _ h
set_option maxHeartbeats 4000000 in
set_option maxRecDepth 100000 in
theorem k_X2_spread_3 {v1 : Int32} {v2 : Int32} {v3 : Int64} {v5 : Int32} {σ : St} {K : St → Prop} (C : Cx p R s m args meth c shC G cX2_spread 7 3 RX2 none 0 0) (h : L_X2_spread_3 v1 v2 v3 K v5 σ) : Go p l e R s m args below meth c shC G 7 0 0 (MQ below (Qw shC G (RV K)) args s 0 0 (Fr shC G)) 3 [(0, .ref (G.2.2 79)), (1, .int v1), (2, .int v2), (3, .long v3), (5, .int v5)] [] σ := by
  obtain ⟨n_, h⟩ := h
  induction n_ generalizing v5 σ with
  | zero => exact h.elim
  | succ n_ ih =>
    replace h : B_X2_spread_3 v1 v2 v3 K (it2 (B_X2_spread_3 v1 v2 v3 K) n_) v5 σ := h
    unfold B_X2_spread_3 at h
    refine g_iload (pc := 3) C 4 dX2_spread_3 rfl ?_
    refine g_bipush (pc := 5) (v := 21) C dX2_spread_5 bp_21 ?_
    refine g_icmp_ge (pc := 7) (tgt := 50) C dX2_spread_7 (by decide) (fun c_ => ?_) (fun c_ => ?_)
    · replace h := ite_t h c_
      exact g_vret (pc := 50) C dX2_spread_50 ⟨rfl, h⟩
    · replace h := ite_f h c_
      refine g_iload_n (pc := 10) C 1 dX2_spread_10 rfl rfl ?_
      refine g_iload (pc := 11) C 4 dX2_spread_11 rfl ?_
      refine g_iload_n (pc := 13) C 2 dX2_spread_13 rfl rfl ?_
      refine g_callSNip (pc := 14) (As := [.int v1, .int v5, .int v2]) (rest := []) C (M_X8_after C.2.2.1  h) CyX8_after (List.mem_of_getElem? (i := 8) rfl) tw_401 (by decide) rfl rfl (Nat.le_of_ble_eq_true rfl) dX2_spread_14 (fun r14 h => ?_)
      refine g_istore (pc := 17) (lv2 := [(6, .int r14), (0, .ref (G.2.2 79)), (1, .int v1), (2, .int v2), (3, .long v3), (5, .int v5)]) C dX2_spread_17 (by decide) rfl ?_
      refine g_iload (pc := 19) C 0 dX2_spread_19 rfl ?_
      refine g_iconst (pc := 21) (v := -1) C dX2_spread_21 ic_m1 ?_
      refine g_icmp_eq (pc := 22) (tgt := 44) C dX2_spread_22 (by decide) (fun c_ => ?_) (fun c_ => ?_)
      · replace h := ite_t h c_
        refine g_lv [1, 2, 3, 4, 5] (lv2 := [(0, .ref (G.2.2 79)), (1, .int v1), (2, .int v2), (3, .long v3), (5, .int v5)]) rfl ?_
        exact k_X2_spread_44 C (fun _ _ h_ => ih h_) h
      · replace h := ite_f h c_
        refine g_aload_n (pc := 25) C 1 dX2_spread_25 rfl rfl ?_
        refine get_X2_1 (pc := 26) C rfl tw_149 dX2_spread_26 ?_
        refine g_iload (pc := 29) C 0 dX2_spread_29 rfl ?_
        refine g_dup2 (pc := 31) C dX2_spread_31 rfl rfl ?_
        obtain ⟨g_, h⟩ := h
        refine g_lald (pc := 32) C rfl g_ dX2_spread_32 ?_
        refine g_aload_n (pc := 33) C 1 dX2_spread_33 rfl rfl ?_
        refine get_X2_0 (pc := 34) C rfl tw_147 dX2_spread_34 ?_
        refine g_iload (pc := 37) C 5 dX2_spread_37 rfl ?_
        obtain ⟨g_, h⟩ := h
        refine g_lald (pc := 39) C rfl g_ dX2_spread_39 ?_
        refine g_lload_n (pc := 40) C 4 dX2_spread_40 rfl rfl ?_
        refine g_lmul (pc := 41) C dX2_spread_41 ?_
        refine g_ladd (pc := 42) C dX2_spread_42 ?_
        obtain ⟨g_, h⟩ := h
        refine g_last (pc := 43) C rfl g_ dX2_spread_43 ?_
        refine g_lv [1, 2, 3, 4, 5] (lv2 := [(0, .ref (G.2.2 79)), (1, .int v1), (2, .int v2), (3, .long v3), (5, .int v5)]) rfl ?_
        exact k_X2_spread_44 C (fun _ _ h_ => ih h_) h
set_option maxHeartbeats 4000000 in
set_option maxRecDepth 100000 in
theorem M_X2_spread {l : Launch} {G : Gp} (hD : Dj shC G) {v1 : Int32} {v2 : Int32} {v3 : Int64} {σ : St} {K : St → Prop} (h : wp_X2_spread v1 v2 v3 σ K) : MC l shC G yX2_spread cX2_spread 7 none 3 [.ref (G.2.2 79), .int v1, .int v2, .long v3] σ (RV K) := by
  unfold wp_X2_spread at h
  refine MC.of (by decide) hD (Nat.le_of_ble_eq_true rfl) ?_
  intro p e s m args below meth c C
  replace C : Cx p (rmD 3) s m args meth c shC G cX2_spread 7 3 RX2 none 0 0 := C
  show Go p l e (rmD 3) s m args below meth c shC G 7 0 0 (MQ below (Qw shC G (RV K)) args s 0 0 (Fr shC G)) 0 [(0, .ref (G.2.2 79)), (1, .int v1), (2, .int v2), (3, .long v3)] [] σ
  refine g_iconst (pc := 0) (v := 0) C dX2_spread_0 ic_0 ?_
  refine g_istore (pc := 1) (lv2 := [(5, .int 0), (0, .ref (G.2.2 79)), (1, .int v1), (2, .int v2), (3, .long v3)]) C dX2_spread_1 (by decide) rfl ?_
  refine g_lv [1, 2, 3, 4, 0] (lv2 := [(0, .ref (G.2.2 79)), (1, .int v1), (2, .int v2), (3, .long v3), (5, .int 0)]) rfl ?_
  exact k_X2_spread_3 C  h
set_option maxHeartbeats 4000000 in
set_option maxRecDepth 100000 in
theorem M_X2_turn {l : Launch} {G : Gp} (hD : Dj shC G) {σ : St} {K : St → Prop} (h : wp_X2_turn σ K) : MC l shC G yX2_turn cX2_turn 1 none 2 [.ref (G.2.2 79)] σ (RV K) := by
  unfold wp_X2_turn at h
  refine MC.of (by decide) hD (Nat.le_of_ble_eq_true rfl) ?_
  intro p e s m args below meth c C
  replace C : Cx p (rmD 2) s m args meth c shC G cX2_turn 1 2 RX2 none 0 0 := C
  show Go p l e (rmD 2) s m args below meth c shC G 1 0 0 (MQ below (Qw shC G (RV K)) args s 0 0 (Fr shC G)) 0 [(0, .ref (G.2.2 79))] [] σ
  refine g_aload_n (pc := 0) C 0 dX2_turn_0 rfl rfl ?_
  refine get_X2_1 (pc := 1) C rfl tw_149 dX2_turn_1 ?_
  refine g_iconst (pc := 4) (v := 0) C dX2_turn_4 ic_0 ?_
  refine g_aload_n (pc := 5) C 0 dX2_turn_5 rfl rfl ?_
  refine get_X2_0 (pc := 6) C rfl tw_147 dX2_turn_6 ?_
  refine g_iconst (pc := 9) (v := 0) C dX2_turn_9 ic_0 ?_
  refine g_bipush (pc := 10) (v := 21) C dX2_turn_10 bp_21 ?_
  obtain ⟨g1_, g2_, g3_, g4_, g5_, h⟩ := h
  refine g_copyl (pc := 12) C rfl rfl g1_ g2_ g3_ g4_ g5_ dX2_turn_12 tw_583 tw_298 tw_297 tw_13 (by decide) (Nat.le_of_ble_eq_true rfl) ?_
  refine g_aload_n (pc := 15) C 0 dX2_turn_15 rfl rfl ?_
  refine get_X2_1 (pc := 16) C rfl tw_149 dX2_turn_16 ?_
  refine g_lconst (pc := 19) (v := 0) C dX2_turn_19 lc_0 ?_
  refine g_callSv (pc := 20) (As := [.ref (G.2.2 81), .long (0 : Int64)]) (rest := []) C (M_J7_fill_d0a16 C.2.2.1 rfl h) CyJ7_fill_d0a16 tw_571 tw_572 (by decide) rfl rfl (Nat.le_of_ble_eq_true rfl) dX2_turn_20 (fun t20 h => ?_)
  exact g_vret (pc := 23) C dX2_turn_23 ⟨rfl, h⟩
set_option maxHeartbeats 4000000 in
set_option maxRecDepth 100000 in
theorem k_X8_slip_17 {k1 : Nat} {v2 : Int32} {v3 : Int32} {v4 : Int32} {v5 : Int64} {v7 : Int32} {σ : St} {K : Int64 → St → Prop} (C : Cx p R s m args meth c shC G cX8_slip 8 4 RX8 (some .long) 0 0) (hk1 : shC[k1]? = some (0, 0, 0)) (h : L_X8_slip_17 k1 v2 v3 v4 K v5 v7 σ) : Go p l e R s m args below meth c shC G 8 0 0 (MQ below (Qw shC G (RJ K)) args s 0 0 (Fr shC G)) 17 [(0, .ref (G.2.2 0)), (1, .ref (G.2.2 k1)), (2, .int v2), (3, .int v3), (4, .int v4), (5, .long v5), (7, .int v7)] [] σ := by
  obtain ⟨n_, h⟩ := h
  induction n_ generalizing v5 v7 σ with
  | zero => exact h.elim
  | succ n_ ih =>
    replace h : B_X8_slip_17 k1 v2 v3 v4 K (it3 (B_X8_slip_17 k1 v2 v3 v4 K) n_) v5 v7 σ := h
    unfold B_X8_slip_17 at h
    refine g_iload (pc := 17) C 6 dX8_slip_17 rfl ?_
    refine g_iload_n (pc := 19) C 3 dX8_slip_19 rfl rfl ?_
    refine g_icmp_ge (pc := 20) (tgt := 79) C dX8_slip_20 (by decide) (fun c_ => ?_) (fun c_ => ?_)
    · replace h := ite_t h c_
      refine g_lload (pc := 79) C 5 dX8_slip_79 rfl ?_
      exact g_lret (pc := 81) C dX8_slip_81 ⟨_, rfl, h⟩
    · replace h := ite_f h c_
      refine g_aload_n (pc := 23) C 0 dX8_slip_23 rfl rfl ?_
      refine get_X8_8 (pc := 24) C rfl tw_202 dX8_slip_24 ?_
      refine g_aload_n (pc := 27) C 1 dX8_slip_27 rfl rfl ?_
      refine get_X0_0 (pc := 28) C hk1 tw_42 dX8_slip_28 ?_
      refine g_iload_n (pc := 31) C 2 dX8_slip_31 rfl rfl ?_
      refine g_bipush (pc := 32) (v := 12) C dX8_slip_32 bp_12 ?_
      refine g_iload (pc := 34) C 4 dX8_slip_34 rfl ?_
      refine g_isub (pc := 36) C dX8_slip_36 ?_
      refine g_i2l (pc := 37) C dX8_slip_37 ?_
      refine g_callVv (pc := 38) (As := [.int (σ.1 k1 0), .int v2, .long ((12 - v4).toInt64)]) (rest := []) C rfl rfl rfl rfl (M_X2_spread C.2.2.1  h) CyX2_spread tw_574 tw_575 tw_576 (by decide) rfl rfl (Nat.le_of_ble_eq_true rfl) dX8_slip_38 (fun t38 h => ?_)
      refine g_aload_n (pc := 41) C 0 dX8_slip_41 rfl rfl ?_
      refine get_X8_8 (pc := 42) C rfl tw_202 dX8_slip_42 ?_
      refine g_aload_n (pc := 45) C 1 dX8_slip_45 rfl rfl ?_
      refine get_X0_0 (pc := 46) C hk1 tw_42 dX8_slip_46 ?_
      refine g_iload_n (pc := 49) C 2 dX8_slip_49 rfl rfl ?_
      refine g_iconst (pc := 50) (v := 1) C dX8_slip_50 ic_1 ?_
      refine g_iadd (pc := 51) C dX8_slip_51 ?_
      refine g_iload (pc := 52) C 4 dX8_slip_52 rfl ?_
      refine g_i2l (pc := 54) C dX8_slip_54 ?_
      refine g_callVv (pc := 55) (As := [.int (t38.1 k1 0), .int (v2 + 1), .long v4.toInt64]) (rest := []) C rfl rfl rfl rfl (M_X2_spread C.2.2.1  h) CyX2_spread tw_574 tw_575 tw_576 (by decide) rfl rfl (Nat.le_of_ble_eq_true rfl) dX8_slip_55 (fun t55 h => ?_)
      refine g_aload_n (pc := 58) C 0 dX8_slip_58 rfl rfl ?_
      refine get_X8_8 (pc := 59) C rfl tw_202 dX8_slip_59 ?_
      refine g_callVv (pc := 62) (As := []) (rest := []) C rfl rfl rfl rfl (M_X2_turn C.2.2.1  h) CyX2_turn tw_579 tw_580 tw_581 (by decide) rfl rfl (Nat.le_of_ble_eq_true rfl) dX8_slip_62 (fun t62 h => ?_)
      refine g_lload (pc := 65) C 5 dX8_slip_65 rfl ?_
      refine g_ldc2 (pc := 67) (v := 12) C dX8_slip_67 tw_788 ?_
      refine g_lmul (pc := 70) C dX8_slip_70 ?_
      refine g_lstore (pc := 71) (lv2 := [(5, .long (v5 * (12 : Int64))), (0, .ref (G.2.2 0)), (1, .ref (G.2.2 k1)), (2, .int v2), (3, .int v3), (4, .int v4), (7, .int v7)]) C dX8_slip_71 (by decide) rfl ?_
      refine g_iinc (pc := 73) (lv2 := [(7, .int (v7 + 1)), (5, .long (v5 * (12 : Int64))), (0, .ref (G.2.2 0)), (1, .ref (G.2.2 k1)), (2, .int v2), (3, .int v3), (4, .int v4)]) C 6 dX8_slip_73 ic_1 rfl (by decide) rfl ?_
      refine g_goto (pc := 76) (tgt := 17) C dX8_slip_76 (by decide) ?_
      refine g_lv [2, 3, 4, 5, 6, 1, 0] (lv2 := [(0, .ref (G.2.2 0)), (1, .ref (G.2.2 k1)), (2, .int v2), (3, .int v3), (4, .int v4), (5, .long (v5 * (12 : Int64))), (7, .int (v7 + 1))]) rfl ?_
      exact ih h
set_option maxHeartbeats 4000000 in
set_option maxRecDepth 100000 in
theorem M_X8_slip {l : Launch} {G : Gp} (hD : Dj shC G) {k1 : Nat} {v2 : Int32} {v3 : Int32} {v4 : Int32} {σ : St} {K : Int64 → St → Prop} (hk1 : shC[k1]? = some (0, 0, 0)) (h : wp_X8_slip k1 v2 v3 v4 σ K) : MC l shC G yX8_slip cX8_slip 8 (some .long) 4 [.ref (G.2.2 0), .ref (G.2.2 k1), .int v2, .int v3, .int v4] σ (RJ K) := by
  unfold wp_X8_slip at h
  refine MC.of (by decide) hD (Nat.le_of_ble_eq_true rfl) ?_
  intro p e s m args below meth c C
  replace C : Cx p (rmD 4) s m args meth c shC G cX8_slip 8 4 RX8 (some .long) 0 0 := C
  show Go p l e (rmD 4) s m args below meth c shC G 8 0 0 (MQ below (Qw shC G (RJ K)) args s 0 0 (Fr shC G)) 0 [(0, .ref (G.2.2 0)), (1, .ref (G.2.2 k1)), (2, .int v2), (3, .int v3), (4, .int v4)] [] σ
  refine g_aload_n (pc := 0) C 0 dX8_slip_0 rfl rfl ?_
  refine get_X8_8 (pc := 1) C rfl tw_202 dX8_slip_1 ?_
  refine g_aload_n (pc := 4) C 1 dX8_slip_4 rfl rfl ?_
  refine get_X0_3 (pc := 5) C hk1 tw_50 dX8_slip_5 ?_
  refine g_callVv (pc := 8) (As := [.int (σ.1 k1 3)]) (rest := []) C rfl rfl rfl rfl (M_X2_begin C.2.2.1  h) CyX2_begin tw_567 tw_568 tw_569 (by decide) rfl rfl (Nat.le_of_ble_eq_true rfl) dX8_slip_8 (fun t8 h => ?_)
  refine g_lconst (pc := 11) (v := 1) C dX8_slip_11 lc_1 ?_
  refine g_lstore (pc := 12) (lv2 := [(5, .long (1 : Int64)), (0, .ref (G.2.2 0)), (1, .ref (G.2.2 k1)), (2, .int v2), (3, .int v3), (4, .int v4)]) C dX8_slip_12 (by decide) rfl ?_
  refine g_iconst (pc := 14) (v := 0) C dX8_slip_14 ic_0 ?_
  refine g_istore (pc := 15) (lv2 := [(7, .int 0), (5, .long (1 : Int64)), (0, .ref (G.2.2 0)), (1, .ref (G.2.2 k1)), (2, .int v2), (3, .int v3), (4, .int v4)]) C dX8_slip_15 (by decide) rfl ?_
  refine g_lv [2, 3, 4, 5, 6, 1, 0] (lv2 := [(0, .ref (G.2.2 0)), (1, .ref (G.2.2 k1)), (2, .int v2), (3, .int v3), (4, .int v4), (5, .long (1 : Int64)), (7, .int 0)]) rfl ?_
  exact k_X8_slip_17 C hk1 h
set_option maxHeartbeats 4000000 in
set_option maxRecDepth 100000 in
theorem k_X8_tellParts_30 {σ : St} {K : Int32 → St → Prop} (C : Cx p R s m args meth c shC G cX8_tellParts 7 2 RX8 (some .int) 0 0) (h : J_X8_tellParts_30 σ K) : Go p l e R s m args below meth c shC G 7 0 0 (MQ below (Qw shC G (RI K)) args s 0 0 (Fr shC G)) 30 [] [] σ := by
  unfold J_X8_tellParts_30 at h
  refine g_iconst (pc := 30) (v := 1) C dX8_tellParts_30 ic_1 ?_
  exact g_iret (pc := 31) C dX8_tellParts_31 ⟨_, rfl, h⟩
set_option maxHeartbeats 4000000 in
set_option maxRecDepth 100000 in
theorem M_X8_tellParts {l : Launch} {G : Gp} (hD : Dj shC G) {v1 : Int64} {v3 : Int64} {σ : St} {K : Int32 → St → Prop} (h : wp_X8_tellParts v1 v3 σ K) : MC l shC G yX8_tellParts cX8_tellParts 7 (some .int) 2 [.ref (G.2.2 0), .long v1, .long v3] σ (RI K) := by
  unfold wp_X8_tellParts at h
  refine MC.of (by decide) hD (Nat.le_of_ble_eq_true rfl) ?_
  intro p e s m args below meth c C
  replace C : Cx p (rmD 2) s m args meth c shC G cX8_tellParts 7 2 RX8 (some .int) 0 0 := C
  show Go p l e (rmD 2) s m args below meth c shC G 7 0 0 (MQ below (Qw shC G (RI K)) args s 0 0 (Fr shC G)) 0 [(0, .ref (G.2.2 0)), (1, .long v1), (3, .long v3)] [] σ
  refine g_lload_n (pc := 0) C 1 dX8_tellParts_0 rfl rfl ?_
  refine g_lload_n (pc := 1) C 2 dX8_tellParts_1 rfl rfl ?_
  refine g_callSlp (pc := 2) (As := [.long v1, .long v3]) (rest := []) C (M_X8_commonDivisor C.2.2.1  h) CyX8_commonDivisor tw_588 tw_589 (by decide) rfl rfl (Nat.le_of_ble_eq_true rfl) dX8_tellParts_2 (fun r2 h => ?_)
  refine g_lstore (pc := 5) (lv2 := [(5, .long r2), (0, .ref (G.2.2 0)), (1, .long v1), (3, .long v3)]) C dX8_tellParts_5 (by decide) rfl ?_
  refine g_lload (pc := 7) C 0 dX8_tellParts_7 rfl ?_
  refine g_lconst (pc := 9) (v := 0) C dX8_tellParts_9 lc_0 ?_
  refine g_lcmp (pc := 10) C dX8_tellParts_10 ?_
  refine g_if_eq (pc := 11) (tgt := 30) C dX8_tellParts_11 (by decide) (fun c_ => ?_) (fun c_ => ?_)
  · replace h := ite_t h c_
    refine g_lv [] (lv2 := []) rfl ?_
    exact k_X8_tellParts_30 C  h
  · replace h := ite_f h c_
    refine g_aload_n (pc := 14) C 1 dX8_tellParts_14 rfl rfl ?_
    refine g_lload_n (pc := 15) C 2 dX8_tellParts_15 rfl rfl ?_
    refine g_lload (pc := 16) C 0 dX8_tellParts_16 rfl ?_
    obtain ⟨g_, h⟩ := h
    refine g_ldiv (pc := 18) C dX8_tellParts_18 g_ ?_
    refine put_X8_13 (pc := 19) C rfl tw_207 dX8_tellParts_19 ?_
    refine g_aload_n (pc := 22) C 1 dX8_tellParts_22 rfl rfl ?_
    refine g_lload_n (pc := 23) C 3 dX8_tellParts_23 rfl rfl ?_
    refine g_lload (pc := 24) C 0 dX8_tellParts_24 rfl ?_
    obtain ⟨g_, h⟩ := h
    refine g_ldiv (pc := 26) C dX8_tellParts_26 g_ ?_
    refine put_X8_14 (pc := 27) C rfl tw_208 dX8_tellParts_27 ?_
    refine g_lv [] (lv2 := []) rfl ?_
    exact k_X8_tellParts_30 C  h
set_option maxHeartbeats 4000000 in
set_option maxRecDepth 100000 in
theorem k_X8_mid_44 {v6 : Int64} {v8 : Int64} {v10 : Int32} {σ : St} {K : Int32 → St → Prop} (C : Cx p R s m args meth c shC G cX8_mid 11 5 RX8 (some .int) 0 0) (h : L_X8_mid_44 v6 σ K v8 v10) : Go p l e R s m args below meth c shC G 11 0 0 (MQ below (Qw shC G (RI K)) args s 0 0 (Fr shC G)) 44 [(0, .ref (G.2.2 0)), (6, .long v6), (8, .long v8), (10, .int v10)] [] σ := by
  obtain ⟨n_, h⟩ := h
  induction n_ generalizing v8 v10 with
  | zero => exact h.elim
  | succ n_ ih =>
    replace h : B_X8_mid_44 v6 σ K (it2 (B_X8_mid_44 v6 σ K) n_) v8 v10 := h
    unfold B_X8_mid_44 at h
    refine g_iload (pc := 44) C 3 dX8_mid_44 rfl ?_
    refine g_bipush (pc := 46) (v := 21) C dX8_mid_46 bp_21 ?_
    refine g_icmp_ge (pc := 48) (tgt := 76) C dX8_mid_48 (by decide) (fun c_ => ?_) (fun c_ => ?_)
    · replace h := ite_t h c_
      refine g_aload_n (pc := 76) C 0 dX8_mid_76 rfl rfl ?_
      refine g_lload (pc := 77) C 2 dX8_mid_77 rfl ?_
      refine g_lload (pc := 79) C 1 dX8_mid_79 rfl ?_
      refine g_callVi (pc := 81) (As := [.long v8, .long v6]) (rest := []) C rfl rfl rfl rfl (M_X8_tellParts C.2.2.1  h) CyX8_tellParts tw_584 tw_586 ts_13 (by decide) rfl rfl (Nat.le_of_ble_eq_true rfl) dX8_mid_81 (fun r81 t81 h => ?_)
      exact g_iret (pc := 84) C dX8_mid_84 ⟨_, rfl, h⟩
    · replace h := ite_f h c_
      refine g_lload (pc := 51) C 2 dX8_mid_51 rfl ?_
      refine g_aload_n (pc := 53) C 0 dX8_mid_53 rfl rfl ?_
      refine get_X8_8 (pc := 54) C rfl tw_202 dX8_mid_54 ?_
      refine get_X2_0 (pc := 57) C rfl tw_148 dX8_mid_57 ?_
      refine g_iload (pc := 60) C 3 dX8_mid_60 rfl ?_
      obtain ⟨g_, h⟩ := h
      refine g_lald (pc := 62) C rfl g_ dX8_mid_62 ?_
      refine g_iload (pc := 63) C 3 dX8_mid_63 rfl ?_
      refine g_i2l (pc := 65) C dX8_mid_65 ?_
      refine g_lmul (pc := 66) C dX8_mid_66 ?_
      refine g_ladd (pc := 67) C dX8_mid_67 ?_
      refine g_lstore (pc := 68) (lv2 := [(8, .long (v8 + ((σ.2 80 v10.toNatClampNeg) * v10.toInt64))), (0, .ref (G.2.2 0)), (6, .long v6), (10, .int v10)]) C dX8_mid_68 (by decide) rfl ?_
      refine g_iinc (pc := 70) (lv2 := [(10, .int (v10 + 1)), (8, .long (v8 + ((σ.2 80 v10.toNatClampNeg) * v10.toInt64))), (0, .ref (G.2.2 0)), (6, .long v6)]) C 3 dX8_mid_70 ic_1 rfl (by decide) rfl ?_
      refine g_goto (pc := 73) (tgt := 44) C dX8_mid_73 (by decide) ?_
      refine g_lv [2, 3, 1, 0] (lv2 := [(0, .ref (G.2.2 0)), (6, .long v6), (8, .long (v8 + ((σ.2 80 v10.toNatClampNeg) * v10.toInt64))), (10, .int (v10 + 1))]) rfl ?_
      exact ih h
set_option maxHeartbeats 4000000 in
set_option maxRecDepth 100000 in
theorem M_X8_mid {l : Launch} {G : Gp} (hD : Dj shC G) {v1 : Int32} {v2 : Int32} {v3 : Int32} {v4 : Int32} {σ : St} {K : Int32 → St → Prop} (h : wp_X8_mid v1 v2 v3 v4 σ K) : MC l shC G yX8_mid cX8_mid 11 (some .int) 5 [.ref (G.2.2 0), .int v1, .int v2, .int v3, .int v4] σ (RI K) := by
  unfold wp_X8_mid at h
  refine MC.of (by decide) hD (Nat.le_of_ble_eq_true rfl) ?_
  intro p e s m args below meth c C
  replace C : Cx p (rmD 5) s m args meth c shC G cX8_mid 11 5 RX8 (some .int) 0 0 := C
  show Go p l e (rmD 5) s m args below meth c shC G 11 0 0 (MQ below (Qw shC G (RI K)) args s 0 0 (Fr shC G)) 0 [(0, .ref (G.2.2 0)), (1, .int v1), (2, .int v2), (3, .int v3), (4, .int v4)] [] σ
  refine g_aload_n (pc := 0) C 0 dX8_mid_0 rfl rfl ?_
  refine g_iload_n (pc := 1) C 1 dX8_mid_1 rfl rfl ?_
  refine g_iload_n (pc := 2) C 2 dX8_mid_2 rfl rfl ?_
  refine g_iload_n (pc := 3) C 3 dX8_mid_3 rfl rfl ?_
  refine g_iload (pc := 4) C 4 dX8_mid_4 rfl ?_
  refine g_callVip (pc := 6) (As := [.int v1, .int v2, .int v3, .int v4]) (rest := []) C rfl rfl rfl rfl (M_X8_refuseSlips C.2.2.1  h) CyX8_refuseSlips tw_780 tw_782 ts_22 (by decide) rfl rfl (Nat.le_of_ble_eq_true rfl) dX8_mid_6 (fun r6 h => ?_)
  refine g_istore (pc := 9) (lv2 := [(5, .int r6), (0, .ref (G.2.2 0)), (1, .int v1), (2, .int v2), (3, .int v3), (4, .int v4)]) C dX8_mid_9 (by decide) rfl ?_
  refine g_iload (pc := 11) C 0 dX8_mid_11 rfl ?_
  refine g_if_eq (pc := 13) (tgt := 19) C dX8_mid_13 (by decide) (fun c_ => ?_) (fun c_ => ?_)
  · replace h := ite_t h c_
    refine g_aload_n (pc := 19) C 1 dX8_mid_19 rfl rfl ?_
    refine g_aload_n (pc := 20) C 1 dX8_mid_20 rfl rfl ?_
    refine get_X8_3 (pc := 21) C rfl tw_197 dX8_mid_21 ?_
    refine get_X7_0 (pc := 24) C rfl tw_72 dX8_mid_24 ?_
    refine g_iload_n (pc := 27) C 2 dX8_mid_27 rfl rfl ?_
    obtain ⟨g_, h⟩ := h
    have hs28_ : shC[(28 + v1.toNatClampNeg)]? = some (0, 0, 0) := sh7_e (k := 25) rfl g_
    refine g_aldB (pc := 28) C (sh7_0 rfl) g_ dX8_mid_28 ?_
    refine g_iload_n (pc := 29) C 3 dX8_mid_29 rfl rfl ?_
    refine g_iload_n (pc := 30) C 4 dX8_mid_30 rfl rfl ?_
    refine g_iload (pc := 31) C 5 dX8_mid_31 rfl ?_
    refine g_callVl (pc := 33) (As := [.ref (G.2.2 (28 + v1.toNatClampNeg)), .int v2, .int v3, .int v4]) (rest := []) C rfl rfl rfl rfl (M_X8_slip C.2.2.1 hs28_ h) CyX8_slip tw_784 tw_786 ts_23 (by decide) rfl rfl (Nat.le_of_ble_eq_true rfl) dX8_mid_33 (fun r33 t33 h => ?_)
    refine g_lstore (pc := 36) (lv2 := [(6, .long r33), (5, .int r6), (0, .ref (G.2.2 0)), (1, .int v1), (2, .int v2), (3, .int v3), (4, .int v4)]) C dX8_mid_36 (by decide) rfl ?_
    refine g_lconst (pc := 38) (v := 0) C dX8_mid_38 lc_0 ?_
    refine g_lstore (pc := 39) (lv2 := [(8, .long (0 : Int64)), (6, .long r33), (5, .int r6), (0, .ref (G.2.2 0)), (1, .int v1), (2, .int v2), (3, .int v3), (4, .int v4)]) C dX8_mid_39 (by decide) rfl ?_
    refine g_iconst (pc := 41) (v := 0) C dX8_mid_41 ic_0 ?_
    refine g_istore (pc := 42) (lv2 := [(10, .int 0), (8, .long (0 : Int64)), (6, .long r33), (5, .int r6), (0, .ref (G.2.2 0)), (1, .int v1), (2, .int v2), (3, .int v3), (4, .int v4)]) C dX8_mid_42 (by decide) rfl ?_
    refine g_lv [4, 2, 1, 0] (lv2 := [(0, .ref (G.2.2 0)), (6, .long r33), (8, .long (0 : Int64)), (10, .int 0)]) rfl ?_
    exact k_X8_mid_44 C  h
  · replace h := ite_f h c_
    refine g_iload (pc := 16) C 0 dX8_mid_16 rfl ?_
    exact g_iret (pc := 18) C dX8_mid_18 ⟨_, rfl, h⟩
set_option maxHeartbeats 4000000 in
set_option maxRecDepth 100000 in
theorem k_X8_odds_44 {v6 : Int64} {v8 : Int64} {v10 : Int32} {σ : St} {K : Int32 → St → Prop} (C : Cx p R s m args meth c shC G cX8_odds 11 5 RX8 (some .int) 0 0) (h : L_X8_odds_44 v6 σ K v8 v10) : Go p l e R s m args below meth c shC G 11 0 0 (MQ below (Qw shC G (RI K)) args s 0 0 (Fr shC G)) 44 [(0, .ref (G.2.2 0)), (6, .long v6), (8, .long v8), (10, .int v10)] [] σ := by
  obtain ⟨n_, h⟩ := h
  induction n_ generalizing v8 v10 with
  | zero => exact h.elim
  | succ n_ ih =>
    replace h : B_X8_odds_44 v6 σ K (it2 (B_X8_odds_44 v6 σ K) n_) v8 v10 := h
    unfold B_X8_odds_44 at h
    refine g_iload (pc := 44) C 3 dX8_odds_44 rfl ?_
    refine g_bipush (pc := 46) (v := 21) C dX8_odds_46 bp_21 ?_
    refine g_icmp_ge (pc := 48) (tgt := 72) C dX8_odds_48 (by decide) (fun c_ => ?_) (fun c_ => ?_)
    · replace h := ite_t h c_
      refine g_aload_n (pc := 72) C 0 dX8_odds_72 rfl rfl ?_
      refine g_lload (pc := 73) C 2 dX8_odds_73 rfl ?_
      refine g_lload (pc := 75) C 1 dX8_odds_75 rfl ?_
      refine g_callVi (pc := 77) (As := [.long v8, .long v6]) (rest := []) C rfl rfl rfl rfl (M_X8_tellParts C.2.2.1  h) CyX8_tellParts tw_584 tw_586 ts_13 (by decide) rfl rfl (Nat.le_of_ble_eq_true rfl) dX8_odds_77 (fun r77 t77 h => ?_)
      exact g_iret (pc := 80) C dX8_odds_80 ⟨_, rfl, h⟩
    · replace h := ite_f h c_
      refine g_lload (pc := 51) C 2 dX8_odds_51 rfl ?_
      refine g_aload_n (pc := 53) C 0 dX8_odds_53 rfl rfl ?_
      refine get_X8_8 (pc := 54) C rfl tw_202 dX8_odds_54 ?_
      refine get_X2_0 (pc := 57) C rfl tw_148 dX8_odds_57 ?_
      refine g_iload (pc := 60) C 3 dX8_odds_60 rfl ?_
      obtain ⟨g_, h⟩ := h
      refine g_lald (pc := 62) C rfl g_ dX8_odds_62 ?_
      refine g_ladd (pc := 63) C dX8_odds_63 ?_
      refine g_lstore (pc := 64) (lv2 := [(8, .long (v8 + (σ.2 80 v10.toNatClampNeg))), (0, .ref (G.2.2 0)), (6, .long v6), (10, .int v10)]) C dX8_odds_64 (by decide) rfl ?_
      refine g_iinc (pc := 66) (lv2 := [(10, .int (v10 + 1)), (8, .long (v8 + (σ.2 80 v10.toNatClampNeg))), (0, .ref (G.2.2 0)), (6, .long v6)]) C 3 dX8_odds_66 ic_1 rfl (by decide) rfl ?_
      refine g_goto (pc := 69) (tgt := 44) C dX8_odds_69 (by decide) ?_
      refine g_lv [2, 3, 1, 0] (lv2 := [(0, .ref (G.2.2 0)), (6, .long v6), (8, .long (v8 + (σ.2 80 v10.toNatClampNeg))), (10, .int (v10 + 1))]) rfl ?_
      exact ih h
set_option maxHeartbeats 4000000 in
set_option maxRecDepth 100000 in
theorem M_X8_odds {l : Launch} {G : Gp} (hD : Dj shC G) {v1 : Int32} {v2 : Int32} {v3 : Int32} {v4 : Int32} {σ : St} {K : Int32 → St → Prop} (h : wp_X8_odds v1 v2 v3 v4 σ K) : MC l shC G yX8_odds cX8_odds 11 (some .int) 5 [.ref (G.2.2 0), .int v1, .int v2, .int v3, .int v4] σ (RI K) := by
  unfold wp_X8_odds at h
  refine MC.of (by decide) hD (Nat.le_of_ble_eq_true rfl) ?_
  intro p e s m args below meth c C
  replace C : Cx p (rmD 5) s m args meth c shC G cX8_odds 11 5 RX8 (some .int) 0 0 := C
  show Go p l e (rmD 5) s m args below meth c shC G 11 0 0 (MQ below (Qw shC G (RI K)) args s 0 0 (Fr shC G)) 0 [(0, .ref (G.2.2 0)), (1, .int v1), (2, .int v2), (3, .int v3), (4, .int v4)] [] σ
  refine g_aload_n (pc := 0) C 0 dX8_odds_0 rfl rfl ?_
  refine g_iload_n (pc := 1) C 1 dX8_odds_1 rfl rfl ?_
  refine g_iload_n (pc := 2) C 2 dX8_odds_2 rfl rfl ?_
  refine g_iload_n (pc := 3) C 3 dX8_odds_3 rfl rfl ?_
  refine g_iload (pc := 4) C 4 dX8_odds_4 rfl ?_
  refine g_callVip (pc := 6) (As := [.int v1, .int v2, .int v3, .int v4]) (rest := []) C rfl rfl rfl rfl (M_X8_refuseSlips C.2.2.1  h) CyX8_refuseSlips tw_780 tw_782 ts_22 (by decide) rfl rfl (Nat.le_of_ble_eq_true rfl) dX8_odds_6 (fun r6 h => ?_)
  refine g_istore (pc := 9) (lv2 := [(5, .int r6), (0, .ref (G.2.2 0)), (1, .int v1), (2, .int v2), (3, .int v3), (4, .int v4)]) C dX8_odds_9 (by decide) rfl ?_
  refine g_iload (pc := 11) C 0 dX8_odds_11 rfl ?_
  refine g_if_eq (pc := 13) (tgt := 19) C dX8_odds_13 (by decide) (fun c_ => ?_) (fun c_ => ?_)
  · replace h := ite_t h c_
    refine g_aload_n (pc := 19) C 1 dX8_odds_19 rfl rfl ?_
    refine g_aload_n (pc := 20) C 1 dX8_odds_20 rfl rfl ?_
    refine get_X8_3 (pc := 21) C rfl tw_197 dX8_odds_21 ?_
    refine get_X7_0 (pc := 24) C rfl tw_72 dX8_odds_24 ?_
    refine g_iload_n (pc := 27) C 2 dX8_odds_27 rfl rfl ?_
    obtain ⟨g_, h⟩ := h
    have hs28_ : shC[(28 + v1.toNatClampNeg)]? = some (0, 0, 0) := sh7_e (k := 25) rfl g_
    refine g_aldB (pc := 28) C (sh7_0 rfl) g_ dX8_odds_28 ?_
    refine g_iload_n (pc := 29) C 3 dX8_odds_29 rfl rfl ?_
    refine g_iload_n (pc := 30) C 4 dX8_odds_30 rfl rfl ?_
    refine g_iload (pc := 31) C 5 dX8_odds_31 rfl ?_
    refine g_callVl (pc := 33) (As := [.ref (G.2.2 (28 + v1.toNatClampNeg)), .int v2, .int v3, .int v4]) (rest := []) C rfl rfl rfl rfl (M_X8_slip C.2.2.1 hs28_ h) CyX8_slip tw_784 tw_786 ts_23 (by decide) rfl rfl (Nat.le_of_ble_eq_true rfl) dX8_odds_33 (fun r33 t33 h => ?_)
    refine g_lstore (pc := 36) (lv2 := [(6, .long r33), (5, .int r6), (0, .ref (G.2.2 0)), (1, .int v1), (2, .int v2), (3, .int v3), (4, .int v4)]) C dX8_odds_36 (by decide) rfl ?_
    refine g_lconst (pc := 38) (v := 0) C dX8_odds_38 lc_0 ?_
    refine g_lstore (pc := 39) (lv2 := [(8, .long (0 : Int64)), (6, .long r33), (5, .int r6), (0, .ref (G.2.2 0)), (1, .int v1), (2, .int v2), (3, .int v3), (4, .int v4)]) C dX8_odds_39 (by decide) rfl ?_
    refine g_iconst (pc := 41) (v := 0) C dX8_odds_41 ic_0 ?_
    refine g_istore (pc := 42) (lv2 := [(10, .int 0), (8, .long (0 : Int64)), (6, .long r33), (5, .int r6), (0, .ref (G.2.2 0)), (1, .int v1), (2, .int v2), (3, .int v3), (4, .int v4)]) C dX8_odds_42 (by decide) rfl ?_
    refine g_lv [4, 2, 1, 0] (lv2 := [(0, .ref (G.2.2 0)), (6, .long r33), (8, .long (0 : Int64)), (10, .int 0)]) rfl ?_
    exact k_X8_odds_44 C  h
  · replace h := ite_f h c_
    refine g_iload (pc := 16) C 0 dX8_odds_16 rfl ?_
    exact g_iret (pc := 18) C dX8_odds_18 ⟨_, rfl, h⟩
set_option maxHeartbeats 4000000 in
set_option maxRecDepth 100000 in
theorem M_X8_on {l : Launch} {G : Gp} (hD : Dj shC G) {v1 : Int32} {σ : St} {K : Int32 → St → Prop} (h : wp_X8_on v1 σ K) : MC l shC G yX8_on cX8_on 2 (some .int) 5 [.ref (G.2.2 0), .int v1] σ (RI K) := by
  unfold wp_X8_on at h
  refine MC.of (by decide) hD (Nat.le_of_ble_eq_true rfl) ?_
  intro p e s m args below meth c C
  replace C : Cx p (rmD 5) s m args meth c shC G cX8_on 2 5 RX8 (some .int) 0 0 := C
  show Go p l e (rmD 5) s m args below meth c shC G 2 0 0 (MQ below (Qw shC G (RI K)) args s 0 0 (Fr shC G)) 0 [(0, .ref (G.2.2 0)), (1, .int v1)] [] σ
  refine g_iload_n (pc := 0) C 1 dX8_on_0 rfl rfl ?_
  refine g_callSip (pc := 1) (As := [.int v1]) (rest := []) C (M_X8_isKept C.2.2.1  h) CyX8_isKept tw_521 tw_522 (by decide) rfl rfl (Nat.le_of_ble_eq_true rfl) dX8_on_1 (fun r1 h => ?_)
  refine g_if_ne (pc := 4) (tgt := 9) C dX8_on_4 (by decide) (fun c_ => ?_) (fun c_ => ?_)
  · replace h := ite_f h c_
    refine g_aload_n (pc := 9) C 0 dX8_on_9 rfl rfl ?_
    refine get_X8_2 (pc := 10) C rfl tw_196 dX8_on_10 ?_
    refine g_iload_n (pc := 13) C 1 dX8_on_13 rfl rfl ?_
    obtain ⟨g_, h⟩ := h
    have hs14_ : shC[(43 + 9 * v1.toNatClampNeg)]? = some (7, 0, 0) := shT g_
    refine g_aldT (pc := 14) C rfl g_ dX8_on_14 ?_
    refine get_X7_2 (pc := 15) C hs14_ tw_76 dX8_on_15 ?_
    refine g_if_ne (pc := 18) (tgt := 27) C dX8_on_18 (by decide) (fun c_ => ?_) (fun c_ => ?_)
    · replace h := ite_f h c_
      refine g_aload_n (pc := 27) C 0 dX8_on_27 rfl rfl ?_
      refine get_X8_3 (pc := 28) C rfl tw_197 dX8_on_28 ?_
      refine g_aload_n (pc := 31) C 0 dX8_on_31 rfl rfl ?_
      refine get_X8_2 (pc := 32) C rfl tw_196 dX8_on_32 ?_
      refine g_iload_n (pc := 35) C 1 dX8_on_35 rfl rfl ?_
      obtain ⟨g_, h⟩ := h
      have hs36_ : shC[(43 + 9 * v1.toNatClampNeg)]? = some (7, 0, 0) := shT g_
      refine g_aldT (pc := 36) C rfl g_ dX8_on_36 ?_
      refine g_callVv (pc := 37) (As := [.ref (G.2.2 (43 + 9 * v1.toNatClampNeg))]) (rest := []) C rfl rfl rfl rfl (M_X7_become C.2.2.1 rfl hs36_ h) CyX7_become tw_368 tw_369 tw_370 (by decide) rfl rfl (Nat.le_of_ble_eq_true rfl) dX8_on_37 (fun t37 h => ?_)
      refine g_aload_n (pc := 40) C 0 dX8_on_40 rfl rfl ?_
      refine get_X8_3 (pc := 41) C rfl tw_197 dX8_on_41 ?_
      refine get_X7_4 (pc := 44) C rfl tw_80 dX8_on_44 ?_
      exact g_iret (pc := 47) C dX8_on_47 ⟨_, rfl, h⟩
    · replace h := ite_t h c_
      refine g_aload_n (pc := 21) C 0 dX8_on_21 rfl rfl ?_
      refine g_iconst (pc := 22) (v := 1) C dX8_on_22 ic_1 ?_
      refine g_callVi (pc := 23) (As := [.int 1]) (rest := []) C rfl rfl rfl rfl (M_X8_find C.2.2.1  h) CyX8_find tw_251 tw_253 ts_1 (by decide) rfl rfl (Nat.le_of_ble_eq_true rfl) dX8_on_23 (fun r23 t23 h => ?_)
      exact g_iret (pc := 26) C dX8_on_26 ⟨_, rfl, h⟩
  · replace h := ite_t h c_
    refine g_iconst (pc := 7) (v := -1) C dX8_on_7 ic_m1 ?_
    exact g_iret (pc := 8) C dX8_on_8 ⟨_, rfl, h⟩
set_option maxHeartbeats 4000000 in
set_option maxRecDepth 100000 in
theorem k_X7_ordersBehind_18 {f_ : Nat} {σ : St} {K : Int32 → Prop} {Rec : Nat → Int32 → Int32 → Int32 → St → (Int32 → Prop) → Prop} (C : Cx p R s m args meth c shC G cX7_ordersBehind 7 (6 + f_ + 1) RX7 (some .int) 0 0) (hRec : ∀ {k0 : Nat} {a1 : Int32} {a2 : Int32} {a3 : Int32} {σ : St} {K : Int32 → Prop} (hk0 : shC[k0]? = some (7, 0, 0)), Rec k0 a1 a2 a3 σ K → MC l shC G yX7_ordersBehind cX7_ordersBehind 7 (some .int) (6 + f_) [.ref (G.2.2 k0), .int a1, .int a2, .int a3] σ (RI (fun r t => t = σ ∧ K r))) (h : J_X7_ordersBehind_18 σ Rec K) : Go p l e R s m args below meth c shC G 7 0 0 (MQ below (Qw shC G (RI (fun r t => t = σ ∧ K r))) args s 0 0 (Fr shC G)) 18 [] [] σ := by
  unfold J_X7_ordersBehind_18 at h
  refine g_iconst (pc := 18) (v := 1) C dX7_ordersBehind_18 ic_1 ?_
  exact g_iret (pc := 19) C dX7_ordersBehind_19 ⟨_, rfl, ⟨rfl, h⟩⟩
set_option maxHeartbeats 4000000 in
set_option maxRecDepth 100000 in
theorem k_X7_ordersBehind_91 {f_ : Nat} {k0 : Nat} {v1 : Int32} {v2 : Int32} {v3 : Int32} {v4 : Int32} {v5 : Int32} {σ : St} {K : Int32 → Prop} {Rec : Nat → Int32 → Int32 → Int32 → St → (Int32 → Prop) → Prop} {Φ26 : Int32 → Int32 → Prop} (C : Cx p R s m args meth c shC G cX7_ordersBehind 7 (6 + f_ + 1) RX7 (some .int) 0 0) (hk0 : shC[k0]? = some (7, 0, 0)) (hRec : ∀ {k0 : Nat} {a1 : Int32} {a2 : Int32} {a3 : Int32} {σ : St} {K : Int32 → Prop} (hk0 : shC[k0]? = some (7, 0, 0)), Rec k0 a1 a2 a3 σ K → MC l shC G yX7_ordersBehind cX7_ordersBehind 7 (some .int) (6 + f_) [.ref (G.2.2 k0), .int a1, .int a2, .int a3] σ (RI (fun r t => t = σ ∧ K r))) (hΦ26 : ∀ (v4' : Int32) (v5' : Int32), Φ26 v4' v5' → Go p l e R s m args below meth c shC G 7 0 0 (MQ below (Qw shC G (RI (fun r t => t = σ ∧ K r))) args s 0 0 (Fr shC G)) 26 [(0, .ref (G.2.2 k0)), (1, .int v1), (2, .int v2), (3, .int v3), (4, .int (v4')), (5, .int (v5'))] [] σ) (h : J_X7_ordersBehind_91 k0 v1 v2 v3 v4 v5 σ Rec K Φ26) : Go p l e R s m args below meth c shC G 7 0 0 (MQ below (Qw shC G (RI (fun r t => t = σ ∧ K r))) args s 0 0 (Fr shC G)) 91 [(0, .ref (G.2.2 k0)), (1, .int v1), (2, .int v2), (3, .int v3), (4, .int v4), (5, .int v5)] [] σ := by
  unfold J_X7_ordersBehind_91 at h
  refine g_iinc (pc := 91) (lv2 := [(5, .int (v5 + 1)), (0, .ref (G.2.2 k0)), (1, .int v1), (2, .int v2), (3, .int v3), (4, .int v4)]) C 5 dX7_ordersBehind_91 ic_1 rfl (by decide) rfl ?_
  refine g_goto (pc := 94) (tgt := 26) C dX7_ordersBehind_94 (by decide) ?_
  refine g_lv [1, 2, 3, 4, 5, 0] (lv2 := [(0, .ref (G.2.2 k0)), (1, .int v1), (2, .int v2), (3, .int v3), (4, .int v4), (5, .int (v5 + 1))]) rfl ?_
  exact hΦ26 _ _ h
set_option maxHeartbeats 4000000 in
set_option maxRecDepth 100000 in
theorem k_X7_ordersBehind_56 {f_ : Nat} {k0 : Nat} {v1 : Int32} {v2 : Int32} {v3 : Int32} {v4 : Int32} {v5 : Int32} {w0 : Int32} {σ : St} {K : Int32 → Prop} {Rec : Nat → Int32 → Int32 → Int32 → St → (Int32 → Prop) → Prop} {Φ26 : Int32 → Int32 → Prop} (C : Cx p R s m args meth c shC G cX7_ordersBehind 7 (6 + f_ + 1) RX7 (some .int) 0 0) (hk0 : shC[k0]? = some (7, 0, 0)) (hRec : ∀ {k0 : Nat} {a1 : Int32} {a2 : Int32} {a3 : Int32} {σ : St} {K : Int32 → Prop} (hk0 : shC[k0]? = some (7, 0, 0)), Rec k0 a1 a2 a3 σ K → MC l shC G yX7_ordersBehind cX7_ordersBehind 7 (some .int) (6 + f_) [.ref (G.2.2 k0), .int a1, .int a2, .int a3] σ (RI (fun r t => t = σ ∧ K r))) (hΦ26 : ∀ (v4' : Int32) (v5' : Int32), Φ26 v4' v5' → Go p l e R s m args below meth c shC G 7 0 0 (MQ below (Qw shC G (RI (fun r t => t = σ ∧ K r))) args s 0 0 (Fr shC G)) 26 [(0, .ref (G.2.2 k0)), (1, .int v1), (2, .int v2), (3, .int v3), (4, .int (v4')), (5, .int (v5'))] [] σ) (h : J_X7_ordersBehind_56 k0 v1 v2 v3 v4 v5 w0 σ Rec K Φ26) : Go p l e R s m args below meth c shC G 7 0 0 (MQ below (Qw shC G (RI (fun r t => t = σ ∧ K r))) args s 0 0 (Fr shC G)) 56 [(0, .ref (G.2.2 k0)), (1, .int v1), (2, .int v2), (3, .int v3), (4, .int v4), (5, .int v5)] [.int w0] σ := by
  unfold J_X7_ordersBehind_56 at h
  refine g_istore (pc := 56) (lv2 := [(6, .int w0), (0, .ref (G.2.2 k0)), (1, .int v1), (2, .int v2), (3, .int v3), (4, .int v4), (5, .int v5)]) C dX7_ordersBehind_56 (by decide) rfl ?_
  refine g_iload (pc := 58) C 0 dX7_ordersBehind_58 rfl ?_
  refine g_bipush (pc := 60) (v := -9) C dX7_ordersBehind_60 bp_m9 ?_
  refine g_icmp_eq (pc := 62) (tgt := 91) C dX7_ordersBehind_62 (by decide) (fun c_ => ?_) (fun c_ => ?_)
  · replace h := ite_t h c_
    refine g_lv [1, 2, 3, 4, 5, 6] (lv2 := [(0, .ref (G.2.2 k0)), (1, .int v1), (2, .int v2), (3, .int v3), (4, .int v4), (5, .int v5)]) rfl ?_
    exact k_X7_ordersBehind_91 C hk0 hRec hΦ26 h
  · replace h := ite_f h c_
    refine g_iload (pc := 65) C 5 dX7_ordersBehind_65 rfl ?_
    refine g_aload_n (pc := 67) C 1 dX7_ordersBehind_67 rfl rfl ?_
    refine g_iload_n (pc := 68) C 2 dX7_ordersBehind_68 rfl rfl ?_
    refine g_iconst (pc := 69) (v := 1) C dX7_ordersBehind_69 ic_1 ?_
    refine g_iload (pc := 70) C 6 dX7_ordersBehind_70 rfl ?_
    refine g_ishl (pc := 72) C dX7_ordersBehind_72 ?_
    refine g_ior (pc := 73) C dX7_ordersBehind_73 ?_
    refine g_aload_n (pc := 74) C 1 dX7_ordersBehind_74 rfl rfl ?_
    refine g_iload (pc := 75) C 6 dX7_ordersBehind_75 rfl ?_
    refine g_iload (pc := 77) C 0 dX7_ordersBehind_77 rfl ?_
    refine g_callVip (pc := 79) (As := [.int v5, .int w0]) (rest := [.int (v1 ||| (shl 1 v5)), .ref (G.2.2 k0), .int v4]) C hk0 rfl rfl rfl (M_X7_rankBy C.2.2.1 hk0 h) CyX7_rankBy tw_705 tw_706 tw_707 (by omega) rfl rfl (Nat.le_of_ble_eq_true rfl) dX7_ordersBehind_79 (fun r79 h => ?_)
    refine g_iload_n (pc := 82) C 4 dX7_ordersBehind_82 rfl rfl ?_
    refine g_iconst (pc := 83) (v := 1) C dX7_ordersBehind_83 ic_1 ?_
    refine g_iadd (pc := 84) C dX7_ordersBehind_84 ?_
    refine g_callVip (pc := 85) (As := [.int (v1 ||| (shl 1 v5)), .int r79, .int (v3 + 1)]) (rest := [.int v4]) C hk0 rfl rfl rfl (hRec hk0 h) CyX7_ordersBehind tw_725 tw_722 ts_19 (Nat.le_refl _) rfl rfl (Nat.le_of_ble_eq_true rfl) dX7_ordersBehind_85 (fun r85 h => ?_)
    refine g_iadd (pc := 88) C dX7_ordersBehind_88 ?_
    refine g_istore (pc := 89) (lv2 := [(4, .int (v4 + r85)), (6, .int w0), (0, .ref (G.2.2 k0)), (1, .int v1), (2, .int v2), (3, .int v3), (5, .int v5)]) C dX7_ordersBehind_89 (by decide) rfl ?_
    refine g_lv [2, 3, 4, 5, 0, 6] (lv2 := [(0, .ref (G.2.2 k0)), (1, .int v1), (2, .int v2), (3, .int v3), (4, .int (v4 + r85)), (5, .int v5)]) rfl ?_
    exact k_X7_ordersBehind_91 C hk0 hRec hΦ26 h
set_option maxHeartbeats 4000000 in
set_option maxRecDepth 100000 in
theorem k_X7_ordersBehind_26 {f_ : Nat} {k0 : Nat} {v1 : Int32} {v2 : Int32} {v3 : Int32} {v4 : Int32} {v5 : Int32} {σ : St} {K : Int32 → Prop} {Rec : Nat → Int32 → Int32 → Int32 → St → (Int32 → Prop) → Prop} (C : Cx p R s m args meth c shC G cX7_ordersBehind 7 (6 + f_ + 1) RX7 (some .int) 0 0) (hk0 : shC[k0]? = some (7, 0, 0)) (hRec : ∀ {k0 : Nat} {a1 : Int32} {a2 : Int32} {a3 : Int32} {σ : St} {K : Int32 → Prop} (hk0 : shC[k0]? = some (7, 0, 0)), Rec k0 a1 a2 a3 σ K → MC l shC G yX7_ordersBehind cX7_ordersBehind 7 (some .int) (6 + f_) [.ref (G.2.2 k0), .int a1, .int a2, .int a3] σ (RI (fun r t => t = σ ∧ K r))) (h : L_X7_ordersBehind_26 k0 v1 v2 v3 σ Rec K v4 v5) : Go p l e R s m args below meth c shC G 7 0 0 (MQ below (Qw shC G (RI (fun r t => t = σ ∧ K r))) args s 0 0 (Fr shC G)) 26 [(0, .ref (G.2.2 k0)), (1, .int v1), (2, .int v2), (3, .int v3), (4, .int v4), (5, .int v5)] [] σ := by
  obtain ⟨n_, h⟩ := h
  induction n_ generalizing v4 v5 with
  | zero => exact h.elim
  | succ n_ ih =>
    replace h : B_X7_ordersBehind_26 k0 v1 v2 v3 σ Rec K (it2 (B_X7_ordersBehind_26 k0 v1 v2 v3 σ Rec K) n_) v4 v5 := h
    unfold B_X7_ordersBehind_26 at h
    refine g_iload (pc := 26) C 5 dX7_ordersBehind_26 rfl ?_
    refine g_aload_n (pc := 28) C 0 dX7_ordersBehind_28 rfl rfl ?_
    refine get_X7_2 (pc := 29) C hk0 tw_75 dX7_ordersBehind_29 ?_
    refine g_icmp_ge (pc := 32) (tgt := 97) C dX7_ordersBehind_32 (by decide) (fun c_ => ?_) (fun c_ => ?_)
    · replace h := ite_t h c_
      refine g_iload (pc := 97) C 4 dX7_ordersBehind_97 rfl ?_
      exact g_iret (pc := 99) C dX7_ordersBehind_99 ⟨_, rfl, ⟨rfl, h⟩⟩
    · replace h := ite_f h c_
      refine g_iload_n (pc := 35) C 1 dX7_ordersBehind_35 rfl rfl ?_
      refine g_iload (pc := 36) C 5 dX7_ordersBehind_36 rfl ?_
      refine g_ishr (pc := 38) C dX7_ordersBehind_38 ?_
      refine g_iconst (pc := 39) (v := 1) C dX7_ordersBehind_39 ic_1 ?_
      refine g_iand (pc := 40) C dX7_ordersBehind_40 ?_
      refine g_if_ne (pc := 41) (tgt := 54) C dX7_ordersBehind_41 (by decide) (fun c_ => ?_) (fun c_ => ?_)
      · replace h := ite_f h c_
        refine g_bipush (pc := 54) (v := -9) C dX7_ordersBehind_54 bp_m9 ?_
        refine g_lv [0, 1, 2, 3, 4, 5] (lv2 := [(0, .ref (G.2.2 k0)), (1, .int v1), (2, .int v2), (3, .int v3), (4, .int v4), (5, .int v5)]) rfl ?_
        exact k_X7_ordersBehind_56 C hk0 hRec (fun _ _ h_ => ih h_) h
      · replace h := ite_t h c_
        refine g_aload_n (pc := 44) C 0 dX7_ordersBehind_44 rfl rfl ?_
        refine g_iload (pc := 45) C 5 dX7_ordersBehind_45 rfl ?_
        refine g_iload_n (pc := 47) C 2 dX7_ordersBehind_47 rfl rfl ?_
        refine g_callVip (pc := 48) (As := [.int v5, .int v2]) (rest := []) C hk0 rfl rfl rfl (M_X7_soonestPull C.2.2.1 hk0 h) CyX7_soonestPull tw_724 tw_702 tw_703 (by omega) rfl rfl (Nat.le_of_ble_eq_true rfl) dX7_ordersBehind_48 (fun r48 h => ?_)
        refine g_goto (pc := 51) (tgt := 56) C dX7_ordersBehind_51 (by decide) ?_
        refine g_lv [0, 1, 2, 3, 4, 5] (lv2 := [(0, .ref (G.2.2 k0)), (1, .int v1), (2, .int v2), (3, .int v3), (4, .int v4), (5, .int v5)]) rfl ?_
        exact k_X7_ordersBehind_56 C hk0 hRec (fun _ _ h_ => ih h_) h
set_option maxHeartbeats 4000000 in
set_option maxRecDepth 100000 in
theorem MR_X7_ordersBehind {l : Launch} {G : Gp} (hD : Dj shC G) (f_ : Nat) : ∀ {k0 : Nat} {v1 : Int32} {v2 : Int32} {v3 : Int32} {σ : St} {K : Int32 → Prop} (hk0 : shC[k0]? = some (7, 0, 0)), wpR_X7_ordersBehind f_ k0 v1 v2 v3 σ K → MC l shC G yX7_ordersBehind cX7_ordersBehind 7 (some .int) (6 + f_) [.ref (G.2.2 k0), .int v1, .int v2, .int v3] σ (RI (fun r t => t = σ ∧ K r)) := by
  induction f_ with
  | zero => intro k0 v1 v2 v3 σ K hk0 h; exact h.elim
  | succ f_ ih =>
    intro k0 v1 v2 v3 σ K hk0 h
    replace h : D_X7_ordersBehind (wpR_X7_ordersBehind f_) k0 v1 v2 v3 σ K := h
    unfold D_X7_ordersBehind at h
    refine MC.of (by decide) hD (Nat.le_of_ble_eq_true rfl) ?_
    intro p e s m args below meth c C
    replace C : Cx p (rmD (6 + f_ + 1)) s m args meth c shC G cX7_ordersBehind 7 (6 + f_ + 1) RX7 (some .int) 0 0 := C
    have hRec := @ih
    show Go p l e (rmD (6 + f_ + 1)) s m args below meth c shC G 7 0 0 (MQ below (Qw shC G (RI (fun r t => t = σ ∧ K r))) args s 0 0 (Fr shC G)) 0 [(0, .ref (G.2.2 k0)), (1, .int v1), (2, .int v2), (3, .int v3)] [] σ
    refine g_iload_n (pc := 0) C 1 dX7_ordersBehind_0 rfl rfl ?_
    refine g_iconst (pc := 1) (v := 1) C dX7_ordersBehind_1 ic_1 ?_
    refine g_aload_n (pc := 2) C 0 dX7_ordersBehind_2 rfl rfl ?_
    refine get_X7_2 (pc := 3) C hk0 tw_75 dX7_ordersBehind_3 ?_
    refine g_ishl (pc := 6) C dX7_ordersBehind_6 ?_
    refine g_iconst (pc := 7) (v := 1) C dX7_ordersBehind_7 ic_1 ?_
    refine g_isub (pc := 8) C dX7_ordersBehind_8 ?_
    refine g_icmp_eq (pc := 9) (tgt := 18) C dX7_ordersBehind_9 (by decide) (fun c_ => ?_) (fun c_ => ?_)
    · replace h := ite_t h c_
      refine g_lv [] (lv2 := []) rfl ?_
      exact k_X7_ordersBehind_18 C hRec h
    · replace h := ite_f h c_
      refine g_iload_n (pc := 12) C 3 dX7_ordersBehind_12 rfl rfl ?_
      refine g_bipush (pc := 13) (v := 6) C dX7_ordersBehind_13 bp_6 ?_
      refine g_icmp_le (pc := 15) (tgt := 20) C dX7_ordersBehind_15 (by decide) (fun c_ => ?_) (fun c_ => ?_)
      · replace h := ite_t h c_
        refine g_iconst (pc := 20) (v := 0) C dX7_ordersBehind_20 ic_0 ?_
        refine g_istore (pc := 21) (lv2 := [(4, .int 0), (0, .ref (G.2.2 k0)), (1, .int v1), (2, .int v2), (3, .int v3)]) C dX7_ordersBehind_21 (by decide) rfl ?_
        refine g_iconst (pc := 23) (v := 0) C dX7_ordersBehind_23 ic_0 ?_
        refine g_istore (pc := 24) (lv2 := [(5, .int 0), (4, .int 0), (0, .ref (G.2.2 k0)), (1, .int v1), (2, .int v2), (3, .int v3)]) C dX7_ordersBehind_24 (by decide) rfl ?_
        refine g_lv [2, 3, 4, 5, 1, 0] (lv2 := [(0, .ref (G.2.2 k0)), (1, .int v1), (2, .int v2), (3, .int v3), (4, .int 0), (5, .int 0)]) rfl ?_
        exact k_X7_ordersBehind_26 C hk0 hRec h
      · replace h := ite_f h c_
        refine g_lv [] (lv2 := []) rfl ?_
        exact k_X7_ordersBehind_18 C hRec h
set_option maxHeartbeats 4000000 in
set_option maxRecDepth 100000 in
theorem M_X7_ordersBehind {l : Launch} {G : Gp} (hD : Dj shC G) {k0 : Nat} {v1 : Int32} {v2 : Int32} {v3 : Int32} {σ : St} {K : Int32 → Prop} (hk0 : shC[k0]? = some (7, 0, 0)) (h : wp_X7_ordersBehind k0 v1 v2 v3 σ K) : MC l shC G yX7_ordersBehind cX7_ordersBehind 7 (some .int) 14 [.ref (G.2.2 k0), .int v1, .int v2, .int v3] σ (RI (fun r t => t = σ ∧ K r)) :=
  MR_X7_ordersBehind hD 8 hk0 h
end MM

/-! the law from its entry -/
theorem arrC {s : State} {A : Array Value} {ty : FieldType} (h : (Cond.arrayClass ty).before A s = true) : ∃ cA : ClassId, ArrOfT s cA ty ∧ s.vm.findClass ("[" ++ ty.toString) = some cA := by
  obtain ⟨cA, kA, comp, h1, h2, h3⟩ := Cond.arrayClass_spec h
  exact ⟨cA, fun n z => ⟨fun k h9 => (by cases h9), kA, h2, comp, h3⟩, h1⟩
theorem arrO {s : State} {A : Array Value} {C0 : String} (h : (Cond.arrayOver (.object C0)).before A s = true) : ∃ cA : ClassId, ArrOfT s cA (.object C0) ∧ va_RA s cA (.object C0) := by
  obtain ⟨comp, cA, kA, h1, h2, h3, h4, h5⟩ := Cond.arrayOver_spec h
  exact ⟨cA, fun n z => ⟨fun k h9 => (by cases h9), kA, h3, comp, h4⟩, kA, comp, h3, h4, h1, h5⟩
theorem nb_tbl : ∀ q ∈ NB, Cond.methodLinkNest q.1 q.2.1 q.2.2.1 q.2.2.2 ∈ lw_tbl := by decide +kernel
theorem ao6_tbl : Cond.arrayOver (.object RX6) ∈ lw_tbl := by decide +kernel
theorem ao7_tbl : Cond.arrayOver (.object RX7) ∈ lw_tbl := by decide +kernel
theorem ao0_tbl : Cond.arrayOver (.object RX0) ∈ lw_tbl := by decide +kernel
theorem tb_tbl {w : Cond} (h : w ∈ TB) : w ∈ lw_tbl := (List.mem_filter.mp h).1
theorem G_of {s : State} {A : Array Value} (hts : ∀ w ∈ lw_tbl, w.before A s = true) : ∃ G : Gp, SxN G s := by
  have hT : ∀ w ∈ TB, w.before A s = true := fun w hw => hts w (tb_tbl hw)
  obtain ⟨c0z, i0z, k0z⟩ := u_known (C := RX0) (T := TX0) (N := 6) (n := 6) hT inX0 (hT _ tw_34)
  obtain ⟨c1z, i1z, k1z⟩ := u_known (C := RX1) (T := TX1) (N := 3) (n := 3) hT inX1 (hT _ tw_112)
  obtain ⟨c2z, i2z, k2z⟩ := u_known (C := RX2) (T := TX2) (N := 2) (n := 2) hT inX2 (hT _ tw_142)
  obtain ⟨c3z, i3z, k3z⟩ := u_known (C := RX3) (T := TX3) (N := 3) (n := 3) hT inX3 (hT _ tw_93)
  obtain ⟨c4z, i4z, k4z⟩ := u_known (C := RX4) (T := TX4) (N := 2) (n := 2) hT inX4 (hT _ tw_129)
  obtain ⟨c5z, i5z, k5z⟩ := u_known (C := RX5) (T := TX5) (N := 2) (n := 2) hT inX5 (hT _ tw_157)
  obtain ⟨c6z, i6z, k6z⟩ := u_known (C := RX6) (T := TX6) (N := 3) (n := 3) hT inX6 (hT _ tw_171)
  obtain ⟨c7z, i7z, k7z⟩ := u_known (C := RX7) (T := TX7) (N := 5) (n := 5) hT inX7 (hT _ tw_27)
  obtain ⟨c8z, i8z, k8z⟩ := u_known (C := RX8) (T := TX8) (N := 15) (n := 15) hT inX8 (hT _ tw_16)
  obtain ⟨c9z, i9z, k9z⟩ := u_known (C := RX9) (T := TX9) (N := 28) (n := 28) hT inX9 (hT _ tw_856)
  obtain ⟨d0z, a0z, b0z⟩ := arrC (hT _ tw_ai)
  obtain ⟨d1z, a1z, b1z⟩ := arrC (hT _ tw_az)
  obtain ⟨d2z, a2z, b2z⟩ := arrC (hT _ tw_al)
  obtain ⟨d3z, a3z, b3z⟩ := arrO (hts _ ao6_tbl)
  obtain ⟨d4z, a4z, b4z⟩ := arrO (hts _ ao7_tbl)
  obtain ⟨d5z, a5z, b5z⟩ := arrO (hts _ ao0_tbl)
  refine ⟨((fun k => [c0z, c1z, c2z, c3z, c4z, c5z, c6z, c7z, c8z, c9z].getD k c0z, fun k => [i0z, i1z, i2z, i3z, i4z, i5z, i6z, i7z, i8z, i9z].getD k i0z), fun k => [d0z, d1z, d2z, d3z, d4z, d5z].getD k d0z, fun _ => 0), ⟨⟨?_, ?_⟩, ?_⟩, va_AO.of (hts _ ao6_tbl), va_AO.of (hts _ ao7_tbl), va_AO.of (hts _ ao0_tbl)⟩
  · intro k q hq
    match k, hq with
    | 0, hq => cases hq; exact k0z
    | 1, hq => cases hq; exact k1z
    | 2, hq => cases hq; exact k2z
    | 3, hq => cases hq; exact k3z
    | 4, hq => cases hq; exact k4z
    | 5, hq => cases hq; exact k5z
    | 6, hq => cases hq; exact k6z
    | 7, hq => cases hq; exact k7z
    | 8, hq => cases hq; exact k8z
    | 9, hq => cases hq; exact k9z
    | k + 10, hq => simp [vwCl] at hq
  · intro k q hq
    match k, hq with
    | 0, hq => cases hq; exact ⟨a0z, b0z⟩
    | 1, hq => cases hq; exact ⟨a1z, b1z⟩
    | 2, hq => cases hq; exact ⟨a2z, b2z⟩
    | 3, hq => cases hq; exact ⟨a3z, b3z⟩
    | 4, hq => cases hq; exact ⟨a4z, b4z⟩
    | 5, hq => cases hq; exact ⟨a5z, b5z⟩
    | k + 6, hq => simp [tysOf] at hq
  · exact fun q hq => va_tabs (A := A) rfl rfl (hts _ (nb_tbl q hq))
theorem Dj_of {A : Nat → Prop} {u v : va_W} {S : Sh} {G : Gp} {σ : St} (hD : va_D A (u ++ (wsOf S G σ ++ v))) : Dj S G := by
  have atW : ∀ k, k < S.length → ∃ x, (u ++ (wsOf S G σ ++ v))[u.length + k]? = some (G.2.2 k, x) := fun k hk9 => by
    rw [List.getElem?_append_right (Nat.le_add_right _ _), Nat.add_sub_cancel_left, List.getElem?_append_left (by rw [ws_len]; exact hk9), ws_at (List.getElem?_eq_getElem hk9)]
    exact ⟨_, rfl⟩
  intro i j hi hj he
  obtain ⟨x, hx⟩ := atW i hi
  obtain ⟨y, hy⟩ := atW j hj
  have := hD.1 _ _ _ _ hx hy he
  omega
theorem whole_start {p : Program} {e : Env} {s : State} {m : MethodId} {below : List Frame} {meth : Method} {c : Code} (l : Launch) (hflags : l.flags = flags0) {b L : Nat} {xs : Nat → Int32} (hL : L ≤ 3072) (C0 : lw_At p s m meth c b L xs) : W p l e room_1 s m #[Value.ref b] below meth c s.heap [] 0 0 (lw_Z below #[Value.ref b] s) (entryFrame m ([Value.ref b] : List Value).toArray 4) := by
  obtain ⟨hx, hb, hr, hml, hown, hts, hX, hbl, hlocks, hgv⟩ := id C0
  obtain ⟨G, hSx⟩ := G_of hts
  have hbA : ¬ (fun q : Nat => s.heap.size ≤ q) b := Nat.not_le.mpr hbl
  have C : CxN p room_1 s m #[Value.ref b] meth c G (fun q : Nat => s.heap.size ≤ q) cL_law 4 20 RL 600000 7302250 True := ⟨⟨hx, hb, hml, hown, fun w hw => hts w (tb_tbl hw)⟩, hSx, fun _ h9 => h9, trivial, Nat.le_of_ble_eq_true rfl, Nat.le_of_ble_eq_true rfl, Nat.le_of_ble_eq_true rfl, Nat.le_of_ble_eq_true rfl⟩
  have hl := lv_entry ([.ref b]) (n := 4) (Nat.le_of_ble_eq_true rfl)
  rw [lg_entry_eq]
  have hgo : GoN p l e room_1 s m #[Value.ref b] below meth c G (fun q : Nat => s.heap.size ≤ q) 4 0 0 (lw_Z below #[Value.ref b] s) 0 [(0, .ref b)] [] [] := by
    refine n_new C (ci := 8) (fs := [.null, .null, .null, .null, .null, .null, .null, .null, .null, .null, .null, .int 0, .int 0, .long 0, .long 0]) inX8 tyX8 tyX8_ok tw_15 tw_16 tw_1 rfl (by decide) (by decide) (by decide) dL_law_0 (fun q1z => ?_)
    refine n_dup C dL_law_3 rfl ?_
    refine n_init C (rest := [.ref q1z]) (w0 := []) N_X8 CyX8_init rfl tw_17 tw_18 (by decide) rfl rfl (Nat.le_of_ble_eq_true rfl) dL_law_4 (by decide) (by decide) rfl ?_
    intro w1z ⟨aC, h9, hw1⟩
    subst h9
    refine n_astore_n C (lv2 := [(1, .ref (aC 0)), (0, .ref b)]) dL_law_7 rfl (by decide) rfl ?_
    refine n_new C (ci := 9) (fs := [.null, .int 0, .null, .null, .null, .null, .null, .null, .int 0, .null, .int 0, .long 0, .long 0, .int 0, .null, .null, .null, .int 0, .int 0, .null, .null, .null, .null, .null, .null, .null, .null, .long 0]) inX9 tyX9 tyX9_ok tw_855 tw_856 tw_11 rfl (by decide) (by decide) (by decide) dL_law_8 (fun q2z => ?_)
    refine n_dup C dL_law_11 rfl ?_
    refine n_init C (rest := [.ref q2z]) (w0 := [] ++ w1z) N_X9 CyX9_init rfl tw_857 tw_858 (by decide) rfl rfl (Nat.le_of_ble_eq_true rfl) dL_law_12 (by decide) (by decide) rfl ?_
    intro w2z ⟨aM, h9, hw2⟩
    subst h9
    refine n_astore_n C (lv2 := [(2, .ref (aM 0)), (1, .ref (aC 0)), (0, .ref b)]) dL_law_15 rfl (by decide) rfl ?_
    refine n_iconst C (v := nI 0) dL_law_16 (by decide) ?_
    refine n_istore_n C (lv2 := [(3, .int (nI 0)), (2, .ref (aM 0)), (1, .ref (aC 0)), (0, .ref b)]) dL_law_17 rfl (by decide) rfl ?_
    rw [hw1, hw2, List.nil_append]
    intro H locs ls hP hD hS hl9
    have hjC : Dj shC (G.1, G.2.1, aC) := Dj_of (u := []) (v := wsOf shM (G.1, G.2.1, aM) sigM0) hD
    have hjM : Dj shM (G.1, G.2.1, aM) := Dj_of (u := wsOf shC (G.1, G.2.1, aC) sigC0) (v := []) (by rw [List.append_nil]; exact hD)
    refine lw_loop C hX hbl hbA hjC hjM ?_ ?_ hL ?_ L 0 sigC0 sigM0 (by omega) (by omega) rel0 H locs ls hP hD hS hl9
    · exact Nat.le_of_ble_eq_true rfl
    · exact Nat.le_of_ble_eq_true rfl
    · intro sc sm i H2 locs2 ls2 hP2 hD2 hS2 hl2
      refine lv_iconst (v := 1) hx hb dL_law_1680 (by decide) ?_
      refine va_forget hS2.2.2 ?_
      refine W.widen (k := 600000) (n := 7302250) (Nat.le_of_ble_eq_true rfl) (Nat.le_of_ble_eq_true rfl) ?_
      exact lw_ret hx hb hr hlocks dL_law_1681
  exact hgo s.heap [] _ (fun k q h9 => by simp at h9) ⟨fun i j p9 q h9 => by simp at h9, fun k q h9 => by simp at h9⟩ va_S.rf hl

/-! the constructors (written by gen/ctor.py) -/
def zzero : St := (fun _ _ => 0, fun _ _ => 0)
def zEven : St := (fun k j => if k = 0 ∧ j = 2 then -9 else 0, fun _ _ => 0)
def sigC0 : St := (fun k j => if k = 73 ∧ j = 2 then -9 else 0, fun k j => if k = 0 ∧ j = 14 then 1 else 0)
def sigM0 : St := (fun k _ => if k = 4 ∨ k = 6 ∨ k = 2 then -1 else 0, fun k j => if k = 0 ∧ j = 12 then 1 else 0)
def shNB : Sh := [(0, 0, 0)]
def shNE : Sh := [(1, 0, 0), (10, 6, 0), (10, 6, 0)]
def shNF : Sh := [(2, 0, 0), (12, 21, 0), (12, 21, 0)]
def shNH : Sh := [(3, 0, 0), (10, 6, 0), (10, 6, 0)]
def shNP : Sh := [(4, 0, 0), (10, 21, 0), (10, 273, 0)]
def shNG : Sh := [(5, 0, 0), (11, 21, 0), (11, 21, 0)]
def shNR (n : Nat) : Sh := [(6, n, 0), (10, n, 0)]
def shNT : Sh := [(7, 0, 0), (15, 6, 3), (10, 40, 0), (0, 0, 0), (0, 0, 0), (0, 0, 0), (0, 0, 0), (0, 0, 0), (0, 0, 0)]
def Kw (G : Gp) (S : Sh) (σ : St) (q : Nat) (w : va_W) : Prop := ∃ ad : Nat → Nat, ad 0 = q ∧ w = wsOf S (G.1, G.2.1, ad) σ
def allLt : Nat → (Nat → Prop) → Prop
  | 0, _ => True
  | n + 1, P => allLt n P ∧ P n
theorem allLt.at {n : Nat} {P : Nat → Prop} (h : allLt n P) : ∀ k, k < n → P k := by
  induction n with
  | zero => intro k hk; omega
  | succ n ih =>
    intro k hk
    by_cases e : k = n
    · rw [e]; exact h.2
    · exact ih h.1 k (by omega)
/-- a cell read as another -/
def CReq (x y : va_E) : Prop := ∀ (D : va_G) (cl : List vw_C) (a : Nat) (H : Heap), va_at D cl (a, x) H → va_at D cl (a, y) H
theorem CReq.rf {x : va_E} : CReq x x := fun _ _ _ _ h => h
theorem arrV_c {cI : ClassId} {N : Nat} {f g : Nat → Value} (h : ∀ j, j < N → f j = g j) : arrV cI N f = arrV cI N g := by
  have e9 : (fun j : Fin N => f j.val) = (fun j : Fin N => g j.val) := funext fun j => h j.1 j.2
  unfold arrV
  rw [e9]
theorem CReq.q {cA : ClassId} {n : Nat} {f g : Nat → Option Nat} (h : allLt n (fun j => f j = g j)) : CReq (.inl (cA, n, .inr (.inr (.inr (.inr f))))) (.inl (cA, n, .inr (.inr (.inr (.inr g))))) := fun D cl a H hx => by
  have e9 : vp_cell cA (n, .inr (.inr (.inr (.inr f)))) = vp_cell cA (n, .inr (.inr (.inr (.inr g)))) := by
    rw [vp_cell_q, vp_cell_q]
    exact arrV_c (fun j hj => by rw [show f j = g j from h.at j hj])
  show H[a]? = some (vp_cell cA (n, .inr (.inr (.inr (.inr g)))))
  rw [← e9]; exact hx
theorem CReq.i {cA : ClassId} {n : Nat} {f g : Nat → Int32} (h : allLt n (fun j => f j = g j)) : CReq (.inl (cA, n, .inl f)) (.inl (cA, n, .inl g)) := fun D cl a H hx => by
  have e9 : vp_cell cA (n, .inl f) = vp_cell cA (n, .inl g) := by
    rw [vp_cell_i, vp_cell_i]
    exact arrV_c (fun j hj => by rw [show f j = g j from h.at j hj])
  show H[a]? = some (vp_cell cA (n, .inl g))
  rw [← e9]; exact hx
theorem at_app {w t : va_W} {x : Nat × va_E} (h : t[0]? = some x) : (w ++ t)[w.length]? = some x := by rw [List.getElem?_append_right (Nat.le_refl _), Nat.sub_self]; exact h
def SmS (f : Nat → Nat) (ws : va_W) (S : Sh) (G : Gp) (σ : St) : Prop := allLt S.length (fun k => ∃ x, ws[f k]? = some (G.2.2 k, x) ∧ CReq x (cellOf G σ k (S.getD k (99, 0, 0))))
theorem SmS.P {f : Nat → Nat} {ws : va_W} {S : Sh} {G : Gp} {σ : St} (h : SmS f ws S G σ) {H : Heap} (hP : va_P G.1 vwCl ws H) : va_P G.1 vwCl (wsOf S G σ) H := fun k y hy => by
  obtain ⟨hk1, hk2⟩ := List.getElem?_eq_some_iff.mp hy
  rw [ws_len] at hk1
  obtain ⟨x, hx1, hx2⟩ := allLt.at h k hk1
  simp only [wsOf, List.getElem_map, List.getElem_range] at hk2
  rw [← hk2]
  exact hx2 _ _ _ _ (hP _ _ hx1)
theorem SmS.D {f : Nat → Nat} {ws : va_W} {S : Sh} {G : Gp} {σ : St} (h : SmS f ws S G σ) (hj : ∀ i, i < S.length → ∀ j, j < S.length → i ≠ j → f i ≠ f j) {A : Nat → Prop} (hD : va_D A ws) : va_D A (wsOf S G σ) := by
  have key : ∀ (k : Nat) (y : Nat × va_E), (wsOf S G σ)[k]? = some y → k < S.length ∧ ∃ x, ws[f k]? = some (y.1, x) := fun k y hy => by
    obtain ⟨hk1, hk2⟩ := List.getElem?_eq_some_iff.mp hy
    rw [ws_len] at hk1
    obtain ⟨x, hx1, hx2⟩ := allLt.at h k hk1
    simp only [wsOf, List.getElem_map, List.getElem_range] at hk2
    rw [← hk2]
    exact ⟨hk1, x, hx1⟩
  refine ⟨fun i j x y hi hj2 he => ?_, fun k y hy => ?_⟩
  · obtain ⟨i1, xi, i2⟩ := key i x hi
    obtain ⟨j1, xj, j2⟩ := key j y hj2
    have := hD.1 _ _ _ _ i2 j2 he
    by_cases hne : i = j
    · exact hne
    · exact absurd this (hj i i1 j j1 hne)
  · obtain ⟨_, x, hx⟩ := key k y hy
    exact hD.2 _ (y.1, x) hx
section CTOR
variable {p : Program} {l : Launch} {e : Env} {R : Room} {s : State} {m : MethodId} {args : Array Value} {below : List Frame} {meth : Method} {c : Code} {G : Gp} {A : Nat → Prop} {cc : ByteArray} {nL d cs sl mc ms : Nat} {own : String} {Q : State → Prop} {pc : Nat} {lv : List (Nat × Value)} {st : List Value} {ws : va_W}
theorem n_astk {Mt : Prop} (C : CxN p R s m args meth c G A cc nL d own mc ms Mt) (q0 t0 qk ci : Nat) {a v n : Nat} {r : vw_C} {vs : List Value} {f : Nat → Option Nat} (ha : ws[q0]? = some (a, .inl (G.2.1 t0, n, .inr (.inr (.inr (.inr f)))))) (ht : (tysOf G)[t0]? = some (G.2.1 t0, .object r.1)) (hv : ws[qk]? = some (v, .inr (ci, vs))) (hc : vwCl[ci]? = some r) {i : Int32} {k : Nat} (hin : vp_in i n) (hk : i.toNatClampNeg = k) (hd : decode cc pc = .ok (.aastore, 1)) {ws2 : va_W} (hw : ws.set q0 (a, .inl (G.2.1 t0, n, .inr (.inr (.inr (.inr (va_up f k (some v))))))) = ws2) (kk : GoN p l e R s m args below meth c G A nL cs sl Q (pc + 1) lv st ws2) : GoN p l e R s m args below meth c G A nL cs sl Q pc lv (.ref v :: .int i :: .ref a :: st) ws :=
  n_ast C q0 t0 qk ci ha ht hv hc hin hd (by rw [hk]; exact hw) kk
theorem n_iastk {Mt : Prop} (C : CxN p R s m args meth c G A cc nL d own mc ms Mt) (q0 : Nat) {a n : Nat} {f : Nat → Int32} (ha : ws[q0]? = some (a, .inl (G.2.1 0, n, .inl f))) {i x : Int32} {k : Nat} (hin : vp_in i n) (hk : i.toNatClampNeg = k) (hd : decode cc pc = .ok (.iastore, 1)) {ws2 : va_W} (hw : ws.set q0 (a, .inl (G.2.1 0, n, .inl (upd f k x))) = ws2) (kk : GoN p l e R s m args below meth c G A nL cs sl Q (pc + 1) lv st ws2) : GoN p l e R s m args below meth c G A nL cs sl Q pc lv (.int x :: .int i :: .ref a :: st) ws :=
  n_iast C q0 ha hin hd (by rw [hk]; exact hw) kk
theorem n_vretK {wc : va_W} {S : Sh} {σ : St} {q : Nat} (C : CxN p R s m args meth c G (va_A wc s.heap.size) cc nL d own mc ms (MtI meth)) (hd : decode cc pc = .ok (.return_, 1)) (ad : Nat → Nat) (had : ad 0 = q) (f : Nat → Nat) (hS : SmS f ws S (G.1, G.2.1, ad) σ) (hj : ∀ i, i < S.length → ∀ j, j < S.length → i ≠ j → f i ≠ f j) : GoN p l e R s m args below meth c G (va_A wc s.heap.size) nL mc ms (MQ below (QwN G wc s.heap.size (Kw G S σ q)) args s mc ms (va_A wc s.heap.size)) pc lv [] ws :=
  fun H locs ls hP hD hS2 hl => n_vret (K := Kw G S σ q) C hd ⟨ad, had, rfl⟩ H locs ls (hS.P hP) (hS.D hj hD) hS2 hl
end CTOR
theorem N_X0 {l : Launch} {G : Gp} {q : Nat} : MN l G yX0_init cX0_init 1 1 0 0 q [] (.inr (0, [.int 0, .int 0, .int 0, .int 0, .int 0, .int 0])) (Kw G shNB zzero q) := MN.of rfl rfl (Nat.le_of_ble_eq_true rfl) (fun p e s m args below meth c C => by
  refine n_aload_n C 0 dX0_init_0 rfl rfl ?_
  refine n_obj C dX0_init_1 tw_38 (by decide) (Nat.le_of_ble_eq_true rfl) ?_
  refine n_vretK C dX0_init_4 (fun k => [q].getD k 0) rfl (fun k => k) ?_ (fun i _ j _ h9 e9 => h9 e9)
  exact ⟨trivial, ⟨_, rfl, CReq.rf⟩⟩)
theorem N_X1 {l : Launch} {G : Gp} {q : Nat} : MN l G yX1_init cX1_init 1 1 2 12 q [] (.inr (1, [.null, .null, .int 0])) (Kw G shNE zEven q) := MN.of rfl rfl (Nat.le_of_ble_eq_true rfl) (fun p e s m args below meth c C => by
  refine n_aload_n C 0 dX1_init_0 rfl rfl ?_
  refine n_obj C dX1_init_1 tw_116 (by decide) (Nat.le_of_ble_eq_true rfl) ?_
  refine n_aload_n C 0 dX1_init_4 rfl rfl ?_
  refine n_bipush C (v := 6) dX1_init_5 (by decide) ?_
  refine n_newi C (N' := 6) dX1_init_7 (by decide) (by decide) (by decide) (by decide) (by decide) (fun a1z => ?_)
  refine n_putF C 0 rfl rfl inX1 tyX1 tyX1_ok nmX1 0 (by decide) tw_117 rfl rfl rfl rfl (Nat.le_of_ble_eq_true rfl) (ws2 := (q, .inr (1, [.ref a1z, .null, .int 0])) :: (a1z, .inl (G.2.1 0, 6, .inl (fun _ => 0))) :: ([] : va_W)) rfl dX1_init_9 ?_
  refine n_aload_n C 0 dX1_init_12 rfl rfl ?_
  refine n_bipush C (v := 6) dX1_init_13 (by decide) ?_
  refine n_newi C (N' := 6) dX1_init_15 (by decide) (by decide) (by decide) (by decide) (by decide) (fun a2z => ?_)
  refine n_putF C 0 rfl rfl inX1 tyX1 tyX1_ok nmX1 1 (by decide) tw_118 rfl rfl rfl rfl (Nat.le_of_ble_eq_true rfl) (ws2 := (q, .inr (1, [.ref a1z, .ref a2z, .int 0])) :: (a1z, .inl (G.2.1 0, 6, .inl (fun _ => 0))) :: (a2z, .inl (G.2.1 0, 6, .inl (fun _ => 0))) :: ([] : va_W)) rfl dX1_init_17 ?_
  refine n_aload_n C 0 dX1_init_20 rfl rfl ?_
  refine n_bipush C (v := (-9)) dX1_init_21 (by decide) ?_
  refine n_put C 0 rfl rfl inX1 tyX1 tyX1_ok nmX1 2 (by decide) tw_119 rfl rfl rfl (Nat.le_of_ble_eq_true rfl) (ws2 := (q, .inr (1, [.ref a1z, .ref a2z, .int (-9)])) :: (a1z, .inl (G.2.1 0, 6, .inl (fun _ => 0))) :: (a2z, .inl (G.2.1 0, 6, .inl (fun _ => 0))) :: ([] : va_W)) rfl dX1_init_23 ?_
  refine n_vretK C dX1_init_26 (fun k => [q, a1z, a2z].getD k 0) rfl (fun k => k) ?_ (fun i _ j _ h9 e9 => h9 e9)
  exact ⟨⟨⟨trivial, ⟨_, rfl, CReq.rf⟩⟩, ⟨_, rfl, CReq.rf⟩⟩, ⟨_, rfl, CReq.rf⟩⟩)
theorem N_X2 {l : Launch} {G : Gp} {q : Nat} : MN l G yX2_init cX2_init 1 1 2 42 q [] (.inr (2, [.null, .null])) (Kw G shNF zzero q) := MN.of rfl rfl (Nat.le_of_ble_eq_true rfl) (fun p e s m args below meth c C => by
  refine n_aload_n C 0 dX2_init_0 rfl rfl ?_
  refine n_obj C dX2_init_1 tw_146 (by decide) (Nat.le_of_ble_eq_true rfl) ?_
  refine n_aload_n C 0 dX2_init_4 rfl rfl ?_
  refine n_bipush C (v := 21) dX2_init_5 (by decide) ?_
  refine n_newl C (N' := 21) dX2_init_7 (by decide) (by decide) (by decide) (by decide) (by decide) (fun a1z => ?_)
  refine n_putF C 0 rfl rfl inX2 tyX2 tyX2_ok nmX2 0 (by decide) tw_147 rfl rfl rfl rfl (Nat.le_of_ble_eq_true rfl) (ws2 := (q, .inr (2, [.ref a1z, .null])) :: (a1z, .inl (G.2.1 2, 21, .inr (.inl (fun _ => 0)))) :: ([] : va_W)) rfl dX2_init_9 ?_
  refine n_aload_n C 0 dX2_init_12 rfl rfl ?_
  refine n_bipush C (v := 21) dX2_init_13 (by decide) ?_
  refine n_newl C (N' := 21) dX2_init_15 (by decide) (by decide) (by decide) (by decide) (by decide) (fun a2z => ?_)
  refine n_putF C 0 rfl rfl inX2 tyX2 tyX2_ok nmX2 1 (by decide) tw_149 rfl rfl rfl rfl (Nat.le_of_ble_eq_true rfl) (ws2 := (q, .inr (2, [.ref a1z, .ref a2z])) :: (a1z, .inl (G.2.1 2, 21, .inr (.inl (fun _ => 0)))) :: (a2z, .inl (G.2.1 2, 21, .inr (.inl (fun _ => 0)))) :: ([] : va_W)) rfl dX2_init_17 ?_
  refine n_vretK C dX2_init_20 (fun k => [q, a1z, a2z].getD k 0) rfl (fun k => k) ?_ (fun i _ j _ h9 e9 => h9 e9)
  exact ⟨⟨⟨trivial, ⟨_, rfl, CReq.rf⟩⟩, ⟨_, rfl, CReq.rf⟩⟩, ⟨_, rfl, CReq.rf⟩⟩)
theorem N_X3 {l : Launch} {G : Gp} {q : Nat} : MN l G yX3_init cX3_init 1 1 2 12 q [] (.inr (3, [.null, .null, .int 0])) (Kw G shNH zzero q) := MN.of rfl rfl (Nat.le_of_ble_eq_true rfl) (fun p e s m args below meth c C => by
  refine n_aload_n C 0 dX3_init_0 rfl rfl ?_
  refine n_obj C dX3_init_1 tw_97 (by decide) (Nat.le_of_ble_eq_true rfl) ?_
  refine n_aload_n C 0 dX3_init_4 rfl rfl ?_
  refine n_bipush C (v := 6) dX3_init_5 (by decide) ?_
  refine n_newi C (N' := 6) dX3_init_7 (by decide) (by decide) (by decide) (by decide) (by decide) (fun a1z => ?_)
  refine n_putF C 0 rfl rfl inX3 tyX3 tyX3_ok nmX3 0 (by decide) tw_98 rfl rfl rfl rfl (Nat.le_of_ble_eq_true rfl) (ws2 := (q, .inr (3, [.ref a1z, .null, .int 0])) :: (a1z, .inl (G.2.1 0, 6, .inl (fun _ => 0))) :: ([] : va_W)) rfl dX3_init_9 ?_
  refine n_aload_n C 0 dX3_init_12 rfl rfl ?_
  refine n_bipush C (v := 6) dX3_init_13 (by decide) ?_
  refine n_newi C (N' := 6) dX3_init_15 (by decide) (by decide) (by decide) (by decide) (by decide) (fun a2z => ?_)
  refine n_putF C 0 rfl rfl inX3 tyX3 tyX3_ok nmX3 1 (by decide) tw_100 rfl rfl rfl rfl (Nat.le_of_ble_eq_true rfl) (ws2 := (q, .inr (3, [.ref a1z, .ref a2z, .int 0])) :: (a1z, .inl (G.2.1 0, 6, .inl (fun _ => 0))) :: (a2z, .inl (G.2.1 0, 6, .inl (fun _ => 0))) :: ([] : va_W)) rfl dX3_init_17 ?_
  refine n_vretK C dX3_init_20 (fun k => [q, a1z, a2z].getD k 0) rfl (fun k => k) ?_ (fun i _ j _ h9 e9 => h9 e9)
  exact ⟨⟨⟨trivial, ⟨_, rfl, CReq.rf⟩⟩, ⟨_, rfl, CReq.rf⟩⟩, ⟨_, rfl, CReq.rf⟩⟩)
theorem N_X4 {l : Launch} {G : Gp} {q : Nat} : MN l G yX4_init cX4_init 1 1 2 294 q [] (.inr (4, [.null, .null])) (Kw G shNP zzero q) := MN.of rfl rfl (Nat.le_of_ble_eq_true rfl) (fun p e s m args below meth c C => by
  refine n_aload_n C 0 dX4_init_0 rfl rfl ?_
  refine n_obj C dX4_init_1 tw_133 (by decide) (Nat.le_of_ble_eq_true rfl) ?_
  refine n_aload_n C 0 dX4_init_4 rfl rfl ?_
  refine n_bipush C (v := 21) dX4_init_5 (by decide) ?_
  refine n_newi C (N' := 21) dX4_init_7 (by decide) (by decide) (by decide) (by decide) (by decide) (fun a1z => ?_)
  refine n_putF C 0 rfl rfl inX4 tyX4 tyX4_ok nmX4 0 (by decide) tw_134 rfl rfl rfl rfl (Nat.le_of_ble_eq_true rfl) (ws2 := (q, .inr (4, [.ref a1z, .null])) :: (a1z, .inl (G.2.1 0, 21, .inl (fun _ => 0))) :: ([] : va_W)) rfl dX4_init_9 ?_
  refine n_aload_n C 0 dX4_init_12 rfl rfl ?_
  refine n_sipush C (v := 273) dX4_init_13 (by decide) ?_
  refine n_newi C (N' := 273) dX4_init_16 (by decide) (by decide) (by decide) (by decide) (by decide) (fun a2z => ?_)
  refine n_putF C 0 rfl rfl inX4 tyX4 tyX4_ok nmX4 1 (by decide) tw_135 rfl rfl rfl rfl (Nat.le_of_ble_eq_true rfl) (ws2 := (q, .inr (4, [.ref a1z, .ref a2z])) :: (a1z, .inl (G.2.1 0, 21, .inl (fun _ => 0))) :: (a2z, .inl (G.2.1 0, 273, .inl (fun _ => 0))) :: ([] : va_W)) rfl dX4_init_18 ?_
  refine n_vretK C dX4_init_21 (fun k => [q, a1z, a2z].getD k 0) rfl (fun k => k) ?_ (fun i _ j _ h9 e9 => h9 e9)
  exact ⟨⟨⟨trivial, ⟨_, rfl, CReq.rf⟩⟩, ⟨_, rfl, CReq.rf⟩⟩, ⟨_, rfl, CReq.rf⟩⟩)
theorem N_X5 {l : Launch} {G : Gp} {q : Nat} : MN l G yX5_init cX5_init 1 1 2 42 q [] (.inr (5, [.null, .null])) (Kw G shNG zzero q) := MN.of rfl rfl (Nat.le_of_ble_eq_true rfl) (fun p e s m args below meth c C => by
  refine n_aload_n C 0 dX5_init_0 rfl rfl ?_
  refine n_obj C dX5_init_1 tw_161 (by decide) (Nat.le_of_ble_eq_true rfl) ?_
  refine n_aload_n C 0 dX5_init_4 rfl rfl ?_
  refine n_bipush C (v := 21) dX5_init_5 (by decide) ?_
  refine n_newz C (N' := 21) dX5_init_7 (by decide) (by decide) (by decide) (by decide) (by decide) (fun a1z => ?_)
  refine n_putF C 0 rfl rfl inX5 tyX5 tyX5_ok nmX5 0 (by decide) tw_162 rfl rfl rfl rfl (Nat.le_of_ble_eq_true rfl) (ws2 := (q, .inr (5, [.ref a1z, .null])) :: (a1z, .inl (G.2.1 1, 21, .inl (fun _ => 0))) :: ([] : va_W)) rfl dX5_init_9 ?_
  refine n_aload_n C 0 dX5_init_12 rfl rfl ?_
  refine n_bipush C (v := 21) dX5_init_13 (by decide) ?_
  refine n_newz C (N' := 21) dX5_init_15 (by decide) (by decide) (by decide) (by decide) (by decide) (fun a2z => ?_)
  refine n_putF C 0 rfl rfl inX5 tyX5 tyX5_ok nmX5 1 (by decide) tw_164 rfl rfl rfl rfl (Nat.le_of_ble_eq_true rfl) (ws2 := (q, .inr (5, [.ref a1z, .ref a2z])) :: (a1z, .inl (G.2.1 1, 21, .inl (fun _ => 0))) :: (a2z, .inl (G.2.1 1, 21, .inl (fun _ => 0))) :: ([] : va_W)) rfl dX5_init_17 ?_
  refine n_vretK C dX5_init_20 (fun k => [q, a1z, a2z].getD k 0) rfl (fun k => k) ?_ (fun i _ j _ h9 e9 => h9 e9)
  exact ⟨⟨⟨trivial, ⟨_, rfl, CReq.rf⟩⟩, ⟨_, rfl, CReq.rf⟩⟩, ⟨_, rfl, CReq.rf⟩⟩)
theorem N_X6_40 {l : Launch} {G : Gp} {q : Nat} : MN l G yX6_init cX6_init 2 1 1 40 q [.int 40] (.inr (6, [.null, .int 0, .int 0])) (Kw G (shNR 40) zzero q) := MN.of rfl rfl (Nat.le_of_ble_eq_true rfl) (fun p e s m args below meth c C => by
  refine n_aload_n C 0 dX6_init_0 rfl rfl ?_
  refine n_obj C dX6_init_1 tw_175 (by decide) (Nat.le_of_ble_eq_true rfl) ?_
  refine n_aload_n C 0 dX6_init_4 rfl rfl ?_
  refine n_iconst C (v := 0) dX6_init_5 (by decide) ?_
  refine n_iload_n C 1 dX6_init_6 rfl rfl ?_
  refine n_max C dX6_init_7 tw_176 tw_177 tw_10 tw_178 (by decide) (Nat.le_of_ble_eq_true rfl) (by decide) (by decide) ?_
  refine n_newi C (N' := 40) dX6_init_10 (by decide) (by decide) (by decide) (by decide) (by decide) (fun a1z => ?_)
  refine n_putF C 0 rfl rfl inX6 tyX6 tyX6_ok nmX6 0 (by decide) tw_179 rfl rfl rfl rfl (Nat.le_of_ble_eq_true rfl) (ws2 := (q, .inr (6, [.ref a1z, .int 0, .int 0])) :: (a1z, .inl (G.2.1 0, 40, .inl (fun _ => 0))) :: ([] : va_W)) rfl dX6_init_12 ?_
  refine n_vretK C dX6_init_15 (fun k => [q, a1z].getD k 0) rfl (fun k => k) ?_ (fun i _ j _ h9 e9 => h9 e9)
  exact ⟨⟨trivial, ⟨_, rfl, CReq.rf⟩⟩, ⟨_, rfl, CReq.rf⟩⟩)
theorem N_X6_60 {l : Launch} {G : Gp} {q : Nat} : MN l G yX6_init cX6_init 2 1 1 60 q [.int 60] (.inr (6, [.null, .int 0, .int 0])) (Kw G (shNR 60) zzero q) := MN.of rfl rfl (Nat.le_of_ble_eq_true rfl) (fun p e s m args below meth c C => by
  refine n_aload_n C 0 dX6_init_0 rfl rfl ?_
  refine n_obj C dX6_init_1 tw_175 (by decide) (Nat.le_of_ble_eq_true rfl) ?_
  refine n_aload_n C 0 dX6_init_4 rfl rfl ?_
  refine n_iconst C (v := 0) dX6_init_5 (by decide) ?_
  refine n_iload_n C 1 dX6_init_6 rfl rfl ?_
  refine n_max C dX6_init_7 tw_176 tw_177 tw_10 tw_178 (by decide) (Nat.le_of_ble_eq_true rfl) (by decide) (by decide) ?_
  refine n_newi C (N' := 60) dX6_init_10 (by decide) (by decide) (by decide) (by decide) (by decide) (fun a1z => ?_)
  refine n_putF C 0 rfl rfl inX6 tyX6 tyX6_ok nmX6 0 (by decide) tw_179 rfl rfl rfl rfl (Nat.le_of_ble_eq_true rfl) (ws2 := (q, .inr (6, [.ref a1z, .int 0, .int 0])) :: (a1z, .inl (G.2.1 0, 60, .inl (fun _ => 0))) :: ([] : va_W)) rfl dX6_init_12 ?_
  refine n_vretK C dX6_init_15 (fun k => [q, a1z].getD k 0) rfl (fun k => k) ?_ (fun i _ j _ h9 e9 => h9 e9)
  exact ⟨⟨trivial, ⟨_, rfl, CReq.rf⟩⟩, ⟨_, rfl, CReq.rf⟩⟩)
theorem N_X7 {l : Launch} {G : Gp} {q : Nat} : MN l G yX7_init cX7_init 2 2 8 82 q [] (.inr (7, [.null, .null, .int 0, .int 0, .int 0])) (Kw G shNT zzero q) := MN.of rfl rfl (Nat.le_of_ble_eq_true rfl) (fun p e s m args below meth c C => by
  refine n_aload_n C 0 dX7_init_0 rfl rfl ?_
  refine n_obj C dX7_init_1 tw_31 (by decide) (Nat.le_of_ble_eq_true rfl) ?_
  refine n_aload_n C 0 dX7_init_4 rfl rfl ?_
  refine n_bipush C (v := 6) dX7_init_5 (by decide) ?_
  refine n_newq C 5 (N' := 6) rfl tw_32 C.2.1.2.2.2 dX7_init_7 (by decide) (by decide) (by decide) (by decide) (by decide) (fun a1z => ?_)
  refine n_putF C 0 rfl rfl inX7 tyX7 tyX7_ok nmX7 0 (by decide) tw_70 rfl rfl rfl rfl (Nat.le_of_ble_eq_true rfl) (ws2 := (q, .inr (7, [.ref a1z, .null, .int 0, .int 0, .int 0])) :: (a1z, .inl (G.2.1 5, 6, .inr (.inr (.inr (.inr (fun _ => none)))))) :: ([] : va_W)) rfl dX7_init_10 ?_
  refine n_aload_n C 0 dX7_init_13 rfl rfl ?_
  refine n_bipush C (v := 40) dX7_init_14 (by decide) ?_
  refine n_newi C (N' := 40) dX7_init_16 (by decide) (by decide) (by decide) (by decide) (by decide) (fun a2z => ?_)
  refine n_putF C 0 rfl rfl inX7 tyX7 tyX7_ok nmX7 1 (by decide) tw_73 rfl rfl rfl rfl (Nat.le_of_ble_eq_true rfl) (ws2 := (q, .inr (7, [.ref a1z, .ref a2z, .int 0, .int 0, .int 0])) :: (a1z, .inl (G.2.1 5, 6, .inr (.inr (.inr (.inr (fun _ => none)))))) :: (a2z, .inl (G.2.1 0, 40, .inl (fun _ => 0))) :: ([] : va_W)) rfl dX7_init_18 ?_
  refine n_iconst C (v := 0) dX7_init_21 (by decide) ?_
  refine n_istore_n C (lv2 := [(1, .int 0), (0, .ref q)]) dX7_init_22 rfl (by decide) rfl ?_
  refine n_iload_n C 0 dX7_init_23 rfl rfl ?_
  refine n_bipush C (v := 6) dX7_init_24 (by decide) ?_
  refine n_icmp_ge C (tgt := 48) dX7_init_26 (by decide) (fun h9 => absurd h9 (by decide)) (fun _ => ?_)
  refine n_aload_n C 1 dX7_init_29 rfl rfl ?_
  refine n_get C 0 rfl rfl inX7 0 (by decide) tw_70 rfl dX7_init_30 ?_
  refine n_iload_n C 0 dX7_init_33 rfl rfl ?_
  refine n_new C (ci := 0) (fs := [.int 0, .int 0, .int 0, .int 0, .int 0, .int 0]) inX0 tyX0 tyX0_ok tw_32 tw_34 tw_3 rfl (by decide) (by decide) (by decide) dX7_init_34 (fun a3z => ?_)
  refine n_dup C dX7_init_37 rfl ?_
  refine n_initN C (rest := [.ref a3z, .int 0, .ref a1z]) (w0 := (q, .inr (7, [.ref a1z, .ref a2z, .int 0, .int 0, .int 0])) :: (a1z, .inl (G.2.1 5, 6, .inr (.inr (.inr (.inr (fun _ => none)))))) :: (a2z, .inl (G.2.1 0, 40, .inl (fun _ => 0))) :: ([] : va_W)) N_X0 CyX0_init rfl (host := RX8) (List.mem_of_getElem? (i := 13) rfl) tw_36 (by decide) rfl rfl (Nat.le_of_ble_eq_true rfl) dX7_init_38 (by decide) (by decide) rfl ?_
  intro T1z ⟨b1z, h9, hT1z⟩
  subst h9
  refine n_astk (i := 0) (k := 0) (v := b1z 0) (a := a1z) C 1 5 ((q, .inr (7, [.ref a1z, .ref a2z, .int 0, .int 0, .int 0])) :: (a1z, .inl (G.2.1 5, 6, .inr (.inr (.inr (.inr (fun _ => none)))))) :: (a2z, .inl (G.2.1 0, 40, .inl (fun _ => 0))) :: ([] : va_W)).length 0 rfl rfl (at_app (x := (b1z 0, .inr (0, [.int 0, .int 0, .int 0, .int 0, .int 0, .int 0]))) (by rw [hT1z]; rfl)) rfl (by unfold vp_in; decide) (by decide) dX7_init_41 (ws2 := (q, .inr (7, [.ref a1z, .ref a2z, .int 0, .int 0, .int 0])) :: (a1z, .inl (G.2.1 5, 6, .inr (.inr (.inr (.inr (va_up (fun _ => none) 0 (some (b1z 0)))))))) :: (a2z, .inl (G.2.1 0, 40, .inl (fun _ => 0))) :: (([] : va_W) ++ T1z)) rfl ?_
  refine n_iinc C 0 (v := 1) (lv2 := [(1, .int (0 + 1)), (0, .ref q)]) dX7_init_42 (by decide) rfl (by decide) rfl ?_
  refine n_goto C (tgt := 23) dX7_init_45 (by decide) ?_
  refine n_iload_n C 0 dX7_init_23 rfl rfl ?_
  refine n_bipush C (v := 6) dX7_init_24 (by decide) ?_
  refine n_icmp_ge C (tgt := 48) dX7_init_26 (by decide) (fun h9 => absurd h9 (by decide)) (fun _ => ?_)
  refine n_aload_n C 1 dX7_init_29 rfl rfl ?_
  refine n_get C 0 rfl rfl inX7 0 (by decide) tw_70 rfl dX7_init_30 ?_
  refine n_iload_n C 0 dX7_init_33 rfl rfl ?_
  refine n_new C (ci := 0) (fs := [.int 0, .int 0, .int 0, .int 0, .int 0, .int 0]) inX0 tyX0 tyX0_ok tw_32 tw_34 tw_3 rfl (by decide) (by decide) (by decide) dX7_init_34 (fun a4z => ?_)
  refine n_dup C dX7_init_37 rfl ?_
  refine n_initN C (rest := [.ref a4z, .int (0 + 1), .ref a1z]) (w0 := (q, .inr (7, [.ref a1z, .ref a2z, .int 0, .int 0, .int 0])) :: (a1z, .inl (G.2.1 5, 6, .inr (.inr (.inr (.inr (va_up (fun _ => none) 0 (some (b1z 0)))))))) :: (a2z, .inl (G.2.1 0, 40, .inl (fun _ => 0))) :: (([] : va_W) ++ T1z)) N_X0 CyX0_init rfl (host := RX8) (List.mem_of_getElem? (i := 13) rfl) tw_36 (by decide) rfl rfl (Nat.le_of_ble_eq_true rfl) dX7_init_38 (by decide) (by decide) rfl ?_
  intro T2z ⟨b2z, h9, hT2z⟩
  subst h9
  refine n_astk (i := (0 + 1)) (k := 1) (v := b2z 0) (a := a1z) C 1 5 ((q, .inr (7, [.ref a1z, .ref a2z, .int 0, .int 0, .int 0])) :: (a1z, .inl (G.2.1 5, 6, .inr (.inr (.inr (.inr (va_up (fun _ => none) 0 (some (b1z 0)))))))) :: (a2z, .inl (G.2.1 0, 40, .inl (fun _ => 0))) :: (([] : va_W) ++ T1z)).length 0 rfl rfl (at_app (x := (b2z 0, .inr (0, [.int 0, .int 0, .int 0, .int 0, .int 0, .int 0]))) (by rw [hT2z]; rfl)) rfl (by unfold vp_in; decide) (by decide) dX7_init_41 (ws2 := (q, .inr (7, [.ref a1z, .ref a2z, .int 0, .int 0, .int 0])) :: (a1z, .inl (G.2.1 5, 6, .inr (.inr (.inr (.inr (va_up (va_up (fun _ => none) 0 (some (b1z 0))) 1 (some (b2z 0)))))))) :: (a2z, .inl (G.2.1 0, 40, .inl (fun _ => 0))) :: ((([] : va_W) ++ T1z) ++ T2z)) rfl ?_
  refine n_iinc C 0 (v := 1) (lv2 := [(1, .int ((0 + 1) + 1)), (0, .ref q)]) dX7_init_42 (by decide) rfl (by decide) rfl ?_
  refine n_goto C (tgt := 23) dX7_init_45 (by decide) ?_
  refine n_iload_n C 0 dX7_init_23 rfl rfl ?_
  refine n_bipush C (v := 6) dX7_init_24 (by decide) ?_
  refine n_icmp_ge C (tgt := 48) dX7_init_26 (by decide) (fun h9 => absurd h9 (by decide)) (fun _ => ?_)
  refine n_aload_n C 1 dX7_init_29 rfl rfl ?_
  refine n_get C 0 rfl rfl inX7 0 (by decide) tw_70 rfl dX7_init_30 ?_
  refine n_iload_n C 0 dX7_init_33 rfl rfl ?_
  refine n_new C (ci := 0) (fs := [.int 0, .int 0, .int 0, .int 0, .int 0, .int 0]) inX0 tyX0 tyX0_ok tw_32 tw_34 tw_3 rfl (by decide) (by decide) (by decide) dX7_init_34 (fun a5z => ?_)
  refine n_dup C dX7_init_37 rfl ?_
  refine n_initN C (rest := [.ref a5z, .int ((0 + 1) + 1), .ref a1z]) (w0 := (q, .inr (7, [.ref a1z, .ref a2z, .int 0, .int 0, .int 0])) :: (a1z, .inl (G.2.1 5, 6, .inr (.inr (.inr (.inr (va_up (va_up (fun _ => none) 0 (some (b1z 0))) 1 (some (b2z 0)))))))) :: (a2z, .inl (G.2.1 0, 40, .inl (fun _ => 0))) :: ((([] : va_W) ++ T1z) ++ T2z)) N_X0 CyX0_init rfl (host := RX8) (List.mem_of_getElem? (i := 13) rfl) tw_36 (by decide) rfl rfl (Nat.le_of_ble_eq_true rfl) dX7_init_38 (by decide) (by decide) rfl ?_
  intro T3z ⟨b3z, h9, hT3z⟩
  subst h9
  refine n_astk (i := ((0 + 1) + 1)) (k := 2) (v := b3z 0) (a := a1z) C 1 5 ((q, .inr (7, [.ref a1z, .ref a2z, .int 0, .int 0, .int 0])) :: (a1z, .inl (G.2.1 5, 6, .inr (.inr (.inr (.inr (va_up (va_up (fun _ => none) 0 (some (b1z 0))) 1 (some (b2z 0)))))))) :: (a2z, .inl (G.2.1 0, 40, .inl (fun _ => 0))) :: ((([] : va_W) ++ T1z) ++ T2z)).length 0 rfl rfl (at_app (x := (b3z 0, .inr (0, [.int 0, .int 0, .int 0, .int 0, .int 0, .int 0]))) (by rw [hT3z]; rfl)) rfl (by unfold vp_in; decide) (by decide) dX7_init_41 (ws2 := (q, .inr (7, [.ref a1z, .ref a2z, .int 0, .int 0, .int 0])) :: (a1z, .inl (G.2.1 5, 6, .inr (.inr (.inr (.inr (va_up (va_up (va_up (fun _ => none) 0 (some (b1z 0))) 1 (some (b2z 0))) 2 (some (b3z 0)))))))) :: (a2z, .inl (G.2.1 0, 40, .inl (fun _ => 0))) :: (((([] : va_W) ++ T1z) ++ T2z) ++ T3z)) rfl ?_
  refine n_iinc C 0 (v := 1) (lv2 := [(1, .int (((0 + 1) + 1) + 1)), (0, .ref q)]) dX7_init_42 (by decide) rfl (by decide) rfl ?_
  refine n_goto C (tgt := 23) dX7_init_45 (by decide) ?_
  refine n_iload_n C 0 dX7_init_23 rfl rfl ?_
  refine n_bipush C (v := 6) dX7_init_24 (by decide) ?_
  refine n_icmp_ge C (tgt := 48) dX7_init_26 (by decide) (fun h9 => absurd h9 (by decide)) (fun _ => ?_)
  refine n_aload_n C 1 dX7_init_29 rfl rfl ?_
  refine n_get C 0 rfl rfl inX7 0 (by decide) tw_70 rfl dX7_init_30 ?_
  refine n_iload_n C 0 dX7_init_33 rfl rfl ?_
  refine n_new C (ci := 0) (fs := [.int 0, .int 0, .int 0, .int 0, .int 0, .int 0]) inX0 tyX0 tyX0_ok tw_32 tw_34 tw_3 rfl (by decide) (by decide) (by decide) dX7_init_34 (fun a6z => ?_)
  refine n_dup C dX7_init_37 rfl ?_
  refine n_initN C (rest := [.ref a6z, .int (((0 + 1) + 1) + 1), .ref a1z]) (w0 := (q, .inr (7, [.ref a1z, .ref a2z, .int 0, .int 0, .int 0])) :: (a1z, .inl (G.2.1 5, 6, .inr (.inr (.inr (.inr (va_up (va_up (va_up (fun _ => none) 0 (some (b1z 0))) 1 (some (b2z 0))) 2 (some (b3z 0)))))))) :: (a2z, .inl (G.2.1 0, 40, .inl (fun _ => 0))) :: (((([] : va_W) ++ T1z) ++ T2z) ++ T3z)) N_X0 CyX0_init rfl (host := RX8) (List.mem_of_getElem? (i := 13) rfl) tw_36 (by decide) rfl rfl (Nat.le_of_ble_eq_true rfl) dX7_init_38 (by decide) (by decide) rfl ?_
  intro T4z ⟨b4z, h9, hT4z⟩
  subst h9
  refine n_astk (i := (((0 + 1) + 1) + 1)) (k := 3) (v := b4z 0) (a := a1z) C 1 5 ((q, .inr (7, [.ref a1z, .ref a2z, .int 0, .int 0, .int 0])) :: (a1z, .inl (G.2.1 5, 6, .inr (.inr (.inr (.inr (va_up (va_up (va_up (fun _ => none) 0 (some (b1z 0))) 1 (some (b2z 0))) 2 (some (b3z 0)))))))) :: (a2z, .inl (G.2.1 0, 40, .inl (fun _ => 0))) :: (((([] : va_W) ++ T1z) ++ T2z) ++ T3z)).length 0 rfl rfl (at_app (x := (b4z 0, .inr (0, [.int 0, .int 0, .int 0, .int 0, .int 0, .int 0]))) (by rw [hT4z]; rfl)) rfl (by unfold vp_in; decide) (by decide) dX7_init_41 (ws2 := (q, .inr (7, [.ref a1z, .ref a2z, .int 0, .int 0, .int 0])) :: (a1z, .inl (G.2.1 5, 6, .inr (.inr (.inr (.inr (va_up (va_up (va_up (va_up (fun _ => none) 0 (some (b1z 0))) 1 (some (b2z 0))) 2 (some (b3z 0))) 3 (some (b4z 0)))))))) :: (a2z, .inl (G.2.1 0, 40, .inl (fun _ => 0))) :: ((((([] : va_W) ++ T1z) ++ T2z) ++ T3z) ++ T4z)) rfl ?_
  refine n_iinc C 0 (v := 1) (lv2 := [(1, .int ((((0 + 1) + 1) + 1) + 1)), (0, .ref q)]) dX7_init_42 (by decide) rfl (by decide) rfl ?_
  refine n_goto C (tgt := 23) dX7_init_45 (by decide) ?_
  refine n_iload_n C 0 dX7_init_23 rfl rfl ?_
  refine n_bipush C (v := 6) dX7_init_24 (by decide) ?_
  refine n_icmp_ge C (tgt := 48) dX7_init_26 (by decide) (fun h9 => absurd h9 (by decide)) (fun _ => ?_)
  refine n_aload_n C 1 dX7_init_29 rfl rfl ?_
  refine n_get C 0 rfl rfl inX7 0 (by decide) tw_70 rfl dX7_init_30 ?_
  refine n_iload_n C 0 dX7_init_33 rfl rfl ?_
  refine n_new C (ci := 0) (fs := [.int 0, .int 0, .int 0, .int 0, .int 0, .int 0]) inX0 tyX0 tyX0_ok tw_32 tw_34 tw_3 rfl (by decide) (by decide) (by decide) dX7_init_34 (fun a7z => ?_)
  refine n_dup C dX7_init_37 rfl ?_
  refine n_initN C (rest := [.ref a7z, .int ((((0 + 1) + 1) + 1) + 1), .ref a1z]) (w0 := (q, .inr (7, [.ref a1z, .ref a2z, .int 0, .int 0, .int 0])) :: (a1z, .inl (G.2.1 5, 6, .inr (.inr (.inr (.inr (va_up (va_up (va_up (va_up (fun _ => none) 0 (some (b1z 0))) 1 (some (b2z 0))) 2 (some (b3z 0))) 3 (some (b4z 0)))))))) :: (a2z, .inl (G.2.1 0, 40, .inl (fun _ => 0))) :: ((((([] : va_W) ++ T1z) ++ T2z) ++ T3z) ++ T4z)) N_X0 CyX0_init rfl (host := RX8) (List.mem_of_getElem? (i := 13) rfl) tw_36 (by decide) rfl rfl (Nat.le_of_ble_eq_true rfl) dX7_init_38 (by decide) (by decide) rfl ?_
  intro T5z ⟨b5z, h9, hT5z⟩
  subst h9
  refine n_astk (i := ((((0 + 1) + 1) + 1) + 1)) (k := 4) (v := b5z 0) (a := a1z) C 1 5 ((q, .inr (7, [.ref a1z, .ref a2z, .int 0, .int 0, .int 0])) :: (a1z, .inl (G.2.1 5, 6, .inr (.inr (.inr (.inr (va_up (va_up (va_up (va_up (fun _ => none) 0 (some (b1z 0))) 1 (some (b2z 0))) 2 (some (b3z 0))) 3 (some (b4z 0)))))))) :: (a2z, .inl (G.2.1 0, 40, .inl (fun _ => 0))) :: ((((([] : va_W) ++ T1z) ++ T2z) ++ T3z) ++ T4z)).length 0 rfl rfl (at_app (x := (b5z 0, .inr (0, [.int 0, .int 0, .int 0, .int 0, .int 0, .int 0]))) (by rw [hT5z]; rfl)) rfl (by unfold vp_in; decide) (by decide) dX7_init_41 (ws2 := (q, .inr (7, [.ref a1z, .ref a2z, .int 0, .int 0, .int 0])) :: (a1z, .inl (G.2.1 5, 6, .inr (.inr (.inr (.inr (va_up (va_up (va_up (va_up (va_up (fun _ => none) 0 (some (b1z 0))) 1 (some (b2z 0))) 2 (some (b3z 0))) 3 (some (b4z 0))) 4 (some (b5z 0)))))))) :: (a2z, .inl (G.2.1 0, 40, .inl (fun _ => 0))) :: (((((([] : va_W) ++ T1z) ++ T2z) ++ T3z) ++ T4z) ++ T5z)) rfl ?_
  refine n_iinc C 0 (v := 1) (lv2 := [(1, .int (((((0 + 1) + 1) + 1) + 1) + 1)), (0, .ref q)]) dX7_init_42 (by decide) rfl (by decide) rfl ?_
  refine n_goto C (tgt := 23) dX7_init_45 (by decide) ?_
  refine n_iload_n C 0 dX7_init_23 rfl rfl ?_
  refine n_bipush C (v := 6) dX7_init_24 (by decide) ?_
  refine n_icmp_ge C (tgt := 48) dX7_init_26 (by decide) (fun h9 => absurd h9 (by decide)) (fun _ => ?_)
  refine n_aload_n C 1 dX7_init_29 rfl rfl ?_
  refine n_get C 0 rfl rfl inX7 0 (by decide) tw_70 rfl dX7_init_30 ?_
  refine n_iload_n C 0 dX7_init_33 rfl rfl ?_
  refine n_new C (ci := 0) (fs := [.int 0, .int 0, .int 0, .int 0, .int 0, .int 0]) inX0 tyX0 tyX0_ok tw_32 tw_34 tw_3 rfl (by decide) (by decide) (by decide) dX7_init_34 (fun a8z => ?_)
  refine n_dup C dX7_init_37 rfl ?_
  refine n_initN C (rest := [.ref a8z, .int (((((0 + 1) + 1) + 1) + 1) + 1), .ref a1z]) (w0 := (q, .inr (7, [.ref a1z, .ref a2z, .int 0, .int 0, .int 0])) :: (a1z, .inl (G.2.1 5, 6, .inr (.inr (.inr (.inr (va_up (va_up (va_up (va_up (va_up (fun _ => none) 0 (some (b1z 0))) 1 (some (b2z 0))) 2 (some (b3z 0))) 3 (some (b4z 0))) 4 (some (b5z 0)))))))) :: (a2z, .inl (G.2.1 0, 40, .inl (fun _ => 0))) :: (((((([] : va_W) ++ T1z) ++ T2z) ++ T3z) ++ T4z) ++ T5z)) N_X0 CyX0_init rfl (host := RX8) (List.mem_of_getElem? (i := 13) rfl) tw_36 (by decide) rfl rfl (Nat.le_of_ble_eq_true rfl) dX7_init_38 (by decide) (by decide) rfl ?_
  intro T6z ⟨b6z, h9, hT6z⟩
  subst h9
  refine n_astk (i := (((((0 + 1) + 1) + 1) + 1) + 1)) (k := 5) (v := b6z 0) (a := a1z) C 1 5 ((q, .inr (7, [.ref a1z, .ref a2z, .int 0, .int 0, .int 0])) :: (a1z, .inl (G.2.1 5, 6, .inr (.inr (.inr (.inr (va_up (va_up (va_up (va_up (va_up (fun _ => none) 0 (some (b1z 0))) 1 (some (b2z 0))) 2 (some (b3z 0))) 3 (some (b4z 0))) 4 (some (b5z 0)))))))) :: (a2z, .inl (G.2.1 0, 40, .inl (fun _ => 0))) :: (((((([] : va_W) ++ T1z) ++ T2z) ++ T3z) ++ T4z) ++ T5z)).length 0 rfl rfl (at_app (x := (b6z 0, .inr (0, [.int 0, .int 0, .int 0, .int 0, .int 0, .int 0]))) (by rw [hT6z]; rfl)) rfl (by unfold vp_in; decide) (by decide) dX7_init_41 (ws2 := (q, .inr (7, [.ref a1z, .ref a2z, .int 0, .int 0, .int 0])) :: (a1z, .inl (G.2.1 5, 6, .inr (.inr (.inr (.inr (va_up (va_up (va_up (va_up (va_up (va_up (fun _ => none) 0 (some (b1z 0))) 1 (some (b2z 0))) 2 (some (b3z 0))) 3 (some (b4z 0))) 4 (some (b5z 0))) 5 (some (b6z 0)))))))) :: (a2z, .inl (G.2.1 0, 40, .inl (fun _ => 0))) :: ((((((([] : va_W) ++ T1z) ++ T2z) ++ T3z) ++ T4z) ++ T5z) ++ T6z)) rfl ?_
  refine n_iinc C 0 (v := 1) (lv2 := [(1, .int ((((((0 + 1) + 1) + 1) + 1) + 1) + 1)), (0, .ref q)]) dX7_init_42 (by decide) rfl (by decide) rfl ?_
  refine n_goto C (tgt := 23) dX7_init_45 (by decide) ?_
  refine n_iload_n C 0 dX7_init_23 rfl rfl ?_
  refine n_bipush C (v := 6) dX7_init_24 (by decide) ?_
  refine n_icmp_ge C (tgt := 48) dX7_init_26 (by decide) (fun _ => ?_) (fun h9 => absurd (by decide) h9)
  subst hT1z
  subst hT2z
  subst hT3z
  subst hT4z
  subst hT5z
  subst hT6z
  refine n_vretK C dX7_init_48 (fun k => [q, a1z, a2z, b1z 0, b2z 0, b3z 0, b4z 0, b5z 0, b6z 0].getD k 0) rfl (fun k => k) ?_ (fun i _ j _ h9 e9 => h9 e9)
  exact ⟨⟨⟨⟨⟨⟨⟨⟨⟨trivial, ⟨_, rfl, CReq.rf⟩⟩, ⟨_, rfl, CReq.q ⟨⟨⟨⟨⟨⟨trivial, rfl⟩, rfl⟩, rfl⟩, rfl⟩, rfl⟩, rfl⟩⟩⟩, ⟨_, rfl, CReq.rf⟩⟩, ⟨_, rfl, CReq.rf⟩⟩, ⟨_, rfl, CReq.rf⟩⟩, ⟨_, rfl, CReq.rf⟩⟩, ⟨_, rfl, CReq.rf⟩⟩, ⟨_, rfl, CReq.rf⟩⟩, ⟨_, rfl, CReq.rf⟩⟩)

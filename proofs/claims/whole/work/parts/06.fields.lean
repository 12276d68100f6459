theorem lc_0 : Int64.ofNat ((0 : Fin 2) : Nat) = 0 := by decide
theorem lc_1 : Int64.ofNat ((1 : Fin 2) : Nat) = 1 := by decide
theorem ic_m1 : Int32.ofInt (-1) = (-1) := by decide
theorem ic_0 : Int32.ofInt 0 = 0 := by decide
theorem ic_1 : Int32.ofInt 1 = 1 := by decide
theorem ic_2 : Int32.ofInt 2 = 2 := by decide
theorem ic_3 : Int32.ofInt 3 = 3 := by decide
theorem ic_4 : Int32.ofInt 4 = 4 := by decide
theorem ic_5 : Int32.ofInt 5 = 5 := by decide
theorem bp_m9 : (Int8.ofInt (-9)).toInt32 = (-9) := by decide
theorem bp_m4 : (Int8.ofInt (-4)).toInt32 = (-4) := by decide
theorem bp_m3 : (Int8.ofInt (-3)).toInt32 = (-3) := by decide
theorem bp_m2 : (Int8.ofInt (-2)).toInt32 = (-2) := by decide
theorem bp_6 : (Int8.ofInt 6).toInt32 = 6 := by decide
theorem bp_7 : (Int8.ofInt 7).toInt32 = 7 := by decide
theorem bp_8 : (Int8.ofInt 8).toInt32 = 8 := by decide
theorem bp_9 : (Int8.ofInt 9).toInt32 = 9 := by decide
theorem bp_10 : (Int8.ofInt 10).toInt32 = 10 := by decide
theorem bp_12 : (Int8.ofInt 12).toInt32 = 12 := by decide
theorem bp_14 : (Int8.ofInt 14).toInt32 = 14 := by decide
theorem bp_16 : (Int8.ofInt 16).toInt32 = 16 := by decide
theorem bp_20 : (Int8.ofInt 20).toInt32 = 20 := by decide
theorem bp_21 : (Int8.ofInt 21).toInt32 = 21 := by decide
theorem bp_22 : (Int8.ofInt 22).toInt32 = 22 := by decide
theorem bp_26 : (Int8.ofInt 26).toInt32 = 26 := by decide
theorem bp_30 : (Int8.ofInt 30).toInt32 = 30 := by decide
theorem bp_32 : (Int8.ofInt 32).toInt32 = 32 := by decide
theorem bp_40 : (Int8.ofInt 40).toInt32 = 40 := by decide
theorem bp_42 : (Int8.ofInt 42).toInt32 = 42 := by decide
theorem bp_48 : (Int8.ofInt 48).toInt32 = 48 := by decide
theorem bp_60 : (Int8.ofInt 60).toInt32 = 60 := by decide
theorem bp_63 : (Int8.ofInt 63).toInt32 = 63 := by decide
theorem bp_98 : (Int8.ofInt 98).toInt32 = 98 := by decide
theorem bp_100 : (Int8.ofInt 100).toInt32 = 100 := by decide
theorem bp_103 : (Int8.ofInt 103).toInt32 = 103 := by decide
theorem bp_104 : (Int8.ofInt 104).toInt32 = 104 := by decide
theorem bp_110 : (Int8.ofInt 110).toInt32 = 110 := by decide
theorem bp_113 : (Int8.ofInt 113).toInt32 = 113 := by decide
theorem bp_116 : (Int8.ofInt 116).toInt32 = 116 := by decide
theorem sp_m1000 : (Int16.ofInt (-1000)).toInt32 = (-1000) := by decide
theorem sp_200 : (Int16.ofInt 200).toInt32 = 200 := by decide
theorem sp_1000 : (Int16.ofInt 1000).toInt32 = 1000 := by decide
theorem sp_1312 : (Int16.ofInt 1312).toInt32 = 1312 := by decide
theorem sp_5248 : (Int16.ofInt 5248).toInt32 = 5248 := by decide
theorem sp_5249 : (Int16.ofInt 5249).toInt32 = 5249 := by decide
theorem sp_5250 : (Int16.ofInt 5250).toInt32 = 5250 := by decide
theorem sp_5256 : (Int16.ofInt 5256).toInt32 = 5256 := by decide
theorem sp_5262 : (Int16.ofInt 5262).toInt32 = 5262 := by decide
def elen (b : Nat) : Nat := if b = 5 then 40 else 60
theorem sh_all {q : Nat × Nat × Nat} {P : Nat → Prop} [DecidablePred P] (h : ∀ k, k < 85 → shC[k]? = some q → P k) {k : Nat} (hk : shC[k]? = some q) : P k := h k (List.getElem?_eq_some_iff.mp hk).1 hk
theorem sh7_0 {k : Nat} (hk : shC[k]? = some (7, 0, 0)) : shC[k + 1]? = some (15, 6, k + 3) := sh_all (P := fun k => shC[k + 1]? = some (15, 6, k + 3)) (by decide +kernel) hk
theorem sh7_1 {k : Nat} (hk : shC[k]? = some (7, 0, 0)) : shC[k + 2]? = some (10, 40, 0) := sh_all (P := fun k => shC[k + 2]? = some (10, 40, 0)) (by decide +kernel) hk
theorem vp_lt {i : Int32} {n : Nat} (h : vp_in i n) : i.toNatClampNeg < n := Nat.not_le.mp fun q => h (Or.inr q)
theorem sh7_e {k : Nat} (hk : shC[k]? = some (7, 0, 0)) {i : Int32} (h : vp_in i 6) : shC[k + 3 + i.toNatClampNeg]? = some (0, 0, 0) := sh_all (P := fun k => ∀ j, j < 6 → shC[k + 3 + j]? = some (0, 0, 0)) (by decide +kernel) hk _ (vp_lt h)
theorem sh6_0 {k n : Nat} (hk : shC[k]? = some (6, n, 0)) : shC[k + 1]? = some (10, n, 0) := by
  have h1 : ∀ k, k < 85 → (shC.getD k (0, 0, 0)).1 = 6 → shC[k + 1]? = some (10, (shC.getD k (0, 0, 0)).2.1, 0) := by decide +kernel
  have h2 := h1 k (List.getElem?_eq_some_iff.mp hk).1
  rw [List.getD_eq_getElem?_getD, hk] at h2
  exact h2 rfl
theorem shR5 {i : Int32} (h : vp_in i 6) : shC[5 + 2 * i.toNatClampNeg]? = some (6, 40, 0) := (by decide +kernel : ∀ j, j < 6 → shC[5 + 2 * j]? = some (6, 40, 0)) _ (vp_lt h)
theorem shR17 {i : Int32} (h : vp_in i 4) : shC[17 + 2 * i.toNatClampNeg]? = some (6, 60, 0) := (by decide +kernel : ∀ j, j < 4 → shC[17 + 2 * j]? = some (6, 60, 0)) _ (vp_lt h)
theorem shT {i : Int32} (h : vp_in i 3) : shC[43 + 9 * i.toNatClampNeg]? = some (7, 0, 0) := (by decide +kernel : ∀ j, j < 3 → shC[43 + 9 * j]? = some (7, 0, 0)) _ (vp_lt h)
theorem shRx {k n b : Nat} (hk : shC[k]? = some (13, n, b)) {i : Int32} (h : vp_in i n) : shC[b + 2 * i.toNatClampNeg]? = some (6, elen b, 0) := by
  have h1 : ∀ k, k < 85 → (shC.getD k (0, 0, 0)).1 = 13 → k = 1 ∨ k = 2 := by decide +kernel
  have h2 := h1 k (List.getElem?_eq_some_iff.mp hk).1
  rw [List.getD_eq_getElem?_getD, hk] at h2
  rcases h2 rfl with rfl | rfl
  · have e : (13, 6, 5) = (13, n, b) := Option.some.inj hk
    simp only [Prod.mk.injEq, true_and] at e
    obtain ⟨rfl, rfl⟩ := e
    exact shR5 h
  · have e : (13, 4, 17) = (13, n, b) := Option.some.inj hk
    simp only [Prod.mk.injEq, true_and] at e
    obtain ⟨rfl, rfl⟩ := e
    exact shR17 h
section FLD
variable {p : Program} {l : Launch} {e : Env} {R : Room} {s : State} {m : MethodId} {args : Array Value} {below : List Frame} {meth : Method} {c : Code} {S : Sh} {G : Gp} {cc : ByteArray} {nL d cs sl : Nat} {own : String} {ret : Option FieldType} {Q : State → Prop} {pc : Nat} {lv : List (Nat × Value)} {st : List Value} {σ : St}
theorem get_X0_0 (C : Cx p R s m args meth c S G cc nL d own ret cs sl) {k : Nat} (hk : S[k]? = some (0, 0, 0)) {index : Nat} (hli : Cond.fieldLink own index "BellBalance$Bell" "kind" "I" ∈ TB) (hd : decode cc pc = .ok (.getfield index, 3)) (kk : Go p l e R s m args below meth c S G nL cs sl Q (pc + 3) lv (.int (σ.1 k 0) :: st) σ) : Go p l e R s m args below meth c S G nL cs sl Q pc lv (.ref (G.2.2 k) :: st) σ :=
  g_get C hk rfl rfl inX0 0 (by decide) hli rfl hd kk
theorem put_X0_0 (C : Cx p R s m args meth c S G cc nL d own ret cs sl) {k : Nat} {v : Int32} (hk : S[k]? = some (0, 0, 0)) {index : Nat} (hli : Cond.fieldLink own index "BellBalance$Bell" "kind" "I" ∈ TB) (hd : decode cc pc = .ok (.putfield index, 3)) (kk : Go p l e R s m args below meth c S G nL cs sl Q (pc + 3) lv st (uI σ k 0 v)) : Go p l e R s m args below meth c S G nL cs sl Q pc lv (.int v :: .ref (G.2.2 k) :: st) σ :=
  g_put C hk rfl rfl inX0 tyX0 tyX0_ok nmX0 0 (by decide) hli rfl rfl rfl (Nat.le_of_ble_eq_true rfl) (by simp [cellOf, uI]) uI_o hd kk
theorem get_X0_1 (C : Cx p R s m args meth c S G cc nL d own ret cs sl) {k : Nat} (hk : S[k]? = some (0, 0, 0)) {index : Nat} (hli : Cond.fieldLink own index "BellBalance$Bell" "weight" "I" ∈ TB) (hd : decode cc pc = .ok (.getfield index, 3)) (kk : Go p l e R s m args below meth c S G nL cs sl Q (pc + 3) lv (.int (σ.1 k 1) :: st) σ) : Go p l e R s m args below meth c S G nL cs sl Q pc lv (.ref (G.2.2 k) :: st) σ :=
  g_get C hk rfl rfl inX0 1 (by decide) hli rfl hd kk
theorem put_X0_1 (C : Cx p R s m args meth c S G cc nL d own ret cs sl) {k : Nat} {v : Int32} (hk : S[k]? = some (0, 0, 0)) {index : Nat} (hli : Cond.fieldLink own index "BellBalance$Bell" "weight" "I" ∈ TB) (hd : decode cc pc = .ok (.putfield index, 3)) (kk : Go p l e R s m args below meth c S G nL cs sl Q (pc + 3) lv st (uI σ k 1 v)) : Go p l e R s m args below meth c S G nL cs sl Q pc lv (.int v :: .ref (G.2.2 k) :: st) σ :=
  g_put C hk rfl rfl inX0 tyX0 tyX0_ok nmX0 1 (by decide) hli rfl rfl rfl (Nat.le_of_ble_eq_true rfl) (by simp [cellOf, uI]) uI_o hd kk
theorem get_X0_2 (C : Cx p R s m args meth c S G cc nL d own ret cs sl) {k : Nat} (hk : S[k]? = some (0, 0, 0)) {index : Nat} (hli : Cond.fieldLink own index "BellBalance$Bell" "start" "I" ∈ TB) (hd : decode cc pc = .ok (.getfield index, 3)) (kk : Go p l e R s m args below meth c S G nL cs sl Q (pc + 3) lv (.int (σ.1 k 2) :: st) σ) : Go p l e R s m args below meth c S G nL cs sl Q pc lv (.ref (G.2.2 k) :: st) σ :=
  g_get C hk rfl rfl inX0 2 (by decide) hli rfl hd kk
theorem put_X0_2 (C : Cx p R s m args meth c S G cc nL d own ret cs sl) {k : Nat} {v : Int32} (hk : S[k]? = some (0, 0, 0)) {index : Nat} (hli : Cond.fieldLink own index "BellBalance$Bell" "start" "I" ∈ TB) (hd : decode cc pc = .ok (.putfield index, 3)) (kk : Go p l e R s m args below meth c S G nL cs sl Q (pc + 3) lv st (uI σ k 2 v)) : Go p l e R s m args below meth c S G nL cs sl Q pc lv (.int v :: .ref (G.2.2 k) :: st) σ :=
  g_put C hk rfl rfl inX0 tyX0 tyX0_ok nmX0 2 (by decide) hli rfl rfl rfl (Nat.le_of_ble_eq_true rfl) (by simp [cellOf, uI]) uI_o hd kk
theorem get_X0_3 (C : Cx p R s m args meth c S G cc nL d own ret cs sl) {k : Nat} (hk : S[k]? = some (0, 0, 0)) {index : Nat} (hli : Cond.fieldLink own index "BellBalance$Bell" "height" "I" ∈ TB) (hd : decode cc pc = .ok (.getfield index, 3)) (kk : Go p l e R s m args below meth c S G nL cs sl Q (pc + 3) lv (.int (σ.1 k 3) :: st) σ) : Go p l e R s m args below meth c S G nL cs sl Q pc lv (.ref (G.2.2 k) :: st) σ :=
  g_get C hk rfl rfl inX0 3 (by decide) hli rfl hd kk
theorem put_X0_3 (C : Cx p R s m args meth c S G cc nL d own ret cs sl) {k : Nat} {v : Int32} (hk : S[k]? = some (0, 0, 0)) {index : Nat} (hli : Cond.fieldLink own index "BellBalance$Bell" "height" "I" ∈ TB) (hd : decode cc pc = .ok (.putfield index, 3)) (kk : Go p l e R s m args below meth c S G nL cs sl Q (pc + 3) lv st (uI σ k 3 v)) : Go p l e R s m args below meth c S G nL cs sl Q pc lv (.int v :: .ref (G.2.2 k) :: st) σ :=
  g_put C hk rfl rfl inX0 tyX0 tyX0_ok nmX0 3 (by decide) hli rfl rfl rfl (Nat.le_of_ble_eq_true rfl) (by simp [cellOf, uI]) uI_o hd kk
theorem get_X0_4 (C : Cx p R s m args meth c S G cc nL d own ret cs sl) {k : Nat} (hk : S[k]? = some (0, 0, 0)) {index : Nat} (hli : Cond.fieldLink own index "BellBalance$Bell" "strokes" "I" ∈ TB) (hd : decode cc pc = .ok (.getfield index, 3)) (kk : Go p l e R s m args below meth c S G nL cs sl Q (pc + 3) lv (.int (σ.1 k 4) :: st) σ) : Go p l e R s m args below meth c S G nL cs sl Q pc lv (.ref (G.2.2 k) :: st) σ :=
  g_get C hk rfl rfl inX0 4 (by decide) hli rfl hd kk
theorem put_X0_4 (C : Cx p R s m args meth c S G cc nL d own ret cs sl) {k : Nat} {v : Int32} (hk : S[k]? = some (0, 0, 0)) {index : Nat} (hli : Cond.fieldLink own index "BellBalance$Bell" "strokes" "I" ∈ TB) (hd : decode cc pc = .ok (.putfield index, 3)) (kk : Go p l e R s m args below meth c S G nL cs sl Q (pc + 3) lv st (uI σ k 4 v)) : Go p l e R s m args below meth c S G nL cs sl Q pc lv (.int v :: .ref (G.2.2 k) :: st) σ :=
  g_put C hk rfl rfl inX0 tyX0 tyX0_ok nmX0 4 (by decide) hli rfl rfl rfl (Nat.le_of_ble_eq_true rfl) (by simp [cellOf, uI]) uI_o hd kk
theorem get_X0_5 (C : Cx p R s m args meth c S G cc nL d own ret cs sl) {k : Nat} (hk : S[k]? = some (0, 0, 0)) {index : Nat} (hli : Cond.fieldLink own index "BellBalance$Bell" "over" "Z" ∈ TB) (hd : decode cc pc = .ok (.getfield index, 3)) (kk : Go p l e R s m args below meth c S G nL cs sl Q (pc + 3) lv (.int (σ.1 k 5) :: st) σ) : Go p l e R s m args below meth c S G nL cs sl Q pc lv (.ref (G.2.2 k) :: st) σ :=
  g_get C hk rfl rfl inX0 5 (by decide) hli rfl hd kk
theorem put_X0_5 (C : Cx p R s m args meth c S G cc nL d own ret cs sl) {k : Nat} {v : Int32} (hk : S[k]? = some (0, 0, 0)) (hz : zok v) {index : Nat} (hli : Cond.fieldLink own index "BellBalance$Bell" "over" "Z" ∈ TB) (hd : decode cc pc = .ok (.putfield index, 3)) (kk : Go p l e R s m args below meth c S G nL cs sl Q (pc + 3) lv st (uI σ k 5 v)) : Go p l e R s m args below meth c S G nL cs sl Q pc lv (.int v :: .ref (G.2.2 k) :: st) σ :=
  g_put C hk rfl rfl inX0 tyX0 tyX0_ok nmX0 5 (by decide) hli rfl (zok_n hz) (zok_f hz) (Nat.le_of_ble_eq_true rfl) (by simp [cellOf, uI]) uI_o hd kk
theorem get_X1_0 (C : Cx p R s m args meth c S G cc nL d own ret cs sl) {k : Nat} (hk : S[k]? = some (1, 0, 0)) {index : Nat} (hli : Cond.fieldLink own index "BellBalance$Evening" "trial" "[I" ∈ TB) (hd : decode cc pc = .ok (.getfield index, 3)) (kk : Go p l e R s m args below meth c S G nL cs sl Q (pc + 3) lv (.ref (G.2.2 (k + 1)) :: st) σ) : Go p l e R s m args below meth c S G nL cs sl Q pc lv (.ref (G.2.2 k) :: st) σ :=
  g_get C hk rfl rfl inX1 0 (by decide) hli rfl hd kk
theorem get_X1_1 (C : Cx p R s m args meth c S G cc nL d own ret cs sl) {k : Nat} (hk : S[k]? = some (1, 0, 0)) {index : Nat} (hli : Cond.fieldLink own index "BellBalance$Evening" "best" "[I" ∈ TB) (hd : decode cc pc = .ok (.getfield index, 3)) (kk : Go p l e R s m args below meth c S G nL cs sl Q (pc + 3) lv (.ref (G.2.2 (k + 2)) :: st) σ) : Go p l e R s m args below meth c S G nL cs sl Q pc lv (.ref (G.2.2 k) :: st) σ :=
  g_get C hk rfl rfl inX1 1 (by decide) hli rfl hd kk
theorem get_X1_2 (C : Cx p R s m args meth c S G cc nL d own ret cs sl) {k : Nat} (hk : S[k]? = some (1, 0, 0)) {index : Nat} (hli : Cond.fieldLink own index "BellBalance$Evening" "least" "I" ∈ TB) (hd : decode cc pc = .ok (.getfield index, 3)) (kk : Go p l e R s m args below meth c S G nL cs sl Q (pc + 3) lv (.int (σ.1 k 2) :: st) σ) : Go p l e R s m args below meth c S G nL cs sl Q pc lv (.ref (G.2.2 k) :: st) σ :=
  g_get C hk rfl rfl inX1 2 (by decide) hli rfl hd kk
theorem put_X1_2 (C : Cx p R s m args meth c S G cc nL d own ret cs sl) {k : Nat} {v : Int32} (hk : S[k]? = some (1, 0, 0)) {index : Nat} (hli : Cond.fieldLink own index "BellBalance$Evening" "least" "I" ∈ TB) (hd : decode cc pc = .ok (.putfield index, 3)) (kk : Go p l e R s m args below meth c S G nL cs sl Q (pc + 3) lv st (uI σ k 2 v)) : Go p l e R s m args below meth c S G nL cs sl Q pc lv (.int v :: .ref (G.2.2 k) :: st) σ :=
  g_put C hk rfl rfl inX1 tyX1 tyX1_ok nmX1 2 (by decide) hli rfl rfl rfl (Nat.le_of_ble_eq_true rfl) (by simp [cellOf, uI]) uI_o hd kk
theorem get_X2_0 (C : Cx p R s m args meth c S G cc nL d own ret cs sl) {k : Nat} (hk : S[k]? = some (2, 0, 0)) {index : Nat} (hli : Cond.fieldLink own index "BellBalance$Flow" "here" "[J" ∈ TB) (hd : decode cc pc = .ok (.getfield index, 3)) (kk : Go p l e R s m args below meth c S G nL cs sl Q (pc + 3) lv (.ref (G.2.2 (k + 1)) :: st) σ) : Go p l e R s m args below meth c S G nL cs sl Q pc lv (.ref (G.2.2 k) :: st) σ :=
  g_get C hk rfl rfl inX2 0 (by decide) hli rfl hd kk
theorem get_X2_1 (C : Cx p R s m args meth c S G cc nL d own ret cs sl) {k : Nat} (hk : S[k]? = some (2, 0, 0)) {index : Nat} (hli : Cond.fieldLink own index "BellBalance$Flow" "there" "[J" ∈ TB) (hd : decode cc pc = .ok (.getfield index, 3)) (kk : Go p l e R s m args below meth c S G nL cs sl Q (pc + 3) lv (.ref (G.2.2 (k + 2)) :: st) σ) : Go p l e R s m args below meth c S G nL cs sl Q pc lv (.ref (G.2.2 k) :: st) σ :=
  g_get C hk rfl rfl inX2 1 (by decide) hli rfl hd kk
theorem get_X3_0 (C : Cx p R s m args meth c S G cc nL d own ret cs sl) {k : Nat} (hk : S[k]? = some (3, 0, 0)) {index : Nat} (hli : Cond.fieldLink own index "BellBalance$Hearing" "who" "[I" ∈ TB) (hd : decode cc pc = .ok (.getfield index, 3)) (kk : Go p l e R s m args below meth c S G nL cs sl Q (pc + 3) lv (.ref (G.2.2 (k + 1)) :: st) σ) : Go p l e R s m args below meth c S G nL cs sl Q pc lv (.ref (G.2.2 k) :: st) σ :=
  g_get C hk rfl rfl inX3 0 (by decide) hli rfl hd kk
theorem get_X3_1 (C : Cx p R s m args meth c S G cc nL d own ret cs sl) {k : Nat} (hk : S[k]? = some (3, 0, 0)) {index : Nat} (hli : Cond.fieldLink own index "BellBalance$Hearing" "when" "[I" ∈ TB) (hd : decode cc pc = .ok (.getfield index, 3)) (kk : Go p l e R s m args below meth c S G nL cs sl Q (pc + 3) lv (.ref (G.2.2 (k + 2)) :: st) σ) : Go p l e R s m args below meth c S G nL cs sl Q pc lv (.ref (G.2.2 k) :: st) σ :=
  g_get C hk rfl rfl inX3 1 (by decide) hli rfl hd kk
theorem get_X3_2 (C : Cx p R s m args meth c S G cc nL d own ret cs sl) {k : Nat} (hk : S[k]? = some (3, 0, 0)) {index : Nat} (hli : Cond.fieldLink own index "BellBalance$Hearing" "size" "I" ∈ TB) (hd : decode cc pc = .ok (.getfield index, 3)) (kk : Go p l e R s m args below meth c S G nL cs sl Q (pc + 3) lv (.int (σ.1 k 2) :: st) σ) : Go p l e R s m args below meth c S G nL cs sl Q pc lv (.ref (G.2.2 k) :: st) σ :=
  g_get C hk rfl rfl inX3 2 (by decide) hli rfl hd kk
theorem put_X3_2 (C : Cx p R s m args meth c S G cc nL d own ret cs sl) {k : Nat} {v : Int32} (hk : S[k]? = some (3, 0, 0)) {index : Nat} (hli : Cond.fieldLink own index "BellBalance$Hearing" "size" "I" ∈ TB) (hd : decode cc pc = .ok (.putfield index, 3)) (kk : Go p l e R s m args below meth c S G nL cs sl Q (pc + 3) lv st (uI σ k 2 v)) : Go p l e R s m args below meth c S G nL cs sl Q pc lv (.int v :: .ref (G.2.2 k) :: st) σ :=
  g_put C hk rfl rfl inX3 tyX3 tyX3_ok nmX3 2 (by decide) hli rfl rfl rfl (Nat.le_of_ble_eq_true rfl) (by simp [cellOf, uI]) uI_o hd kk
theorem get_X4_0 (C : Cx p R s m args meth c S G cc nL d own ret cs sl) {k : Nat} (hk : S[k]? = some (4, 0, 0)) {index : Nat} (hli : Cond.fieldLink own index "BellBalance$Paths" "strokes" "[I" ∈ TB) (hd : decode cc pc = .ok (.getfield index, 3)) (kk : Go p l e R s m args below meth c S G nL cs sl Q (pc + 3) lv (.ref (G.2.2 (k + 1)) :: st) σ) : Go p l e R s m args below meth c S G nL cs sl Q pc lv (.ref (G.2.2 k) :: st) σ :=
  g_get C hk rfl rfl inX4 0 (by decide) hli rfl hd kk
theorem get_X4_1 (C : Cx p R s m args meth c S G cc nL d own ret cs sl) {k : Nat} (hk : S[k]? = some (4, 0, 0)) {index : Nat} (hli : Cond.fieldLink own index "BellBalance$Paths" "sums" "[I" ∈ TB) (hd : decode cc pc = .ok (.getfield index, 3)) (kk : Go p l e R s m args below meth c S G nL cs sl Q (pc + 3) lv (.ref (G.2.2 (k + 2)) :: st) σ) : Go p l e R s m args below meth c S G nL cs sl Q pc lv (.ref (G.2.2 k) :: st) σ :=
  g_get C hk rfl rfl inX4 1 (by decide) hli rfl hd kk
theorem get_X5_0 (C : Cx p R s m args meth c S G cc nL d own ret cs sl) {k : Nat} (hk : S[k]? = some (5, 0, 0)) {index : Nat} (hli : Cond.fieldLink own index "BellBalance$Play" "wins" "[Z" ∈ TB) (hd : decode cc pc = .ok (.getfield index, 3)) (kk : Go p l e R s m args below meth c S G nL cs sl Q (pc + 3) lv (.ref (G.2.2 (k + 1)) :: st) σ) : Go p l e R s m args below meth c S G nL cs sl Q pc lv (.ref (G.2.2 k) :: st) σ :=
  g_get C hk rfl rfl inX5 0 (by decide) hli rfl hd kk
theorem get_X5_1 (C : Cx p R s m args meth c S G cc nL d own ret cs sl) {k : Nat} (hk : S[k]? = some (5, 0, 0)) {index : Nat} (hli : Cond.fieldLink own index "BellBalance$Play" "winsBehind" "[Z" ∈ TB) (hd : decode cc pc = .ok (.getfield index, 3)) (kk : Go p l e R s m args below meth c S G nL cs sl Q (pc + 3) lv (.ref (G.2.2 (k + 2)) :: st) σ) : Go p l e R s m args below meth c S G nL cs sl Q pc lv (.ref (G.2.2 k) :: st) σ :=
  g_get C hk rfl rfl inX5 1 (by decide) hli rfl hd kk
theorem get_X6_0 (C : Cx p R s m args meth c S G cc nL d own ret cs sl) {k n b : Nat} (hk : S[k]? = some (6, n, b)) {index : Nat} (hli : Cond.fieldLink own index "BellBalance$Row" "cells" "[I" ∈ TB) (hd : decode cc pc = .ok (.getfield index, 3)) (kk : Go p l e R s m args below meth c S G nL cs sl Q (pc + 3) lv (.ref (G.2.2 (k + 1)) :: st) σ) : Go p l e R s m args below meth c S G nL cs sl Q pc lv (.ref (G.2.2 k) :: st) σ :=
  g_get C hk rfl rfl inX6 0 (by decide) hli rfl hd kk
theorem get_X6_1 (C : Cx p R s m args meth c S G cc nL d own ret cs sl) {k n b : Nat} (hk : S[k]? = some (6, n, b)) {index : Nat} (hli : Cond.fieldLink own index "BellBalance$Row" "there" "Z" ∈ TB) (hd : decode cc pc = .ok (.getfield index, 3)) (kk : Go p l e R s m args below meth c S G nL cs sl Q (pc + 3) lv (.int (σ.1 k 1) :: st) σ) : Go p l e R s m args below meth c S G nL cs sl Q pc lv (.ref (G.2.2 k) :: st) σ :=
  g_get C hk rfl rfl inX6 1 (by decide) hli rfl hd kk
theorem put_X6_1 (C : Cx p R s m args meth c S G cc nL d own ret cs sl) {k n b : Nat} {v : Int32} (hk : S[k]? = some (6, n, b)) (hz : zok v) {index : Nat} (hli : Cond.fieldLink own index "BellBalance$Row" "there" "Z" ∈ TB) (hd : decode cc pc = .ok (.putfield index, 3)) (kk : Go p l e R s m args below meth c S G nL cs sl Q (pc + 3) lv st (uI σ k 1 v)) : Go p l e R s m args below meth c S G nL cs sl Q pc lv (.int v :: .ref (G.2.2 k) :: st) σ :=
  g_put C hk rfl rfl inX6 tyX6 tyX6_ok nmX6 1 (by decide) hli rfl (zok_n hz) (zok_f hz) (Nat.le_of_ble_eq_true rfl) (by simp [cellOf, uI]) uI_o hd kk
theorem get_X6_2 (C : Cx p R s m args meth c S G cc nL d own ret cs sl) {k n b : Nat} (hk : S[k]? = some (6, n, b)) {index : Nat} (hli : Cond.fieldLink own index "BellBalance$Row" "size" "I" ∈ TB) (hd : decode cc pc = .ok (.getfield index, 3)) (kk : Go p l e R s m args below meth c S G nL cs sl Q (pc + 3) lv (.int (σ.1 k 2) :: st) σ) : Go p l e R s m args below meth c S G nL cs sl Q pc lv (.ref (G.2.2 k) :: st) σ :=
  g_get C hk rfl rfl inX6 2 (by decide) hli rfl hd kk
theorem put_X6_2 (C : Cx p R s m args meth c S G cc nL d own ret cs sl) {k n b : Nat} {v : Int32} (hk : S[k]? = some (6, n, b)) {index : Nat} (hli : Cond.fieldLink own index "BellBalance$Row" "size" "I" ∈ TB) (hd : decode cc pc = .ok (.putfield index, 3)) (kk : Go p l e R s m args below meth c S G nL cs sl Q (pc + 3) lv st (uI σ k 2 v)) : Go p l e R s m args below meth c S G nL cs sl Q pc lv (.int v :: .ref (G.2.2 k) :: st) σ :=
  g_put C hk rfl rfl inX6 tyX6 tyX6_ok nmX6 2 (by decide) hli rfl rfl rfl (Nat.le_of_ble_eq_true rfl) (by simp [cellOf, uI]) uI_o hd kk
theorem get_X7_0 (C : Cx p R s m args meth c S G cc nL d own ret cs sl) {k : Nat} (hk : S[k]? = some (7, 0, 0)) {index : Nat} (hli : Cond.fieldLink own index "BellBalance$Tower" "bells" "[LBellBalance$Bell;" ∈ TB) (hd : decode cc pc = .ok (.getfield index, 3)) (kk : Go p l e R s m args below meth c S G nL cs sl Q (pc + 3) lv (.ref (G.2.2 (k + 1)) :: st) σ) : Go p l e R s m args below meth c S G nL cs sl Q pc lv (.ref (G.2.2 k) :: st) σ :=
  g_get C hk rfl rfl inX7 0 (by decide) hli rfl hd kk
theorem get_X7_1 (C : Cx p R s m args meth c S G cc nL d own ret cs sl) {k : Nat} (hk : S[k]? = some (7, 0, 0)) {index : Nat} (hli : Cond.fieldLink own index "BellBalance$Tower" "deeds" "[I" ∈ TB) (hd : decode cc pc = .ok (.getfield index, 3)) (kk : Go p l e R s m args below meth c S G nL cs sl Q (pc + 3) lv (.ref (G.2.2 (k + 2)) :: st) σ) : Go p l e R s m args below meth c S G nL cs sl Q pc lv (.ref (G.2.2 k) :: st) σ :=
  g_get C hk rfl rfl inX7 1 (by decide) hli rfl hd kk
theorem get_X7_2 (C : Cx p R s m args meth c S G cc nL d own ret cs sl) {k : Nat} (hk : S[k]? = some (7, 0, 0)) {index : Nat} (hli : Cond.fieldLink own index "BellBalance$Tower" "size" "I" ∈ TB) (hd : decode cc pc = .ok (.getfield index, 3)) (kk : Go p l e R s m args below meth c S G nL cs sl Q (pc + 3) lv (.int (σ.1 k 2) :: st) σ) : Go p l e R s m args below meth c S G nL cs sl Q pc lv (.ref (G.2.2 k) :: st) σ :=
  g_get C hk rfl rfl inX7 2 (by decide) hli rfl hd kk
theorem put_X7_2 (C : Cx p R s m args meth c S G cc nL d own ret cs sl) {k : Nat} {v : Int32} (hk : S[k]? = some (7, 0, 0)) {index : Nat} (hli : Cond.fieldLink own index "BellBalance$Tower" "size" "I" ∈ TB) (hd : decode cc pc = .ok (.putfield index, 3)) (kk : Go p l e R s m args below meth c S G nL cs sl Q (pc + 3) lv st (uI σ k 2 v)) : Go p l e R s m args below meth c S G nL cs sl Q pc lv (.int v :: .ref (G.2.2 k) :: st) σ :=
  g_put C hk rfl rfl inX7 tyX7 tyX7_ok nmX7 2 (by decide) hli rfl rfl rfl (Nat.le_of_ble_eq_true rfl) (by simp [cellOf, uI]) uI_o hd kk
theorem get_X7_3 (C : Cx p R s m args meth c S G cc nL d own ret cs sl) {k : Nat} (hk : S[k]? = some (7, 0, 0)) {index : Nat} (hli : Cond.fieldLink own index "BellBalance$Tower" "dampness" "I" ∈ TB) (hd : decode cc pc = .ok (.getfield index, 3)) (kk : Go p l e R s m args below meth c S G nL cs sl Q (pc + 3) lv (.int (σ.1 k 3) :: st) σ) : Go p l e R s m args below meth c S G nL cs sl Q pc lv (.ref (G.2.2 k) :: st) σ :=
  g_get C hk rfl rfl inX7 3 (by decide) hli rfl hd kk
theorem put_X7_3 (C : Cx p R s m args meth c S G cc nL d own ret cs sl) {k : Nat} {v : Int32} (hk : S[k]? = some (7, 0, 0)) {index : Nat} (hli : Cond.fieldLink own index "BellBalance$Tower" "dampness" "I" ∈ TB) (hd : decode cc pc = .ok (.putfield index, 3)) (kk : Go p l e R s m args below meth c S G nL cs sl Q (pc + 3) lv st (uI σ k 3 v)) : Go p l e R s m args below meth c S G nL cs sl Q pc lv (.int v :: .ref (G.2.2 k) :: st) σ :=
  g_put C hk rfl rfl inX7 tyX7 tyX7_ok nmX7 3 (by decide) hli rfl rfl rfl (Nat.le_of_ble_eq_true rfl) (by simp [cellOf, uI]) uI_o hd kk
theorem get_X7_4 (C : Cx p R s m args meth c S G cc nL d own ret cs sl) {k : Nat} (hk : S[k]? = some (7, 0, 0)) {index : Nat} (hli : Cond.fieldLink own index "BellBalance$Tower" "deedCount" "I" ∈ TB) (hd : decode cc pc = .ok (.getfield index, 3)) (kk : Go p l e R s m args below meth c S G nL cs sl Q (pc + 3) lv (.int (σ.1 k 4) :: st) σ) : Go p l e R s m args below meth c S G nL cs sl Q pc lv (.ref (G.2.2 k) :: st) σ :=
  g_get C hk rfl rfl inX7 4 (by decide) hli rfl hd kk
theorem put_X7_4 (C : Cx p R s m args meth c S G cc nL d own ret cs sl) {k : Nat} {v : Int32} (hk : S[k]? = some (7, 0, 0)) {index : Nat} (hli : Cond.fieldLink own index "BellBalance$Tower" "deedCount" "I" ∈ TB) (hd : decode cc pc = .ok (.putfield index, 3)) (kk : Go p l e R s m args below meth c S G nL cs sl Q (pc + 3) lv st (uI σ k 4 v)) : Go p l e R s m args below meth c S G nL cs sl Q pc lv (.int v :: .ref (G.2.2 k) :: st) σ :=
  g_put C hk rfl rfl inX7 tyX7 tyX7_ok nmX7 4 (by decide) hli rfl rfl rfl (Nat.le_of_ble_eq_true rfl) (by simp [cellOf, uI]) uI_o hd kk
theorem get_X8_0 (C : Cx p R s m args meth c S G cc nL d own ret cs sl) {k : Nat} (hk : S[k]? = some (8, 0, 0)) {index : Nat} (hli : Cond.fieldLink own index "BellBalance" "rows" "[LBellBalance$Row;" ∈ TB) (hd : decode cc pc = .ok (.getfield index, 3)) (kk : Go p l e R s m args below meth c S G nL cs sl Q (pc + 3) lv (.ref (G.2.2 1) :: st) σ) : Go p l e R s m args below meth c S G nL cs sl Q pc lv (.ref (G.2.2 k) :: st) σ :=
  g_get C hk rfl rfl inX8 0 (by decide) hli rfl hd kk
theorem get_X8_1 (C : Cx p R s m args meth c S G cc nL d own ret cs sl) {k : Nat} (hk : S[k]? = some (8, 0, 0)) {index : Nat} (hli : Cond.fieldLink own index "BellBalance" "texts" "[LBellBalance$Row;" ∈ TB) (hd : decode cc pc = .ok (.getfield index, 3)) (kk : Go p l e R s m args below meth c S G nL cs sl Q (pc + 3) lv (.ref (G.2.2 2) :: st) σ) : Go p l e R s m args below meth c S G nL cs sl Q pc lv (.ref (G.2.2 k) :: st) σ :=
  g_get C hk rfl rfl inX8 1 (by decide) hli rfl hd kk
theorem get_X8_2 (C : Cx p R s m args meth c S G cc nL d own ret cs sl) {k : Nat} (hk : S[k]? = some (8, 0, 0)) {index : Nat} (hli : Cond.fieldLink own index "BellBalance" "kept" "[LBellBalance$Tower;" ∈ TB) (hd : decode cc pc = .ok (.getfield index, 3)) (kk : Go p l e R s m args below meth c S G nL cs sl Q (pc + 3) lv (.ref (G.2.2 3) :: st) σ) : Go p l e R s m args below meth c S G nL cs sl Q pc lv (.ref (G.2.2 k) :: st) σ :=
  g_get C hk rfl rfl inX8 2 (by decide) hli rfl hd kk
theorem get_X8_3 (C : Cx p R s m args meth c S G cc nL d own ret cs sl) {k : Nat} (hk : S[k]? = some (8, 0, 0)) {index : Nat} (hli : Cond.fieldLink own index "BellBalance" "now" "LBellBalance$Tower;" ∈ TB) (hd : decode cc pc = .ok (.getfield index, 3)) (kk : Go p l e R s m args below meth c S G nL cs sl Q (pc + 3) lv (.ref (G.2.2 25) :: st) σ) : Go p l e R s m args below meth c S G nL cs sl Q pc lv (.ref (G.2.2 k) :: st) σ :=
  g_get C hk rfl rfl inX8 3 (by decide) hli rfl hd kk
theorem get_X8_4 (C : Cx p R s m args meth c S G cc nL d own ret cs sl) {k : Nat} (hk : S[k]? = some (8, 0, 0)) {index : Nat} (hli : Cond.fieldLink own index "BellBalance" "draft" "LBellBalance$Tower;" ∈ TB) (hd : decode cc pc = .ok (.getfield index, 3)) (kk : Go p l e R s m args below meth c S G nL cs sl Q (pc + 3) lv (.ref (G.2.2 34) :: st) σ) : Go p l e R s m args below meth c S G nL cs sl Q pc lv (.ref (G.2.2 k) :: st) σ :=
  g_get C hk rfl rfl inX8 4 (by decide) hli rfl hd kk
theorem get_X8_5 (C : Cx p R s m args meth c S G cc nL d own ret cs sl) {k : Nat} (hk : S[k]? = some (8, 0, 0)) {index : Nat} (hli : Cond.fieldLink own index "BellBalance" "hearing" "LBellBalance$Hearing;" ∈ TB) (hd : decode cc pc = .ok (.getfield index, 3)) (kk : Go p l e R s m args below meth c S G nL cs sl Q (pc + 3) lv (.ref (G.2.2 70) :: st) σ) : Go p l e R s m args below meth c S G nL cs sl Q pc lv (.ref (G.2.2 k) :: st) σ :=
  g_get C hk rfl rfl inX8 5 (by decide) hli rfl hd kk
theorem get_X8_6 (C : Cx p R s m args meth c S G cc nL d own ret cs sl) {k : Nat} (hk : S[k]? = some (8, 0, 0)) {index : Nat} (hli : Cond.fieldLink own index "BellBalance" "evening" "LBellBalance$Evening;" ∈ TB) (hd : decode cc pc = .ok (.getfield index, 3)) (kk : Go p l e R s m args below meth c S G nL cs sl Q (pc + 3) lv (.ref (G.2.2 73) :: st) σ) : Go p l e R s m args below meth c S G nL cs sl Q pc lv (.ref (G.2.2 k) :: st) σ :=
  g_get C hk rfl rfl inX8 6 (by decide) hli rfl hd kk
theorem get_X8_7 (C : Cx p R s m args meth c S G cc nL d own ret cs sl) {k : Nat} (hk : S[k]? = some (8, 0, 0)) {index : Nat} (hli : Cond.fieldLink own index "BellBalance" "paths" "LBellBalance$Paths;" ∈ TB) (hd : decode cc pc = .ok (.getfield index, 3)) (kk : Go p l e R s m args below meth c S G nL cs sl Q (pc + 3) lv (.ref (G.2.2 76) :: st) σ) : Go p l e R s m args below meth c S G nL cs sl Q pc lv (.ref (G.2.2 k) :: st) σ :=
  g_get C hk rfl rfl inX8 7 (by decide) hli rfl hd kk
theorem get_X8_8 (C : Cx p R s m args meth c S G cc nL d own ret cs sl) {k : Nat} (hk : S[k]? = some (8, 0, 0)) {index : Nat} (hli : Cond.fieldLink own index "BellBalance" "flow" "LBellBalance$Flow;" ∈ TB) (hd : decode cc pc = .ok (.getfield index, 3)) (kk : Go p l e R s m args below meth c S G nL cs sl Q (pc + 3) lv (.ref (G.2.2 79) :: st) σ) : Go p l e R s m args below meth c S G nL cs sl Q pc lv (.ref (G.2.2 k) :: st) σ :=
  g_get C hk rfl rfl inX8 8 (by decide) hli rfl hd kk
theorem get_X8_9 (C : Cx p R s m args meth c S G cc nL d own ret cs sl) {k : Nat} (hk : S[k]? = some (8, 0, 0)) {index : Nat} (hli : Cond.fieldLink own index "BellBalance" "play" "LBellBalance$Play;" ∈ TB) (hd : decode cc pc = .ok (.getfield index, 3)) (kk : Go p l e R s m args below meth c S G nL cs sl Q (pc + 3) lv (.ref (G.2.2 82) :: st) σ) : Go p l e R s m args below meth c S G nL cs sl Q pc lv (.ref (G.2.2 k) :: st) σ :=
  g_get C hk rfl rfl inX8 9 (by decide) hli rfl hd kk
theorem get_X8_10 (C : Cx p R s m args meth c S G cc nL d own ret cs sl) {k : Nat} (hk : S[k]? = some (8, 0, 0)) {index : Nat} (hli : Cond.fieldLink own index "BellBalance" "found" "[I" ∈ TB) (hd : decode cc pc = .ok (.getfield index, 3)) (kk : Go p l e R s m args below meth c S G nL cs sl Q (pc + 3) lv (.ref (G.2.2 4) :: st) σ) : Go p l e R s m args below meth c S G nL cs sl Q pc lv (.ref (G.2.2 k) :: st) σ :=
  g_get C hk rfl rfl inX8 10 (by decide) hli rfl hd kk
theorem get_X8_11 (C : Cx p R s m args meth c S G cc nL d own ret cs sl) {k : Nat} (hk : S[k]? = some (8, 0, 0)) {index : Nat} (hli : Cond.fieldLink own index "BellBalance" "latestFound" "I" ∈ TB) (hd : decode cc pc = .ok (.getfield index, 3)) (kk : Go p l e R s m args below meth c S G nL cs sl Q (pc + 3) lv (.int (σ.1 k 11) :: st) σ) : Go p l e R s m args below meth c S G nL cs sl Q pc lv (.ref (G.2.2 k) :: st) σ :=
  g_get C hk rfl rfl inX8 11 (by decide) hli rfl hd kk
theorem put_X8_11 (C : Cx p R s m args meth c S G cc nL d own ret cs sl) {k : Nat} {v : Int32} (hk : S[k]? = some (8, 0, 0)) {index : Nat} (hli : Cond.fieldLink own index "BellBalance" "latestFound" "I" ∈ TB) (hd : decode cc pc = .ok (.putfield index, 3)) (kk : Go p l e R s m args below meth c S G nL cs sl Q (pc + 3) lv st (uI σ k 11 v)) : Go p l e R s m args below meth c S G nL cs sl Q pc lv (.int v :: .ref (G.2.2 k) :: st) σ :=
  g_put C hk rfl rfl inX8 tyX8 tyX8_ok nmX8 11 (by decide) hli rfl rfl rfl (Nat.le_of_ble_eq_true rfl) (by simp [cellOf, uI]) uI_o hd kk
theorem get_X8_12 (C : Cx p R s m args meth c S G cc nL d own ret cs sl) {k : Nat} (hk : S[k]? = some (8, 0, 0)) {index : Nat} (hli : Cond.fieldLink own index "BellBalance" "told" "I" ∈ TB) (hd : decode cc pc = .ok (.getfield index, 3)) (kk : Go p l e R s m args below meth c S G nL cs sl Q (pc + 3) lv (.int (σ.1 k 12) :: st) σ) : Go p l e R s m args below meth c S G nL cs sl Q pc lv (.ref (G.2.2 k) :: st) σ :=
  g_get C hk rfl rfl inX8 12 (by decide) hli rfl hd kk
theorem put_X8_12 (C : Cx p R s m args meth c S G cc nL d own ret cs sl) {k : Nat} {v : Int32} (hk : S[k]? = some (8, 0, 0)) {index : Nat} (hli : Cond.fieldLink own index "BellBalance" "told" "I" ∈ TB) (hd : decode cc pc = .ok (.putfield index, 3)) (kk : Go p l e R s m args below meth c S G nL cs sl Q (pc + 3) lv st (uI σ k 12 v)) : Go p l e R s m args below meth c S G nL cs sl Q pc lv (.int v :: .ref (G.2.2 k) :: st) σ :=
  g_put C hk rfl rfl inX8 tyX8 tyX8_ok nmX8 12 (by decide) hli rfl rfl rfl (Nat.le_of_ble_eq_true rfl) (by simp [cellOf, uI]) uI_o hd kk
theorem get_X8_13 (C : Cx p R s m args meth c S G cc nL d own ret cs sl) {k : Nat} (hk : S[k]? = some (8, 0, 0)) {index : Nat} (hli : Cond.fieldLink own index "BellBalance" "toldUpper" "J" ∈ TB) (hd : decode cc pc = .ok (.getfield index, 3)) (kk : Go p l e R s m args below meth c S G nL cs sl Q (pc + 3) lv (.long (σ.2 k 13) :: st) σ) : Go p l e R s m args below meth c S G nL cs sl Q pc lv (.ref (G.2.2 k) :: st) σ :=
  g_get C hk rfl rfl inX8 13 (by decide) hli rfl hd kk
theorem put_X8_13 (C : Cx p R s m args meth c S G cc nL d own ret cs sl) {k : Nat} {v : Int64} (hk : S[k]? = some (8, 0, 0)) {index : Nat} (hli : Cond.fieldLink own index "BellBalance" "toldUpper" "J" ∈ TB) (hd : decode cc pc = .ok (.putfield index, 3)) (kk : Go p l e R s m args below meth c S G nL cs sl Q (pc + 3) lv st (uL σ k 13 v)) : Go p l e R s m args below meth c S G nL cs sl Q pc lv (.long v :: .ref (G.2.2 k) :: st) σ :=
  g_put C hk rfl rfl inX8 tyX8 tyX8_ok nmX8 13 (by decide) hli rfl rfl rfl (Nat.le_of_ble_eq_true rfl) (by simp [cellOf, uL]) uL_o hd kk
theorem get_X8_14 (C : Cx p R s m args meth c S G cc nL d own ret cs sl) {k : Nat} (hk : S[k]? = some (8, 0, 0)) {index : Nat} (hli : Cond.fieldLink own index "BellBalance" "toldLower" "J" ∈ TB) (hd : decode cc pc = .ok (.getfield index, 3)) (kk : Go p l e R s m args below meth c S G nL cs sl Q (pc + 3) lv (.long (σ.2 k 14) :: st) σ) : Go p l e R s m args below meth c S G nL cs sl Q pc lv (.ref (G.2.2 k) :: st) σ :=
  g_get C hk rfl rfl inX8 14 (by decide) hli rfl hd kk
theorem put_X8_14 (C : Cx p R s m args meth c S G cc nL d own ret cs sl) {k : Nat} {v : Int64} (hk : S[k]? = some (8, 0, 0)) {index : Nat} (hli : Cond.fieldLink own index "BellBalance" "toldLower" "J" ∈ TB) (hd : decode cc pc = .ok (.putfield index, 3)) (kk : Go p l e R s m args below meth c S G nL cs sl Q (pc + 3) lv st (uL σ k 14 v)) : Go p l e R s m args below meth c S G nL cs sl Q pc lv (.long v :: .ref (G.2.2 k) :: st) σ :=
  g_put C hk rfl rfl inX8 tyX8 tyX8_ok nmX8 14 (by decide) hli rfl rfl rfl (Nat.le_of_ble_eq_true rfl) (by simp [cellOf, uL]) uL_o hd kk
theorem get_X9_0 (C : Cx p R s m args meth c S G cc nL d own ret cs sl) {k : Nat} (hk : S[k]? = some (9, 0, 0)) {index : Nat} (hli : Cond.fieldLink own index "BellBalanceModel" "w" "[I" ∈ TB) (hd : decode cc pc = .ok (.getfield index, 3)) (kk : Go p l e R s m args below meth c S G nL cs sl Q (pc + 3) lv (.ref (G.2.2 1) :: st) σ) : Go p l e R s m args below meth c S G nL cs sl Q pc lv (.ref (G.2.2 k) :: st) σ :=
  g_get C hk rfl rfl inX9 0 (by decide) hli rfl hd kk
theorem get_X9_1 (C : Cx p R s m args meth c S G cc nL d own ret cs sl) {k : Nat} (hk : S[k]? = some (9, 0, 0)) {index : Nat} (hli : Cond.fieldLink own index "BellBalanceModel" "deeds" "I" ∈ TB) (hd : decode cc pc = .ok (.getfield index, 3)) (kk : Go p l e R s m args below meth c S G nL cs sl Q (pc + 3) lv (.int (σ.1 k 1) :: st) σ) : Go p l e R s m args below meth c S G nL cs sl Q pc lv (.ref (G.2.2 k) :: st) σ :=
  g_get C hk rfl rfl inX9 1 (by decide) hli rfl hd kk
theorem put_X9_1 (C : Cx p R s m args meth c S G cc nL d own ret cs sl) {k : Nat} {v : Int32} (hk : S[k]? = some (9, 0, 0)) {index : Nat} (hli : Cond.fieldLink own index "BellBalanceModel" "deeds" "I" ∈ TB) (hd : decode cc pc = .ok (.putfield index, 3)) (kk : Go p l e R s m args below meth c S G nL cs sl Q (pc + 3) lv st (uI σ k 1 v)) : Go p l e R s m args below meth c S G nL cs sl Q pc lv (.int v :: .ref (G.2.2 k) :: st) σ :=
  g_put C hk rfl rfl inX9 tyX9 tyX9_ok nmX9 1 (by decide) hli rfl rfl rfl (Nat.le_of_ble_eq_true rfl) (by simp [cellOf, uI]) uI_o hd kk
theorem get_X9_2 (C : Cx p R s m args meth c S G cc nL d own ret cs sl) {k : Nat} (hk : S[k]? = some (9, 0, 0)) {index : Nat} (hli : Cond.fieldLink own index "BellBalanceModel" "keptDeeds" "[I" ∈ TB) (hd : decode cc pc = .ok (.getfield index, 3)) (kk : Go p l e R s m args below meth c S G nL cs sl Q (pc + 3) lv (.ref (G.2.2 2) :: st) σ) : Go p l e R s m args below meth c S G nL cs sl Q pc lv (.ref (G.2.2 k) :: st) σ :=
  g_get C hk rfl rfl inX9 2 (by decide) hli rfl hd kk
theorem get_X9_3 (C : Cx p R s m args meth c S G cc nL d own ret cs sl) {k : Nat} (hk : S[k]? = some (9, 0, 0)) {index : Nat} (hli : Cond.fieldLink own index "BellBalanceModel" "rows" "[I" ∈ TB) (hd : decode cc pc = .ok (.getfield index, 3)) (kk : Go p l e R s m args below meth c S G nL cs sl Q (pc + 3) lv (.ref (G.2.2 3) :: st) σ) : Go p l e R s m args below meth c S G nL cs sl Q pc lv (.ref (G.2.2 k) :: st) σ :=
  g_get C hk rfl rfl inX9 3 (by decide) hli rfl hd kk
theorem get_X9_4 (C : Cx p R s m args meth c S G cc nL d own ret cs sl) {k : Nat} (hk : S[k]? = some (9, 0, 0)) {index : Nat} (hli : Cond.fieldLink own index "BellBalanceModel" "rowSize" "[I" ∈ TB) (hd : decode cc pc = .ok (.getfield index, 3)) (kk : Go p l e R s m args below meth c S G nL cs sl Q (pc + 3) lv (.ref (G.2.2 4) :: st) σ) : Go p l e R s m args below meth c S G nL cs sl Q pc lv (.ref (G.2.2 k) :: st) σ :=
  g_get C hk rfl rfl inX9 4 (by decide) hli rfl hd kk
theorem get_X9_5 (C : Cx p R s m args meth c S G cc nL d own ret cs sl) {k : Nat} (hk : S[k]? = some (9, 0, 0)) {index : Nat} (hli : Cond.fieldLink own index "BellBalanceModel" "texts" "[I" ∈ TB) (hd : decode cc pc = .ok (.getfield index, 3)) (kk : Go p l e R s m args below meth c S G nL cs sl Q (pc + 3) lv (.ref (G.2.2 5) :: st) σ) : Go p l e R s m args below meth c S G nL cs sl Q pc lv (.ref (G.2.2 k) :: st) σ :=
  g_get C hk rfl rfl inX9 5 (by decide) hli rfl hd kk
theorem get_X9_6 (C : Cx p R s m args meth c S G cc nL d own ret cs sl) {k : Nat} (hk : S[k]? = some (9, 0, 0)) {index : Nat} (hli : Cond.fieldLink own index "BellBalanceModel" "textSize" "[I" ∈ TB) (hd : decode cc pc = .ok (.getfield index, 3)) (kk : Go p l e R s m args below meth c S G nL cs sl Q (pc + 3) lv (.ref (G.2.2 6) :: st) σ) : Go p l e R s m args below meth c S G nL cs sl Q pc lv (.ref (G.2.2 k) :: st) σ :=
  g_get C hk rfl rfl inX9 6 (by decide) hli rfl hd kk
theorem get_X9_7 (C : Cx p R s m args meth c S G cc nL d own ret cs sl) {k : Nat} (hk : S[k]? = some (9, 0, 0)) {index : Nat} (hli : Cond.fieldLink own index "BellBalanceModel" "held" "[I" ∈ TB) (hd : decode cc pc = .ok (.getfield index, 3)) (kk : Go p l e R s m args below meth c S G nL cs sl Q (pc + 3) lv (.ref (G.2.2 7) :: st) σ) : Go p l e R s m args below meth c S G nL cs sl Q pc lv (.ref (G.2.2 k) :: st) σ :=
  g_get C hk rfl rfl inX9 7 (by decide) hli rfl hd kk
theorem get_X9_8 (C : Cx p R s m args meth c S G cc nL d own ret cs sl) {k : Nat} (hk : S[k]? = some (9, 0, 0)) {index : Nat} (hli : Cond.fieldLink own index "BellBalanceModel" "finding" "I" ∈ TB) (hd : decode cc pc = .ok (.getfield index, 3)) (kk : Go p l e R s m args below meth c S G nL cs sl Q (pc + 3) lv (.int (σ.1 k 8) :: st) σ) : Go p l e R s m args below meth c S G nL cs sl Q pc lv (.ref (G.2.2 k) :: st) σ :=
  g_get C hk rfl rfl inX9 8 (by decide) hli rfl hd kk
theorem put_X9_8 (C : Cx p R s m args meth c S G cc nL d own ret cs sl) {k : Nat} {v : Int32} (hk : S[k]? = some (9, 0, 0)) {index : Nat} (hli : Cond.fieldLink own index "BellBalanceModel" "finding" "I" ∈ TB) (hd : decode cc pc = .ok (.putfield index, 3)) (kk : Go p l e R s m args below meth c S G nL cs sl Q (pc + 3) lv st (uI σ k 8 v)) : Go p l e R s m args below meth c S G nL cs sl Q pc lv (.int v :: .ref (G.2.2 k) :: st) σ :=
  g_put C hk rfl rfl inX9 tyX9 tyX9_ok nmX9 8 (by decide) hli rfl rfl rfl (Nat.le_of_ble_eq_true rfl) (by simp [cellOf, uI]) uI_o hd kk
theorem get_X9_9 (C : Cx p R s m args meth c S G cc nL d own ret cs sl) {k : Nat} (hk : S[k]? = some (9, 0, 0)) {index : Nat} (hli : Cond.fieldLink own index "BellBalanceModel" "findings" "[I" ∈ TB) (hd : decode cc pc = .ok (.getfield index, 3)) (kk : Go p l e R s m args below meth c S G nL cs sl Q (pc + 3) lv (.ref (G.2.2 8) :: st) σ) : Go p l e R s m args below meth c S G nL cs sl Q pc lv (.ref (G.2.2 k) :: st) σ :=
  g_get C hk rfl rfl inX9 9 (by decide) hli rfl hd kk
theorem get_X9_10 (C : Cx p R s m args meth c S G cc nL d own ret cs sl) {k : Nat} (hk : S[k]? = some (9, 0, 0)) {index : Nat} (hli : Cond.fieldLink own index "BellBalanceModel" "asked" "I" ∈ TB) (hd : decode cc pc = .ok (.getfield index, 3)) (kk : Go p l e R s m args below meth c S G nL cs sl Q (pc + 3) lv (.int (σ.1 k 10) :: st) σ) : Go p l e R s m args below meth c S G nL cs sl Q pc lv (.ref (G.2.2 k) :: st) σ :=
  g_get C hk rfl rfl inX9 10 (by decide) hli rfl hd kk
theorem put_X9_10 (C : Cx p R s m args meth c S G cc nL d own ret cs sl) {k : Nat} {v : Int32} (hk : S[k]? = some (9, 0, 0)) {index : Nat} (hli : Cond.fieldLink own index "BellBalanceModel" "asked" "I" ∈ TB) (hd : decode cc pc = .ok (.putfield index, 3)) (kk : Go p l e R s m args below meth c S G nL cs sl Q (pc + 3) lv st (uI σ k 10 v)) : Go p l e R s m args below meth c S G nL cs sl Q pc lv (.int v :: .ref (G.2.2 k) :: st) σ :=
  g_put C hk rfl rfl inX9 tyX9 tyX9_ok nmX9 10 (by decide) hli rfl rfl rfl (Nat.le_of_ble_eq_true rfl) (by simp [cellOf, uI]) uI_o hd kk
theorem get_X9_11 (C : Cx p R s m args meth c S G cc nL d own ret cs sl) {k : Nat} (hk : S[k]? = some (9, 0, 0)) {index : Nat} (hli : Cond.fieldLink own index "BellBalanceModel" "upper" "J" ∈ TB) (hd : decode cc pc = .ok (.getfield index, 3)) (kk : Go p l e R s m args below meth c S G nL cs sl Q (pc + 3) lv (.long (σ.2 k 11) :: st) σ) : Go p l e R s m args below meth c S G nL cs sl Q pc lv (.ref (G.2.2 k) :: st) σ :=
  g_get C hk rfl rfl inX9 11 (by decide) hli rfl hd kk
theorem put_X9_11 (C : Cx p R s m args meth c S G cc nL d own ret cs sl) {k : Nat} {v : Int64} (hk : S[k]? = some (9, 0, 0)) {index : Nat} (hli : Cond.fieldLink own index "BellBalanceModel" "upper" "J" ∈ TB) (hd : decode cc pc = .ok (.putfield index, 3)) (kk : Go p l e R s m args below meth c S G nL cs sl Q (pc + 3) lv st (uL σ k 11 v)) : Go p l e R s m args below meth c S G nL cs sl Q pc lv (.long v :: .ref (G.2.2 k) :: st) σ :=
  g_put C hk rfl rfl inX9 tyX9 tyX9_ok nmX9 11 (by decide) hli rfl rfl rfl (Nat.le_of_ble_eq_true rfl) (by simp [cellOf, uL]) uL_o hd kk
theorem get_X9_12 (C : Cx p R s m args meth c S G cc nL d own ret cs sl) {k : Nat} (hk : S[k]? = some (9, 0, 0)) {index : Nat} (hli : Cond.fieldLink own index "BellBalanceModel" "lower" "J" ∈ TB) (hd : decode cc pc = .ok (.getfield index, 3)) (kk : Go p l e R s m args below meth c S G nL cs sl Q (pc + 3) lv (.long (σ.2 k 12) :: st) σ) : Go p l e R s m args below meth c S G nL cs sl Q pc lv (.ref (G.2.2 k) :: st) σ :=
  g_get C hk rfl rfl inX9 12 (by decide) hli rfl hd kk
theorem put_X9_12 (C : Cx p R s m args meth c S G cc nL d own ret cs sl) {k : Nat} {v : Int64} (hk : S[k]? = some (9, 0, 0)) {index : Nat} (hli : Cond.fieldLink own index "BellBalanceModel" "lower" "J" ∈ TB) (hd : decode cc pc = .ok (.putfield index, 3)) (kk : Go p l e R s m args below meth c S G nL cs sl Q (pc + 3) lv st (uL σ k 12 v)) : Go p l e R s m args below meth c S G nL cs sl Q pc lv (.long v :: .ref (G.2.2 k) :: st) σ :=
  g_put C hk rfl rfl inX9 tyX9 tyX9_ok nmX9 12 (by decide) hli rfl rfl rfl (Nat.le_of_ble_eq_true rfl) (by simp [cellOf, uL]) uL_o hd kk
theorem get_X9_13 (C : Cx p R s m args meth c S G cc nL d own ret cs sl) {k : Nat} (hk : S[k]? = some (9, 0, 0)) {index : Nat} (hli : Cond.fieldLink own index "BellBalanceModel" "position" "I" ∈ TB) (hd : decode cc pc = .ok (.getfield index, 3)) (kk : Go p l e R s m args below meth c S G nL cs sl Q (pc + 3) lv (.int (σ.1 k 13) :: st) σ) : Go p l e R s m args below meth c S G nL cs sl Q pc lv (.ref (G.2.2 k) :: st) σ :=
  g_get C hk rfl rfl inX9 13 (by decide) hli rfl hd kk
theorem put_X9_13 (C : Cx p R s m args meth c S G cc nL d own ret cs sl) {k : Nat} {v : Int32} (hk : S[k]? = some (9, 0, 0)) {index : Nat} (hli : Cond.fieldLink own index "BellBalanceModel" "position" "I" ∈ TB) (hd : decode cc pc = .ok (.putfield index, 3)) (kk : Go p l e R s m args below meth c S G nL cs sl Q (pc + 3) lv st (uI σ k 13 v)) : Go p l e R s m args below meth c S G nL cs sl Q pc lv (.int v :: .ref (G.2.2 k) :: st) σ :=
  g_put C hk rfl rfl inX9 tyX9 tyX9_ok nmX9 13 (by decide) hli rfl rfl rfl (Nat.le_of_ble_eq_true rfl) (by simp [cellOf, uI]) uI_o hd kk
theorem get_X9_14 (C : Cx p R s m args meth c S G cc nL d own ret cs sl) {k : Nat} (hk : S[k]? = some (9, 0, 0)) {index : Nat} (hli : Cond.fieldLink own index "BellBalanceModel" "pulls" "[I" ∈ TB) (hd : decode cc pc = .ok (.getfield index, 3)) (kk : Go p l e R s m args below meth c S G nL cs sl Q (pc + 3) lv (.ref (G.2.2 9) :: st) σ) : Go p l e R s m args below meth c S G nL cs sl Q pc lv (.ref (G.2.2 k) :: st) σ :=
  g_get C hk rfl rfl inX9 14 (by decide) hli rfl hd kk
theorem get_X9_15 (C : Cx p R s m args meth c S G cc nL d own ret cs sl) {k : Nat} (hk : S[k]? = some (9, 0, 0)) {index : Nat} (hli : Cond.fieldLink own index "BellBalanceModel" "when" "[I" ∈ TB) (hd : decode cc pc = .ok (.getfield index, 3)) (kk : Go p l e R s m args below meth c S G nL cs sl Q (pc + 3) lv (.ref (G.2.2 10) :: st) σ) : Go p l e R s m args below meth c S G nL cs sl Q pc lv (.ref (G.2.2 k) :: st) σ :=
  g_get C hk rfl rfl inX9 15 (by decide) hli rfl hd kk
theorem get_X9_16 (C : Cx p R s m args meth c S G cc nL d own ret cs sl) {k : Nat} (hk : S[k]? = some (9, 0, 0)) {index : Nat} (hli : Cond.fieldLink own index "BellBalanceModel" "order" "[I" ∈ TB) (hd : decode cc pc = .ok (.getfield index, 3)) (kk : Go p l e R s m args below meth c S G nL cs sl Q (pc + 3) lv (.ref (G.2.2 11) :: st) σ) : Go p l e R s m args below meth c S G nL cs sl Q pc lv (.ref (G.2.2 k) :: st) σ :=
  g_get C hk rfl rfl inX9 16 (by decide) hli rfl hd kk
theorem get_X9_17 (C : Cx p R s m args meth c S G cc nL d own ret cs sl) {k : Nat} (hk : S[k]? = some (9, 0, 0)) {index : Nat} (hli : Cond.fieldLink own index "BellBalanceModel" "breaks" "Z" ∈ TB) (hd : decode cc pc = .ok (.getfield index, 3)) (kk : Go p l e R s m args below meth c S G nL cs sl Q (pc + 3) lv (.int (σ.1 k 17) :: st) σ) : Go p l e R s m args below meth c S G nL cs sl Q pc lv (.ref (G.2.2 k) :: st) σ :=
  g_get C hk rfl rfl inX9 17 (by decide) hli rfl hd kk
theorem put_X9_17 (C : Cx p R s m args meth c S G cc nL d own ret cs sl) {k : Nat} {v : Int32} (hk : S[k]? = some (9, 0, 0)) (hz : zok v) {index : Nat} (hli : Cond.fieldLink own index "BellBalanceModel" "breaks" "Z" ∈ TB) (hd : decode cc pc = .ok (.putfield index, 3)) (kk : Go p l e R s m args below meth c S G nL cs sl Q (pc + 3) lv st (uI σ k 17 v)) : Go p l e R s m args below meth c S G nL cs sl Q pc lv (.int v :: .ref (G.2.2 k) :: st) σ :=
  g_put C hk rfl rfl inX9 tyX9 tyX9_ok nmX9 17 (by decide) hli rfl (zok_n hz) (zok_f hz) (Nat.le_of_ble_eq_true rfl) (by simp [cellOf, uI]) uI_o hd kk
theorem get_X9_18 (C : Cx p R s m args meth c S G cc nL d own ret cs sl) {k : Nat} (hk : S[k]? = some (9, 0, 0)) {index : Nat} (hli : Cond.fieldLink own index "BellBalanceModel" "heards" "I" ∈ TB) (hd : decode cc pc = .ok (.getfield index, 3)) (kk : Go p l e R s m args below meth c S G nL cs sl Q (pc + 3) lv (.int (σ.1 k 18) :: st) σ) : Go p l e R s m args below meth c S G nL cs sl Q pc lv (.ref (G.2.2 k) :: st) σ :=
  g_get C hk rfl rfl inX9 18 (by decide) hli rfl hd kk
theorem put_X9_18 (C : Cx p R s m args meth c S G cc nL d own ret cs sl) {k : Nat} {v : Int32} (hk : S[k]? = some (9, 0, 0)) {index : Nat} (hli : Cond.fieldLink own index "BellBalanceModel" "heards" "I" ∈ TB) (hd : decode cc pc = .ok (.putfield index, 3)) (kk : Go p l e R s m args below meth c S G nL cs sl Q (pc + 3) lv st (uI σ k 18 v)) : Go p l e R s m args below meth c S G nL cs sl Q pc lv (.int v :: .ref (G.2.2 k) :: st) σ :=
  g_put C hk rfl rfl inX9 tyX9 tyX9_ok nmX9 18 (by decide) hli rfl rfl rfl (Nat.le_of_ble_eq_true rfl) (by simp [cellOf, uI]) uI_o hd kk
theorem get_X9_19 (C : Cx p R s m args meth c S G cc nL d own ret cs sl) {k : Nat} (hk : S[k]? = some (9, 0, 0)) {index : Nat} (hli : Cond.fieldLink own index "BellBalanceModel" "can" "[Z" ∈ TB) (hd : decode cc pc = .ok (.getfield index, 3)) (kk : Go p l e R s m args below meth c S G nL cs sl Q (pc + 3) lv (.ref (G.2.2 12) :: st) σ) : Go p l e R s m args below meth c S G nL cs sl Q pc lv (.ref (G.2.2 k) :: st) σ :=
  g_get C hk rfl rfl inX9 19 (by decide) hli rfl hd kk
theorem get_X9_20 (C : Cx p R s m args meth c S G cc nL d own ret cs sl) {k : Nat} (hk : S[k]? = some (9, 0, 0)) {index : Nat} (hli : Cond.fieldLink own index "BellBalanceModel" "sums" "[I" ∈ TB) (hd : decode cc pc = .ok (.getfield index, 3)) (kk : Go p l e R s m args below meth c S G nL cs sl Q (pc + 3) lv (.ref (G.2.2 13) :: st) σ) : Go p l e R s m args below meth c S G nL cs sl Q pc lv (.ref (G.2.2 k) :: st) σ :=
  g_get C hk rfl rfl inX9 20 (by decide) hli rfl hd kk
theorem get_X9_21 (C : Cx p R s m args meth c S G cc nL d own ret cs sl) {k : Nat} (hk : S[k]? = some (9, 0, 0)) {index : Nat} (hli : Cond.fieldLink own index "BellBalanceModel" "ways" "[J" ∈ TB) (hd : decode cc pc = .ok (.getfield index, 3)) (kk : Go p l e R s m args below meth c S G nL cs sl Q (pc + 3) lv (.ref (G.2.2 14) :: st) σ) : Go p l e R s m args below meth c S G nL cs sl Q pc lv (.ref (G.2.2 k) :: st) σ :=
  g_get C hk rfl rfl inX9 21 (by decide) hli rfl hd kk
theorem get_X9_22 (C : Cx p R s m args meth c S G cc nL d own ret cs sl) {k : Nat} (hk : S[k]? = some (9, 0, 0)) {index : Nat} (hli : Cond.fieldLink own index "BellBalanceModel" "best" "[I" ∈ TB) (hd : decode cc pc = .ok (.getfield index, 3)) (kk : Go p l e R s m args below meth c S G nL cs sl Q (pc + 3) lv (.ref (G.2.2 15) :: st) σ) : Go p l e R s m args below meth c S G nL cs sl Q pc lv (.ref (G.2.2 k) :: st) σ :=
  g_get C hk rfl rfl inX9 22 (by decide) hli rfl hd kk
theorem get_X9_23 (C : Cx p R s m args meth c S G cc nL d own ret cs sl) {k : Nat} (hk : S[k]? = some (9, 0, 0)) {index : Nat} (hli : Cond.fieldLink own index "BellBalanceModel" "met" "[Z" ∈ TB) (hd : decode cc pc = .ok (.getfield index, 3)) (kk : Go p l e R s m args below meth c S G nL cs sl Q (pc + 3) lv (.ref (G.2.2 16) :: st) σ) : Go p l e R s m args below meth c S G nL cs sl Q pc lv (.ref (G.2.2 k) :: st) σ :=
  g_get C hk rfl rfl inX9 23 (by decide) hli rfl hd kk
theorem get_X9_24 (C : Cx p R s m args meth c S G cc nL d own ret cs sl) {k : Nat} (hk : S[k]? = some (9, 0, 0)) {index : Nat} (hli : Cond.fieldLink own index "BellBalanceModel" "wins" "[Z" ∈ TB) (hd : decode cc pc = .ok (.getfield index, 3)) (kk : Go p l e R s m args below meth c S G nL cs sl Q (pc + 3) lv (.ref (G.2.2 17) :: st) σ) : Go p l e R s m args below meth c S G nL cs sl Q pc lv (.ref (G.2.2 k) :: st) σ :=
  g_get C hk rfl rfl inX9 24 (by decide) hli rfl hd kk
theorem get_X9_25 (C : Cx p R s m args meth c S G cc nL d own ret cs sl) {k : Nat} (hk : S[k]? = some (9, 0, 0)) {index : Nat} (hli : Cond.fieldLink own index "BellBalanceModel" "parts" "[J" ∈ TB) (hd : decode cc pc = .ok (.getfield index, 3)) (kk : Go p l e R s m args below meth c S G nL cs sl Q (pc + 3) lv (.ref (G.2.2 18) :: st) σ) : Go p l e R s m args below meth c S G nL cs sl Q pc lv (.ref (G.2.2 k) :: st) σ :=
  g_get C hk rfl rfl inX9 25 (by decide) hli rfl hd kk
theorem get_X9_26 (C : Cx p R s m args meth c S G cc nL d own ret cs sl) {k : Nat} (hk : S[k]? = some (9, 0, 0)) {index : Nat} (hli : Cond.fieldLink own index "BellBalanceModel" "next" "[J" ∈ TB) (hd : decode cc pc = .ok (.getfield index, 3)) (kk : Go p l e R s m args below meth c S G nL cs sl Q (pc + 3) lv (.ref (G.2.2 19) :: st) σ) : Go p l e R s m args below meth c S G nL cs sl Q pc lv (.ref (G.2.2 k) :: st) σ :=
  g_get C hk rfl rfl inX9 26 (by decide) hli rfl hd kk
theorem get_X9_27 (C : Cx p R s m args meth c S G cc nL d own ret cs sl) {k : Nat} (hk : S[k]? = some (9, 0, 0)) {index : Nat} (hli : Cond.fieldLink own index "BellBalanceModel" "h" "J" ∈ TB) (hd : decode cc pc = .ok (.getfield index, 3)) (kk : Go p l e R s m args below meth c S G nL cs sl Q (pc + 3) lv (.long (σ.2 k 27) :: st) σ) : Go p l e R s m args below meth c S G nL cs sl Q pc lv (.ref (G.2.2 k) :: st) σ :=
  g_get C hk rfl rfl inX9 27 (by decide) hli rfl hd kk
theorem put_X9_27 (C : Cx p R s m args meth c S G cc nL d own ret cs sl) {k : Nat} {v : Int64} (hk : S[k]? = some (9, 0, 0)) {index : Nat} (hli : Cond.fieldLink own index "BellBalanceModel" "h" "J" ∈ TB) (hd : decode cc pc = .ok (.putfield index, 3)) (kk : Go p l e R s m args below meth c S G nL cs sl Q (pc + 3) lv st (uL σ k 27 v)) : Go p l e R s m args below meth c S G nL cs sl Q pc lv (.long v :: .ref (G.2.2 k) :: st) σ :=
  g_put C hk rfl rfl inX9 tyX9 tyX9_ok nmX9 27 (by decide) hli rfl rfl rfl (Nat.le_of_ble_eq_true rfl) (by simp [cellOf, uL]) uL_o hd kk
end FLD

-- BellBalance.isOf(II)Z
def J_X8_isOf_34 (w0 : Int32) (K : Int32 → Prop)  : Prop :=
(zok w0 ∧ K w0)
def J_X8_isOf_29  (K : Int32 → Prop)  : Prop :=
J_X8_isOf_34 1 K
def J_X8_isOf_33  (K : Int32 → Prop)  : Prop :=
J_X8_isOf_34 0 K
def J_X8_isOf_19 (v0 : Int32) (v1 : Int32) (K : Int32 → Prop)  : Prop :=
(if v0 = 5 then
(if v1 = 2 then
J_X8_isOf_29 K
else
J_X8_isOf_33 K)
else
J_X8_isOf_33 K)
def wp_X8_isOf (v0 : Int32) (v1 : Int32) (K : Int32 → Prop) : Prop :=
(if v0 = v1 then
J_X8_isOf_29 K
else
(if v1 = 0 then
J_X8_isOf_29 K
else
(if v0 = 4 then
(if v1 = 1 then
J_X8_isOf_29 K
else
J_X8_isOf_19 v0 v1 K)
else
J_X8_isOf_19 v0 v1 K)))
-- BellBalance.after(III)I
def J_X8_after_61 (w0 : Int32) (K : Int32 → Prop)  : Prop :=
K w0
def J_X8_after_29 (v1 : Int32) (v3 : Int32) (w0 : Int32) (K : Int32 → Prop)  : Prop :=
(if (imax 0 ((v1 + v3) - w0)) < 22 then
J_X8_after_61 (imin (imax 0 ((v1 + v3) - w0)) 20) K
else
J_X8_after_61 (-1) K)
def J_X8_after_15 (v0 : Int32) (v1 : Int32) (w0 : Int32) (K : Int32 → Prop)  : Prop :=
wp_X8_isOf v0 2 (fun r18 =>
(if r18 = 0 then
J_X8_after_29 v1 w0 1 K
else
J_X8_after_29 v1 w0 0 K))
def wp_X8_after (v0 : Int32) (v1 : Int32) (v2 : Int32) (K : Int32 → Prop) : Prop :=
wp_X8_isOf v0 1 (fun r2 =>
(if r2 = 0 then
J_X8_after_15 v0 v1 v2 K
else
J_X8_after_15 v0 v1 (v2 / 2) K))
-- BellBalance.find(I)I
def J_X8_find_28 (σ : St) (K : Int32 → St → Prop)  : Prop :=
K (-3) σ
def wp_X8_find (v1 : Int32) (σ : St) (K : Int32 → St → Prop) : Prop :=
(if v1 < 0 then
J_X8_find_28 (uI σ 0 11 v1) K
else
(if (nI 6) ≤ v1 then
J_X8_find_28 (uI σ 0 11 v1) K
else
(vp_in v1 6 ∧
(vp_in v1 6 ∧
J_X8_find_28 (uI (uI σ 0 11 v1) 4 v1.toNatClampNeg (((uI σ 0 11 v1).1 4 v1.toNatClampNeg) + 1)) K))))
-- java/util/Arrays.rangeCheck(III)V
def wp_J7_rangeCheck_23922 (v0 : Int32) (v1 : Int32) (v2 : Int32) (K : Prop) : Prop :=
(if v1 ≤ v2 then
(if 0 ≤ v1 then
(if v2 ≤ v0 then
K
else
False)
else
False)
else
False)
-- java/util/Arrays.fill([IIII)V
def B_J7_fill_fda19_10 (k0 : Nat) (n0 : Nat) (v2 : Int32) (v3 : Int32) (K : St → Prop)  (Φ10 : Int32 → St → Prop) (v4 : Int32) (σ : St) : Prop :=
(if v2 ≤ v4 then
K σ
else
(vp_in v4 n0 ∧
Φ10 (v4 + 1) (uI σ k0 v4.toNatClampNeg v3)))
def L_J7_fill_fda19_10 (k0 : Nat) (n0 : Nat) (v2 : Int32) (v3 : Int32) (K : St → Prop)  (v4 : Int32) (σ : St) : Prop := wl2 (B_J7_fill_fda19_10 k0 n0 v2 v3 K) v4 σ
def wp_J7_fill_fda19 (k0 : Nat) (n0 : Nat) (v1 : Int32) (v2 : Int32) (v3 : Int32) (σ : St) (K : St → Prop) : Prop :=
wp_J7_rangeCheck_23922 (nI n0) v1 v2 (L_J7_fill_fda19_10 k0 n0 v2 v3 K v1 σ)
-- BellBalance$Row.begin(II)V
def wp_X6_begin (k0 : Nat) (n0 : Nat) (v1 : Int32) (v2 : Int32) (σ : St) (K : St → Prop) : Prop :=
wp_J7_fill_fda19 (k0 + 1) n0 0 ((uI (uI σ k0 1 1) k0 2 (imax 0 (imin v1 (nI n0)))).1 k0 2) v2 (uI (uI σ k0 1 1) k0 2 (imax 0 (imin v1 (nI n0)))) (fun t32 =>
K t32)
-- BellBalance.anew(LBellBalance$Row;II)I
def wp_X8_anew (k1 : Nat) (n1 : Nat) (v2 : Int32) (v3 : Int32) (σ : St) (K : Int32 → St → Prop) : Prop :=
(if v2 ≤ (nI n1) then
(if 0 ≤ v2 then
wp_X6_begin k1 n1 v2 v3 σ (fun t24 =>
K v2 t24)
else
wp_X8_find 5 σ (fun r17 t17 =>
K r17 t17))
else
K (-1) σ)
-- BellBalance.isRow(I)Z
def J_X8_isRow_15 (w0 : Int32) (K : Int32 → Prop)  : Prop :=
(zok w0 ∧ K w0)
def J_X8_isRow_14  (K : Int32 → Prop)  : Prop :=
J_X8_isRow_15 0 K
def wp_X8_isRow (v0 : Int32) (K : Int32 → Prop) : Prop :=
(if v0 < 0 then
J_X8_isRow_14 K
else
(if 6 ≤ v0 then
J_X8_isRow_14 K
else
J_X8_isRow_15 1 K))
-- BellBalance$Tower.has(I)Z
def J_X7_has_17 (w0 : Int32) (σ : St) (K : Int32 → Prop)  : Prop :=
(zok w0 ∧ K w0)
def J_X7_has_16 (σ : St) (K : Int32 → Prop)  : Prop :=
J_X7_has_17 0 σ K
def wp_X7_has (k0 : Nat) (v1 : Int32) (σ : St) (K : Int32 → Prop) : Prop :=
(if v1 < 0 then
J_X7_has_16 σ K
else
(if (σ.1 k0 2) ≤ v1 then
J_X7_has_16 σ K
else
J_X7_has_17 1 σ K))
-- BellBalance.refuseBell(I)I
def J_X8_refuseBell_34 (w0 : Int32) (σ : St) (K : Int32 → Prop)  : Prop :=
K w0
def wp_X8_refuseBell (v1 : Int32) (σ : St) (K : Int32 → Prop) : Prop :=
wp_X7_has 25 v1 σ (fun r5 =>
(if r5 = 0 then
K (-1)
else
(vp_in v1 6 ∧
(if (σ.1 (28 + v1.toNatClampNeg) 5) = 0 then
J_X8_refuseBell_34 0 σ K
else
J_X8_refuseBell_34 (-4) σ K))))
-- BellBalance$Paths.armsFrom(II)I
def J_X4_armsFrom_20 (σ : St) (K : Int32 → Prop)  : Prop :=
K (-9)
def wp_X4_armsFrom (v1 : Int32) (v2 : Int32) (σ : St) (K : Int32 → Prop) : Prop :=
(if v1 < 0 then
J_X4_armsFrom_20 σ K
else
(if 12 < v1 then
J_X4_armsFrom_20 σ K
else
(if v2 < 0 then
J_X4_armsFrom_20 σ K
else
(if v2 < 21 then
(vp_in ((v1 * 21) + v2) 273 ∧
K (σ.1 78 ((v1 * 21) + v2).toNatClampNeg))
else
J_X4_armsFrom_20 σ K))))
-- BellBalance$Paths.sumBy(IIII)I
def J_X4_sumBy_48 (w0 : Int32) (σ : St) (K : Int32 → Prop)  : Prop :=
K w0
def J_X4_sumBy_29 (v4 : Int32) (w0 : Int32) (σ : St) (K : Int32 → Prop)  : Prop :=
(if w0 = (-9) then
J_X4_sumBy_48 (-9) σ K
else
J_X4_sumBy_48 (v4 + w0) σ K)
def wp_X4_sumBy (v1 : Int32) (v2 : Int32) (v3 : Int32) (v4 : Int32) (σ : St) (K : Int32 → Prop) : Prop :=
wp_X8_after v1 v3 v4 (fun r4 =>
(if r4 = (-1) then
J_X4_sumBy_29 v4 (-9) σ K
else
wp_X4_armsFrom (v2 - 1) r4 σ (fun r26 =>
J_X4_sumBy_29 v4 r26 σ K)))
-- BellBalance$Paths.lightestPull(III)I
def J_X4_lightestPull_52 (v1 : Int32) (v2 : Int32) (v3 : Int32) (v4 : Int32) (v5 : Int32) (v6 : Int32) (σ : St) (K : Int32 → Prop) (Φ12 : Int32 → Int32 → Int32 → Prop) : Prop :=
Φ12 v4 v5 (v6 + 1)
def B_X4_lightestPull_12 (v1 : Int32) (v2 : Int32) (v3 : Int32) (σ : St) (K : Int32 → Prop)  (Φ12 : Int32 → Int32 → Int32 → Prop) (v4 : Int32) (v5 : Int32) (v6 : Int32) : Prop :=
(if 7 ≤ v6 then
K v4
else
wp_X4_sumBy v1 v2 v3 v6 σ (fun r25 =>
(if r25 = (-9) then
J_X4_lightestPull_52 v1 v2 v3 v4 v5 v6 σ K Φ12
else
(if v5 ≤ r25 then
J_X4_lightestPull_52 v1 v2 v3 v4 v5 v6 σ K Φ12
else
J_X4_lightestPull_52 v1 v2 v3 v6 r25 v6 σ K Φ12))))
def L_X4_lightestPull_12 (v1 : Int32) (v2 : Int32) (v3 : Int32) (σ : St) (K : Int32 → Prop)  (v4 : Int32) (v5 : Int32) (v6 : Int32) : Prop := wl3 (B_X4_lightestPull_12 v1 v2 v3 σ K) v4 v5 v6
def wp_X4_lightestPull (v1 : Int32) (v2 : Int32) (v3 : Int32) (σ : St) (K : Int32 → Prop) : Prop :=
L_X4_lightestPull_12 v1 v2 v3 σ K (-9) 1000 0
-- BellBalance$Row.has(I)Z
def J_X6_has_17 (w0 : Int32) (σ : St) (K : Int32 → Prop)  : Prop :=
(zok w0 ∧ K w0)
def J_X6_has_16 (σ : St) (K : Int32 → Prop)  : Prop :=
J_X6_has_17 0 σ K
def wp_X6_has (k0 : Nat) (n0 : Nat) (v1 : Int32) (σ : St) (K : Int32 → Prop) : Prop :=
(if v1 < 0 then
J_X6_has_16 σ K
else
(if (σ.1 k0 2) ≤ v1 then
J_X6_has_16 σ K
else
J_X6_has_17 1 σ K))
-- BellBalance$Row.set(II)V
def J_X6_set_15 (σ : St) (K : St → Prop)  : Prop :=
K σ
def wp_X6_set (k0 : Nat) (n0 : Nat) (v1 : Int32) (v2 : Int32) (σ : St) (K : St → Prop) : Prop :=
wp_X6_has k0 n0 v1 σ (fun r2 =>
(if r2 = 0 then
J_X6_set_15 σ K
else
(vp_in v1 n0 ∧
J_X6_set_15 (uI σ (k0 + 1) v1.toNatClampNeg v2) K)))
-- BellBalance$Paths.layLightest(LBellBalance$Bell;ILBellBalance$Row;)V
def B_X4_layLightest_15 (k1 : Nat) (v2 : Int32) (k3 : Nat) (n3 : Nat) (K : St → Prop)  (Φ15 : Int32 → Int32 → St → Prop) (v4 : Int32) (v5 : Int32) (σ : St) : Prop :=
(if v2 ≤ v5 then
K σ
else
wp_X4_lightestPull (σ.1 k1 0) (v2 - v5) v4 σ (fun r32 =>
wp_X6_set k3 n3 v5 r32 σ (fun t42 =>
wp_X8_after (t42.1 k1 0) v4 r32 (fun r53 =>
Φ15 r53 (v5 + 1) t42))))
def L_X4_layLightest_15 (k1 : Nat) (v2 : Int32) (k3 : Nat) (n3 : Nat) (K : St → Prop)  (v4 : Int32) (v5 : Int32) (σ : St) : Prop := wl3 (B_X4_layLightest_15 k1 v2 k3 n3 K) v4 v5 σ
def wp_X4_layLightest (k1 : Nat) (v2 : Int32) (k3 : Nat) (n3 : Nat) (σ : St) (K : St → Prop) : Prop :=
wp_X6_begin k3 n3 v2 0 σ (fun t3 =>
L_X4_layLightest_15 k1 v2 k3 n3 K (t3.1 k1 3) 0 t3)
-- BellBalance$Paths.weigh(III)V
def J_X4_weigh_120 (σ : St) (K : St → Prop)  : Prop :=
K σ
def J_X4_weigh_107 (v1 : Int32) (v2 : Int32) (v4 : Int32) (v5 : Int32) (kw0 : Nat) (nw0 : Nat) (w1 : Int32) (w2 : Int32) (σ : St) (K : St → Prop) (Φ38 : Int32 → St → Prop) (Φ54 : Int32 → St → Prop) : Prop :=
(vp_in w1 nw0 ∧
Φ54 (v5 + 1) (uI σ kw0 w1.toNatClampNeg w2))
def B_X4_weigh_54 (v1 : Int32) (v2 : Int32) (v4 : Int32) (K : St → Prop) (Φ38 : Int32 → St → Prop) (Φ54 : Int32 → St → Prop) (v5 : Int32) (σ : St) : Prop :=
(if 21 ≤ v5 then
Φ38 (v4 + 1) σ
else
wp_X4_lightestPull v1 v4 v5 σ (fun r67 =>
(if r67 = (-9) then
J_X4_weigh_107 v1 v2 v4 v5 78 273 ((v4 * 21) + v5) (-9) σ K Φ38 Φ54
else
wp_X4_sumBy v1 v4 v5 r67 σ (fun r104 =>
J_X4_weigh_107 v1 v2 v4 v5 78 273 ((v4 * 21) + v5) r104 σ K Φ38 Φ54))))
def L_X4_weigh_54 (v1 : Int32) (v2 : Int32) (v4 : Int32) (K : St → Prop) (Φ38 : Int32 → St → Prop) (v5 : Int32) (σ : St) : Prop := wl2 (B_X4_weigh_54 v1 v2 v4 K Φ38) v5 σ
def B_X4_weigh_38 (v1 : Int32) (v2 : Int32) (K : St → Prop)  (Φ38 : Int32 → St → Prop) (v4 : Int32) (σ : St) : Prop :=
(if v2 < v4 then
J_X4_weigh_120 σ K
else
(if 12 < v4 then
J_X4_weigh_120 σ K
else
L_X4_weigh_54 v1 v2 v4 K Φ38 0 σ))
def L_X4_weigh_38 (v1 : Int32) (v2 : Int32) (K : St → Prop)  (v4 : Int32) (σ : St) : Prop := wl2 (B_X4_weigh_38 v1 v2 K) v4 σ
def J_X4_weigh_28 (v1 : Int32) (v2 : Int32) (v3 : Int32) (v4 : Int32) (kw0 : Nat) (nw0 : Nat) (w1 : Int32) (w2 : Int32) (σ : St) (K : St → Prop) (Φ3 : Int32 → St → Prop) : Prop :=
(vp_in w1 nw0 ∧
Φ3 (v4 + 1) (uI σ kw0 w1.toNatClampNeg w2))
def B_X4_weigh_3 (v1 : Int32) (v2 : Int32) (v3 : Int32) (K : St → Prop)  (Φ3 : Int32 → St → Prop) (v4 : Int32) (σ : St) : Prop :=
(if 21 ≤ v4 then
L_X4_weigh_38 v1 v2 K 1 σ
else
(if v4 = v3 then
J_X4_weigh_28 v1 v2 v3 v4 78 273 v4 0 σ K Φ3
else
J_X4_weigh_28 v1 v2 v3 v4 78 273 v4 (-9) σ K Φ3))
def L_X4_weigh_3 (v1 : Int32) (v2 : Int32) (v3 : Int32) (K : St → Prop)  (v4 : Int32) (σ : St) : Prop := wl2 (B_X4_weigh_3 v1 v2 v3 K) v4 σ
def wp_X4_weigh (v1 : Int32) (v2 : Int32) (v3 : Int32) (σ : St) (K : St → Prop) : Prop :=
L_X4_weigh_3 v1 v2 v3 K 0 σ
-- BellBalance.arms(IIII)I
def J_X8_arms_28 (σ : St) (K : Int32 → St → Prop)  : Prop :=
K (-1) σ
def J_X8_arms_109 (v7 : Int32) (σ : St) (K : Int32 → St → Prop)  : Prop :=
K v7 σ
def wp_X8_arms (v1 : Int32) (v2 : Int32) (v3 : Int32) (v4 : Int32) (σ : St) (K : Int32 → St → Prop) : Prop :=
(if v2 < 0 then
J_X8_arms_28 σ K
else
(if 12 < v2 then
J_X8_arms_28 σ K
else
(if v3 < 0 then
J_X8_arms_28 σ K
else
(if 20 < v3 then
J_X8_arms_28 σ K
else
wp_X8_isRow v4 (fun r22 =>
(if r22 = 0 then
J_X8_arms_28 σ K
else
wp_X8_refuseBell v1 σ (fun r32 =>
(if r32 = 0 then
(vp_in v1 6 ∧
wp_X4_weigh (σ.1 (28 + v1.toNatClampNeg) 0) v2 v3 σ (fun t67 =>
wp_X4_armsFrom v2 (t67.1 (28 + v1.toNatClampNeg) 3) t67 (fun r80 =>
(if r80 = (-9) then
J_X8_arms_109 r80 t67 K
else
(vp_in v4 6 ∧
wp_X4_layLightest (28 + v1.toNatClampNeg) v2 (5 + 2 * v4.toNatClampNeg) 40 t67 (fun t106 =>
J_X8_arms_109 r80 t106 K))))))
else
K r32 σ))))))))
-- BellBalance.asked()I
def wp_X8_asked (σ : St) (K : Int32 → Prop) : Prop :=
K (σ.1 0 12)
-- BellBalance.refusePlace(II)I
def J_X8_refusePlace_49 (w0 : Int32) (σ : St) (K : Int32 → St → Prop)  : Prop :=
K w0 σ
def wp_X8_refusePlace (v1 : Int32) (v2 : Int32) (σ : St) (K : Int32 → St → Prop) : Prop :=
wp_X8_isRow v1 (fun r1 =>
(if r1 = 0 then
K (-1) σ
else
(vp_in v1 6 ∧
(if (σ.1 (5 + 2 * v1.toNatClampNeg) 1) = 0 then
wp_X8_find 1 σ (fun r23 t23 =>
K r23 t23)
else
(vp_in v1 6 ∧
wp_X6_has (5 + 2 * v1.toNatClampNeg) 40 v2 σ (fun r34 =>
(if r34 = 0 then
wp_X8_find 2 σ (fun r46 t46 =>
J_X8_refusePlace_49 r46 t46 K)
else
J_X8_refusePlace_49 0 σ K)))))))
-- BellBalance.at(II)I
def wp_X8_at (v1 : Int32) (v2 : Int32) (σ : St) (K : Int32 → St → Prop) : Prop :=
wp_X8_refusePlace v1 v2 σ (fun r3 t3 =>
(if r3 = 0 then
(vp_in v1 6 ∧
(vp_in v2 40 ∧
K 1 (uI t3 0 12 (t3.1 ((5 + 2 * v1.toNatClampNeg) + 1) v2.toNatClampNeg))))
else
K r3 t3))
-- BellBalance$Paths.strokesFrom(I)I
def J_X4_strokesFrom_21 (w0 : Int32) (σ : St) (K : Int32 → Prop)  : Prop :=
K w0
def J_X4_strokesFrom_19 (σ : St) (K : Int32 → Prop)  : Prop :=
J_X4_strokesFrom_21 (-9) σ K
def wp_X4_strokesFrom (v1 : Int32) (σ : St) (K : Int32 → Prop) : Prop :=
(if v1 < 0 then
J_X4_strokesFrom_19 σ K
else
(if 21 ≤ v1 then
J_X4_strokesFrom_19 σ K
else
(vp_in v1 21 ∧
J_X4_strokesFrom_21 (σ.1 77 v1.toNatClampNeg) σ K)))
-- BellBalance$Paths.pullToward(III)I
def J_X4_pullToward_38 (v1 : Int32) (v2 : Int32) (v3 : Int32) (v4 : Int32) (σ : St) (K : Int32 → Prop) (Φ3 : Int32 → Prop) : Prop :=
Φ3 (v4 + 1)
def B_X4_pullToward_3 (v1 : Int32) (v2 : Int32) (v3 : Int32) (σ : St) (K : Int32 → Prop)  (Φ3 : Int32 → Prop) (v4 : Int32) : Prop :=
(if 7 ≤ v4 then
K (-9)
else
wp_X8_after v1 v2 v4 (fun r14 =>
(if r14 = (-1) then
J_X4_pullToward_38 v1 v2 v3 v4 σ K Φ3
else
wp_X4_strokesFrom r14 σ (fun r28 =>
(if r28 = v3 then
K v4
else
J_X4_pullToward_38 v1 v2 v3 v4 σ K Φ3)))))
def L_X4_pullToward_3 (v1 : Int32) (v2 : Int32) (v3 : Int32) (σ : St) (K : Int32 → Prop)  (v4 : Int32) : Prop := wl1 (B_X4_pullToward_3 v1 v2 v3 σ K) v4
def wp_X4_pullToward (v1 : Int32) (v2 : Int32) (v3 : Int32) (σ : St) (K : Int32 → Prop) : Prop :=
L_X4_pullToward_3 v1 v2 v3 σ K 0
-- BellBalance$Paths.measure(II)V
def J_X4_measure_84 (v1 : Int32) (v3 : Int32) (v4 : Int32) (σ : St) (K : St → Prop) (Φ33 : Int32 → St → Prop) (Φ42 : Int32 → St → Prop) : Prop :=
Φ42 (v4 + 1) σ
def B_X4_measure_42 (v1 : Int32) (v3 : Int32) (K : St → Prop) (Φ33 : Int32 → St → Prop) (Φ42 : Int32 → St → Prop) (v4 : Int32) (σ : St) : Prop :=
(if 21 ≤ v4 then
Φ33 (v3 + 1) σ
else
(vp_in v4 21 ∧
(if (σ.1 77 v4.toNatClampNeg) = (-9) then
wp_X4_pullToward v1 v4 (v3 - 1) σ (fun r68 =>
(if r68 = (-9) then
J_X4_measure_84 v1 v3 v4 σ K Φ33 Φ42
else
(vp_in v4 21 ∧
J_X4_measure_84 v1 v3 v4 (uI σ 77 v4.toNatClampNeg v3) K Φ33 Φ42)))
else
J_X4_measure_84 v1 v3 v4 σ K Φ33 Φ42)))
def L_X4_measure_42 (v1 : Int32) (v3 : Int32) (K : St → Prop) (Φ33 : Int32 → St → Prop) (v4 : Int32) (σ : St) : Prop := wl2 (B_X4_measure_42 v1 v3 K Φ33) v4 σ
def B_X4_measure_33 (v1 : Int32) (K : St → Prop)  (Φ33 : Int32 → St → Prop) (v3 : Int32) (σ : St) : Prop :=
(if 30 < v3 then
K σ
else
L_X4_measure_42 v1 v3 K Φ33 0 σ)
def L_X4_measure_33 (v1 : Int32) (K : St → Prop)  (v3 : Int32) (σ : St) : Prop := wl2 (B_X4_measure_33 v1 K) v3 σ
def J_X4_measure_24 (v1 : Int32) (v2 : Int32) (v3 : Int32) (kw0 : Nat) (nw0 : Nat) (w1 : Int32) (w2 : Int32) (σ : St) (K : St → Prop) (Φ2 : Int32 → St → Prop) : Prop :=
(vp_in w1 nw0 ∧
Φ2 (v3 + 1) (uI σ kw0 w1.toNatClampNeg w2))
def B_X4_measure_2 (v1 : Int32) (v2 : Int32) (K : St → Prop)  (Φ2 : Int32 → St → Prop) (v3 : Int32) (σ : St) : Prop :=
(if 21 ≤ v3 then
L_X4_measure_33 v1 K 1 σ
else
(if v3 < v2 then
J_X4_measure_24 v1 v2 v3 77 21 v3 (-9) σ K Φ2
else
J_X4_measure_24 v1 v2 v3 77 21 v3 0 σ K Φ2))
def L_X4_measure_2 (v1 : Int32) (v2 : Int32) (K : St → Prop)  (v3 : Int32) (σ : St) : Prop := wl2 (B_X4_measure_2 v1 v2 K) v3 σ
def wp_X4_measure (v1 : Int32) (v2 : Int32) (σ : St) (K : St → Prop) : Prop :=
L_X4_measure_2 v1 v2 K 0 σ
-- BellBalance.back(I)I
def wp_X8_back (v1 : Int32) (σ : St) (K : Int32 → St → Prop) : Prop :=
wp_X8_refuseBell v1 σ (fun r2 =>
(if r2 = 0 then
(vp_in v1 6 ∧
wp_X4_measure (σ.1 (28 + v1.toNatClampNeg) 0) 5 σ (fun t29 =>
(vp_in v1 6 ∧
wp_X4_strokesFrom (t29.1 (28 + v1.toNatClampNeg) 3) t29 (fun r48 =>
K r48 t29))))
else
K r2 σ))
-- BellBalance$Bell.tell(I)I
def J_X0_tell_63 (w0 : Int32) (σ : St) (K : Int32 → Prop)  : Prop :=
K w0
def J_X0_tell_78 (w0 : Int32) (σ : St) (K : Int32 → Prop)  : Prop :=
K w0
def wp_X0_tell (k0 : Nat) (v1 : Int32) (σ : St) (K : Int32 → Prop) : Prop :=
(if v1 = 0 then
K (σ.1 k0 0)
else
(if v1 = 1 then
K (σ.1 k0 1)
else
(if v1 = 2 then
K (σ.1 k0 3)
else
(if v1 = 3 then
(if (σ.1 k0 5) = 0 then
J_X0_tell_63 0 σ K
else
J_X0_tell_63 1 σ K)
else
(if v1 = 4 then
(if (σ.1 k0 3) = 20 then
J_X0_tell_78 1 σ K
else
J_X0_tell_78 0 σ K)
else
K (σ.1 k0 4))))))
-- BellBalance.bell(II)I
def J_X8_bell_21 (σ : St) (K : Int32 → St → Prop)  : Prop :=
K (-1) σ
def wp_X8_bell (v1 : Int32) (v2 : Int32) (σ : St) (K : Int32 → St → Prop) : Prop :=
wp_X7_has 25 v1 σ (fun r5 =>
(if r5 = 0 then
J_X8_bell_21 σ K
else
(if v2 < 0 then
J_X8_bell_21 σ K
else
(if v2 < 6 then
(vp_in v1 6 ∧
wp_X0_tell (28 + v1.toNatClampNeg) v2 σ (fun r34 =>
K 1 (uI σ 0 12 r34)))
else
J_X8_bell_21 σ K))))
-- BellBalance.isPull(I)Z
def J_X8_isPull_15 (w0 : Int32) (K : Int32 → Prop)  : Prop :=
(zok w0 ∧ K w0)
def J_X8_isPull_14  (K : Int32 → Prop)  : Prop :=
J_X8_isPull_15 0 K
def wp_X8_isPull (v0 : Int32) (K : Int32 → Prop) : Prop :=
(if v0 < 0 then
J_X8_isPull_14 K
else
(if 7 ≤ v0 then
J_X8_isPull_14 K
else
J_X8_isPull_15 1 K))
-- BellBalance$Row.hasPulls(I)Z
def B_X6_hasPulls_2 (k0 : Nat) (n0 : Nat) (v1 : Int32) (σ : St) (K : Int32 → Prop)  (Φ2 : Int32 → Prop) (v2 : Int32) : Prop :=
(if (σ.1 k0 2) ≤ v2 then
K 1
else
(vp_in v2 n0 ∧
wp_X8_isPull (σ.1 (k0 + 1) v2.toNatClampNeg) (fun r16 =>
(if r16 = 0 then
K 0
else
Φ2 (v2 + (imax 1 v1))))))
def L_X6_hasPulls_2 (k0 : Nat) (n0 : Nat) (v1 : Int32) (σ : St) (K : Int32 → Prop)  (v2 : Int32) : Prop := wl1 (B_X6_hasPulls_2 k0 n0 v1 σ K) v2
def wp_X6_hasPulls (k0 : Nat) (n0 : Nat) (v1 : Int32) (σ : St) (K : Int32 → Prop) : Prop :=
L_X6_hasPulls_2 k0 n0 v1 σ K 0
-- BellBalance.broke(II)I
def B_X8_broke_77 (v1 : Int32) (k4 : Nat) (n4 : Nat) (σ : St) (K : Int32 → St → Prop)  (Φ77 : Int32 → Int32 → Prop) (v5 : Int32) (v6 : Int32) : Prop :=
(if (σ.1 k4 2) ≤ v6 then
K (-9) σ
else
(vp_in v1 6 ∧
(vp_in v6 n4 ∧
wp_X8_after (σ.1 (28 + v1.toNatClampNeg) 0) v5 (σ.1 (k4 + 1) v6.toNatClampNeg) (fun r109 =>
(if r109 = (-1) then
K v6 (uI σ 0 12 (irm v6 2))
else
Φ77 r109 (v6 + 1))))))
def L_X8_broke_77 (v1 : Int32) (k4 : Nat) (n4 : Nat) (σ : St) (K : Int32 → St → Prop)  (v5 : Int32) (v6 : Int32) : Prop := wl2 (B_X8_broke_77 v1 k4 n4 σ K) v5 v6
def J_X8_broke_16 (v1 : Int32) (v2 : Int32) (w0 : Int32) (σ : St) (K : Int32 → St → Prop)  : Prop :=
(if w0 = 0 then
(vp_in v2 6 ∧
(if (σ.1 (5 + 2 * v2.toNatClampNeg) 1) = 0 then
wp_X8_find 1 σ (fun r41 t41 =>
K r41 t41)
else
wp_X6_hasPulls (5 + 2 * v2.toNatClampNeg) 40 1 σ (fun r48 =>
(if r48 = 0 then
wp_X8_find 3 σ (fun r56 t56 =>
K r56 t56)
else
(vp_in v1 6 ∧
L_X8_broke_77 v1 (5 + 2 * v2.toNatClampNeg) 40 σ K (σ.1 (28 + v1.toNatClampNeg) 3) 0)))))
else
K w0 σ)
def wp_X8_broke (v1 : Int32) (v2 : Int32) (σ : St) (K : Int32 → St → Prop) : Prop :=
wp_X8_isRow v2 (fun r1 =>
(if r1 = 0 then
J_X8_broke_16 v1 v2 (-1) σ K
else
wp_X8_refuseBell v1 σ (fun r9 =>
J_X8_broke_16 v1 v2 r9 σ K)))
-- BellBalance$Evening.layBest(ILBellBalance$Row;)V
def J_X1_layBest_36 (σ : St) (K : St → Prop)  : Prop :=
K σ
def B_X1_layBest_8 (v1 : Int32) (k2 : Nat) (n2 : Nat) (K : St → Prop)  (Φ8 : Int32 → St → Prop) (v3 : Int32) (σ : St) : Prop :=
(if v1 ≤ v3 then
J_X1_layBest_36 σ K
else
(if 6 ≤ v3 then
J_X1_layBest_36 σ K
else
(vp_in v3 6 ∧
wp_X6_set k2 n2 v3 (σ.1 75 v3.toNatClampNeg) σ (fun t27 =>
Φ8 (v3 + 1) t27))))
def L_X1_layBest_8 (v1 : Int32) (k2 : Nat) (n2 : Nat) (K : St → Prop)  (v3 : Int32) (σ : St) : Prop := wl2 (B_X1_layBest_8 v1 k2 n2 K) v3 σ
def wp_X1_layBest (v1 : Int32) (k2 : Nat) (n2 : Nat) (σ : St) (K : St → Prop) : Prop :=
wp_X6_begin k2 n2 v1 0 σ (fun t3 =>
L_X1_layBest_8 v1 k2 n2 K 0 t3)
-- BellBalance$Evening.setBest(II)V
def J_X1_setBest_17 (σ : St) (K : St → Prop)  : Prop :=
K σ
def wp_X1_setBest (v1 : Int32) (v2 : Int32) (σ : St) (K : St → Prop) : Prop :=
(if v1 < 0 then
J_X1_setBest_17 σ K
else
(if 6 ≤ v1 then
J_X1_setBest_17 σ K
else
(vp_in v1 6 ∧
J_X1_setBest_17 (uI σ 75 v1.toNatClampNeg v2) K)))
-- BellBalance$Hearing.clear()V
def wp_X3_clear (σ : St) (K : St → Prop) : Prop :=
K (uI σ 70 2 0)
-- BellBalance$Hearing.isBehind(III)Z
def J_X3_isBehind_35 (w0 : Int32) (σ : St) (K : Int32 → Prop)  : Prop :=
(zok w0 ∧ K w0)
def J_X3_isBehind_30 (σ : St) (K : Int32 → Prop)  : Prop :=
J_X3_isBehind_35 1 σ K
def J_X3_isBehind_34 (σ : St) (K : Int32 → Prop)  : Prop :=
J_X3_isBehind_35 0 σ K
def wp_X3_isBehind (v1 : Int32) (v2 : Int32) (v3 : Int32) (σ : St) (K : Int32 → Prop) : Prop :=
(vp_in v1 6 ∧
(if v3 < (σ.1 72 v1.toNatClampNeg) then
J_X3_isBehind_30 σ K
else
(vp_in v1 6 ∧
(if (σ.1 72 v1.toNatClampNeg) = v3 then
(vp_in v1 6 ∧
(if (σ.1 71 v1.toNatClampNeg) ≤ v2 then
J_X3_isBehind_34 σ K
else
J_X3_isBehind_30 σ K))
else
J_X3_isBehind_34 σ K))))
-- BellBalance$Hearing.enter(II)V
def J_X3_enter_65 (v1 : Int32) (v2 : Int32) (v3 : Int32) (σ : St) (K : St → Prop)  : Prop :=
(vp_in v3 6 ∧
(vp_in v3 6 ∧
K (uI (uI (uI σ 71 v3.toNatClampNeg v1) 72 v3.toNatClampNeg v2) 70 2 (((uI (uI σ 71 v3.toNatClampNeg v1) 72 v3.toNatClampNeg v2).1 70 2) + 1))))
def B_X3_enter_15 (v1 : Int32) (v2 : Int32) (K : St → Prop)  (Φ15 : Int32 → St → Prop) (v3 : Int32) (σ : St) : Prop :=
(if v3 ≤ 0 then
J_X3_enter_65 v1 v2 v3 σ K
else
wp_X3_isBehind (v3 - 1) v1 v2 σ (fun r25 =>
(if r25 = 0 then
J_X3_enter_65 v1 v2 v3 σ K
else
(vp_in (v3 - 1) 6 ∧
(vp_in v3 6 ∧
(vp_in (v3 - 1) 6 ∧
(vp_in v3 6 ∧
Φ15 (v3 + (-1)) (uI (uI σ 71 v3.toNatClampNeg (σ.1 71 (v3 - 1).toNatClampNeg)) 72 v3.toNatClampNeg ((uI σ 71 v3.toNatClampNeg (σ.1 71 (v3 - 1).toNatClampNeg)).1 72 (v3 - 1).toNatClampNeg)))))))))
def L_X3_enter_15 (v1 : Int32) (v2 : Int32) (K : St → Prop)  (v3 : Int32) (σ : St) : Prop := wl2 (B_X3_enter_15 v1 v2 K) v3 σ
def wp_X3_enter (v1 : Int32) (v2 : Int32) (σ : St) (K : St → Prop) : Prop :=
(if (σ.1 70 2) < 6 then
L_X3_enter_15 v1 v2 K (σ.1 70 2) σ
else
K σ)
-- BellBalance$Hearing.unevenness()I
def B_X3_unevenness_4 (σ : St) (K : Int32 → Prop)  (Φ4 : Int32 → Int32 → Prop) (v1 : Int32) (v2 : Int32) : Prop :=
(if (σ.1 70 2) ≤ v2 then
K v1
else
(vp_in v2 6 ∧
(vp_in (v2 - 1) 6 ∧
Φ4 (v1 + (iabs (((σ.1 72 v2.toNatClampNeg) - (σ.1 72 (v2 - 1).toNatClampNeg)) - 2))) (v2 + 1))))
def L_X3_unevenness_4 (σ : St) (K : Int32 → Prop)  (v1 : Int32) (v2 : Int32) : Prop := wl2 (B_X3_unevenness_4 σ K) v1 v2
def wp_X3_unevenness (σ : St) (K : Int32 → Prop) : Prop :=
L_X3_unevenness_4 σ K 0 1
-- BellBalance.lag(I)I
def wp_X8_lag (v0 : Int32) (K : Int32 → Prop) : Prop :=
(if v0 = 3 then
K 1
else
(if v0 = 4 then
K 2
else
(if v0 = 5 then
K (-1)
else
K 0)))
-- BellBalance.tenths(IIII)I
def wp_X8_tenths (v0 : Int32) (v1 : Int32) (v2 : Int32) (v3 : Int32) (K : Int32 → Prop) : Prop :=
(if 5 ≤ v3 then
wp_X8_lag v0 (fun r21 =>
K ((((10 + (v3 / 2)) + (v1 / 3)) - v2) + r21))
else
K (-9))
-- BellBalance$Tower.tenthsBy(II)I
def wp_X7_tenthsBy (k0 : Nat) (v1 : Int32) (v2 : Int32) (σ : St) (K : Int32 → Prop) : Prop :=
wp_X7_has k0 v1 σ (fun r2 =>
(if r2 = 0 then
K (-9)
else
(vp_in v1 6 ∧
wp_X8_after (σ.1 ((k0 + 3) + v1.toNatClampNeg) 0) (σ.1 ((k0 + 3) + v1.toNatClampNeg) 3) v2 (fun r39 =>
wp_X8_tenths (σ.1 ((k0 + 3) + v1.toNatClampNeg) 0) (σ.1 ((k0 + 3) + v1.toNatClampNeg) 1) (σ.1 k0 3) r39 (fun r42 =>
K r42)))))
-- BellBalance$Tower.rankBy(II)I
def J_X7_rankBy_28 (w0 : Int32) (σ : St) (K : Int32 → Prop)  : Prop :=
K w0
def wp_X7_rankBy (k0 : Nat) (v1 : Int32) (v2 : Int32) (σ : St) (K : Int32 → Prop) : Prop :=
wp_X7_tenthsBy k0 v1 v2 σ (fun r3 =>
(if r3 = (-9) then
J_X7_rankBy_28 (-9) σ K
else
J_X7_rankBy_28 ((((2 * v1) + r3) * 6) + v1) σ K))
-- BellBalance$Tower.soonestPull(II)I
def B_X7_soonestPull_2 (k0 : Nat) (v1 : Int32) (v2 : Int32) (σ : St) (K : Int32 → Prop)  (Φ2 : Int32 → Prop) (v3 : Int32) : Prop :=
(if 7 ≤ v3 then
K (-9)
else
wp_X7_rankBy k0 v1 v3 σ (fun r11 =>
(if r11 ≤ v2 then
Φ2 (v3 + 1)
else
K v3)))
def L_X7_soonestPull_2 (k0 : Nat) (v1 : Int32) (v2 : Int32) (σ : St) (K : Int32 → Prop)  (v3 : Int32) : Prop := wl1 (B_X7_soonestPull_2 k0 v1 v2 σ K) v3
def wp_X7_soonestPull (k0 : Nat) (v1 : Int32) (v2 : Int32) (σ : St) (K : Int32 → Prop) : Prop :=
L_X7_soonestPull_2 k0 v1 v2 σ K 0
-- BellBalance.ringOrder(LBellBalance$Row;LBellBalance$Row;)I
def J_X8_ringOrder_148 (k2 : Nat) (n2 : Nat) (v4 : Int32) (σ : St) (K : Int32 → St → Prop) (Φ110 : Int32 → St → Prop) : Prop :=
Φ110 (v4 + 1) σ
def B_X8_ringOrder_110 (k2 : Nat) (n2 : Nat) (K : Int32 → St → Prop)  (Φ110 : Int32 → St → Prop) (v4 : Int32) (σ : St) : Prop :=
(if (σ.1 25 2) ≤ v4 then
wp_X1_layBest (σ.1 25 2) k2 n2 σ (fun t166 =>
wp_X3_unevenness t166 (fun r173 =>
K r173 t166))
else
(vp_in v4 6 ∧
(if (σ.1 (28 + v4.toNatClampNeg) 5) = 0 then
J_X8_ringOrder_148 k2 n2 v4 σ K Φ110
else
wp_X1_setBest v4 0 σ (fun t145 =>
J_X8_ringOrder_148 k2 n2 v4 t145 K Φ110))))
def L_X8_ringOrder_110 (k2 : Nat) (n2 : Nat) (K : Int32 → St → Prop)  (v4 : Int32) (σ : St) : Prop := wl2 (B_X8_ringOrder_110 k2 n2 K) v4 σ
def B_X8_ringOrder_13 (k1 : Nat) (n1 : Nat) (k2 : Nat) (n2 : Nat) (K : Int32 → St → Prop)  (Φ13 : Int32 → Int32 → St → Prop) (v3 : Int32) (v4 : Int32) (σ : St) : Prop :=
(if (σ.1 k1 2) ≤ v4 then
L_X8_ringOrder_110 k2 n2 K 0 σ
else
(vp_in v4 n1 ∧
wp_X7_soonestPull 25 (σ.1 (k1 + 1) v4.toNatClampNeg) v3 σ (fun r38 =>
(if r38 = (-9) then
K (-9) σ
else
wp_X7_rankBy 25 (σ.1 (k1 + 1) v4.toNatClampNeg) r38 σ (fun r61 =>
wp_X7_tenthsBy 25 (σ.1 (k1 + 1) v4.toNatClampNeg) r38 σ (fun r83 =>
wp_X3_enter (σ.1 (k1 + 1) v4.toNatClampNeg) ((2 * (σ.1 (k1 + 1) v4.toNatClampNeg)) + r83) σ (fun t87 =>
wp_X1_setBest (σ.1 (k1 + 1) v4.toNatClampNeg) r38 t87 (fun t98 =>
Φ13 r61 (v4 + 1) t98))))))))
def L_X8_ringOrder_13 (k1 : Nat) (n1 : Nat) (k2 : Nat) (n2 : Nat) (K : Int32 → St → Prop)  (v3 : Int32) (v4 : Int32) (σ : St) : Prop := wl3 (B_X8_ringOrder_13 k1 n1 k2 n2 K) v3 v4 σ
def wp_X8_ringOrder (k1 : Nat) (n1 : Nat) (k2 : Nat) (n2 : Nat) (σ : St) (K : Int32 → St → Prop) : Prop :=
wp_X3_clear σ (fun t4 =>
L_X8_ringOrder_13 k1 n1 k2 n2 K (-9) 0 t4)
-- BellBalance$Tower.overBits()I
def J_X7_overBits_30 (k0 : Nat) (v1 : Int32) (v2 : Int32) (σ : St) (K : Int32 → Prop) (Φ4 : Int32 → Int32 → Prop) : Prop :=
Φ4 v1 (v2 + 1)
def B_X7_overBits_4 (k0 : Nat) (σ : St) (K : Int32 → Prop)  (Φ4 : Int32 → Int32 → Prop) (v1 : Int32) (v2 : Int32) : Prop :=
(if (σ.1 k0 2) ≤ v2 then
K v1
else
(vp_in v2 6 ∧
(if (σ.1 ((k0 + 3) + v2.toNatClampNeg) 5) = 0 then
J_X7_overBits_30 k0 v1 v2 σ K Φ4
else
J_X7_overBits_30 k0 (v1 ||| (shl 1 v2)) v2 σ K Φ4)))
def L_X7_overBits_4 (k0 : Nat) (σ : St) (K : Int32 → Prop)  (v1 : Int32) (v2 : Int32) : Prop := wl2 (B_X7_overBits_4 k0 σ K) v1 v2
def wp_X7_overBits (k0 : Nat) (σ : St) (K : Int32 → Prop) : Prop :=
L_X7_overBits_4 k0 σ K 0 0
-- BellBalance$Tower.isOrder(LBellBalance$Row;)Z
def J_X7_isOrder_41 (σ : St) (K : Int32 → Prop)  : Prop :=
K 0
def B_X7_isOrder_7 (k0 : Nat) (k1 : Nat) (n1 : Nat) (σ : St) (K : Int32 → Prop)  (Φ7 : Int32 → Int32 → Prop) (v2 : Int32) (v3 : Int32) : Prop :=
(if (σ.1 k1 2) ≤ v3 then
K 1
else
(vp_in v3 n1 ∧
wp_X7_has k0 (σ.1 (k1 + 1) v3.toNatClampNeg) σ (fun r26 =>
(if r26 = 0 then
J_X7_isOrder_41 σ K
else
(if ((shr v2 (σ.1 (k1 + 1) v3.toNatClampNeg)) &&& 1) = 0 then
Φ7 (v2 ||| (shl 1 (σ.1 (k1 + 1) v3.toNatClampNeg))) (v3 + 1)
else
J_X7_isOrder_41 σ K)))))
def L_X7_isOrder_7 (k0 : Nat) (k1 : Nat) (n1 : Nat) (σ : St) (K : Int32 → Prop)  (v2 : Int32) (v3 : Int32) : Prop := wl2 (B_X7_isOrder_7 k0 k1 n1 σ K) v2 v3
def wp_X7_isOrder (k0 : Nat) (k1 : Nat) (n1 : Nat) (σ : St) (K : Int32 → Prop) : Prop :=
wp_X7_overBits k0 σ (fun r1 =>
L_X7_isOrder_7 k0 k1 n1 σ K r1 0)
-- java/lang/Integer.bitCount(I)I
def wp_J6_bitCount_0f7a4 (v0 : Int32) (K : Int32 → Prop) : Prop :=
K ((((((((v0 - ((ushr v0 1) &&& 1431655765)) &&& 858993459) + ((ushr (v0 - ((ushr v0 1) &&& 1431655765)) 2) &&& 858993459)) + (ushr (((v0 - ((ushr v0 1) &&& 1431655765)) &&& 858993459) + ((ushr (v0 - ((ushr v0 1) &&& 1431655765)) 2) &&& 858993459)) 4)) &&& 252645135) + (ushr (((((v0 - ((ushr v0 1) &&& 1431655765)) &&& 858993459) + ((ushr (v0 - ((ushr v0 1) &&& 1431655765)) 2) &&& 858993459)) + (ushr (((v0 - ((ushr v0 1) &&& 1431655765)) &&& 858993459) + ((ushr (v0 - ((ushr v0 1) &&& 1431655765)) 2) &&& 858993459)) 4)) &&& 252645135) 8)) + (ushr ((((((v0 - ((ushr v0 1) &&& 1431655765)) &&& 858993459) + ((ushr (v0 - ((ushr v0 1) &&& 1431655765)) 2) &&& 858993459)) + (ushr (((v0 - ((ushr v0 1) &&& 1431655765)) &&& 858993459) + ((ushr (v0 - ((ushr v0 1) &&& 1431655765)) 2) &&& 858993459)) 4)) &&& 252645135) + (ushr (((((v0 - ((ushr v0 1) &&& 1431655765)) &&& 858993459) + ((ushr (v0 - ((ushr v0 1) &&& 1431655765)) 2) &&& 858993459)) + (ushr (((v0 - ((ushr v0 1) &&& 1431655765)) &&& 858993459) + ((ushr (v0 - ((ushr v0 1) &&& 1431655765)) 2) &&& 858993459)) 4)) &&& 252645135) 8)) 16)) &&& 63)
-- BellBalance$Tower.ringing()I
def wp_X7_ringing (k0 : Nat) (σ : St) (K : Int32 → Prop) : Prop :=
wp_X7_overBits k0 σ (fun r5 =>
wp_J6_bitCount_0f7a4 r5 (fun r8 =>
K ((σ.1 k0 2) - r8)))
-- BellBalance.change(II)I
def J_X8_change_14 (σ : St) (K : Int32 → St → Prop)  : Prop :=
K (-1) σ
def wp_X8_change (v1 : Int32) (v2 : Int32) (σ : St) (K : Int32 → St → Prop) : Prop :=
wp_X8_isRow v1 (fun r1 =>
(if r1 = 0 then
J_X8_change_14 σ K
else
wp_X8_isRow v2 (fun r8 =>
(if r8 = 0 then
J_X8_change_14 σ K
else
(if (σ.1 25 2) = 0 then
K (-4) σ
else
(vp_in v1 6 ∧
(if (σ.1 (5 + 2 * v1.toNatClampNeg) 1) = 0 then
wp_X8_find 1 σ (fun r45 t45 =>
K r45 t45)
else
wp_X7_ringing 25 σ (fun r57 =>
(if (σ.1 (5 + 2 * v1.toNatClampNeg) 2) = r57 then
wp_X7_isOrder 25 (5 + 2 * v1.toNatClampNeg) 40 σ (fun r74 =>
(if r74 = 0 then
wp_X8_find 3 σ (fun r82 t82 =>
K r82 t82)
else
(vp_in v2 6 ∧
wp_X8_ringOrder (5 + 2 * v1.toNatClampNeg) 40 (5 + 2 * v2.toNatClampNeg) 40 σ (fun r94 t94 =>
K r94 t94))))
else
wp_X8_find 5 σ (fun r65 t65 =>
K r65 t65))))))))))
-- BellBalance.commonDivisor(JJ)J
def J_X8_commonDivisor_45 (v4 : Int64) (K : Int64 → Prop)  : Prop :=
K v4
def B_X8_commonDivisor_9  (K : Int64 → Prop)  (Φ9 : Int64 → Int64 → Int32 → Prop) (v4 : Int64) (v6 : Int64) (v8 : Int32) : Prop :=
(if 200 ≤ v8 then
J_X8_commonDivisor_45 v4 K
else
(if (lg_cmp v6 (0 : Int64)) = 0 then
J_X8_commonDivisor_45 v4 K
else
(¬ v6 = 0 ∧
Φ9 v6 (lrm v4 v6) (v8 + 1))))
def L_X8_commonDivisor_9  (K : Int64 → Prop)  (v4 : Int64) (v6 : Int64) (v8 : Int32) : Prop := wl3 (B_X8_commonDivisor_9 K) v4 v6 v8
def wp_X8_commonDivisor (v0 : Int64) (v2 : Int64) (K : Int64 → Prop) : Prop :=
L_X8_commonDivisor_9 K v0 v2 0
-- BellBalance$Row.spans(II)Z
def J_X6_spans_27 (w0 : Int32) (σ : St) (K : Int32 → Prop)  : Prop :=
(zok w0 ∧ K w0)
def J_X6_spans_26 (σ : St) (K : Int32 → Prop)  : Prop :=
J_X6_spans_27 0 σ K
def wp_X6_spans (k0 : Nat) (n0 : Nat) (v1 : Int32) (v2 : Int32) (σ : St) (K : Int32 → Prop) : Prop :=
(if v1 < 0 then
J_X6_spans_26 σ K
else
(if (σ.1 k0 2) < v1 then
J_X6_spans_26 σ K
else
(if ((σ.1 k0 2) - v1) < v2 then
J_X6_spans_26 σ K
else
J_X6_spans_27 1 σ K)))
-- BellBalance.copy(IIIII)I
def J_X8_copy_14 (σ : St) (K : Int32 → St → Prop)  : Prop :=
K (-1) σ
def J_X8_copy_59 (σ : St) (K : Int32 → St → Prop)  : Prop :=
wp_X8_find 1 σ (fun r61 t61 =>
K r61 t61)
def J_X8_copy_88 (σ : St) (K : Int32 → St → Prop)  : Prop :=
wp_X8_find 2 σ (fun r90 t90 =>
K r90 t90)
def wp_X8_copy (v1 : Int32) (v2 : Int32) (v3 : Int32) (v4 : Int32) (v5 : Int32) (σ : St) (K : Int32 → St → Prop) : Prop :=
wp_X8_isRow v1 (fun r1 =>
(if r1 = 0 then
J_X8_copy_14 σ K
else
wp_X8_isRow v3 (fun r8 =>
(if r8 = 0 then
J_X8_copy_14 σ K
else
(if 0 ≤ v5 then
(vp_in v1 6 ∧
(vp_in v3 6 ∧
(if (σ.1 (5 + 2 * v1.toNatClampNeg) 1) = 0 then
J_X8_copy_59 σ K
else
(if (σ.1 (5 + 2 * v3.toNatClampNeg) 1) = 0 then
J_X8_copy_59 σ K
else
wp_X6_spans (5 + 2 * v1.toNatClampNeg) 40 v2 v5 σ (fun r70 =>
(if r70 = 0 then
J_X8_copy_88 σ K
else
wp_X6_spans (5 + 2 * v3.toNatClampNeg) 40 v4 v5 σ (fun r82 =>
(if r82 = 0 then
J_X8_copy_88 σ K
else
(¬ v2 < 0 ∧ ¬ v4 < 0 ∧ ¬ v5 < 0 ∧ v2.toNatClampNeg + v5.toNatClampNeg ≤ 40 ∧ v4.toNatClampNeg + v5.toNatClampNeg ≤ 40 ∧
K 1 (uCI σ ((5 + 2 * v1.toNatClampNeg) + 1) ((5 + 2 * v3.toNatClampNeg) + 1) v2.toNatClampNeg v4.toNatClampNeg v5.toNatClampNeg))))))))))
else
wp_X8_find 5 σ (fun r23 t23 =>
K r23 t23))))))
-- BellBalance.keptTowers()I
def J_X8_keptTowers_24 (v1 : Int32) (v2 : Int32) (σ : St) (K : Int32 → Prop) (Φ4 : Int32 → Int32 → Prop) : Prop :=
Φ4 v1 (v2 + 1)
def B_X8_keptTowers_4 (σ : St) (K : Int32 → Prop)  (Φ4 : Int32 → Int32 → Prop) (v1 : Int32) (v2 : Int32) : Prop :=
(if 3 ≤ v2 then
K v1
else
(vp_in v2 3 ∧
(if (σ.1 (43 + 9 * v2.toNatClampNeg) 2) ≤ 0 then
J_X8_keptTowers_24 v1 v2 σ K Φ4
else
J_X8_keptTowers_24 (v1 + 1) v2 σ K Φ4)))
def L_X8_keptTowers_4 (σ : St) (K : Int32 → Prop)  (v1 : Int32) (v2 : Int32) : Prop := wl2 (B_X8_keptTowers_4 σ K) v1 v2
def wp_X8_keptTowers (σ : St) (K : Int32 → Prop) : Prop :=
L_X8_keptTowers_4 σ K 0 0
-- BellBalance.thereOf([LBellBalance$Row;)I
def J_X8_thereOf_28 (k0 : Nat) (n0 : Nat) (b0 : Nat) (v1 : Int32) (v2 : Int32) (σ : St) (K : Int32 → Prop) (Φ4 : Int32 → Int32 → Prop) : Prop :=
Φ4 v1 (v2 + 1)
def B_X8_thereOf_4 (k0 : Nat) (n0 : Nat) (b0 : Nat) (σ : St) (K : Int32 → Prop)  (Φ4 : Int32 → Int32 → Prop) (v1 : Int32) (v2 : Int32) : Prop :=
(if (nI n0) ≤ v2 then
K v1
else
(vp_in v2 n0 ∧
(vp_in v2 n0 ∧
(if (σ.1 (b0 + 2 * v2.toNatClampNeg) 1) = 0 then
J_X8_thereOf_28 k0 n0 b0 v1 v2 σ K Φ4
else
J_X8_thereOf_28 k0 n0 b0 (v1 + 1) v2 σ K Φ4))))
def L_X8_thereOf_4 (k0 : Nat) (n0 : Nat) (b0 : Nat) (σ : St) (K : Int32 → Prop)  (v1 : Int32) (v2 : Int32) : Prop := wl2 (B_X8_thereOf_4 k0 n0 b0 σ K) v1 v2
def wp_X8_thereOf (k0 : Nat) (n0 : Nat) (b0 : Nat) (σ : St) (K : Int32 → Prop) : Prop :=
L_X8_thereOf_4 k0 n0 b0 σ K 0 0
-- BellBalance$Tower.heavyOnes()I
def J_X7_heavyOnes_31 (k0 : Nat) (v1 : Int32) (v2 : Int32) (σ : St) (K : Int32 → Prop) (Φ4 : Int32 → Int32 → Prop) : Prop :=
Φ4 v1 (v2 + 1)
def B_X7_heavyOnes_4 (k0 : Nat) (σ : St) (K : Int32 → Prop)  (Φ4 : Int32 → Int32 → Prop) (v1 : Int32) (v2 : Int32) : Prop :=
(if (σ.1 k0 2) ≤ v2 then
K v1
else
(vp_in v2 6 ∧
wp_X8_isOf (σ.1 ((k0 + 3) + v2.toNatClampNeg) 0) 1 (fun r22 =>
(if r22 = 0 then
J_X7_heavyOnes_31 k0 v1 v2 σ K Φ4
else
J_X7_heavyOnes_31 k0 (v1 + 1) v2 σ K Φ4))))
def L_X7_heavyOnes_4 (k0 : Nat) (σ : St) (K : Int32 → Prop)  (v1 : Int32) (v2 : Int32) : Prop := wl2 (B_X7_heavyOnes_4 k0 σ K) v1 v2
def wp_X7_heavyOnes (k0 : Nat) (σ : St) (K : Int32 → Prop) : Prop :=
L_X7_heavyOnes_4 k0 σ K 0 0
-- BellBalance$Tower.standing()I
def B_X7_standing_4 (k0 : Nat) (σ : St) (K : Int32 → Prop)  (Φ4 : Int32 → Int32 → Prop) (v1 : Int32) (v2 : Int32) : Prop :=
(if (σ.1 k0 2) ≤ v2 then
K v1
else
(vp_in v2 6 ∧
wp_X0_tell ((k0 + 3) + v2.toNatClampNeg) 4 σ (fun r20 =>
Φ4 (v1 + r20) (v2 + 1))))
def L_X7_standing_4 (k0 : Nat) (σ : St) (K : Int32 → Prop)  (v1 : Int32) (v2 : Int32) : Prop := wl2 (B_X7_standing_4 k0 σ K) v1 v2
def wp_X7_standing (k0 : Nat) (σ : St) (K : Int32 → Prop) : Prop :=
L_X7_standing_4 k0 σ K 0 0
-- BellBalance.count(I)I
def wp_X8_count (v1 : Int32) (σ : St) (K : Int32 → Prop) : Prop :=
(if v1 = 0 then
K (σ.1 25 2)
else
(if v1 = 1 then
K (σ.1 25 3)
else
(if v1 = 2 then
K (σ.1 25 4)
else
(if v1 = 3 then
wp_X7_ringing 25 σ (fun r87 =>
K ((σ.1 25 2) - r87))
else
(if v1 = 4 then
wp_X7_standing 25 σ (fun r96 =>
K r96)
else
(if v1 = 5 then
wp_X7_heavyOnes 25 σ (fun r104 =>
K r104)
else
(if v1 = 6 then
wp_X8_thereOf 1 6 5 σ (fun r112 =>
K r112)
else
(if v1 = 7 then
wp_X8_thereOf 2 4 17 σ (fun r120 =>
K r120)
else
(if v1 = 8 then
wp_X8_keptTowers σ (fun r125 =>
K r125)
else
K (-1))))))))))
-- BellBalance.damp(I)I
def J_X8_damp_9 (σ : St) (K : Int32 → St → Prop)  : Prop :=
K (-1) σ
def wp_X8_damp (v1 : Int32) (σ : St) (K : Int32 → St → Prop) : Prop :=
(if v1 < 0 then
J_X8_damp_9 σ K
else
(if v1 ≤ 3 then
(if (σ.1 25 2) = 0 then
K (-4) σ
else
K (σ.1 25 3) (uI σ 25 3 v1))
else
J_X8_damp_9 σ K))
-- BellBalance.fits(LBellBalance$Row;IIII)Z
def J_X8_fits_39 (k0 : Nat) (n0 : Nat) (v1 : Int32) (v2 : Int32) (v3 : Int32) (v5 : Int32) (v6 : Int32) (σ : St) (K : Int32 → Prop) (Φ7 : Int32 → Int32 → Prop) : Prop :=
wp_X8_tenths v1 v2 v3 v5 (fun r44 =>
(vp_in (v6 + 1) n0 ∧
(if r44 = (σ.1 (k0 + 1) (v6 + 1).toNatClampNeg) then
Φ7 v5 (v6 + 2)
else
K 0)))
def B_X8_fits_7 (k0 : Nat) (n0 : Nat) (v1 : Int32) (v2 : Int32) (v3 : Int32) (σ : St) (K : Int32 → Prop)  (Φ7 : Int32 → Int32 → Prop) (v5 : Int32) (v6 : Int32) : Prop :=
(if (σ.1 k0 2) ≤ (v6 + 1) then
K 1
else
(if v5 = (-1) then
J_X8_fits_39 k0 n0 v1 v2 v3 v5 v6 σ K Φ7
else
(vp_in v6 n0 ∧
wp_X8_after v1 v5 (σ.1 (k0 + 1) v6.toNatClampNeg) (fun r34 =>
J_X8_fits_39 k0 n0 v1 v2 v3 r34 v6 σ K Φ7))))
def L_X8_fits_7 (k0 : Nat) (n0 : Nat) (v1 : Int32) (v2 : Int32) (v3 : Int32) (σ : St) (K : Int32 → Prop)  (v5 : Int32) (v6 : Int32) : Prop := wl2 (B_X8_fits_7 k0 n0 v1 v2 v3 σ K) v5 v6
def wp_X8_fits (k0 : Nat) (n0 : Nat) (v1 : Int32) (v2 : Int32) (v3 : Int32) (v4 : Int32) (σ : St) (K : Int32 → Prop) : Prop :=
L_X8_fits_7 k0 n0 v1 v2 v3 σ K v4 0
-- BellBalance.refuseTold(II)I
def J_X8_refuseTold_83 (w0 : Int32) (σ : St) (K : Int32 → St → Prop)  : Prop :=
K w0 σ
def J_X8_refuseTold_16 (v2 : Int32) (w0 : Int32) (σ : St) (K : Int32 → St → Prop)  : Prop :=
(if w0 = 0 then
(vp_in v2 6 ∧
(if (σ.1 (5 + 2 * v2.toNatClampNeg) 1) = 0 then
wp_X8_find 1 σ (fun r37 t37 =>
K r37 t37)
else
(vp_in v2 6 ∧
(if (irm (σ.1 (5 + 2 * v2.toNatClampNeg) 2) 2) = 0 then
(vp_in v2 6 ∧
wp_X6_hasPulls (5 + 2 * v2.toNatClampNeg) 40 2 σ (fun r68 =>
(if r68 = 0 then
wp_X8_find 3 σ (fun r80 t80 =>
J_X8_refuseTold_83 r80 t80 K)
else
J_X8_refuseTold_83 0 σ K)))
else
wp_X8_find 5 σ (fun r57 t57 =>
K r57 t57)))))
else
K w0 σ)
def wp_X8_refuseTold (v1 : Int32) (v2 : Int32) (σ : St) (K : Int32 → St → Prop) : Prop :=
wp_X8_isRow v2 (fun r1 =>
(if r1 = 0 then
J_X8_refuseTold_16 v2 (-1) σ K
else
wp_X8_refuseBell v1 σ (fun r9 =>
J_X8_refuseTold_16 v2 r9 σ K)))
-- BellBalance.damps(II)I
def J_X8_damps_74 (v2 : Int32) (k4 : Nat) (v5 : Int32) (v6 : Int32) (σ : St) (K : Int32 → St → Prop) (Φ30 : Int32 → Int32 → Prop) : Prop :=
Φ30 v5 (v6 + 1)
def B_X8_damps_30 (v2 : Int32) (k4 : Nat) (σ : St) (K : Int32 → St → Prop)  (Φ30 : Int32 → Int32 → Prop) (v5 : Int32) (v6 : Int32) : Prop :=
(if 3 < v6 then
K v5 σ
else
(vp_in v2 6 ∧
wp_X8_fits (5 + 2 * v2.toNatClampNeg) 40 (σ.1 k4 0) (σ.1 k4 1) v6 (σ.1 k4 3) σ (fun r59 =>
(if r59 = 0 then
J_X8_damps_74 v2 k4 v5 v6 σ K Φ30
else
J_X8_damps_74 v2 k4 (v5 ||| (shl 1 v6)) v6 σ K Φ30))))
def L_X8_damps_30 (v2 : Int32) (k4 : Nat) (σ : St) (K : Int32 → St → Prop)  (v5 : Int32) (v6 : Int32) : Prop := wl2 (B_X8_damps_30 v2 k4 σ K) v5 v6
def wp_X8_damps (v1 : Int32) (v2 : Int32) (σ : St) (K : Int32 → St → Prop) : Prop :=
wp_X8_refuseTold v1 v2 σ (fun r3 t3 =>
(if r3 = 0 then
(vp_in v1 6 ∧
L_X8_damps_30 v2 (28 + v1.toNatClampNeg) t3 K 0 0)
else
K r3 t3))
-- BellBalance$Row.digestOn(J)J
def B_X6_digestOn_26 (k0 : Nat) (n0 : Nat) (σ : St) (K : Int64 → Prop)  (Φ26 : Int64 → Int32 → Prop) (v3 : Int64) (v5 : Int32) : Prop :=
(if (σ.1 k0 2) ≤ v5 then
K v3
else
(vp_in v5 n0 ∧
Φ26 (((31 : Int64) * v3) + (σ.1 (k0 + 1) v5.toNatClampNeg).toInt64) (v5 + 1)))
def L_X6_digestOn_26 (k0 : Nat) (n0 : Nat) (σ : St) (K : Int64 → Prop)  (v3 : Int64) (v5 : Int32) : Prop := wl2 (B_X6_digestOn_26 k0 n0 σ K) v3 v5
def J_X6_digestOn_20 (k0 : Nat) (n0 : Nat) (w0 : Int64) (w1 : Int32) (σ : St) (K : Int64 → Prop)  : Prop :=
L_X6_digestOn_26 k0 n0 σ K (w0 + w1.toInt64) 0
def wp_X6_digestOn (k0 : Nat) (n0 : Nat) (v1 : Int64) (σ : St) (K : Int64 → Prop) : Prop :=
(if (σ.1 k0 1) = 0 then
J_X6_digestOn_20 k0 n0 ((31 : Int64) * v1) (-1) σ K
else
J_X6_digestOn_20 k0 n0 ((31 : Int64) * v1) (σ.1 k0 2) σ K)
-- BellBalance.digest()J
def B_X8_digest_161 (σ : St) (K : Int64 → Prop)  (Φ161 : Int64 → Int32 → Prop) (v1 : Int64) (v3 : Int32) : Prop :=
(if 4 ≤ v3 then
K v1
else
(vp_in v3 4 ∧
wp_X6_digestOn (17 + 2 * v3.toNatClampNeg) 60 v1 σ (fun r173 =>
Φ161 r173 (v3 + 1))))
def L_X8_digest_161 (σ : St) (K : Int64 → Prop)  (v1 : Int64) (v3 : Int32) : Prop := wl2 (B_X8_digest_161 σ K) v1 v3
def B_X8_digest_136 (σ : St) (K : Int64 → Prop)  (Φ136 : Int64 → Int32 → Prop) (v1 : Int64) (v3 : Int32) : Prop :=
(if 6 ≤ v3 then
L_X8_digest_161 σ K v1 0
else
(vp_in v3 6 ∧
wp_X6_digestOn (5 + 2 * v3.toNatClampNeg) 40 v1 σ (fun r149 =>
Φ136 r149 (v3 + 1))))
def L_X8_digest_136 (σ : St) (K : Int64 → Prop)  (v1 : Int64) (v3 : Int32) : Prop := wl2 (B_X8_digest_136 σ K) v1 v3
def J_X8_digest_125 (v3 : Int32) (w0 : Int64) (w1 : Int32) (σ : St) (K : Int64 → Prop) (Φ90 : Int64 → Int32 → Prop) : Prop :=
Φ90 (w0 + w1.toInt64) (v3 + 1)
def B_X8_digest_90 (σ : St) (K : Int64 → Prop)  (Φ90 : Int64 → Int32 → Prop) (v1 : Int64) (v3 : Int32) : Prop :=
(if 3 ≤ v3 then
L_X8_digest_136 σ K v1 0
else
(vp_in v3 3 ∧
(if (σ.1 (43 + 9 * v3.toNatClampNeg) 2) = 0 then
J_X8_digest_125 v3 ((31 : Int64) * v1) (-1) σ K Φ90
else
(vp_in v3 3 ∧
J_X8_digest_125 v3 ((31 : Int64) * v1) (σ.1 (43 + 9 * v3.toNatClampNeg) 4) σ K Φ90))))
def L_X8_digest_90 (σ : St) (K : Int64 → Prop)  (v1 : Int64) (v3 : Int32) : Prop := wl2 (B_X8_digest_90 σ K) v1 v3
def B_X8_digest_47 (v3 : Int32) (σ : St) (K : Int64 → Prop) (Φ33 : Int64 → Int32 → Prop) (Φ47 : Int64 → Int32 → Prop) (v1 : Int64) (v4 : Int32) : Prop :=
(if 6 ≤ v4 then
Φ33 v1 (v3 + 1)
else
(vp_in v3 6 ∧
wp_X0_tell (28 + v3.toNatClampNeg) v4 σ (fun r70 =>
Φ47 (((31 : Int64) * v1) + r70.toInt64) (v4 + 1))))
def L_X8_digest_47 (v3 : Int32) (σ : St) (K : Int64 → Prop) (Φ33 : Int64 → Int32 → Prop) (v1 : Int64) (v4 : Int32) : Prop := wl2 (B_X8_digest_47 v3 σ K Φ33) v1 v4
def B_X8_digest_33 (σ : St) (K : Int64 → Prop)  (Φ33 : Int64 → Int32 → Prop) (v1 : Int64) (v3 : Int32) : Prop :=
(if (σ.1 25 2) ≤ v3 then
L_X8_digest_90 σ K v1 0
else
L_X8_digest_47 v3 σ K Φ33 v1 0)
def L_X8_digest_33 (σ : St) (K : Int64 → Prop)  (v1 : Int64) (v3 : Int32) : Prop := wl2 (B_X8_digest_33 σ K) v1 v3
def B_X8_digest_6 (σ : St) (K : Int64 → Prop)  (Φ6 : Int64 → Int32 → Prop) (v1 : Int64) (v3 : Int32) : Prop :=
(if 9 ≤ v3 then
L_X8_digest_33 σ K v1 0
else
wp_X8_count v3 σ (fun r19 =>
Φ6 (((31 : Int64) * v1) + r19.toInt64) (v3 + 1)))
def L_X8_digest_6 (σ : St) (K : Int64 → Prop)  (v1 : Int64) (v3 : Int32) : Prop := wl2 (B_X8_digest_6 σ K) v1 v3
def wp_X8_digest (σ : St) (K : Int64 → Prop) : Prop :=
L_X8_digest_6 σ K (17 : Int64) 0
-- BellBalance.drops(I)I
def B_X8_drops_31 (k3 : Nat) (σ : St) (K : Int32 → Prop)  (Φ31 : Int32 → Int32 → Prop) (v4 : Int32) (v5 : Int32) : Prop :=
(if 30 < v5 then
K (-9)
else
(if 5 ≤ v4 then
wp_X8_after (σ.1 k3 0) v4 0 (fun r54 =>
Φ31 r54 (v5 + 1))
else
K v5))
def L_X8_drops_31 (k3 : Nat) (σ : St) (K : Int32 → Prop)  (v4 : Int32) (v5 : Int32) : Prop := wl2 (B_X8_drops_31 k3 σ K) v4 v5
def wp_X8_drops (v1 : Int32) (σ : St) (K : Int32 → Prop) : Prop :=
wp_X8_refuseBell v1 σ (fun r2 =>
(if r2 = 0 then
(vp_in v1 6 ∧
L_X8_drops_31 (28 + v1.toNatClampNeg) σ K (σ.1 (28 + v1.toNatClampNeg) 3) 0)
else
K r2))
-- BellBalance.listen(LBellBalance$Row;)V
def J_X8_listen_88 (σ : St) (K : St → Prop)  : Prop :=
K σ
def J_X8_listen_82 (k1 : Nat) (n1 : Nat) (v2 : Int32) (σ : St) (K : St → Prop) (Φ9 : Int32 → St → Prop) : Prop :=
Φ9 (v2 + 1) σ
def J_X8_listen_62 (k1 : Nat) (n1 : Nat) (v2 : Int32) (w0 : Int32) (σ : St) (K : St → Prop) (Φ9 : Int32 → St → Prop) : Prop :=
(if w0 = (-9) then
J_X8_listen_82 k1 n1 v2 σ K Φ9
else
wp_X3_enter v2 ((2 * v2) + w0) σ (fun t79 =>
J_X8_listen_82 k1 n1 v2 t79 K Φ9))
def B_X8_listen_9 (k1 : Nat) (n1 : Nat) (K : St → Prop)  (Φ9 : Int32 → St → Prop) (v2 : Int32) (σ : St) : Prop :=
(if (σ.1 25 2) ≤ v2 then
J_X8_listen_88 σ K
else
(if (σ.1 k1 2) ≤ v2 then
J_X8_listen_88 σ K
else
(vp_in v2 6 ∧
(if (σ.1 (28 + v2.toNatClampNeg) 5) = 0 then
(vp_in v2 n1 ∧
wp_X7_tenthsBy 25 v2 (σ.1 (k1 + 1) v2.toNatClampNeg) σ (fun r59 =>
J_X8_listen_62 k1 n1 v2 r59 σ K Φ9))
else
J_X8_listen_62 k1 n1 v2 (-9) σ K Φ9))))
def L_X8_listen_9 (k1 : Nat) (n1 : Nat) (K : St → Prop)  (v2 : Int32) (σ : St) : Prop := wl2 (B_X8_listen_9 k1 n1 K) v2 σ
def wp_X8_listen (k1 : Nat) (n1 : Nat) (σ : St) (K : St → Prop) : Prop :=
wp_X3_clear σ (fun t4 =>
L_X8_listen_9 k1 n1 K 0 t4)
-- BellBalance.refuseRound(I)I
def J_X8_refuseRound_87 (w0 : Int32) (σ : St) (K : Int32 → St → Prop)  : Prop :=
K w0 σ
def wp_X8_refuseRound (v1 : Int32) (σ : St) (K : Int32 → St → Prop) : Prop :=
wp_X8_isRow v1 (fun r1 =>
(if r1 = 0 then
K (-1) σ
else
(if (σ.1 25 2) = 0 then
K (-4) σ
else
(vp_in v1 6 ∧
(if (σ.1 (5 + 2 * v1.toNatClampNeg) 1) = 0 then
wp_X8_find 1 σ (fun r36 t36 =>
K r36 t36)
else
(vp_in v1 6 ∧
(if (σ.1 (5 + 2 * v1.toNatClampNeg) 2) = (σ.1 25 2) then
(vp_in v1 6 ∧
wp_X6_hasPulls (5 + 2 * v1.toNatClampNeg) 40 1 σ (fun r72 =>
(if r72 = 0 then
wp_X8_find 3 σ (fun r84 t84 =>
J_X8_refuseRound_87 r84 t84 K)
else
J_X8_refuseRound_87 0 σ K)))
else
wp_X8_find 5 σ (fun r61 t61 =>
K r61 t61))))))))
-- BellBalance$Hearing.bits()I
def B_X3_bits_4 (σ : St) (K : Int32 → Prop)  (Φ4 : Int32 → Int32 → Prop) (v1 : Int32) (v2 : Int32) : Prop :=
(if (σ.1 70 2) ≤ v2 then
K v1
else
(vp_in v2 6 ∧
Φ4 (v1 ||| (shl 1 (σ.1 71 v2.toNatClampNeg))) (v2 + 1)))
def L_X3_bits_4 (σ : St) (K : Int32 → Prop)  (v1 : Int32) (v2 : Int32) : Prop := wl2 (B_X3_bits_4 σ K) v1 v2
def wp_X3_bits (σ : St) (K : Int32 → Prop) : Prop :=
L_X3_bits_4 σ K 0 0
-- BellBalance.error(I)I
def wp_X8_error (v1 : Int32) (σ : St) (K : Int32 → St → Prop) : Prop :=
wp_X8_refuseRound v1 σ (fun r2 t2 =>
(if r2 = 0 then
(vp_in v1 6 ∧
wp_X8_listen (5 + 2 * v1.toNatClampNeg) 40 t2 (fun t19 =>
wp_X3_bits t19 (fun r27 =>
wp_X3_unevenness (uI t19 0 12 r27) (fun r37 =>
K r37 (uI t19 0 12 r27)))))
else
K r2 t2))
-- BellBalance$Evening.begin()V
def wp_X1_begin (σ : St) (K : St → Prop) : Prop :=
K (uI σ 73 2 (-9))
-- BellBalance$Evening.take(I)V
def J_X1_take_37 (σ : St) (K : St → Prop)  : Prop :=
K σ
def J_X1_take_17 (v1 : Int32) (σ : St) (K : St → Prop)  : Prop :=
(¬ (0 : Int32) < 0 ∧ ¬ (0 : Int32) < 0 ∧ ¬ (6 : Int32) < 0 ∧ (0 : Int32).toNatClampNeg + (6 : Int32).toNatClampNeg ≤ 6 ∧ (0 : Int32).toNatClampNeg + (6 : Int32).toNatClampNeg ≤ 6 ∧
J_X1_take_37 (uCI (uI σ 73 2 v1) 74 75 (0 : Int32).toNatClampNeg (0 : Int32).toNatClampNeg (6 : Int32).toNatClampNeg) K)
def wp_X1_take (v1 : Int32) (σ : St) (K : St → Prop) : Prop :=
(if (σ.1 73 2) = (-9) then
J_X1_take_17 v1 σ K
else
(if (σ.1 73 2) ≤ v1 then
J_X1_take_37 σ K
else
J_X1_take_17 v1 σ K))
-- BellBalance$Hearing.leave(I)V
def J_X3_leave_49 (v1 : Int32) (v2 : Int32) (v3 : Int32) (σ : St) (K : St → Prop) (Φ4 : Int32 → Int32 → St → Prop) : Prop :=
Φ4 v2 (v3 + 1) σ
def B_X3_leave_4 (v1 : Int32) (K : St → Prop)  (Φ4 : Int32 → Int32 → St → Prop) (v2 : Int32) (v3 : Int32) (σ : St) : Prop :=
(if (σ.1 70 2) ≤ v3 then
K (uI σ 70 2 v2)
else
(vp_in v3 6 ∧
(if (σ.1 71 v3.toNatClampNeg) = v1 then
J_X3_leave_49 v1 v2 v3 σ K Φ4
else
(vp_in v3 6 ∧
(vp_in v2 6 ∧
(vp_in v3 6 ∧
(vp_in v2 6 ∧
J_X3_leave_49 v1 (v2 + 1) v3 (uI (uI σ 71 v2.toNatClampNeg (σ.1 71 v3.toNatClampNeg)) 72 v2.toNatClampNeg ((uI σ 71 v2.toNatClampNeg (σ.1 71 v3.toNatClampNeg)).1 72 v3.toNatClampNeg)) K Φ4)))))))
def L_X3_leave_4 (v1 : Int32) (K : St → Prop)  (v2 : Int32) (v3 : Int32) (σ : St) : Prop := wl3 (B_X3_leave_4 v1 K) v2 v3 σ
def wp_X3_leave (v1 : Int32) (σ : St) (K : St → Prop) : Prop :=
L_X3_leave_4 v1 K 0 0 σ
-- BellBalance$Evening.seek(LBellBalance$Tower;LBellBalance$Hearing;I)V
def J_X1_seek_14 (σ : St) (Rec : Nat → Int32 → St → (St → Prop) → Prop) (K : St → Prop)  : Prop :=
wp_X3_unevenness σ (fun r16 =>
wp_X1_take r16 σ (fun t19 =>
K t19))
def J_X1_seek_126 (k1 : Nat) (v3 : Int32) (v4 : Int32) (v5 : Int32) (σ : St) (Rec : Nat → Int32 → St → (St → Prop) → Prop) (K : St → Prop) (Φ59 : Int32 → Int32 → St → Prop) : Prop :=
Φ59 v4 (v5 + 1) σ
def B_X1_seek_59 (k1 : Nat) (v3 : Int32) (Rec : Nat → Int32 → St → (St → Prop) → Prop) (K : St → Prop)  (Φ59 : Int32 → Int32 → St → Prop) (v4 : Int32) (v5 : Int32) (σ : St) : Prop :=
(if 7 ≤ v5 then
K σ
else
wp_X7_tenthsBy k1 v3 v5 σ (fun r70 =>
(if r70 = (-9) then
J_X1_seek_126 k1 v3 v4 v5 σ Rec K Φ59
else
(if r70 = v4 then
J_X1_seek_126 k1 v3 v4 v5 σ Rec K Φ59
else
(vp_in v3 6 ∧
wp_X3_enter v3 ((2 * v3) + r70) (uI σ 74 v3.toNatClampNeg v5) (fun t109 =>
Rec k1 (v3 + 1) t109 (fun t118 =>
wp_X3_leave v3 t118 (fun t123 =>
J_X1_seek_126 k1 v3 r70 v5 t123 Rec K Φ59))))))))
def L_X1_seek_59 (k1 : Nat) (v3 : Int32) (Rec : Nat → Int32 → St → (St → Prop) → Prop) (K : St → Prop)  (v4 : Int32) (v5 : Int32) (σ : St) : Prop := wl3 (B_X1_seek_59 k1 v3 Rec K) v4 v5 σ
def D_X1_seek (Rec : Nat → Int32 → St → (St → Prop) → Prop) (k1 : Nat) (v3 : Int32) (σ : St) (K : St → Prop) : Prop :=
(if (σ.1 k1 2) ≤ v3 then
J_X1_seek_14 σ Rec K
else
(if v3 < 6 then
(vp_in v3 6 ∧
(if (σ.1 ((k1 + 3) + v3.toNatClampNeg) 5) = 0 then
L_X1_seek_59 k1 v3 Rec K (-9) 0 σ
else
(vp_in v3 6 ∧
Rec k1 (v3 + 1) (uI σ 74 v3.toNatClampNeg 0) (fun t48 =>
K t48))))
else
J_X1_seek_14 σ Rec K))
def wpR_X1_seek : Nat → Nat → Int32 → St → (St → Prop) → Prop
  | 0 => fun _ _ _ _ => False
  | f + 1 => D_X1_seek (wpR_X1_seek f)
def wp_X1_seek (k1 : Nat) (v3 : Int32) (σ : St) (K : St → Prop) : Prop := wpR_X1_seek 8 k1 v3 σ K
-- BellBalance.even(I)I
def J_X8_even_84 (σ : St) (K : Int32 → St → Prop)  : Prop :=
K (σ.1 73 2) σ
def wp_X8_even (v1 : Int32) (σ : St) (K : Int32 → St → Prop) : Prop :=
wp_X8_isRow v1 (fun r1 =>
(if r1 = 0 then
K (-1) σ
else
(if (σ.1 25 2) = 0 then
K (-4) σ
else
wp_X1_begin σ (fun t26 =>
wp_X3_clear t26 (fun t33 =>
wp_X1_seek 25 0 t33 (fun t49 =>
(if (t49.1 73 2) = (-9) then
J_X8_even_84 t49 K
else
(vp_in v1 6 ∧
wp_X1_layBest (t49.1 25 2) (5 + 2 * v1.toNatClampNeg) 40 t49 (fun t81 =>
J_X8_even_84 t81 K)))))))))
-- BellBalance.isText(I)Z
def J_X8_isText_14 (w0 : Int32) (K : Int32 → Prop)  : Prop :=
(zok w0 ∧ K w0)
def J_X8_isText_13  (K : Int32 → Prop)  : Prop :=
J_X8_isText_14 0 K
def wp_X8_isText (v0 : Int32) (K : Int32 → Prop) : Prop :=
(if v0 < 0 then
J_X8_isText_13 K
else
(if 4 ≤ v0 then
J_X8_isText_13 K
else
J_X8_isText_14 1 K))
-- BellBalance.kindOf(I)I
def J_X8_kindOf_104  (K : Int32 → Prop)  : Prop :=
K (-9)
def wp_X8_kindOf (v0 : Int32) (K : Int32 → Prop) : Prop :=
(if v0 = 98 then
K 0
else
(if v0 = 99 then
J_X8_kindOf_104 K
else
(if v0 = 100 then
J_X8_kindOf_104 K
else
(if v0 = 101 then
J_X8_kindOf_104 K
else
(if v0 = 102 then
J_X8_kindOf_104 K
else
(if v0 = 103 then
K 4
else
(if v0 = 104 then
K 1
else
(if v0 = 105 then
J_X8_kindOf_104 K
else
(if v0 = 106 then
J_X8_kindOf_104 K
else
(if v0 = 107 then
J_X8_kindOf_104 K
else
(if v0 = 108 then
J_X8_kindOf_104 K
else
(if v0 = 109 then
J_X8_kindOf_104 K
else
(if v0 = 110 then
K 3
else
(if v0 = 111 then
J_X8_kindOf_104 K
else
(if v0 = 112 then
J_X8_kindOf_104 K
else
(if v0 = 113 then
K 2
else
(if v0 = 114 then
J_X8_kindOf_104 K
else
(if v0 = 115 then
J_X8_kindOf_104 K
else
(if v0 = 116 then
K 5
else
J_X8_kindOf_104 K)))))))))))))))))))
-- BellBalance$Row.sign(I)I
def J_X6_sign_20 (w0 : Int32) (σ : St) (K : Int32 → Prop)  : Prop :=
K w0
def wp_X6_sign (k0 : Nat) (n0 : Nat) (v1 : Int32) (σ : St) (K : Int32 → Prop) : Prop :=
wp_X6_has k0 n0 v1 σ (fun r2 =>
(if r2 = 0 then
J_X6_sign_20 1000 σ K
else
(vp_in v1 n0 ∧
J_X6_sign_20 (σ.1 (k0 + 1) v1.toNatClampNeg) σ K)))
-- BellBalance$Row.figure(I)I
def wp_X6_figure (k0 : Nat) (n0 : Nat) (v1 : Int32) (σ : St) (K : Int32 → Prop) : Prop :=
wp_X6_sign k0 n0 v1 σ (fun r2 =>
K (r2 - 48))
-- BellBalance$Row.isFigure(III)Z
def J_X6_isFigure_23 (w0 : Int32) (σ : St) (K : Int32 → Prop)  : Prop :=
(zok w0 ∧ K w0)
def J_X6_isFigure_22 (σ : St) (K : Int32 → Prop)  : Prop :=
J_X6_isFigure_23 0 σ K
def wp_X6_isFigure (k0 : Nat) (n0 : Nat) (v1 : Int32) (v2 : Int32) (v3 : Int32) (σ : St) (K : Int32 → Prop) : Prop :=
wp_X6_figure k0 n0 v1 σ (fun r2 =>
(if r2 < v2 then
J_X6_isFigure_22 σ K
else
wp_X6_figure k0 n0 v1 σ (fun r11 =>
(if v3 < r11 then
J_X6_isFigure_22 σ K
else
J_X6_isFigure_23 1 σ K))))
-- BellBalance.itemSigns(LBellBalance$Row;I)I
def J_X8_itemSigns_78 (w0 : Int32) (σ : St) (K : Int32 → Prop)  : Prop :=
K w0
def wp_X8_itemSigns (k0 : Nat) (n0 : Nat) (v1 : Int32) (σ : St) (K : Int32 → Prop) : Prop :=
wp_X6_sign k0 n0 v1 σ (fun r2 =>
wp_X8_kindOf r2 (fun r5 =>
(if r5 = (-9) then
K 0
else
wp_X6_isFigure k0 n0 (v1 + 1) 1 9 σ (fun r22 =>
(if r22 = 0 then
K 1
else
wp_X6_isFigure k0 n0 (v1 + 2) 0 2 σ (fun r36 =>
(if r36 = 0 then
K 2
else
wp_X6_figure k0 n0 (v1 + 2) σ (fun r59 =>
wp_X6_isFigure k0 n0 (v1 + 3) 0 (imin 9 (20 - (10 * r59))) σ (fun r67 =>
(if r67 = 0 then
J_X8_itemSigns_78 3 σ K
else
J_X8_itemSigns_78 4 σ K))))))))))
-- BellBalance$Row.pastBlanks(I)I
def J_X6_pastBlanks_26 (v2 : Int32) (σ : St) (K : Int32 → Prop)  : Prop :=
K v2
def B_X6_pastBlanks_2 (k0 : Nat) (n0 : Nat) (σ : St) (K : Int32 → Prop)  (Φ2 : Int32 → Prop) (v2 : Int32) : Prop :=
(if (σ.1 k0 2) ≤ v2 then
J_X6_pastBlanks_26 v2 σ K
else
wp_X6_sign k0 n0 v2 σ (fun r12 =>
(if r12 = 32 then
Φ2 (v2 + 1)
else
J_X6_pastBlanks_26 v2 σ K)))
def L_X6_pastBlanks_2 (k0 : Nat) (n0 : Nat) (σ : St) (K : Int32 → Prop)  (v2 : Int32) : Prop := wl1 (B_X6_pastBlanks_2 k0 n0 σ K) v2
def wp_X6_pastBlanks (k0 : Nat) (n0 : Nat) (v1 : Int32) (σ : St) (K : Int32 → Prop) : Prop :=
L_X6_pastBlanks_2 k0 n0 σ K v1
-- BellBalance$Bell.rewind()V
def wp_X0_rewind (k0 : Nat) (σ : St) (K : St → Prop) : Prop :=
K (uI (uI (uI σ k0 3 (σ.1 k0 2)) k0 4 0) k0 5 0)
-- BellBalance$Bell.begin(III)V
def wp_X0_begin (k0 : Nat) (v1 : Int32) (v2 : Int32) (v3 : Int32) (σ : St) (K : St → Prop) : Prop :=
wp_X0_rewind k0 (uI (uI (uI σ k0 0 v1) k0 1 v2) k0 2 v3) (fun t16 =>
K t16)
-- BellBalance$Tower.addBell(III)V
def J_X7_addBell_34 (σ : St) (K : St → Prop)  : Prop :=
K σ
def wp_X7_addBell (k0 : Nat) (v1 : Int32) (v2 : Int32) (v3 : Int32) (σ : St) (K : St → Prop) : Prop :=
(if 6 ≤ (σ.1 k0 2) then
J_X7_addBell_34 σ K
else
(vp_in (σ.1 k0 2) 6 ∧
wp_X0_begin ((k0 + 3) + (σ.1 k0 2).toNatClampNeg) v1 v2 v3 σ (fun t21 =>
J_X7_addBell_34 (uI t21 k0 2 ((t21.1 k0 2) + 1)) K)))
-- BellBalance$Tower.clear()V
def wp_X7_clear (k0 : Nat) (σ : St) (K : St → Prop) : Prop :=
K (uI (uI (uI σ k0 2 0) k0 3 0) k0 4 0)
-- BellBalance.scan(LBellBalance$Row;)I
def J_X8_scan_101 (k1 : Nat) (n1 : Nat) (v2 : Int32) (v3 : Int32) (w0 : Int32) (σ : St) (K : Int32 → St → Prop) (Φ65 : Int32 → Int32 → St → Prop) : Prop :=
(if 4 ≤ w0 then
wp_X6_figure k1 n1 (v2 + 2) σ (fun r120 =>
wp_X6_figure k1 n1 (v2 + 3) σ (fun r128 =>
wp_X6_sign k1 n1 v2 σ (fun r140 =>
wp_X8_kindOf r140 (fun r143 =>
wp_X6_figure k1 n1 (v2 + 1) σ (fun r150 =>
wp_X7_addBell 34 r143 r150 ((10 * r120) + r128) σ (fun t155 =>
wp_X6_pastBlanks k1 n1 (v2 + 4) t155 (fun r162 =>
Φ65 r162 (v3 + 1) t155)))))))
else
K (v2 + w0) σ)
def J_X8_scan_86 (k1 : Nat) (n1 : Nat) (v2 : Int32) (v3 : Int32) (σ : St) (K : Int32 → St → Prop) (Φ65 : Int32 → Int32 → St → Prop) : Prop :=
(if 6 ≤ v3 then
J_X8_scan_101 k1 n1 v2 v3 0 σ K Φ65
else
wp_X8_itemSigns k1 n1 v2 σ (fun r94 =>
J_X8_scan_101 k1 n1 v2 v3 r94 σ K Φ65))
def B_X8_scan_65 (k1 : Nat) (n1 : Nat) (K : Int32 → St → Prop)  (Φ65 : Int32 → Int32 → St → Prop) (v2 : Int32) (v3 : Int32) (σ : St) : Prop :=
(if 6 < v3 then
K v2 σ
else
(if v3 ≤ 0 then
J_X8_scan_86 k1 n1 v2 v3 σ K Φ65
else
(if v2 < (σ.1 k1 2) then
J_X8_scan_86 k1 n1 v2 v3 σ K Φ65
else
K (-9) σ)))
def L_X8_scan_65 (k1 : Nat) (n1 : Nat) (K : Int32 → St → Prop)  (v2 : Int32) (v3 : Int32) (σ : St) : Prop := wl3 (B_X8_scan_65 k1 n1 K) v2 v3 σ
def wp_X8_scan (k1 : Nat) (n1 : Nat) (σ : St) (K : Int32 → St → Prop) : Prop :=
wp_X7_clear 34 σ (fun t4 =>
wp_X6_pastBlanks k1 n1 0 t4 (fun r9 =>
wp_X6_sign k1 n1 r9 t4 (fun r15 =>
(if r15 = 100 then
wp_X6_isFigure k1 n1 (r9 + 1) 0 3 t4 (fun r31 =>
(if r31 = 0 then
K (r9 + 1) t4
else
wp_X6_figure k1 n1 (r9 + 1) t4 (fun r49 =>
wp_X6_pastBlanks k1 n1 (r9 + 2) (uI t4 34 3 r49) (fun r59 =>
L_X8_scan_65 k1 n1 K r59 0 (uI t4 34 3 r49)))))
else
K r9 t4))))
-- BellBalance.fault(I)I
def J_X8_fault_39 (w0 : Int32) (σ : St) (K : Int32 → St → Prop)  : Prop :=
K w0 σ
def wp_X8_fault (v1 : Int32) (σ : St) (K : Int32 → St → Prop) : Prop :=
wp_X8_isText v1 (fun r1 =>
(if r1 = 0 then
K (-1) σ
else
(vp_in v1 4 ∧
(if (σ.1 (17 + 2 * v1.toNatClampNeg) 1) = 0 then
wp_X8_find 1 σ (fun r36 t36 =>
J_X8_fault_39 r36 t36 K)
else
(vp_in v1 4 ∧
wp_X8_scan (17 + 2 * v1.toNatClampNeg) 60 σ (fun r28 t28 =>
J_X8_fault_39 r28 t28 K))))))
-- BellBalance.finding()I
def wp_X8_finding (σ : St) (K : Int32 → Prop) : Prop :=
K (σ.1 0 11)
-- BellBalance.findings(I)I
def J_X8_findings_20 (w0 : Int32) (σ : St) (K : Int32 → Prop)  : Prop :=
K w0
def J_X8_findings_19 (σ : St) (K : Int32 → Prop)  : Prop :=
J_X8_findings_20 (-1) σ K
def wp_X8_findings (v1 : Int32) (σ : St) (K : Int32 → Prop) : Prop :=
(if v1 < 1 then
J_X8_findings_19 σ K
else
(if 5 < v1 then
J_X8_findings_19 σ K
else
(vp_in v1 6 ∧
J_X8_findings_20 (σ.1 4 v1.toNatClampNeg) σ K)))
-- BellBalance$Play.winningPull(II)I
def J_X5_winningPull_34 (v1 : Int32) (v2 : Int32) (v3 : Int32) (σ : St) (K : Int32 → Prop) (Φ2 : Int32 → Prop) : Prop :=
Φ2 (v3 + 1)
def B_X5_winningPull_2 (v1 : Int32) (v2 : Int32) (σ : St) (K : Int32 → Prop)  (Φ2 : Int32 → Prop) (v3 : Int32) : Prop :=
(if 7 ≤ v3 then
K (-9)
else
wp_X8_after v1 v2 v3 (fun r11 =>
(if r11 = (-1) then
J_X5_winningPull_34 v1 v2 v3 σ K Φ2
else
(vp_in r11 21 ∧
(if (σ.1 84 r11.toNatClampNeg) = 0 then
J_X5_winningPull_34 v1 v2 v3 σ K Φ2
else
K v3)))))
def L_X5_winningPull_2 (v1 : Int32) (v2 : Int32) (σ : St) (K : Int32 → Prop)  (v3 : Int32) : Prop := wl1 (B_X5_winningPull_2 v1 v2 σ K) v3
def wp_X5_winningPull (v1 : Int32) (v2 : Int32) (σ : St) (K : Int32 → Prop) : Prop :=
L_X5_winningPull_2 v1 v2 σ K 0
-- BellBalance$Play.winsAgainstAll(II)Z
def J_X5_winsAgainstAll_33 (v1 : Int32) (v2 : Int32) (v3 : Int32) (σ : St) (K : Int32 → Prop) (Φ2 : Int32 → Prop) : Prop :=
Φ2 (v3 + 1)
def B_X5_winsAgainstAll_2 (v1 : Int32) (v2 : Int32) (σ : St) (K : Int32 → Prop)  (Φ2 : Int32 → Prop) (v3 : Int32) : Prop :=
(if 4 ≤ v3 then
K 1
else
wp_X8_after v1 v2 v3 (fun r10 =>
(if r10 = (-1) then
J_X5_winsAgainstAll_33 v1 v2 v3 σ K Φ2
else
(vp_in r10 21 ∧
(if (σ.1 83 r10.toNatClampNeg) = 0 then
K 0
else
J_X5_winsAgainstAll_33 v1 v2 v3 σ K Φ2)))))
def L_X5_winsAgainstAll_2 (v1 : Int32) (v2 : Int32) (σ : St) (K : Int32 → Prop)  (v3 : Int32) : Prop := wl1 (B_X5_winsAgainstAll_2 v1 v2 σ K) v3
def wp_X5_winsAgainstAll (v1 : Int32) (v2 : Int32) (σ : St) (K : Int32 → Prop) : Prop :=
L_X5_winsAgainstAll_2 v1 v2 σ K 0
-- BellBalance$Play.reckon(II)V
def J_X5_reckon_101 (v1 : Int32) (v2 : Int32) (v3 : Int32) (v4 : Int32) (kw0 : Nat) (nw0 : Nat) (w1 : Int32) (w2 : Int32) (σ : St) (K : St → Prop) (Φ33 : Int32 → St → Prop) (Φ71 : Int32 → St → Prop) : Prop :=
(vp_in w1 nw0 ∧
Φ71 (v4 + 1) (uI σ kw0 w1.toNatClampNeg (vp_nar .boolean w2)))
def B_X5_reckon_71 (v1 : Int32) (v2 : Int32) (v3 : Int32) (K : St → Prop) (Φ33 : Int32 → St → Prop) (Φ71 : Int32 → St → Prop) (v4 : Int32) (σ : St) : Prop :=
(if 21 ≤ v4 then
Φ33 (v3 + 1) σ
else
wp_X5_winningPull v1 v4 σ (fun r88 =>
(if r88 = (-9) then
J_X5_reckon_101 v1 v2 v3 v4 83 21 v4 0 σ K Φ33 Φ71
else
J_X5_reckon_101 v1 v2 v3 v4 83 21 v4 1 σ K Φ33 Φ71)))
def L_X5_reckon_71 (v1 : Int32) (v2 : Int32) (v3 : Int32) (K : St → Prop) (Φ33 : Int32 → St → Prop) (v4 : Int32) (σ : St) : Prop := wl2 (B_X5_reckon_71 v1 v2 v3 K Φ33) v4 σ
def B_X5_reckon_41 (v1 : Int32) (v2 : Int32) (v3 : Int32) (K : St → Prop) (Φ33 : Int32 → St → Prop) (Φ41 : Int32 → St → Prop) (v4 : Int32) (σ : St) : Prop :=
(if 21 ≤ v4 then
L_X5_reckon_71 v1 v2 v3 K Φ33 0 σ
else
wp_X5_winsAgainstAll v1 v4 σ (fun r58 =>
(vp_in v4 21 ∧
Φ41 (v4 + 1) (uI σ 84 v4.toNatClampNeg (vp_nar .boolean r58)))))
def L_X5_reckon_41 (v1 : Int32) (v2 : Int32) (v3 : Int32) (K : St → Prop) (Φ33 : Int32 → St → Prop) (v4 : Int32) (σ : St) : Prop := wl2 (B_X5_reckon_41 v1 v2 v3 K Φ33) v4 σ
def B_X5_reckon_33 (v1 : Int32) (v2 : Int32) (K : St → Prop)  (Φ33 : Int32 → St → Prop) (v3 : Int32) (σ : St) : Prop :=
(if v2 ≤ v3 then
K σ
else
L_X5_reckon_41 v1 v2 v3 K Φ33 0 σ)
def L_X5_reckon_33 (v1 : Int32) (v2 : Int32) (K : St → Prop)  (v3 : Int32) (σ : St) : Prop := wl2 (B_X5_reckon_33 v1 v2 K) v3 σ
def J_X5_reckon_24 (v1 : Int32) (v2 : Int32) (v3 : Int32) (kw0 : Nat) (nw0 : Nat) (w1 : Int32) (w2 : Int32) (σ : St) (K : St → Prop) (Φ2 : Int32 → St → Prop) : Prop :=
(vp_in w1 nw0 ∧
Φ2 (v3 + 1) (uI σ kw0 w1.toNatClampNeg (vp_nar .boolean w2)))
def B_X5_reckon_2 (v1 : Int32) (v2 : Int32) (K : St → Prop)  (Φ2 : Int32 → St → Prop) (v3 : Int32) (σ : St) : Prop :=
(if 21 ≤ v3 then
L_X5_reckon_33 v1 v2 K 0 σ
else
(if v3 = 20 then
J_X5_reckon_24 v1 v2 v3 83 21 v3 1 σ K Φ2
else
J_X5_reckon_24 v1 v2 v3 83 21 v3 0 σ K Φ2))
def L_X5_reckon_2 (v1 : Int32) (v2 : Int32) (K : St → Prop)  (v3 : Int32) (σ : St) : Prop := wl2 (B_X5_reckon_2 v1 v2 K) v3 σ
def wp_X5_reckon (v1 : Int32) (v2 : Int32) (σ : St) (K : St → Prop) : Prop :=
L_X5_reckon_2 v1 v2 K 0 σ
-- BellBalance.first(II)I
def J_X8_first_10 (σ : St) (K : Int32 → St → Prop)  : Prop :=
K (-1) σ
def wp_X8_first (v1 : Int32) (v2 : Int32) (σ : St) (K : Int32 → St → Prop) : Prop :=
(if v2 < 1 then
J_X8_first_10 σ K
else
(if v2 ≤ 3 then
wp_X8_refuseBell v1 σ (fun r14 =>
(if r14 = 0 then
(vp_in v1 6 ∧
wp_X5_reckon (σ.1 (28 + v1.toNatClampNeg) 0) v2 σ (fun t41 =>
(vp_in v1 6 ∧
(vp_in v1 6 ∧
wp_X5_winningPull (t41.1 (28 + v1.toNatClampNeg) 0) (t41.1 (28 + v1.toNatClampNeg) 3) t41 (fun r72 =>
K r72 t41)))))
else
K r14 σ))
else
J_X8_first_10 σ K))
-- BellBalance.game(II)I
def J_X8_game_9 (σ : St) (K : Int32 → St → Prop)  : Prop :=
K (-1) σ
def J_X8_game_71 (w0 : Int32) (σ : St) (K : Int32 → St → Prop)  : Prop :=
K w0 σ
def wp_X8_game (v1 : Int32) (v2 : Int32) (σ : St) (K : Int32 → St → Prop) : Prop :=
(if v2 < 0 then
J_X8_game_9 σ K
else
(if v2 ≤ 3 then
wp_X8_refuseBell v1 σ (fun r13 =>
(if r13 = 0 then
(vp_in v1 6 ∧
wp_X5_reckon (σ.1 (28 + v1.toNatClampNeg) 0) v2 σ (fun t40 =>
(vp_in v1 6 ∧
(vp_in (t40.1 (28 + v1.toNatClampNeg) 3) 21 ∧
(if (t40.1 83 (t40.1 (28 + v1.toNatClampNeg) 3).toNatClampNeg) = 0 then
J_X8_game_71 0 t40 K
else
J_X8_game_71 1 t40 K)))))
else
K r13 σ))
else
J_X8_game_9 σ K))
-- BellBalance.greatestWhole(LBellBalance$Bell;)I
def B_X8_greatestWhole_3 (k1 : Nat) (σ : St) (K : Int32 → Prop)  (Φ3 : Int32 → Prop) (v2 : Int32) : Prop :=
(if v2 ≤ 0 then
K 0
else
wp_X8_after (σ.1 k1 0) (σ.1 k1 3) v2 (fun r16 =>
(if r16 = (-1) then
Φ3 (v2 + (-1))
else
K v2)))
def L_X8_greatestWhole_3 (k1 : Nat) (σ : St) (K : Int32 → Prop)  (v2 : Int32) : Prop := wl1 (B_X8_greatestWhole_3 k1 σ K) v2
def wp_X8_greatestWhole (k1 : Nat) (σ : St) (K : Int32 → Prop) : Prop :=
L_X8_greatestWhole_3 k1 σ K 6
-- BellBalance.heard(II)I
def J_X8_heard_10 (σ : St) (K : Int32 → St → Prop)  : Prop :=
K (-1) σ
def wp_X8_heard (v1 : Int32) (v2 : Int32) (σ : St) (K : Int32 → St → Prop) : Prop :=
(if v2 < 0 then
J_X8_heard_10 σ K
else
(if v2 < 6 then
wp_X8_refuseRound v1 σ (fun r14 t14 =>
(if r14 = 0 then
(vp_in v1 6 ∧
wp_X8_listen (5 + 2 * v1.toNatClampNeg) 40 t14 (fun t31 =>
(if v2 < (t31.1 70 2) then
(vp_in v2 6 ∧
(vp_in v2 6 ∧
K ((uI t31 0 12 (t31.1 72 v2.toNatClampNeg)).1 71 v2.toNatClampNeg) (uI t31 0 12 (t31.1 72 v2.toNatClampNeg))))
else
K (-9) t31)))
else
K r14 t14))
else
J_X8_heard_10 σ K))
-- BellBalance.heights(II)I
def J_X8_heights_77 (v2 : Int32) (k4 : Nat) (v5 : Int32) (v6 : Int32) (σ : St) (K : Int32 → St → Prop) (Φ30 : Int32 → Int32 → Prop) : Prop :=
Φ30 v5 (v6 + 1)
def B_X8_heights_30 (v2 : Int32) (k4 : Nat) (σ : St) (K : Int32 → St → Prop)  (Φ30 : Int32 → Int32 → Prop) (v5 : Int32) (v6 : Int32) : Prop :=
(if 21 ≤ v6 then
K v5 σ
else
(vp_in v2 6 ∧
wp_X8_fits (5 + 2 * v2.toNatClampNeg) 40 (σ.1 k4 0) (σ.1 k4 1) (σ.1 25 3) v6 σ (fun r62 =>
(if r62 = 0 then
J_X8_heights_77 v2 k4 v5 v6 σ K Φ30
else
J_X8_heights_77 v2 k4 (v5 ||| (shl 1 v6)) v6 σ K Φ30))))
def L_X8_heights_30 (v2 : Int32) (k4 : Nat) (σ : St) (K : Int32 → St → Prop)  (v5 : Int32) (v6 : Int32) : Prop := wl2 (B_X8_heights_30 v2 k4 σ K) v5 v6
def wp_X8_heights (v1 : Int32) (v2 : Int32) (σ : St) (K : Int32 → St → Prop) : Prop :=
wp_X8_refuseTold v1 v2 σ (fun r3 t3 =>
(if r3 = 0 then
(vp_in v1 6 ∧
L_X8_heights_30 v2 (28 + v1.toNatClampNeg) t3 K 0 0)
else
K r3 t3))
-- BellBalance.hold(II)I
def J_X8_hold_10 (σ : St) (K : Int32 → St → Prop)  : Prop :=
K (-1) σ
def J_X8_hold_105 (v4 : Int32) (σ : St) (K : Int32 → St → Prop)  : Prop :=
K v4 σ
def J_X8_hold_86 (v1 : Int32) (v2 : Int32) (v4 : Int32) (v5 : Int32) (v6 : Int32) (σ : St) (K : Int32 → St → Prop) (Φ36 : Int32 → Int32 → Int32 → Prop) : Prop :=
Φ36 v4 v5 (v6 + 1)
def B_X8_hold_36 (v1 : Int32) (v2 : Int32) (σ : St) (K : Int32 → St → Prop)  (Φ36 : Int32 → Int32 → Int32 → Prop) (v4 : Int32) (v5 : Int32) (v6 : Int32) : Prop :=
(if 7 ≤ v6 then
(if v4 = (-9) then
J_X8_hold_105 v4 σ K
else
J_X8_hold_105 v4 (uI σ 0 12 v5) K)
else
wp_X7_tenthsBy 25 v1 v6 σ (fun r50 =>
(if r50 = (-9) then
J_X8_hold_86 v1 v2 v4 v5 v6 σ K Φ36
else
(if v5 ≤ (iabs (r50 - v2)) then
J_X8_hold_86 v1 v2 v4 v5 v6 σ K Φ36
else
J_X8_hold_86 v1 v2 v6 (iabs (r50 - v2)) v6 σ K Φ36))))
def L_X8_hold_36 (v1 : Int32) (v2 : Int32) (σ : St) (K : Int32 → St → Prop)  (v4 : Int32) (v5 : Int32) (v6 : Int32) : Prop := wl3 (B_X8_hold_36 v1 v2 σ K) v4 v5 v6
def wp_X8_hold (v1 : Int32) (v2 : Int32) (σ : St) (K : Int32 → St → Prop) : Prop :=
(if v2 < 0 then
J_X8_hold_10 σ K
else
(if v2 ≤ 40 then
wp_X8_refuseBell v1 σ (fun r14 =>
(if r14 = 0 then
L_X8_hold_36 v1 v2 σ K (-9) 1000 0
else
K r14 σ))
else
J_X8_hold_10 σ K))
-- BellBalance.isKept(I)Z
def J_X8_isKept_14 (w0 : Int32) (K : Int32 → Prop)  : Prop :=
(zok w0 ∧ K w0)
def J_X8_isKept_13  (K : Int32 → Prop)  : Prop :=
J_X8_isKept_14 0 K
def wp_X8_isKept (v0 : Int32) (K : Int32 → Prop) : Prop :=
(if v0 < 0 then
J_X8_isKept_13 K
else
(if 3 ≤ v0 then
J_X8_isKept_13 K
else
J_X8_isKept_14 1 K))
-- BellBalance$Bell.become(LBellBalance$Bell;)V
def wp_X0_become (k0 : Nat) (k1 : Nat) (σ : St) (K : St → Prop) : Prop :=
wp_X0_begin k0 (σ.1 k1 0) (σ.1 k1 1) (σ.1 k1 2) σ (fun t13 =>
(zok ((uI (uI t13 k0 3 (t13.1 k1 3)) k0 4 ((uI t13 k0 3 (t13.1 k1 3)).1 k1 4)).1 k1 5) ∧
K (uI (uI (uI t13 k0 3 (t13.1 k1 3)) k0 4 ((uI t13 k0 3 (t13.1 k1 3)).1 k1 4)) k0 5 ((uI (uI t13 k0 3 (t13.1 k1 3)) k0 4 ((uI t13 k0 3 (t13.1 k1 3)).1 k1 4)).1 k1 5))))
-- BellBalance$Tower.become(LBellBalance$Tower;)V
def B_X7_become_57 (k0 : Nat) (k1 : Nat) (K : St → Prop)  (Φ57 : Int32 → St → Prop) (v2 : Int32) (σ : St) : Prop :=
(if (σ.1 k0 4) ≤ v2 then
K σ
else
(vp_in v2 40 ∧
(vp_in v2 40 ∧
Φ57 (v2 + 1) (uI σ (k0 + 2) v2.toNatClampNeg (σ.1 (k1 + 2) v2.toNatClampNeg)))))
def L_X7_become_57 (k0 : Nat) (k1 : Nat) (K : St → Prop)  (v2 : Int32) (σ : St) : Prop := wl2 (B_X7_become_57 k0 k1 K) v2 σ
def B_X7_become_26 (k0 : Nat) (k1 : Nat) (K : St → Prop)  (Φ26 : Int32 → St → Prop) (v2 : Int32) (σ : St) : Prop :=
(if (σ.1 k0 2) ≤ v2 then
L_X7_become_57 k0 k1 K 0 σ
else
(vp_in v2 6 ∧
(vp_in v2 6 ∧
wp_X0_become ((k0 + 3) + v2.toNatClampNeg) ((k1 + 3) + v2.toNatClampNeg) σ (fun t46 =>
Φ26 (v2 + 1) t46))))
def L_X7_become_26 (k0 : Nat) (k1 : Nat) (K : St → Prop)  (v2 : Int32) (σ : St) : Prop := wl2 (B_X7_become_26 k0 k1 K) v2 σ
def wp_X7_become (k0 : Nat) (k1 : Nat) (σ : St) (K : St → Prop) : Prop :=
L_X7_become_26 k0 k1 K 0 (uI (uI (uI σ k0 2 (σ.1 k1 2)) k0 3 ((uI σ k0 2 (σ.1 k1 2)).1 k1 3)) k0 4 ((uI (uI σ k0 2 (σ.1 k1 2)) k0 3 ((uI σ k0 2 (σ.1 k1 2)).1 k1 3)).1 k1 4))
-- BellBalance.keep(I)I
def wp_X8_keep (v1 : Int32) (σ : St) (K : Int32 → St → Prop) : Prop :=
wp_X8_isKept v1 (fun r1 =>
(if r1 = 0 then
K (-1) σ
else
(if (σ.1 25 2) = 0 then
K (-4) σ
else
(vp_in v1 3 ∧
wp_X7_become (43 + 9 * v1.toNatClampNeg) 25 σ (fun t32 =>
K (t32.1 25 4) t32)))))
-- BellBalance.kinds(II)I
def J_X8_kinds_77 (v2 : Int32) (k4 : Nat) (v5 : Int32) (v6 : Int32) (σ : St) (K : Int32 → St → Prop) (Φ30 : Int32 → Int32 → Prop) : Prop :=
Φ30 v5 (v6 + 1)
def B_X8_kinds_30 (v2 : Int32) (k4 : Nat) (σ : St) (K : Int32 → St → Prop)  (Φ30 : Int32 → Int32 → Prop) (v5 : Int32) (v6 : Int32) : Prop :=
(if 6 ≤ v6 then
K v5 σ
else
(vp_in v2 6 ∧
wp_X8_fits (5 + 2 * v2.toNatClampNeg) 40 v6 (σ.1 k4 1) (σ.1 25 3) (σ.1 k4 3) σ (fun r62 =>
(if r62 = 0 then
J_X8_kinds_77 v2 k4 v5 v6 σ K Φ30
else
J_X8_kinds_77 v2 k4 (v5 ||| (shl 1 v6)) v6 σ K Φ30))))
def L_X8_kinds_30 (v2 : Int32) (k4 : Nat) (σ : St) (K : Int32 → St → Prop)  (v5 : Int32) (v6 : Int32) : Prop := wl2 (B_X8_kinds_30 v2 k4 σ K) v5 v6
def wp_X8_kinds (v1 : Int32) (v2 : Int32) (σ : St) (K : Int32 → St → Prop) : Prop :=
wp_X8_refuseTold v1 v2 σ (fun r3 t3 =>
(if r3 = 0 then
(vp_in v1 6 ∧
L_X8_kinds_30 v2 (28 + v1.toNatClampNeg) t3 K 0 0)
else
K r3 t3))
-- BellBalance.late(I)I
def J_X8_late_108 (v3 : Int32) (σ : St) (K : Int32 → St → Prop)  : Prop :=
K v3 σ
def J_X8_late_90 (v3 : Int32) (v4 : Int32) (v5 : Int32) (σ : St) (K : Int32 → St → Prop) (Φ31 : Int32 → Int32 → Int32 → Prop) : Prop :=
Φ31 v3 v4 (v5 + 1)
def B_X8_late_31 (σ : St) (K : Int32 → St → Prop)  (Φ31 : Int32 → Int32 → Int32 → Prop) (v3 : Int32) (v4 : Int32) (v5 : Int32) : Prop :=
(if (σ.1 70 2) ≤ v5 then
(if v3 = (-9) then
J_X8_late_108 v3 σ K
else
J_X8_late_108 v3 (uI σ 0 12 v4) K)
else
(vp_in v5 6 ∧
(vp_in (v5 - 1) 6 ∧
(if ((σ.1 72 v5.toNatClampNeg) - (σ.1 72 (v5 - 1).toNatClampNeg)) ≤ v4 then
J_X8_late_90 v3 v4 v5 σ K Φ31
else
(vp_in v5 6 ∧
J_X8_late_90 (σ.1 71 v5.toNatClampNeg) ((σ.1 72 v5.toNatClampNeg) - (σ.1 72 (v5 - 1).toNatClampNeg)) v5 σ K Φ31)))))
def L_X8_late_31 (σ : St) (K : Int32 → St → Prop)  (v3 : Int32) (v4 : Int32) (v5 : Int32) : Prop := wl3 (B_X8_late_31 σ K) v3 v4 v5
def wp_X8_late (v1 : Int32) (σ : St) (K : Int32 → St → Prop) : Prop :=
wp_X8_refuseRound v1 σ (fun r2 t2 =>
(if r2 = 0 then
(vp_in v1 6 ∧
wp_X8_listen (5 + 2 * v1.toNatClampNeg) 40 t2 (fun t19 =>
L_X8_late_31 t19 K (-9) (-1) 1))
else
K r2 t2))
-- BellBalance.lay(III)I
def wp_X8_lay (v1 : Int32) (v2 : Int32) (v3 : Int32) (σ : St) (K : Int32 → St → Prop) : Prop :=
wp_X8_refusePlace v1 v2 σ (fun r3 t3 =>
(if r3 = 0 then
(vp_in v1 6 ∧
(vp_in v2 40 ∧
(vp_in v1 6 ∧
(vp_in v2 40 ∧
K 1 (uI (uI t3 0 12 (t3.1 ((5 + 2 * v1.toNatClampNeg) + 1) v2.toNatClampNeg)) ((5 + 2 * v1.toNatClampNeg) + 1) v2.toNatClampNeg v3)))))
else
K r3 t3))
-- BellBalance$Bell.renewStay()V
def wp_X0_renewStay (k0 : Nat) (σ : St) (K : St → Prop) : Prop :=
K (uI (uI σ k0 5 0) k0 3 0)
-- BellBalance$Bell.swing(I)V
def J_X0_swing_48 (k0 : Nat) (kw0 : Nat) (w1 : Int32) (σ : St) (K : St → Prop)  : Prop :=
K (uI (uI σ kw0 3 w1) k0 4 (((uI σ kw0 3 w1).1 k0 4) + 1))
def J_X0_swing_32 (k0 : Nat) (v2 : Int32) (kw0 : Nat) (w1 : Int32) (σ : St) (K : St → Prop)  : Prop :=
(zok w1 ∧
(if ((uI σ kw0 5 w1).1 k0 5) = 0 then
J_X0_swing_48 k0 k0 v2 (uI σ kw0 5 w1) K
else
J_X0_swing_48 k0 k0 0 (uI σ kw0 5 w1) K))
def wp_X0_swing (k0 : Nat) (v1 : Int32) (σ : St) (K : St → Prop) : Prop :=
(if (σ.1 k0 5) = 0 then
wp_X8_after (σ.1 k0 0) (σ.1 k0 3) v1 (fun r17 =>
(if r17 = (-1) then
J_X0_swing_32 k0 r17 k0 1 σ K
else
J_X0_swing_32 k0 r17 k0 0 σ K))
else
K σ)
-- BellBalance$Tower.perform(I)V
def J_X7_perform_107 (σ : St) (K : St → Prop)  : Prop :=
K σ
def B_X7_perform_13 (k0 : Nat) (K : St → Prop)  (Φ13 : Int32 → Int32 → St → Prop) (v2 : Int32) (v3 : Int32) (σ : St) : Prop :=
(if (σ.1 k0 2) ≤ v3 then
J_X7_perform_107 σ K
else
(vp_in v3 6 ∧
wp_X0_swing ((k0 + 3) + v3.toNatClampNeg) (irm v2 7) σ (fun t31 =>
Φ13 (v2 / 7) (v3 + 1) t31)))
def L_X7_perform_13 (k0 : Nat) (K : St → Prop)  (v2 : Int32) (v3 : Int32) (σ : St) : Prop := wl3 (B_X7_perform_13 k0 K) v2 v3 σ
def wp_X7_perform (k0 : Nat) (v1 : Int32) (σ : St) (K : St → Prop) : Prop :=
(if v1 < 48 then
(if v1 < 42 then
wp_X7_has k0 (v1 / 7) σ (fun r85 =>
(if r85 = 0 then
J_X7_perform_107 σ K
else
(vp_in (v1 / 7) 6 ∧
wp_X0_swing ((k0 + 3) + (v1 / 7).toNatClampNeg) (irm v1 7) σ (fun t104 =>
J_X7_perform_107 t104 K))))
else
wp_X7_has k0 (v1 - 42) σ (fun r59 =>
(if r59 = 0 then
J_X7_perform_107 σ K
else
(vp_in (v1 - 42) 6 ∧
wp_X0_renewStay ((k0 + 3) + (v1 - 42).toNatClampNeg) σ (fun t74 =>
J_X7_perform_107 t74 K)))))
else
L_X7_perform_13 k0 K (v1 - 48) 0 σ)
-- BellBalance$Tower.act(I)V
def J_X7_act_34 (σ : St) (K : St → Prop)  : Prop :=
K σ
def wp_X7_act (k0 : Nat) (v1 : Int32) (σ : St) (K : St → Prop) : Prop :=
(if 40 ≤ (σ.1 k0 4) then
J_X7_act_34 σ K
else
(vp_in (σ.1 k0 4) 40 ∧
wp_X7_perform k0 v1 (uI (uI σ (k0 + 2) (σ.1 k0 4).toNatClampNeg v1) k0 4 (((uI σ (k0 + 2) (σ.1 k0 4).toNatClampNeg v1).1 k0 4) + 1)) (fun t31 =>
J_X7_act_34 t31 K)))
-- BellBalance$Tower.roomLeft()I
def wp_X7_roomLeft (k0 : Nat) (σ : St) (K : Int32 → Prop) : Prop :=
K (40 - (σ.1 k0 4))
-- BellBalance.lots(II)I
def J_X8_lots_23 (σ : St) (K : Int32 → St → Prop)  : Prop :=
K (-1) σ
def J_X8_lots_130 (v1 : Int32) (v3 : Int64) (v5 : Int32) (v6 : Int32) (v7 : Int32) (v8 : Int32) (σ : St) (K : Int32 → St → Prop) (Φ58 : Int64 → Int32 → St → Prop) (Φ74 : Int64 → Int32 → Int32 → Int32 → Prop) : Prop :=
Φ74 v3 v6 (v7 * 7) (v8 + 1)
def B_X8_lots_74 (v1 : Int32) (v5 : Int32) (σ : St) (K : Int32 → St → Prop) (Φ58 : Int64 → Int32 → St → Prop) (Φ74 : Int64 → Int32 → Int32 → Int32 → Prop) (v3 : Int64) (v6 : Int32) (v7 : Int32) (v8 : Int32) : Prop :=
(if (σ.1 25 2) ≤ v8 then
wp_X7_act 25 v6 σ (fun t149 =>
Φ58 v3 (v5 + 1) t149)
else
(vp_in v8 6 ∧
(if (σ.1 (28 + v8.toNatClampNeg) 5) = 0 then
J_X8_lots_130 v1 (lrm (v3 * (48271 : Int64)) (2147483647 : Int64)) v5 (v6 + ((lrm ((lrm (v3 * (48271 : Int64)) (2147483647 : Int64)) / (16 : Int64)) (4 : Int64)).toInt32 * v7)) v7 v8 σ K Φ58 Φ74
else
J_X8_lots_130 v1 v3 v5 v6 v7 v8 σ K Φ58 Φ74)))
def L_X8_lots_74 (v1 : Int32) (v5 : Int32) (σ : St) (K : Int32 → St → Prop) (Φ58 : Int64 → Int32 → St → Prop) (v3 : Int64) (v6 : Int32) (v7 : Int32) (v8 : Int32) : Prop := wl4 (B_X8_lots_74 v1 v5 σ K Φ58) v3 v6 v7 v8
def B_X8_lots_58 (v1 : Int32) (K : Int32 → St → Prop)  (Φ58 : Int64 → Int32 → St → Prop) (v3 : Int64) (v5 : Int32) (σ : St) : Prop :=
(if v1 ≤ v5 then
wp_X7_ringing 25 σ (fun r162 =>
K r162 σ)
else
L_X8_lots_74 v1 v5 σ K Φ58 v3 48 1 0)
def L_X8_lots_58 (v1 : Int32) (K : Int32 → St → Prop)  (v3 : Int64) (v5 : Int32) (σ : St) : Prop := wl3 (B_X8_lots_58 v1 K) v3 v5 σ
def wp_X8_lots (v1 : Int32) (v2 : Int32) (σ : St) (K : Int32 → St → Prop) : Prop :=
(if v1 < 1 then
J_X8_lots_23 σ K
else
(if 20 < v1 then
J_X8_lots_23 σ K
else
(if v2 < 1 then
J_X8_lots_23 σ K
else
(if v2 ≤ 2147483646 then
(if (σ.1 25 2) = 0 then
K (-4) σ
else
wp_X7_roomLeft 25 σ (fun r42 =>
(if v1 ≤ r42 then
L_X8_lots_58 v1 K v2.toInt64 0 σ
else
K (-2) σ)))
else
J_X8_lots_23 σ K))))
-- BellBalance.lower()J
def wp_X8_lower (σ : St) (K : Int64 → Prop) : Prop :=
K (σ.2 0 14)
-- BellBalance.othersAsHeavy(I)I
def J_X8_othersAsHeavy_50 (v1 : Int32) (v2 : Int32) (v3 : Int32) (σ : St) (K : Int32 → Prop) (Φ4 : Int32 → Int32 → Prop) : Prop :=
Φ4 v2 (v3 + 1)
def B_X8_othersAsHeavy_4 (v1 : Int32) (σ : St) (K : Int32 → Prop)  (Φ4 : Int32 → Int32 → Prop) (v2 : Int32) (v3 : Int32) : Prop :=
(if (σ.1 25 2) ≤ v3 then
K v2
else
(if v3 = v1 then
J_X8_othersAsHeavy_50 v1 v2 v3 σ K Φ4
else
(vp_in v3 6 ∧
(vp_in v1 6 ∧
(if (σ.1 (28 + v3.toNatClampNeg) 1) < (σ.1 (28 + v1.toNatClampNeg) 1) then
J_X8_othersAsHeavy_50 v1 v2 v3 σ K Φ4
else
J_X8_othersAsHeavy_50 v1 (v2 + 1) v3 σ K Φ4)))))
def L_X8_othersAsHeavy_4 (v1 : Int32) (σ : St) (K : Int32 → Prop)  (v2 : Int32) (v3 : Int32) : Prop := wl2 (B_X8_othersAsHeavy_4 v1 σ K) v2 v3
def wp_X8_othersAsHeavy (v1 : Int32) (σ : St) (K : Int32 → Prop) : Prop :=
L_X8_othersAsHeavy_4 v1 σ K 0 0
-- BellBalance.othersSooner(I)I
def J_X8_othersSooner_64 (v2 : Int32) (v3 : Int32) (v4 : Int32) (σ : St) (K : Int32 → Prop) (Φ24 : Int32 → Int32 → Prop) : Prop :=
Φ24 v3 (v4 + 1)
def B_X8_othersSooner_24 (v2 : Int32) (σ : St) (K : Int32 → Prop)  (Φ24 : Int32 → Int32 → Prop) (v3 : Int32) (v4 : Int32) : Prop :=
(if (σ.1 25 2) ≤ v4 then
K v3
else
wp_X7_tenthsBy 25 v4 1 σ (fun r43 =>
(if r43 = (-9) then
J_X8_othersSooner_64 v2 v3 v4 σ K Φ24
else
(if v2 ≤ r43 then
J_X8_othersSooner_64 v2 v3 v4 σ K Φ24
else
J_X8_othersSooner_64 v2 (v3 + 1) v4 σ K Φ24))))
def L_X8_othersSooner_24 (v2 : Int32) (σ : St) (K : Int32 → Prop)  (v3 : Int32) (v4 : Int32) : Prop := wl2 (B_X8_othersSooner_24 v2 σ K) v3 v4
def wp_X8_othersSooner (v1 : Int32) (σ : St) (K : Int32 → Prop) : Prop :=
wp_X7_tenthsBy 25 v1 1 σ (fun r6 =>
(if r6 = (-9) then
K (-9)
else
L_X8_othersSooner_24 r6 σ K 0 0))
-- BellBalance.mark(II)I
def J_X8_mark_21 (σ : St) (K : Int32 → St → Prop)  : Prop :=
K (-1) σ
def wp_X8_mark (v1 : Int32) (v2 : Int32) (σ : St) (K : Int32 → St → Prop) : Prop :=
wp_X7_has 25 v1 σ (fun r5 =>
(if r5 = 0 then
J_X8_mark_21 σ K
else
(if v2 ≤ 0 then
J_X8_mark_21 σ K
else
(if v2 < 6 then
(vp_in v1 6 ∧
wp_X8_isOf (σ.1 (28 + v1.toNatClampNeg) 0) v2 (fun r38 =>
(if r38 = 0 then
wp_X8_find 3 σ (fun r46 t46 =>
K r46 t46)
else
(if v2 = 1 then
wp_X8_greatestWhole (28 + v1.toNatClampNeg) σ (fun r82 =>
K r82 σ)
else
(if v2 = 2 then
K (20 - (σ.1 (28 + v1.toNatClampNeg) 3)) σ
else
(if v2 = 3 then
wp_X7_tenthsBy 25 v1 1 σ (fun r100 =>
K r100 σ)
else
(if v2 = 4 then
wp_X8_othersAsHeavy v1 σ (fun r106 =>
K r106 σ)
else
wp_X8_othersSooner v1 σ (fun r112 =>
K r112 σ))))))))
else
J_X8_mark_21 σ K))))
-- BellBalance.mean(I)I
def B_X8_mean_47 (k2 : Nat) (n2 : Nat) (σ : St) (K : Int32 → St → Prop)  (Φ47 : Int64 → Int32 → Prop) (v3 : Int64) (v5 : Int32) : Prop :=
(if (σ.1 k2 2) ≤ v5 then
(¬ ((σ.1 k2 2).toInt64) = 0 ∧
K 1 (uI σ 0 12 ((v3 / (σ.1 k2 2).toInt64).toInt32)))
else
(vp_in v5 n2 ∧
Φ47 (v3 + (σ.1 (k2 + 1) v5.toNatClampNeg).toInt64) (v5 + 1)))
def L_X8_mean_47 (k2 : Nat) (n2 : Nat) (σ : St) (K : Int32 → St → Prop)  (v3 : Int64) (v5 : Int32) : Prop := wl2 (B_X8_mean_47 k2 n2 σ K) v3 v5
def wp_X8_mean (v1 : Int32) (σ : St) (K : Int32 → St → Prop) : Prop :=
wp_X8_isRow v1 (fun r1 =>
(if r1 = 0 then
K (-1) σ
else
(vp_in v1 6 ∧
(if (σ.1 (5 + 2 * v1.toNatClampNeg) 1) = 0 then
wp_X8_find 1 σ (fun r25 t25 =>
K r25 t25)
else
(if (σ.1 (5 + 2 * v1.toNatClampNeg) 2) = 0 then
wp_X8_find 4 σ (fun r38 t38 =>
K r38 t38)
else
L_X8_mean_47 (5 + 2 * v1.toNatClampNeg) 40 σ K (0 : Int64) 0)))))
-- BellBalance$Tower.mendDeed(I)I
def wp_X7_mendDeed (v0 : Int32) (K : Int32 → Prop) : Prop :=
K (42 + v0)
-- BellBalance.mend(I)I
def wp_X8_mend (v1 : Int32) (σ : St) (K : Int32 → St → Prop) : Prop :=
wp_X7_has 25 v1 σ (fun r5 =>
(if r5 = 0 then
K (-1) σ
else
(vp_in v1 6 ∧
(if (σ.1 (28 + v1.toNatClampNeg) 5) = 0 then
K (-4) σ
else
wp_X7_roomLeft 25 σ (fun r35 =>
(if 1 ≤ r35 then
wp_X7_mendDeed v1 (fun r50 =>
wp_X7_act 25 r50 σ (fun t53 =>
K 1 t53))
else
K (-2) σ))))))
-- BellBalance.refuseSlips(IIII)I
def J_X8_refuseSlips_29 (σ : St) (K : Int32 → Prop)  : Prop :=
K (-1)
def wp_X8_refuseSlips (v1 : Int32) (v2 : Int32) (v3 : Int32) (v4 : Int32) (σ : St) (K : Int32 → Prop) : Prop :=
wp_X8_isPull v2 (fun r1 =>
(if r1 = 0 then
J_X8_refuseSlips_29 σ K
else
(if v3 < 0 then
J_X8_refuseSlips_29 σ K
else
(if 8 < v3 then
J_X8_refuseSlips_29 σ K
else
(if v4 < 0 then
J_X8_refuseSlips_29 σ K
else
(if v4 ≤ 12 then
wp_X8_refuseBell v1 σ (fun r33 =>
K r33)
else
J_X8_refuseSlips_29 σ K))))))
-- java/util/Arrays.fill([JJ)V
def B_J7_fill_d0a16_6 (k0 : Nat) (n0 : Nat) (v1 : Int64) (v4 : Int32) (K : St → Prop)  (Φ6 : Int32 → St → Prop) (v3 : Int32) (σ : St) : Prop :=
(if v4 ≤ v3 then
K σ
else
(vp_in v3 n0 ∧
Φ6 (v3 + 1) (uL σ k0 v3.toNatClampNeg v1)))
def L_J7_fill_d0a16_6 (k0 : Nat) (n0 : Nat) (v1 : Int64) (v4 : Int32) (K : St → Prop)  (v3 : Int32) (σ : St) : Prop := wl2 (B_J7_fill_d0a16_6 k0 n0 v1 v4 K) v3 σ
def wp_J7_fill_d0a16 (k0 : Nat) (n0 : Nat) (v1 : Int64) (σ : St) (K : St → Prop) : Prop :=
L_J7_fill_d0a16_6 k0 n0 v1 (nI n0) K 0 σ
-- BellBalance$Flow.begin(I)V
def J_X2_begin_33 (σ : St) (K : St → Prop)  : Prop :=
K σ
def wp_X2_begin (v1 : Int32) (σ : St) (K : St → Prop) : Prop :=
wp_J7_fill_d0a16 80 21 (0 : Int64) σ (fun t5 =>
wp_J7_fill_d0a16 81 21 (0 : Int64) t5 (fun t13 =>
(if v1 < 0 then
J_X2_begin_33 t13 K
else
(if 21 ≤ v1 then
J_X2_begin_33 t13 K
else
(vp_in v1 21 ∧
J_X2_begin_33 (uL t13 80 v1.toNatClampNeg (1 : Int64)) K)))))
-- BellBalance$Flow.spread(IIJ)V
def J_X2_spread_44 (v1 : Int32) (v2 : Int32) (v3 : Int64) (v5 : Int32) (σ : St) (K : St → Prop) (Φ3 : Int32 → St → Prop) : Prop :=
Φ3 (v5 + 1) σ
def B_X2_spread_3 (v1 : Int32) (v2 : Int32) (v3 : Int64) (K : St → Prop)  (Φ3 : Int32 → St → Prop) (v5 : Int32) (σ : St) : Prop :=
(if 21 ≤ v5 then
K σ
else
wp_X8_after v1 v5 v2 (fun r14 =>
(if r14 = (-1) then
J_X2_spread_44 v1 v2 v3 v5 σ K Φ3
else
(vp_in r14 21 ∧
(vp_in v5 21 ∧
(vp_in r14 21 ∧
J_X2_spread_44 v1 v2 v3 v5 (uL σ 81 r14.toNatClampNeg ((σ.2 81 r14.toNatClampNeg) + ((σ.2 80 v5.toNatClampNeg) * v3))) K Φ3))))))
def L_X2_spread_3 (v1 : Int32) (v2 : Int32) (v3 : Int64) (K : St → Prop)  (v5 : Int32) (σ : St) : Prop := wl2 (B_X2_spread_3 v1 v2 v3 K) v5 σ
def wp_X2_spread (v1 : Int32) (v2 : Int32) (v3 : Int64) (σ : St) (K : St → Prop) : Prop :=
L_X2_spread_3 v1 v2 v3 K 0 σ
-- BellBalance$Flow.turn()V
def wp_X2_turn (σ : St) (K : St → Prop) : Prop :=
(¬ (0 : Int32) < 0 ∧ ¬ (0 : Int32) < 0 ∧ ¬ (21 : Int32) < 0 ∧ (0 : Int32).toNatClampNeg + (21 : Int32).toNatClampNeg ≤ 21 ∧ (0 : Int32).toNatClampNeg + (21 : Int32).toNatClampNeg ≤ 21 ∧
wp_J7_fill_d0a16 81 21 (0 : Int64) (uCL σ 81 80 (0 : Int32).toNatClampNeg (0 : Int32).toNatClampNeg (21 : Int32).toNatClampNeg) (fun t20 =>
K t20))
-- BellBalance.slip(LBellBalance$Bell;III)J
def B_X8_slip_17 (k1 : Nat) (v2 : Int32) (v3 : Int32) (v4 : Int32) (K : Int64 → St → Prop)  (Φ17 : Int64 → Int32 → St → Prop) (v5 : Int64) (v7 : Int32) (σ : St) : Prop :=
(if v3 ≤ v7 then
K v5 σ
else
wp_X2_spread (σ.1 k1 0) v2 ((12 - v4).toInt64) σ (fun t38 =>
wp_X2_spread (t38.1 k1 0) (v2 + 1) v4.toInt64 t38 (fun t55 =>
wp_X2_turn t55 (fun t62 =>
Φ17 (v5 * (12 : Int64)) (v7 + 1) t62))))
def L_X8_slip_17 (k1 : Nat) (v2 : Int32) (v3 : Int32) (v4 : Int32) (K : Int64 → St → Prop)  (v5 : Int64) (v7 : Int32) (σ : St) : Prop := wl3 (B_X8_slip_17 k1 v2 v3 v4 K) v5 v7 σ
def wp_X8_slip (k1 : Nat) (v2 : Int32) (v3 : Int32) (v4 : Int32) (σ : St) (K : Int64 → St → Prop) : Prop :=
wp_X2_begin (σ.1 k1 3) σ (fun t8 =>
L_X8_slip_17 k1 v2 v3 v4 K (1 : Int64) 0 t8)
-- BellBalance.tellParts(JJ)I
def J_X8_tellParts_30 (σ : St) (K : Int32 → St → Prop)  : Prop :=
K 1 σ
def wp_X8_tellParts (v1 : Int64) (v3 : Int64) (σ : St) (K : Int32 → St → Prop) : Prop :=
wp_X8_commonDivisor v1 v3 (fun r2 =>
(if (lg_cmp r2 (0 : Int64)) = 0 then
J_X8_tellParts_30 σ K
else
(¬ r2 = 0 ∧
(¬ r2 = 0 ∧
J_X8_tellParts_30 (uL (uL σ 0 13 (v1 / r2)) 0 14 (v3 / r2)) K))))
-- BellBalance.mid(IIII)I
def B_X8_mid_44 (v6 : Int64) (σ : St) (K : Int32 → St → Prop)  (Φ44 : Int64 → Int32 → Prop) (v8 : Int64) (v10 : Int32) : Prop :=
(if 21 ≤ v10 then
wp_X8_tellParts v8 v6 σ (fun r81 t81 =>
K r81 t81)
else
(vp_in v10 21 ∧
Φ44 (v8 + ((σ.2 80 v10.toNatClampNeg) * v10.toInt64)) (v10 + 1)))
def L_X8_mid_44 (v6 : Int64) (σ : St) (K : Int32 → St → Prop)  (v8 : Int64) (v10 : Int32) : Prop := wl2 (B_X8_mid_44 v6 σ K) v8 v10
def wp_X8_mid (v1 : Int32) (v2 : Int32) (v3 : Int32) (v4 : Int32) (σ : St) (K : Int32 → St → Prop) : Prop :=
wp_X8_refuseSlips v1 v2 v3 v4 σ (fun r6 =>
(if r6 = 0 then
(vp_in v1 6 ∧
wp_X8_slip (28 + v1.toNatClampNeg) v2 v3 v4 σ (fun r33 t33 =>
L_X8_mid_44 r33 t33 K (0 : Int64) 0))
else
K r6 σ))
-- BellBalance.odds(IIII)I
def B_X8_odds_44 (v6 : Int64) (σ : St) (K : Int32 → St → Prop)  (Φ44 : Int64 → Int32 → Prop) (v8 : Int64) (v10 : Int32) : Prop :=
(if 21 ≤ v10 then
wp_X8_tellParts v8 v6 σ (fun r77 t77 =>
K r77 t77)
else
(vp_in v10 21 ∧
Φ44 (v8 + (σ.2 80 v10.toNatClampNeg)) (v10 + 1)))
def L_X8_odds_44 (v6 : Int64) (σ : St) (K : Int32 → St → Prop)  (v8 : Int64) (v10 : Int32) : Prop := wl2 (B_X8_odds_44 v6 σ K) v8 v10
def wp_X8_odds (v1 : Int32) (v2 : Int32) (v3 : Int32) (v4 : Int32) (σ : St) (K : Int32 → St → Prop) : Prop :=
wp_X8_refuseSlips v1 v2 v3 v4 σ (fun r6 =>
(if r6 = 0 then
(vp_in v1 6 ∧
wp_X8_slip (28 + v1.toNatClampNeg) v2 v3 v4 σ (fun r33 t33 =>
L_X8_odds_44 r33 t33 K (0 : Int64) 0))
else
K r6 σ))
-- BellBalance.on(I)I
def wp_X8_on (v1 : Int32) (σ : St) (K : Int32 → St → Prop) : Prop :=
wp_X8_isKept v1 (fun r1 =>
(if r1 = 0 then
K (-1) σ
else
(vp_in v1 3 ∧
(if (σ.1 (43 + 9 * v1.toNatClampNeg) 2) = 0 then
wp_X8_find 1 σ (fun r23 t23 =>
K r23 t23)
else
(vp_in v1 3 ∧
wp_X7_become 25 (43 + 9 * v1.toNatClampNeg) σ (fun t37 =>
K (t37.1 25 4) t37))))))
-- BellBalance$Tower.ordersBehind(III)I
def J_X7_ordersBehind_18 (σ : St) (Rec : Nat → Int32 → Int32 → Int32 → St → (Int32 → Prop) → Prop) (K : Int32 → Prop)  : Prop :=
K 1
def J_X7_ordersBehind_91 (k0 : Nat) (v1 : Int32) (v2 : Int32) (v3 : Int32) (v4 : Int32) (v5 : Int32) (σ : St) (Rec : Nat → Int32 → Int32 → Int32 → St → (Int32 → Prop) → Prop) (K : Int32 → Prop) (Φ26 : Int32 → Int32 → Prop) : Prop :=
Φ26 v4 (v5 + 1)
def J_X7_ordersBehind_56 (k0 : Nat) (v1 : Int32) (v2 : Int32) (v3 : Int32) (v4 : Int32) (v5 : Int32) (w0 : Int32) (σ : St) (Rec : Nat → Int32 → Int32 → Int32 → St → (Int32 → Prop) → Prop) (K : Int32 → Prop) (Φ26 : Int32 → Int32 → Prop) : Prop :=
(if w0 = (-9) then
J_X7_ordersBehind_91 k0 v1 v2 v3 v4 v5 σ Rec K Φ26
else
wp_X7_rankBy k0 v5 w0 σ (fun r79 =>
Rec k0 (v1 ||| (shl 1 v5)) r79 (v3 + 1) σ (fun r85 =>
J_X7_ordersBehind_91 k0 v1 v2 v3 (v4 + r85) v5 σ Rec K Φ26)))
def B_X7_ordersBehind_26 (k0 : Nat) (v1 : Int32) (v2 : Int32) (v3 : Int32) (σ : St) (Rec : Nat → Int32 → Int32 → Int32 → St → (Int32 → Prop) → Prop) (K : Int32 → Prop)  (Φ26 : Int32 → Int32 → Prop) (v4 : Int32) (v5 : Int32) : Prop :=
(if (σ.1 k0 2) ≤ v5 then
K v4
else
(if ((shr v1 v5) &&& 1) = 0 then
wp_X7_soonestPull k0 v5 v2 σ (fun r48 =>
J_X7_ordersBehind_56 k0 v1 v2 v3 v4 v5 r48 σ Rec K Φ26)
else
J_X7_ordersBehind_56 k0 v1 v2 v3 v4 v5 (-9) σ Rec K Φ26))
def L_X7_ordersBehind_26 (k0 : Nat) (v1 : Int32) (v2 : Int32) (v3 : Int32) (σ : St) (Rec : Nat → Int32 → Int32 → Int32 → St → (Int32 → Prop) → Prop) (K : Int32 → Prop)  (v4 : Int32) (v5 : Int32) : Prop := wl2 (B_X7_ordersBehind_26 k0 v1 v2 v3 σ Rec K) v4 v5
def D_X7_ordersBehind (Rec : Nat → Int32 → Int32 → Int32 → St → (Int32 → Prop) → Prop) (k0 : Nat) (v1 : Int32) (v2 : Int32) (v3 : Int32) (σ : St) (K : Int32 → Prop) : Prop :=
(if v1 = ((shl 1 (σ.1 k0 2)) - 1) then
J_X7_ordersBehind_18 σ Rec K
else
(if v3 ≤ 6 then
L_X7_ordersBehind_26 k0 v1 v2 v3 σ Rec K 0 0
else
J_X7_ordersBehind_18 σ Rec K))
def wpR_X7_ordersBehind : Nat → Nat → Int32 → Int32 → Int32 → St → (Int32 → Prop) → Prop
  | 0 => fun _ _ _ _ _ _ => False
  | f + 1 => D_X7_ordersBehind (wpR_X7_ordersBehind f)
def wp_X7_ordersBehind (k0 : Nat) (v1 : Int32) (v2 : Int32) (v3 : Int32) (σ : St) (K : Int32 → Prop) : Prop := wpR_X7_ordersBehind 8 k0 v1 v2 v3 σ K
-- BellBalance.orders()I
def J_X8_orders_32 (w0 : Int32) (σ : St) (K : Int32 → Prop)  : Prop :=
K w0
def wp_X8_orders (σ : St) (K : Int32 → Prop) : Prop :=
(if (σ.1 25 2) = 0 then
J_X8_orders_32 (-4) σ K
else
wp_X7_overBits 25 σ (fun r23 =>
wp_X7_ordersBehind 25 r23 (-9) 0 σ (fun r29 =>
J_X8_orders_32 r29 σ K)))
-- BellBalance.put(III)I
def wp_X8_put (v1 : Int32) (v2 : Int32) (v3 : Int32) (σ : St) (K : Int32 → St → Prop) : Prop :=
wp_X8_isText v1 (fun r1 =>
(if r1 = 0 then
K (-1) σ
else
(vp_in v1 4 ∧
(if (σ.1 (17 + 2 * v1.toNatClampNeg) 1) = 0 then
wp_X8_find 1 σ (fun r27 t27 =>
K r27 t27)
else
wp_X6_has (17 + 2 * v1.toNatClampNeg) 60 v2 σ (fun r34 =>
(if r34 = 0 then
wp_X8_find 2 σ (fun r42 t42 =>
K r42 t42)
else
(vp_in v2 60 ∧
(vp_in v2 60 ∧
K ((σ.1 ((17 + 2 * v1.toNatClampNeg) + 1) v2.toNatClampNeg) + 1000) (uI σ ((17 + 2 * v1.toNatClampNeg) + 1) v2.toNatClampNeg v3.toInt8.toInt32)))))))))
-- BellBalance$Paths.layFewest(LBellBalance$Bell;ILBellBalance$Row;)V
def B_X4_layFewest_15 (k1 : Nat) (v2 : Int32) (k3 : Nat) (n3 : Nat) (K : St → Prop)  (Φ15 : Int32 → Int32 → St → Prop) (v4 : Int32) (v5 : Int32) (σ : St) : Prop :=
(if v2 ≤ v5 then
K σ
else
wp_X4_pullToward (σ.1 k1 0) v4 ((v2 - 1) - v5) σ (fun r34 =>
wp_X6_set k3 n3 v5 r34 σ (fun t44 =>
wp_X8_after (t44.1 k1 0) v4 r34 (fun r55 =>
Φ15 r55 (v5 + 1) t44))))
def L_X4_layFewest_15 (k1 : Nat) (v2 : Int32) (k3 : Nat) (n3 : Nat) (K : St → Prop)  (v4 : Int32) (v5 : Int32) (σ : St) : Prop := wl3 (B_X4_layFewest_15 k1 v2 k3 n3 K) v4 v5 σ
def wp_X4_layFewest (k1 : Nat) (v2 : Int32) (k3 : Nat) (n3 : Nat) (σ : St) (K : St → Prop) : Prop :=
wp_X6_begin k3 n3 v2 0 σ (fun t3 =>
L_X4_layFewest_15 k1 v2 k3 n3 K (t3.1 k1 3) 0 t3)
-- BellBalance.raise(II)I
def J_X8_raise_86 (v5 : Int32) (σ : St) (K : Int32 → St → Prop)  : Prop :=
K v5 σ
def J_X8_raise_16 (v1 : Int32) (v2 : Int32) (w0 : Int32) (σ : St) (K : Int32 → St → Prop)  : Prop :=
(if w0 = 0 then
(vp_in v1 6 ∧
wp_X4_measure (σ.1 (28 + v1.toNatClampNeg) 0) 20 σ (fun t45 =>
wp_X4_strokesFrom (t45.1 (28 + v1.toNatClampNeg) 3) t45 (fun r57 =>
(if r57 = (-9) then
J_X8_raise_86 r57 t45 K
else
(vp_in v2 6 ∧
wp_X4_layFewest (28 + v1.toNatClampNeg) r57 (5 + 2 * v2.toNatClampNeg) 40 t45 (fun t83 =>
J_X8_raise_86 r57 t83 K))))))
else
K w0 σ)
def wp_X8_raise (v1 : Int32) (v2 : Int32) (σ : St) (K : Int32 → St → Prop) : Prop :=
wp_X8_isRow v2 (fun r1 =>
(if r1 = 0 then
J_X8_raise_16 v1 v2 (-1) σ K
else
wp_X8_refuseBell v1 σ (fun r9 =>
J_X8_raise_16 v1 v2 r9 σ K)))
-- BellBalance$Tower.roundDeed(LBellBalance$Row;)I
def B_X7_roundDeed_9 (k0 : Nat) (n0 : Nat) (σ : St) (K : Int32 → Prop)  (Φ9 : Int32 → Int32 → Prop) (v1 : Int32) (v2 : Int32) : Prop :=
(if v2 < 0 then
K (48 + v1)
else
(vp_in v2 n0 ∧
Φ9 ((v1 * 7) + (σ.1 (k0 + 1) v2.toNatClampNeg)) (v2 + (-1))))
def L_X7_roundDeed_9 (k0 : Nat) (n0 : Nat) (σ : St) (K : Int32 → Prop)  (v1 : Int32) (v2 : Int32) : Prop := wl2 (B_X7_roundDeed_9 k0 n0 σ K) v1 v2
def wp_X7_roundDeed (k0 : Nat) (n0 : Nat) (σ : St) (K : Int32 → Prop) : Prop :=
L_X7_roundDeed_9 k0 n0 σ K 0 ((σ.1 k0 2) - 1)
-- BellBalance.round(I)I
def wp_X8_round (v1 : Int32) (σ : St) (K : Int32 → St → Prop) : Prop :=
wp_X8_refuseRound v1 σ (fun r2 t2 =>
(if r2 = 0 then
wp_X7_roomLeft 25 t2 (fun r16 =>
(if 1 ≤ r16 then
(vp_in v1 6 ∧
wp_X8_listen (5 + 2 * v1.toNatClampNeg) 40 t2 (fun t33 =>
(vp_in v1 6 ∧
wp_X7_roundDeed (5 + 2 * v1.toNatClampNeg) 40 t33 (fun r46 =>
wp_X7_act 25 r46 t33 (fun t49 =>
wp_X3_bits t49 (fun r56 =>
K r56 t49))))))
else
K (-2) t2))
else
K r2 t2))
-- BellBalance.row(II)I
def J_X8_row_23 (w0 : Int32) (σ : St) (K : Int32 → St → Prop)  : Prop :=
K w0 σ
def wp_X8_row (v1 : Int32) (v2 : Int32) (σ : St) (K : Int32 → St → Prop) : Prop :=
wp_X8_isRow v1 (fun r1 =>
(if r1 = 0 then
J_X8_row_23 (-1) σ K
else
(vp_in v1 6 ∧
wp_X8_anew (5 + 2 * v1.toNatClampNeg) 40 v2 0 σ (fun r16 t16 =>
J_X8_row_23 r16 t16 K))))
-- BellBalance.stands(I)I
def J_X8_stands_87 (k3 : Nat) (v4 : Int32) (v5 : Int32) (v6 : Int32) (σ : St) (K : Int32 → St → Prop) (Φ31 : Int32 → Int32 → Int32 → Prop) : Prop :=
Φ31 v4 v5 (v6 + 1)
def B_X8_stands_31 (k3 : Nat) (σ : St) (K : Int32 → St → Prop)  (Φ31 : Int32 → Int32 → Int32 → Prop) (v4 : Int32) (v5 : Int32) (v6 : Int32) : Prop :=
(if 7 ≤ v6 then
K v4 (uI σ 0 12 v5)
else
wp_X8_after (σ.1 k3 0) (σ.1 k3 3) v6 (fun r48 =>
(if r48 = 20 then
J_X8_stands_87 k3 (v4 ||| (shl 1 v6)) v5 v6 σ K Φ31
else
(if r48 = (-1) then
J_X8_stands_87 k3 v4 (v5 ||| (shl 1 v6)) v6 σ K Φ31
else
J_X8_stands_87 k3 v4 v5 v6 σ K Φ31))))
def L_X8_stands_31 (k3 : Nat) (σ : St) (K : Int32 → St → Prop)  (v4 : Int32) (v5 : Int32) (v6 : Int32) : Prop := wl3 (B_X8_stands_31 k3 σ K) v4 v5 v6
def wp_X8_stands (v1 : Int32) (σ : St) (K : Int32 → St → Prop) : Prop :=
wp_X8_refuseBell v1 σ (fun r2 =>
(if r2 = 0 then
(vp_in v1 6 ∧
L_X8_stands_31 (28 + v1.toNatClampNeg) σ K 0 0 0)
else
K r2 σ))
-- BellBalance.strikes(II)I
def J_X8_strikes_32 (w0 : Int32) (σ : St) (K : Int32 → Prop)  : Prop :=
K w0
def wp_X8_strikes (v1 : Int32) (v2 : Int32) (σ : St) (K : Int32 → Prop) : Prop :=
wp_X8_isPull v2 (fun r1 =>
(if r1 = 0 then
K (-1)
else
wp_X8_refuseBell v1 σ (fun r11 =>
(if r11 = 0 then
wp_X7_tenthsBy 25 v1 v2 σ (fun r29 =>
J_X8_strikes_32 r29 σ K)
else
J_X8_strikes_32 r11 σ K))))
-- BellBalance$Tower.strokeDeed(II)I
def wp_X7_strokeDeed (v0 : Int32) (v1 : Int32) (K : Int32 → Prop) : Prop :=
K ((v0 * 7) + v1)
-- BellBalance.stroke(II)I
def wp_X8_stroke (v1 : Int32) (v2 : Int32) (σ : St) (K : Int32 → St → Prop) : Prop :=
wp_X8_isPull v2 (fun r1 =>
(if r1 = 0 then
K (-1) σ
else
wp_X8_refuseBell v1 σ (fun r11 =>
(if r11 = 0 then
wp_X7_roomLeft 25 σ (fun r25 =>
(if 1 ≤ r25 then
wp_X7_strokeDeed v1 v2 (fun r41 =>
wp_X7_act 25 r41 σ (fun t44 =>
(vp_in v1 6 ∧
K (t44.1 (28 + v1.toNatClampNeg) 3) t44)))
else
K (-2) σ))
else
K r11 σ))))
-- BellBalance.tear(I)I
def wp_X8_tear (v1 : Int32) (σ : St) (K : Int32 → St → Prop) : Prop :=
wp_X8_isRow v1 (fun r1 =>
(if r1 = 0 then
K (-1) σ
else
(vp_in v1 6 ∧
(if (σ.1 (5 + 2 * v1.toNatClampNeg) 1) = 0 then
wp_X8_find 1 σ (fun r23 t23 =>
K r23 t23)
else
(vp_in v1 6 ∧
(vp_in v1 6 ∧
K 1 (uI (uI σ (5 + 2 * v1.toNatClampNeg) 1 0) (5 + 2 * v1.toNatClampNeg) 2 0)))))))
-- BellBalance.text(II)I
def J_X8_text_24 (w0 : Int32) (σ : St) (K : Int32 → St → Prop)  : Prop :=
K w0 σ
def wp_X8_text (v1 : Int32) (v2 : Int32) (σ : St) (K : Int32 → St → Prop) : Prop :=
wp_X8_isText v1 (fun r1 =>
(if r1 = 0 then
J_X8_text_24 (-1) σ K
else
(vp_in v1 4 ∧
wp_X8_anew (17 + 2 * v1.toNatClampNeg) 60 v2 32 σ (fun r17 t17 =>
J_X8_text_24 r17 t17 K))))
-- BellBalance.tower(I)I
def B_X8_tower_58  (K : Int32 → St → Prop)  (Φ58 : Int32 → St → Prop) (v2 : Int32) (σ : St) : Prop :=
(if 3 ≤ v2 then
K (σ.1 25 2) σ
else
(vp_in v2 3 ∧
wp_X7_clear (43 + 9 * v2.toNatClampNeg) σ (fun t69 =>
Φ58 (v2 + 1) t69)))
def L_X8_tower_58  (K : Int32 → St → Prop)  (v2 : Int32) (σ : St) : Prop := wl2 (B_X8_tower_58 K) v2 σ
def wp_X8_tower (v1 : Int32) (σ : St) (K : Int32 → St → Prop) : Prop :=
wp_X8_isText v1 (fun r1 =>
(if r1 = 0 then
K (-1) σ
else
(vp_in v1 4 ∧
(if (σ.1 (17 + 2 * v1.toNatClampNeg) 1) = 0 then
wp_X8_find 1 σ (fun r23 t23 =>
K r23 t23)
else
(vp_in v1 4 ∧
wp_X8_scan (17 + 2 * v1.toNatClampNeg) 60 σ (fun r34 t34 =>
(if r34 = (-9) then
wp_X7_become 25 34 t34 (fun t53 =>
L_X8_tower_58 K 0 t53)
else
K (-4) t34)))))))
-- BellBalance$Tower.rewindTo(I)V
def B_X7_rewindTo_43 (k0 : Nat) (K : St → Prop)  (Φ43 : Int32 → St → Prop) (v2 : Int32) (σ : St) : Prop :=
(if (σ.1 k0 4) ≤ v2 then
K σ
else
(vp_in v2 40 ∧
wp_X7_perform k0 (σ.1 (k0 + 2) v2.toNatClampNeg) σ (fun t58 =>
Φ43 (v2 + 1) t58)))
def L_X7_rewindTo_43 (k0 : Nat) (K : St → Prop)  (v2 : Int32) (σ : St) : Prop := wl2 (B_X7_rewindTo_43 k0 K) v2 σ
def B_X7_rewindTo_2 (k0 : Nat) (v1 : Int32) (K : St → Prop)  (Φ2 : Int32 → St → Prop) (v2 : Int32) (σ : St) : Prop :=
(if (σ.1 k0 2) ≤ v2 then
L_X7_rewindTo_43 k0 K 0 (uI σ k0 4 (imax 0 (imin v1 (σ.1 k0 4))))
else
(vp_in v2 6 ∧
wp_X0_rewind ((k0 + 3) + v2.toNatClampNeg) σ (fun t16 =>
Φ2 (v2 + 1) t16)))
def L_X7_rewindTo_2 (k0 : Nat) (v1 : Int32) (K : St → Prop)  (v2 : Int32) (σ : St) : Prop := wl2 (B_X7_rewindTo_2 k0 v1 K) v2 σ
def wp_X7_rewindTo (k0 : Nat) (v1 : Int32) (σ : St) (K : St → Prop) : Prop :=
L_X7_rewindTo_2 k0 v1 K 0 σ
-- BellBalance.undo(I)I
def J_X8_undo_15 (σ : St) (K : Int32 → St → Prop)  : Prop :=
K (-1) σ
def wp_X8_undo (v1 : Int32) (σ : St) (K : Int32 → St → Prop) : Prop :=
(if v1 < 0 then
J_X8_undo_15 σ K
else
(if v1 ≤ (σ.1 25 4) then
wp_X7_rewindTo 25 v1 σ (fun t32 =>
K ((σ.1 25 4) - v1) t32)
else
J_X8_undo_15 σ K))
-- BellBalance.upper()J
def wp_X8_upper (σ : St) (K : Int64 → Prop) : Prop :=
K (σ.2 0 13)
-- BellBalance.ways(II)I
def J_X8_ways_10 (σ : St) (K : Int32 → St → Prop)  : Prop :=
K (-1) σ
def B_X8_ways_59 (v2 : Int32) (k4 : Nat) (v5 : Int32) (K : Int32 → St → Prop) (Φ50 : Int32 → St → Prop) (Φ59 : Int32 → St → Prop) (v6 : Int32) (σ : St) : Prop :=
(if 7 ≤ v6 then
wp_X2_turn σ (fun t91 =>
Φ50 (v5 + 1) t91)
else
wp_X2_spread (σ.1 k4 0) v6 (1 : Int64) σ (fun t78 =>
Φ59 (v6 + 1) t78))
def L_X8_ways_59 (v2 : Int32) (k4 : Nat) (v5 : Int32) (K : Int32 → St → Prop) (Φ50 : Int32 → St → Prop) (v6 : Int32) (σ : St) : Prop := wl2 (B_X8_ways_59 v2 k4 v5 K Φ50) v6 σ
def B_X8_ways_50 (v2 : Int32) (k4 : Nat) (K : Int32 → St → Prop)  (Φ50 : Int32 → St → Prop) (v5 : Int32) (σ : St) : Prop :=
(if v2 ≤ v5 then
(vp_in 20 21 ∧
wp_X8_tellParts (σ.2 80 (20 : Int32).toNatClampNeg) (1 : Int64) σ (fun r112 t112 =>
K r112 t112))
else
L_X8_ways_59 v2 k4 v5 K Φ50 0 σ)
def L_X8_ways_50 (v2 : Int32) (k4 : Nat) (K : Int32 → St → Prop)  (v5 : Int32) (σ : St) : Prop := wl2 (B_X8_ways_50 v2 k4 K) v5 σ
def wp_X8_ways (v1 : Int32) (v2 : Int32) (σ : St) (K : Int32 → St → Prop) : Prop :=
(if v2 < 0 then
J_X8_ways_10 σ K
else
(if v2 ≤ 12 then
wp_X8_refuseBell v1 σ (fun r14 =>
(if r14 = 0 then
(vp_in v1 6 ∧
wp_X2_begin (σ.1 (28 + v1.toNatClampNeg) 3) σ (fun t44 =>
L_X8_ways_50 v2 (28 + v1.toNatClampNeg) K 0 t44))
else
K r14 σ))
else
J_X8_ways_10 σ K))
-- BellBalanceModel.isHeavy(I)Z
def J_X9_isHeavy_15 (w0 : Int32) (K : Int32 → Prop)  : Prop :=
(zok w0 ∧ K w0)
def J_X9_isHeavy_10  (K : Int32 → Prop)  : Prop :=
J_X9_isHeavy_15 1 K
def wp_X9_isHeavy (v0 : Int32) (K : Int32 → Prop) : Prop :=
(if v0 = 1 then
J_X9_isHeavy_10 K
else
(if v0 = 4 then
J_X9_isHeavy_10 K
else
J_X9_isHeavy_15 0 K))
-- BellBalanceModel.isQuick(I)Z
def J_X9_isQuick_15 (w0 : Int32) (K : Int32 → Prop)  : Prop :=
(zok w0 ∧ K w0)
def J_X9_isQuick_10  (K : Int32 → Prop)  : Prop :=
J_X9_isQuick_15 1 K
def wp_X9_isQuick (v0 : Int32) (K : Int32 → Prop) : Prop :=
(if v0 = 2 then
J_X9_isQuick_10 K
else
(if v0 = 5 then
J_X9_isQuick_10 K
else
J_X9_isQuick_15 0 K))
-- BellBalanceModel.after(III)I
def J_X9_after_60 (w0 : Int32) (K : Int32 → Prop)  : Prop :=
K w0
def J_X9_after_28 (w0 : Int32) (w1 : Int32) (K : Int32 → Prop)  : Prop :=
(if 0 ≤ (w0 - w1) then
(if (w0 - w1) ≤ 21 then
(if (w0 - w1) ≤ 20 then
J_X9_after_60 (w0 - w1) K
else
J_X9_after_60 20 K)
else
J_X9_after_60 (-1) K)
else
J_X9_after_60 0 K)
def J_X9_after_15 (v0 : Int32) (w0 : Int32) (w1 : Int32) (K : Int32 → Prop)  : Prop :=
wp_X9_isQuick v0 (fun r17 =>
(if r17 = 0 then
J_X9_after_28 (w0 + w1) 1 K
else
J_X9_after_28 (w0 + w1) 0 K))
def wp_X9_after (v0 : Int32) (v1 : Int32) (v2 : Int32) (K : Int32 → Prop) : Prop :=
wp_X9_isHeavy v0 (fun r2 =>
(if r2 = 0 then
J_X9_after_15 v0 v1 v2 K
else
J_X9_after_15 v0 v1 (v2 / 2) K))
-- BellBalanceModel.found(I)I
def wp_X9_found (v1 : Int32) (σ : St) (K : Int32 → St → Prop) : Prop :=
(vp_in v1 6 ∧
(vp_in v1 6 ∧
K (-3) (uI (uI σ 0 8 v1) 8 v1.toNatClampNeg (((uI σ 0 8 v1).1 8 v1.toNatClampNeg) + 1))))
-- BellBalanceModel.in(JJJ)Z
def J_X9_in_18 (w0 : Int32) (K : Int32 → Prop)  : Prop :=
(zok w0 ∧ K w0)
def J_X9_in_17  (K : Int32 → Prop)  : Prop :=
J_X9_in_18 0 K
def wp_X9_in (v0 : Int64) (v2 : Int64) (v4 : Int64) (K : Int32 → Prop) : Prop :=
(if (lg_cmp v0 v2) < 0 then
J_X9_in_17 K
else
(if 0 < (lg_cmp v0 v4) then
J_X9_in_17 K
else
J_X9_in_18 1 K))
-- BellBalanceModel.isPull(I)Z
def wp_X9_isPull (v0 : Int32) (K : Int32 → Prop) : Prop :=
wp_X9_in v0.toInt64 (0 : Int64) (6 : Int64) (fun r6 =>
(zok r6 ∧ K r6))
-- BellBalanceModel.isRow(I)Z
def wp_X9_isRow (v0 : Int32) (K : Int32 → Prop) : Prop :=
wp_X9_in v0.toInt64 (0 : Int64) (5 : Int64) (fun r6 =>
(zok r6 ∧ K r6))
-- BellBalanceModel.against(I)I
def B_X9_against_59 (v1 : Int32) (σ : St) (K : Int32 → St → Prop)  (Φ59 : Int32 → Prop) (v2 : Int32) : Prop :=
(vp_in 0 5280 ∧
(if (σ.1 1 (0 : Int32).toNatClampNeg) ≤ v2 then
K 0 σ
else
(vp_in ((40 * v1) + v2) 240 ∧
wp_X9_isPull (σ.1 3 ((40 * v1) + v2).toNatClampNeg) (fun r80 =>
(if r80 = 0 then
wp_X9_found 3 σ (fun r88 t88 =>
K r88 t88)
else
Φ59 (v2 + 1))))))
def L_X9_against_59 (v1 : Int32) (σ : St) (K : Int32 → St → Prop)  (v2 : Int32) : Prop := wl1 (B_X9_against_59 v1 σ K) v2
def wp_X9_against (v1 : Int32) (σ : St) (K : Int32 → St → Prop) : Prop :=
wp_X9_isRow v1 (fun r1 =>
(if r1 = 0 then
K (-1) σ
else
(vp_in 0 5280 ∧
(if (σ.1 1 (0 : Int32).toNatClampNeg) = 0 then
K (-4) σ
else
(vp_in v1 6 ∧
(if 0 ≤ (σ.1 4 v1.toNatClampNeg) then
(vp_in v1 6 ∧
(vp_in 0 5280 ∧
(if (σ.1 4 v1.toNatClampNeg) = (σ.1 1 (0 : Int32).toNatClampNeg) then
L_X9_against_59 v1 σ K 0
else
wp_X9_found 5 σ (fun r53 t53 =>
K r53 t53))))
else
wp_X9_found 1 σ (fun r32 t32 =>
K r32 t32)))))))
-- BellBalanceModel.isBell(I)Z
def wp_X9_isBell (v1 : Int32) (σ : St) (K : Int32 → Prop) : Prop :=
(vp_in 0 5280 ∧
wp_X9_in v1.toInt64 (0 : Int64) (((σ.1 1 (0 : Int32).toNatClampNeg) - 1).toInt64) (fun r12 =>
(zok r12 ∧ K r12)))
-- BellBalanceModel.isOver(I)Z
def J_X9_isOver_18 (w0 : Int32) (σ : St) (K : Int32 → Prop)  : Prop :=
(zok w0 ∧ K w0)
def wp_X9_isOver (v1 : Int32) (σ : St) (K : Int32 → Prop) : Prop :=
(vp_in (20 + v1) 5280 ∧
(if (σ.1 1 (20 + v1).toNatClampNeg) = 1 then
J_X9_isOver_18 1 σ K
else
J_X9_isOver_18 0 σ K))
-- BellBalanceModel.againstPairs(II)I
def J_X9_againstPairs_15 (σ : St) (K : Int32 → St → Prop)  : Prop :=
K (-1) σ
def B_X9_againstPairs_62 (v2 : Int32) (σ : St) (K : Int32 → St → Prop)  (Φ62 : Int32 → Prop) (v3 : Int32) : Prop :=
(vp_in v2 6 ∧
(if (σ.1 4 v2.toNatClampNeg) ≤ v3 then
K 0 σ
else
(vp_in ((40 * v2) + v3) 240 ∧
wp_X9_isPull (σ.1 3 ((40 * v2) + v3).toNatClampNeg) (fun r83 =>
(if r83 = 0 then
wp_X9_found 3 σ (fun r91 t91 =>
K r91 t91)
else
Φ62 (v3 + 2))))))
def L_X9_againstPairs_62 (v2 : Int32) (σ : St) (K : Int32 → St → Prop)  (v3 : Int32) : Prop := wl1 (B_X9_againstPairs_62 v2 σ K) v3
def wp_X9_againstPairs (v1 : Int32) (v2 : Int32) (σ : St) (K : Int32 → St → Prop) : Prop :=
wp_X9_isBell v1 σ (fun r2 =>
(if r2 = 0 then
J_X9_againstPairs_15 σ K
else
wp_X9_isRow v2 (fun r9 =>
(if r9 = 0 then
J_X9_againstPairs_15 σ K
else
wp_X9_isOver v1 σ (fun r19 =>
(if r19 = 0 then
(vp_in v2 6 ∧
(if 0 ≤ (σ.1 4 v2.toNatClampNeg) then
(vp_in v2 6 ∧
(if (irm (σ.1 4 v2.toNatClampNeg) 2) = 0 then
L_X9_againstPairs_62 v2 σ K 0
else
wp_X9_found 5 σ (fun r56 t56 =>
K r56 t56)))
else
wp_X9_found 1 σ (fun r39 t39 =>
K r39 t39)))
else
K (-4) σ))))))
-- BellBalanceModel.againstSlips(IIII)I
def J_X9_againstSlips_40 (σ : St) (K : Int32 → Prop)  : Prop :=
K (-1)
def J_X9_againstSlips_56 (w0 : Int32) (σ : St) (K : Int32 → Prop)  : Prop :=
K w0
def wp_X9_againstSlips (v1 : Int32) (v2 : Int32) (v3 : Int32) (v4 : Int32) (σ : St) (K : Int32 → Prop) : Prop :=
wp_X9_isBell v1 σ (fun r2 =>
(if r2 = 0 then
J_X9_againstSlips_40 σ K
else
wp_X9_isPull v2 (fun r9 =>
(if r9 = 0 then
J_X9_againstSlips_40 σ K
else
wp_X9_in v3.toInt64 (0 : Int64) (8 : Int64) (fun r21 =>
(if r21 = 0 then
J_X9_againstSlips_40 σ K
else
wp_X9_in v4.toInt64 (0 : Int64) (12 : Int64) (fun r34 =>
(if r34 = 0 then
J_X9_againstSlips_40 σ K
else
wp_X9_isOver v1 σ (fun r44 =>
(if r44 = 0 then
J_X9_againstSlips_56 0 σ K
else
J_X9_againstSlips_56 (-4) σ K))))))))))
-- BellBalanceModel.anew(II)V
def B_X9_anew_9 (v1 : Int32) (K : St → Prop)  (Φ9 : Int32 → St → Prop) (v3 : Int32) (σ : St) : Prop :=
(if 40 ≤ v3 then
K σ
else
(vp_in ((40 * v1) + v3) 240 ∧
Φ9 (v3 + 1) (uI σ 3 ((40 * v1) + v3).toNatClampNeg 0)))
def L_X9_anew_9 (v1 : Int32) (K : St → Prop)  (v3 : Int32) (σ : St) : Prop := wl2 (B_X9_anew_9 v1 K) v3 σ
def wp_X9_anew (v1 : Int32) (v2 : Int32) (σ : St) (K : St → Prop) : Prop :=
(vp_in v1 6 ∧
L_X9_anew_9 v1 K 0 (uI σ 4 v1.toNatClampNeg v2))
-- BellBalanceModel.arms(IIII)I
def J_X9_arms_40 (σ : St) (K : Int32 → St → Prop)  : Prop :=
K (-1) σ
def J_X9_arms_315 (v2 : Int32) (v4 : Int32) (v5 : Int32) (v6 : Int32) (v7 : Int32) (v8 : Int32) (v9 : Int32) (σ : St) (K : Int32 → St → Prop) (Φ252 : Int32 → Int32 → St → Prop) (Φ271 : Int32 → Int32 → Prop) : Prop :=
wp_X9_after v5 v6 (v9 + 1) (fun r324 =>
Φ271 (v9 + 1) r324)
def B_X9_arms_271 (v2 : Int32) (v4 : Int32) (v5 : Int32) (v6 : Int32) (v7 : Int32) (v8 : Int32) (σ : St) (K : Int32 → St → Prop) (Φ252 : Int32 → Int32 → St → Prop) (Φ271 : Int32 → Int32 → Prop) (v9 : Int32) (v10 : Int32) : Prop :=
(if v10 = (-1) then
J_X9_arms_315 v2 v4 v5 v6 v7 v8 v9 σ K Φ252 Φ271
else
(vp_in ((21 * ((v2 - v8) - 1)) + v10) 273 ∧
(vp_in ((21 * (v2 - v8)) + v6) 273 ∧
(if (v9 + (σ.1 13 ((21 * ((v2 - v8) - 1)) + v10).toNatClampNeg)) = (σ.1 13 ((21 * (v2 - v8)) + v6).toNatClampNeg) then
(vp_in ((40 * v4) + v8) 240 ∧
Φ252 v10 (v8 + 1) (uI σ 3 ((40 * v4) + v8).toNatClampNeg v9))
else
J_X9_arms_315 v2 v4 v5 v6 v7 v8 v9 σ K Φ252 Φ271))))
def L_X9_arms_271 (v2 : Int32) (v4 : Int32) (v5 : Int32) (v6 : Int32) (v7 : Int32) (v8 : Int32) (σ : St) (K : Int32 → St → Prop) (Φ252 : Int32 → Int32 → St → Prop) (v9 : Int32) (v10 : Int32) : Prop := wl2 (B_X9_arms_271 v2 v4 v5 v6 v7 v8 σ K Φ252) v9 v10
def B_X9_arms_252 (v2 : Int32) (v4 : Int32) (v5 : Int32) (v7 : Int32) (K : Int32 → St → Prop)  (Φ252 : Int32 → Int32 → St → Prop) (v6 : Int32) (v8 : Int32) (σ : St) : Prop :=
(if v2 ≤ v8 then
K v7 σ
else
wp_X9_after v5 v6 0 (fun r266 =>
L_X9_arms_271 v2 v4 v5 v6 v7 v8 σ K Φ252 0 r266))
def L_X9_arms_252 (v2 : Int32) (v4 : Int32) (v5 : Int32) (v7 : Int32) (K : Int32 → St → Prop)  (v6 : Int32) (v8 : Int32) (σ : St) : Prop := wl3 (B_X9_arms_252 v2 v4 v5 v7 K) v6 v8 σ
def J_X9_arms_180 (v1 : Int32) (v2 : Int32) (v3 : Int32) (v4 : Int32) (v5 : Int32) (v6 : Int32) (v7 : Int32) (v8 : Int32) (σ : St) (K : Int32 → St → Prop) (Φ66 : Int32 → St → Prop) (Φ75 : Int32 → St → Prop) : Prop :=
(vp_in ((21 * v6) + v7) 273 ∧
Φ75 (v7 + 1) (uI σ 13 ((21 * v6) + v7).toNatClampNeg v8))
def J_X9_arms_172 (v1 : Int32) (v2 : Int32) (v3 : Int32) (v4 : Int32) (v5 : Int32) (v6 : Int32) (v7 : Int32) (v9 : Int32) (w0 : Int32) (σ : St) (K : Int32 → St → Prop) (Φ66 : Int32 → St → Prop) (Φ75 : Int32 → St → Prop) (Φ104 : Int32 → Int32 → Prop) : Prop :=
Φ104 w0 (v9 + 1)
def J_X9_arms_156 (v1 : Int32) (v2 : Int32) (v3 : Int32) (v4 : Int32) (v5 : Int32) (v6 : Int32) (v7 : Int32) (v8 : Int32) (v9 : Int32) (w0 : Int32) (σ : St) (K : Int32 → St → Prop) (Φ66 : Int32 → St → Prop) (Φ75 : Int32 → St → Prop) (Φ104 : Int32 → Int32 → Prop) : Prop :=
(if v8 ≤ w0 then
J_X9_arms_172 v1 v2 v3 v4 v5 v6 v7 v9 v8 σ K Φ66 Φ75 Φ104
else
J_X9_arms_172 v1 v2 v3 v4 v5 v6 v7 v9 w0 σ K Φ66 Φ75 Φ104)
def B_X9_arms_104 (v1 : Int32) (v2 : Int32) (v3 : Int32) (v4 : Int32) (v5 : Int32) (v6 : Int32) (v7 : Int32) (σ : St) (K : Int32 → St → Prop) (Φ66 : Int32 → St → Prop) (Φ75 : Int32 → St → Prop) (Φ104 : Int32 → Int32 → Prop) (v8 : Int32) (v9 : Int32) : Prop :=
(if 7 ≤ v9 then
J_X9_arms_180 v1 v2 v3 v4 v5 v6 v7 v8 σ K Φ66 Φ75
else
(if v6 ≤ 0 then
J_X9_arms_180 v1 v2 v3 v4 v5 v6 v7 v8 σ K Φ66 Φ75
else
wp_X9_after v5 v7 v9 (fun r122 =>
(if r122 = (-1) then
J_X9_arms_156 v1 v2 v3 v4 v5 v6 v7 v8 v9 1000000 σ K Φ66 Φ75 Φ104
else
(vp_in ((21 * (v6 - 1)) + r122) 273 ∧
J_X9_arms_156 v1 v2 v3 v4 v5 v6 v7 v8 v9 (v9 + (σ.1 13 ((21 * (v6 - 1)) + r122).toNatClampNeg)) σ K Φ66 Φ75 Φ104)))))
def L_X9_arms_104 (v1 : Int32) (v2 : Int32) (v3 : Int32) (v4 : Int32) (v5 : Int32) (v6 : Int32) (v7 : Int32) (σ : St) (K : Int32 → St → Prop) (Φ66 : Int32 → St → Prop) (Φ75 : Int32 → St → Prop) (v8 : Int32) (v9 : Int32) : Prop := wl2 (B_X9_arms_104 v1 v2 v3 v4 v5 v6 v7 σ K Φ66 Φ75) v8 v9
def J_X9_arms_99 (v1 : Int32) (v2 : Int32) (v3 : Int32) (v4 : Int32) (v5 : Int32) (v6 : Int32) (v7 : Int32) (w0 : Int32) (σ : St) (K : Int32 → St → Prop) (Φ66 : Int32 → St → Prop) (Φ75 : Int32 → St → Prop) : Prop :=
L_X9_arms_104 v1 v2 v3 v4 v5 v6 v7 σ K Φ66 Φ75 w0 0
def J_X9_arms_97 (v1 : Int32) (v2 : Int32) (v3 : Int32) (v4 : Int32) (v5 : Int32) (v6 : Int32) (v7 : Int32) (σ : St) (K : Int32 → St → Prop) (Φ66 : Int32 → St → Prop) (Φ75 : Int32 → St → Prop) : Prop :=
J_X9_arms_99 v1 v2 v3 v4 v5 v6 v7 1000000 σ K Φ66 Φ75
def B_X9_arms_75 (v1 : Int32) (v2 : Int32) (v3 : Int32) (v4 : Int32) (v5 : Int32) (v6 : Int32) (K : Int32 → St → Prop) (Φ66 : Int32 → St → Prop) (Φ75 : Int32 → St → Prop) (v7 : Int32) (σ : St) : Prop :=
(if 20 < v7 then
Φ66 (v6 + 1) σ
else
(if v6 = 0 then
(if v7 = v3 then
J_X9_arms_99 v1 v2 v3 v4 v5 v6 v7 0 σ K Φ66 Φ75
else
J_X9_arms_97 v1 v2 v3 v4 v5 v6 v7 σ K Φ66 Φ75)
else
J_X9_arms_97 v1 v2 v3 v4 v5 v6 v7 σ K Φ66 Φ75))
def L_X9_arms_75 (v1 : Int32) (v2 : Int32) (v3 : Int32) (v4 : Int32) (v5 : Int32) (v6 : Int32) (K : Int32 → St → Prop) (Φ66 : Int32 → St → Prop) (v7 : Int32) (σ : St) : Prop := wl2 (B_X9_arms_75 v1 v2 v3 v4 v5 v6 K Φ66) v7 σ
def B_X9_arms_66 (v1 : Int32) (v2 : Int32) (v3 : Int32) (v4 : Int32) (v5 : Int32) (K : Int32 → St → Prop)  (Φ66 : Int32 → St → Prop) (v6 : Int32) (σ : St) : Prop :=
(if v2 < v6 then
(vp_in (14 + v1) 5280 ∧
(vp_in ((21 * v2) + (σ.1 1 (14 + v1).toNatClampNeg)) 273 ∧
(if (σ.1 13 ((21 * v2) + (σ.1 1 (14 + v1).toNatClampNeg)).toNatClampNeg) < 1000000 then
wp_X9_anew v4 v2 σ (fun t246 =>
L_X9_arms_252 v2 v4 v5 (σ.1 13 ((21 * v2) + (σ.1 1 (14 + v1).toNatClampNeg)).toNatClampNeg) K (σ.1 1 (14 + v1).toNatClampNeg) 0 t246)
else
K (-9) σ)))
else
L_X9_arms_75 v1 v2 v3 v4 v5 v6 K Φ66 0 σ)
def L_X9_arms_66 (v1 : Int32) (v2 : Int32) (v3 : Int32) (v4 : Int32) (v5 : Int32) (K : Int32 → St → Prop)  (v6 : Int32) (σ : St) : Prop := wl2 (B_X9_arms_66 v1 v2 v3 v4 v5 K) v6 σ
def wp_X9_arms (v1 : Int32) (v2 : Int32) (v3 : Int32) (v4 : Int32) (σ : St) (K : Int32 → St → Prop) : Prop :=
wp_X9_isBell v1 σ (fun r2 =>
(if r2 = 0 then
J_X9_arms_40 σ K
else
wp_X9_in v2.toInt64 (0 : Int64) (12 : Int64) (fun r14 =>
(if r14 = 0 then
J_X9_arms_40 σ K
else
wp_X9_in v3.toInt64 (0 : Int64) (20 : Int64) (fun r26 =>
(if r26 = 0 then
J_X9_arms_40 σ K
else
wp_X9_isRow v4 (fun r34 =>
(if r34 = 0 then
J_X9_arms_40 σ K
else
wp_X9_isOver v1 σ (fun r44 =>
(if r44 = 0 then
(vp_in (2 + v1) 5280 ∧
L_X9_arms_66 v1 v2 v3 v4 (σ.1 1 (2 + v1).toNatClampNeg) K 0 σ)
else
K (-4) σ))))))))))
-- BellBalanceModel.asked()I
def wp_X9_asked (σ : St) (K : Int32 → Prop) : Prop :=
K (σ.1 0 10)
-- BellBalanceModel.tells(II)I
def wp_X9_tells (v1 : Int32) (v2 : Int32) (σ : St) (K : Int32 → St → Prop) : Prop :=
K v2 (uI σ 0 10 v1)
-- BellBalanceModel.at(II)I
def J_X9_at_66 (w0 : Int32) (σ : St) (K : Int32 → St → Prop)  : Prop :=
K w0 σ
def wp_X9_at (v1 : Int32) (v2 : Int32) (σ : St) (K : Int32 → St → Prop) : Prop :=
wp_X9_isRow v1 (fun r1 =>
(if r1 = 0 then
K (-1) σ
else
(vp_in v1 6 ∧
(if 0 ≤ (σ.1 4 v1.toNatClampNeg) then
(vp_in v1 6 ∧
wp_X9_in v2.toInt64 (0 : Int64) (((σ.1 4 v1.toNatClampNeg) - 1).toInt64) (fun r36 =>
(if r36 = 0 then
wp_X9_found 2 σ (fun r63 t63 =>
J_X9_at_66 r63 t63 K)
else
(vp_in ((40 * v1) + v2) 240 ∧
wp_X9_tells (σ.1 3 ((40 * v1) + v2).toNatClampNeg) 1 σ (fun r55 t55 =>
J_X9_at_66 r55 t55 K)))))
else
wp_X9_found 1 σ (fun r20 t20 =>
K r20 t20)))))
-- BellBalanceModel.back(I)I
def J_X9_back_77 (w0 : Int32) (σ : St) (K : Int32 → Prop)  : Prop :=
K w0
def J_X9_back_65 (v3 : Int32) (σ : St) (K : Int32 → Prop)  : Prop :=
(if v3 ≤ 30 then
J_X9_back_77 v3 σ K
else
J_X9_back_77 (-9) σ K)
def B_X9_back_33 (v1 : Int32) (σ : St) (K : Int32 → Prop)  (Φ33 : Int32 → Int32 → Prop) (v2 : Int32) (v3 : Int32) : Prop :=
(if 5 ≤ v2 then
J_X9_back_65 v3 σ K
else
(if 30 < v3 then
J_X9_back_65 v3 σ K
else
(vp_in (2 + v1) 5280 ∧
wp_X9_after (σ.1 1 (2 + v1).toNatClampNeg) v2 6 (fun r55 =>
Φ33 r55 (v3 + 1)))))
def L_X9_back_33 (v1 : Int32) (σ : St) (K : Int32 → Prop)  (v2 : Int32) (v3 : Int32) : Prop := wl2 (B_X9_back_33 v1 σ K) v2 v3
def wp_X9_back (v1 : Int32) (σ : St) (K : Int32 → Prop) : Prop :=
wp_X9_isBell v1 σ (fun r2 =>
(if r2 = 0 then
K (-1)
else
wp_X9_isOver v1 σ (fun r12 =>
(if r12 = 0 then
(vp_in (14 + v1) 5280 ∧
L_X9_back_33 v1 σ K (σ.1 1 (14 + v1).toNatClampNeg) 0)
else
K (-4)))))
-- BellBalanceModel.begins()V
def B_X9_begins_2  (K : St → Prop)  (Φ2 : Int32 → St → Prop) (v1 : Int32) (σ : St) : Prop :=
(if 6 ≤ v1 then
K σ
else
(vp_in v1 6 ∧
Φ2 (v1 + 1) (uI σ 9 v1.toNatClampNeg 0)))
def L_X9_begins_2  (K : St → Prop)  (v1 : Int32) (σ : St) : Prop := wl2 (B_X9_begins_2 K) v1 σ
def wp_X9_begins (σ : St) (K : St → Prop) : Prop :=
L_X9_begins_2 K 0 σ
-- BellBalanceModel.bellTells(II)I
def J_X9_bellTells_94 (w0 : Int32) (σ : St) (K : Int32 → Prop)  : Prop :=
K w0
def wp_X9_bellTells (v1 : Int32) (v2 : Int32) (σ : St) (K : Int32 → Prop) : Prop :=
(if v2 = 0 then
(vp_in (2 + v1) 5280 ∧
K (σ.1 1 (2 + v1).toNatClampNeg))
else
(if v2 = 1 then
(vp_in (8 + v1) 5280 ∧
K (σ.1 1 (8 + v1).toNatClampNeg))
else
(if v2 = 2 then
(vp_in (14 + v1) 5280 ∧
K (σ.1 1 (14 + v1).toNatClampNeg))
else
(if v2 = 3 then
(vp_in (20 + v1) 5280 ∧
K (σ.1 1 (20 + v1).toNatClampNeg))
else
(if v2 = 4 then
(vp_in (14 + v1) 5280 ∧
(if (σ.1 1 (14 + v1).toNatClampNeg) = 20 then
J_X9_bellTells_94 1 σ K
else
J_X9_bellTells_94 0 σ K))
else
(vp_in (26 + v1) 5280 ∧
K (σ.1 1 (26 + v1).toNatClampNeg)))))))
-- BellBalanceModel.bell(II)I
def J_X9_bell_20 (σ : St) (K : Int32 → St → Prop)  : Prop :=
K (-1) σ
def wp_X9_bell (v1 : Int32) (v2 : Int32) (σ : St) (K : Int32 → St → Prop) : Prop :=
wp_X9_isBell v1 σ (fun r2 =>
(if r2 = 0 then
J_X9_bell_20 σ K
else
wp_X9_in v2.toInt64 (0 : Int64) (5 : Int64) (fun r14 =>
(if r14 = 0 then
J_X9_bell_20 σ K
else
wp_X9_bellTells v1 v2 σ (fun r26 =>
wp_X9_tells r26 1 σ (fun r30 t30 =>
K r30 t30))))))
-- BellBalanceModel.byteAt(II)I
def J_X9_byteAt_27 (w0 : Int32) (σ : St) (K : Int32 → Prop)  : Prop :=
K w0
def wp_X9_byteAt (v1 : Int32) (v2 : Int32) (σ : St) (K : Int32 → Prop) : Prop :=
(vp_in v1 4 ∧
(if (σ.1 6 v1.toNatClampNeg) ≤ v2 then
J_X9_byteAt_27 (-1000) σ K
else
(vp_in ((60 * v1) + v2) 240 ∧
J_X9_byteAt_27 (σ.1 5 ((60 * v1) + v2).toNatClampNeg) σ K)))
-- BellBalanceModel.blanks(I)V
def B_X9_blanks_0 (v1 : Int32) (K : St → Prop)  (Φ0 : St → Prop) (σ : St) : Prop :=
wp_X9_byteAt v1 (σ.1 0 13) σ (fun r6 =>
(if r6 = 32 then
Φ0 (uI σ 0 13 ((σ.1 0 13) + 1))
else
K σ))
def L_X9_blanks_0 (v1 : Int32) (K : St → Prop)  (σ : St) : Prop := wl1 (B_X9_blanks_0 v1 K) σ
def wp_X9_blanks (v1 : Int32) (σ : St) (K : St → Prop) : Prop :=
L_X9_blanks_0 v1 K σ
-- BellBalanceModel.broke(II)I
def J_X9_broke_15 (σ : St) (K : Int32 → St → Prop)  : Prop :=
K (-1) σ
def B_X9_broke_97 (v1 : Int32) (v2 : Int32) (σ : St) (K : Int32 → St → Prop)  (Φ97 : Int32 → Int32 → Prop) (v3 : Int32) (v4 : Int32) : Prop :=
(vp_in v2 6 ∧
(if (σ.1 4 v2.toNatClampNeg) ≤ v4 then
K (-9) σ
else
(vp_in (2 + v1) 5280 ∧
(vp_in ((40 * v2) + v4) 240 ∧
wp_X9_after (σ.1 1 (2 + v1).toNatClampNeg) v3 (σ.1 3 ((40 * v2) + v4).toNatClampNeg) (fun r129 =>
(if r129 = (-1) then
wp_X9_tells (irm v4 2) v4 σ (fun r145 t145 =>
K r145 t145)
else
Φ97 r129 (v4 + 1)))))))
def L_X9_broke_97 (v1 : Int32) (v2 : Int32) (σ : St) (K : Int32 → St → Prop)  (v3 : Int32) (v4 : Int32) : Prop := wl2 (B_X9_broke_97 v1 v2 σ K) v3 v4
def B_X9_broke_45 (v1 : Int32) (v2 : Int32) (σ : St) (K : Int32 → St → Prop)  (Φ45 : Int32 → Prop) (v3 : Int32) : Prop :=
(vp_in v2 6 ∧
(if (σ.1 4 v2.toNatClampNeg) ≤ v3 then
(vp_in (14 + v1) 5280 ∧
L_X9_broke_97 v1 v2 σ K (σ.1 1 (14 + v1).toNatClampNeg) 0)
else
(vp_in ((40 * v2) + v3) 240 ∧
wp_X9_isPull (σ.1 3 ((40 * v2) + v3).toNatClampNeg) (fun r66 =>
(if r66 = 0 then
wp_X9_found 3 σ (fun r74 t74 =>
K r74 t74)
else
Φ45 (v3 + 1))))))
def L_X9_broke_45 (v1 : Int32) (v2 : Int32) (σ : St) (K : Int32 → St → Prop)  (v3 : Int32) : Prop := wl1 (B_X9_broke_45 v1 v2 σ K) v3
def wp_X9_broke (v1 : Int32) (v2 : Int32) (σ : St) (K : Int32 → St → Prop) : Prop :=
wp_X9_isBell v1 σ (fun r2 =>
(if r2 = 0 then
J_X9_broke_15 σ K
else
wp_X9_isRow v2 (fun r9 =>
(if r9 = 0 then
J_X9_broke_15 σ K
else
wp_X9_isOver v1 σ (fun r19 =>
(if r19 = 0 then
(vp_in v2 6 ∧
(if 0 ≤ (σ.1 4 v2.toNatClampNeg) then
L_X9_broke_45 v1 v2 σ K 0
else
wp_X9_found 1 σ (fun r39 t39 =>
K r39 t39)))
else
K (-4) σ))))))
-- BellBalanceModel.chance(JJ)I
def B_X9_chance_6 (v1 : Int64) (v3 : Int64) (σ : St) (K : Int32 → St → Prop)  (Φ6 : Int64 → Int64 → Prop) (v5 : Int64) (v7 : Int64) : Prop :=
(if (lg_cmp v7 (0 : Int64)) = 0 then
(¬ v5 = 0 ∧
(¬ v5 = 0 ∧
K 1 (uL (uL σ 0 11 (v1 / v5)) 0 12 (v3 / v5))))
else
(¬ v7 = 0 ∧
Φ6 v7 (lrm v5 v7)))
def L_X9_chance_6 (v1 : Int64) (v3 : Int64) (σ : St) (K : Int32 → St → Prop)  (v5 : Int64) (v7 : Int64) : Prop := wl2 (B_X9_chance_6 v1 v3 σ K) v5 v7
def wp_X9_chance (v1 : Int64) (v3 : Int64) (σ : St) (K : Int32 → St → Prop) : Prop :=
L_X9_chance_6 v1 v3 σ K v1 v3
-- BellBalanceModel.gap(I)I
def wp_X9_gap (v1 : Int32) (σ : St) (K : Int32 → Prop) : Prop :=
(vp_in v1 6 ∧
(vp_in (σ.1 11 v1.toNatClampNeg) 6 ∧
(vp_in (v1 - 1) 6 ∧
(vp_in (σ.1 11 (v1 - 1).toNatClampNeg) 6 ∧
K ((σ.1 10 (σ.1 11 v1.toNatClampNeg).toNatClampNeg) - (σ.1 10 (σ.1 11 (v1 - 1).toNatClampNeg).toNatClampNeg))))))
-- BellBalanceModel.errorNow()I
def J_X9_errorNow_39 (v2 : Int32) (w0 : Int32) (w1 : Int32) (σ : St) (K : Int32 → Prop) (Φ4 : Int32 → Int32 → Prop) : Prop :=
Φ4 (w0 + w1) (v2 + 1)
def B_X9_errorNow_4 (σ : St) (K : Int32 → Prop)  (Φ4 : Int32 → Int32 → Prop) (v1 : Int32) (v2 : Int32) : Prop :=
(if (σ.1 0 18) ≤ v2 then
K v1
else
wp_X9_gap v2 σ (fun r15 =>
(if r15 ≤ 2 then
wp_X9_gap v2 σ (fun r35 =>
J_X9_errorNow_39 v2 v1 (2 - r35) σ K Φ4)
else
wp_X9_gap v2 σ (fun r24 =>
J_X9_errorNow_39 v2 v1 (r24 - 2) σ K Φ4))))
def L_X9_errorNow_4 (σ : St) (K : Int32 → Prop)  (v1 : Int32) (v2 : Int32) : Prop := wl2 (B_X9_errorNow_4 σ K) v1 v2
def wp_X9_errorNow (σ : St) (K : Int32 → Prop) : Prop :=
L_X9_errorNow_4 σ K 0 1
-- BellBalanceModel.has(II)Z
def J_X9_has_14 (w0 : Int32) (K : Int32 → Prop)  : Prop :=
(zok w0 ∧ K w0)
def wp_X9_has (v0 : Int32) (v1 : Int32) (K : Int32 → Prop) : Prop :=
(if ((shr v0 v1) &&& 1) = 1 then
J_X9_has_14 1 K
else
J_X9_has_14 0 K)
-- BellBalanceModel.tenthsOf(IIII)I
def J_X9_tenthsOf_55 (w0 : Int32) (K : Int32 → Prop)  : Prop :=
K w0
def J_X9_tenthsOf_28 (v1 : Int32) (v2 : Int32) (v3 : Int32) (w0 : Int32) (K : Int32 → Prop)  : Prop :=
(if 5 ≤ v2 then
J_X9_tenthsOf_55 ((((10 + (v2 / 2)) + (v1 / 3)) - v3) + w0) K
else
J_X9_tenthsOf_55 (-9) K)
def wp_X9_tenthsOf (v0 : Int32) (v1 : Int32) (v2 : Int32) (v3 : Int32) (K : Int32 → Prop) : Prop :=
(if v0 = 3 then
J_X9_tenthsOf_28 v1 v2 v3 1 K
else
(if v0 = 4 then
J_X9_tenthsOf_28 v1 v2 v3 2 K
else
(if v0 = 5 then
J_X9_tenthsOf_28 v1 v2 v3 (-1) K
else
J_X9_tenthsOf_28 v1 v2 v3 0 K)))
-- BellBalanceModel.rings()V
def J_X9_rings_225 (v1 : Int32) (σ : St) (K : St → Prop) (Φ12 : Int32 → St → Prop) : Prop :=
Φ12 (v1 + 1) σ
def J_X9_rings_207 (v1 : Int32) (v4 : Int32) (σ : St) (K : St → Prop) (Φ12 : Int32 → St → Prop) : Prop :=
(vp_in v4 6 ∧
J_X9_rings_225 v1 (uI (uI σ 11 v4.toNatClampNeg v1) 0 18 (((uI σ 11 v4.toNatClampNeg v1).1 0 18) + 1)) K Φ12)
def B_X9_rings_157 (v1 : Int32) (K : St → Prop) (Φ12 : Int32 → St → Prop) (Φ157 : Int32 → St → Prop) (v4 : Int32) (σ : St) : Prop :=
(if v4 ≤ 0 then
J_X9_rings_207 v1 v4 σ K Φ12
else
(vp_in (v4 - 1) 6 ∧
(vp_in (σ.1 11 (v4 - 1).toNatClampNeg) 6 ∧
(vp_in v1 6 ∧
(if (σ.1 10 (σ.1 11 (v4 - 1).toNatClampNeg).toNatClampNeg) ≤ (σ.1 10 v1.toNatClampNeg) then
J_X9_rings_207 v1 v4 σ K Φ12
else
(vp_in (v4 - 1) 6 ∧
(vp_in v4 6 ∧
Φ157 (v4 + (-1)) (uI σ 11 v4.toNatClampNeg (σ.1 11 (v4 - 1).toNatClampNeg)))))))))
def L_X9_rings_157 (v1 : Int32) (K : St → Prop) (Φ12 : Int32 → St → Prop) (v4 : Int32) (σ : St) : Prop := wl2 (B_X9_rings_157 v1 K Φ12) v4 σ
def J_X9_rings_144 (v1 : Int32) (v3 : Int32) (kw0 : Nat) (nw0 : Nat) (w1 : Int32) (w2 : Int32) (σ : St) (K : St → Prop) (Φ12 : Int32 → St → Prop) : Prop :=
(vp_in w1 nw0 ∧
(if v3 = (-9) then
J_X9_rings_225 v1 (uI σ kw0 w1.toNatClampNeg w2) K Φ12
else
L_X9_rings_157 v1 K Φ12 ((uI σ kw0 w1.toNatClampNeg w2).1 0 18) (uI σ kw0 w1.toNatClampNeg w2)))
def J_X9_rings_122 (v1 : Int32) (w0 : Int32) (σ : St) (K : St → Prop) (Φ12 : Int32 → St → Prop) : Prop :=
(if w0 = (-9) then
J_X9_rings_144 v1 w0 10 6 v1 (-9) σ K Φ12
else
J_X9_rings_144 v1 w0 10 6 v1 ((2 * v1) + w0) σ K Φ12)
def J_X9_rings_79 (v1 : Int32) (v2 : Int32) (w1 : Int32) (σ : St) (K : St → Prop) (Φ12 : Int32 → St → Prop) : Prop :=
(zok w1 ∧
wp_X9_isOver v1 (uI σ 0 17 w1) (fun r84 =>
(if r84 = 0 then
(vp_in (2 + v1) 5280 ∧
(vp_in (8 + v1) 5280 ∧
(vp_in 1 5280 ∧
wp_X9_tenthsOf ((uI σ 0 17 w1).1 1 (2 + v1).toNatClampNeg) ((uI σ 0 17 w1).1 1 (8 + v1).toNatClampNeg) v2 ((uI σ 0 17 w1).1 1 (1 : Int32).toNatClampNeg) (fun r119 =>
J_X9_rings_122 v1 r119 (uI σ 0 17 w1) K Φ12))))
else
J_X9_rings_122 v1 (-9) (uI σ 0 17 w1) K Φ12)))
def J_X9_rings_74 (v1 : Int32) (v2 : Int32) (σ : St) (K : St → Prop) (Φ12 : Int32 → St → Prop) : Prop :=
J_X9_rings_79 v1 v2 1 σ K Φ12
def J_X9_rings_60 (v1 : Int32) (w0 : Int32) (σ : St) (K : St → Prop) (Φ12 : Int32 → St → Prop) : Prop :=
(if (σ.1 0 17) = 0 then
(if w0 = (-1) then
J_X9_rings_74 v1 w0 σ K Φ12
else
J_X9_rings_79 v1 w0 0 σ K Φ12)
else
J_X9_rings_74 v1 w0 σ K Φ12)
def B_X9_rings_12  (K : St → Prop)  (Φ12 : Int32 → St → Prop) (v1 : Int32) (σ : St) : Prop :=
(vp_in 0 5280 ∧
(if (σ.1 1 (0 : Int32).toNatClampNeg) ≤ v1 then
K σ
else
wp_X9_isOver v1 σ (fun r24 =>
(if r24 = 0 then
(vp_in (2 + v1) 5280 ∧
(vp_in (14 + v1) 5280 ∧
(vp_in v1 6 ∧
wp_X9_after (σ.1 1 (2 + v1).toNatClampNeg) (σ.1 1 (14 + v1).toNatClampNeg) (σ.1 9 v1.toNatClampNeg) (fun r57 =>
J_X9_rings_60 v1 r57 σ K Φ12))))
else
J_X9_rings_60 v1 0 σ K Φ12))))
def L_X9_rings_12  (K : St → Prop)  (v1 : Int32) (σ : St) : Prop := wl2 (B_X9_rings_12 K) v1 σ
def wp_X9_rings (σ : St) (K : St → Prop) : Prop :=
L_X9_rings_12 K 0 (uI (uI σ 0 17 0) 0 18 0)
-- BellBalanceModel.sounds()I
def J_X9_sounds_28 (v2 : Int32) (w0 : Int32) (w1 : Int32) (σ : St) (K : Int32 → Prop) (Φ4 : Int32 → Int32 → Prop) : Prop :=
Φ4 (w0 + w1) (v2 + 1)
def B_X9_sounds_4 (σ : St) (K : Int32 → Prop)  (Φ4 : Int32 → Int32 → Prop) (v1 : Int32) (v2 : Int32) : Prop :=
(vp_in 0 5280 ∧
(if (σ.1 1 (0 : Int32).toNatClampNeg) ≤ v2 then
K v1
else
wp_X9_isOver v2 σ (fun r17 =>
(if r17 = 0 then
J_X9_sounds_28 v2 v1 1 σ K Φ4
else
J_X9_sounds_28 v2 v1 0 σ K Φ4))))
def L_X9_sounds_4 (σ : St) (K : Int32 → Prop)  (v1 : Int32) (v2 : Int32) : Prop := wl2 (B_X9_sounds_4 σ K) v1 v2
def wp_X9_sounds (σ : St) (K : Int32 → Prop) : Prop :=
L_X9_sounds_4 σ K 0 0
-- BellBalanceModel.isAll()Z
def J_X9_isAll_27 (w0 : Int32) (σ : St) (K : Int32 → St → Prop)  : Prop :=
(zok w0 ∧ K w0 σ)
def J_X9_isAll_26 (σ : St) (K : Int32 → St → Prop)  : Prop :=
J_X9_isAll_27 0 σ K
def wp_X9_isAll (σ : St) (K : Int32 → St → Prop) : Prop :=
wp_X9_rings σ (fun t1 =>
(if (t1.1 0 17) = 0 then
wp_X9_sounds t1 (fun r16 =>
(if (t1.1 0 18) = r16 then
J_X9_isAll_27 1 t1 K
else
J_X9_isAll_26 t1 K))
else
J_X9_isAll_26 t1 K))
-- BellBalanceModel.isNext()Z
def J_X9_isNext_45 (v1 : Int32) (σ : St) (K : Int32 → St → Prop)  : Prop :=
(if 0 ≤ v1 then
(vp_in v1 6 ∧
(vp_in v1 6 ∧
K 1 (uI σ 9 v1.toNatClampNeg ((σ.1 9 v1.toNatClampNeg) + 1))))
else
K 0 σ)
def J_X9_isNext_32 (v1 : Int32) (σ : St) (K : Int32 → St → Prop) (Φ9 : Int32 → St → Prop) : Prop :=
(vp_in v1 6 ∧
Φ9 (v1 + (-1)) (uI σ 9 v1.toNatClampNeg 0))
def B_X9_isNext_9  (K : Int32 → St → Prop)  (Φ9 : Int32 → St → Prop) (v1 : Int32) (σ : St) : Prop :=
(if v1 < 0 then
J_X9_isNext_45 v1 σ K
else
wp_X9_isOver v1 σ (fun r15 =>
(if r15 = 0 then
(vp_in v1 6 ∧
(if (σ.1 9 v1.toNatClampNeg) = 6 then
J_X9_isNext_32 v1 σ K Φ9
else
J_X9_isNext_45 v1 σ K))
else
J_X9_isNext_32 v1 σ K Φ9)))
def L_X9_isNext_9  (K : Int32 → St → Prop)  (v1 : Int32) (σ : St) : Prop := wl2 (B_X9_isNext_9 K) v1 σ
def wp_X9_isNext (σ : St) (K : Int32 → St → Prop) : Prop :=
(vp_in 0 5280 ∧
L_X9_isNext_9 K ((σ.1 1 (0 : Int32).toNatClampNeg) - 1) σ)
-- BellBalanceModel.keepsBest()V
def B_X9_keepsBest_2  (K : St → Prop)  (Φ2 : Int32 → St → Prop) (v1 : Int32) (σ : St) : Prop :=
(if 6 ≤ v1 then
K σ
else
(vp_in v1 6 ∧
(vp_in v1 6 ∧
Φ2 (v1 + 1) (uI σ 15 v1.toNatClampNeg (σ.1 9 v1.toNatClampNeg)))))
def L_X9_keepsBest_2  (K : St → Prop)  (v1 : Int32) (σ : St) : Prop := wl2 (B_X9_keepsBest_2 K) v1 σ
def wp_X9_keepsBest (σ : St) (K : St → Prop) : Prop :=
L_X9_keepsBest_2 K 0 σ
-- BellBalanceModel.tellsBest(I)V
def B_X9_tellsBest_13 (v1 : Int32) (K : St → Prop)  (Φ13 : Int32 → St → Prop) (v2 : Int32) (σ : St) : Prop :=
(vp_in 0 5280 ∧
(if (σ.1 1 (0 : Int32).toNatClampNeg) ≤ v2 then
K σ
else
(vp_in v2 6 ∧
(vp_in ((40 * v1) + v2) 240 ∧
Φ13 (v2 + 1) (uI σ 3 ((40 * v1) + v2).toNatClampNeg (σ.1 15 v2.toNatClampNeg))))))
def L_X9_tellsBest_13 (v1 : Int32) (K : St → Prop)  (v2 : Int32) (σ : St) : Prop := wl2 (B_X9_tellsBest_13 v1 K) v2 σ
def wp_X9_tellsBest (v1 : Int32) (σ : St) (K : St → Prop) : Prop :=
(vp_in 0 5280 ∧
wp_X9_anew v1 (σ.1 1 (0 : Int32).toNatClampNeg) σ (fun t8 =>
L_X9_tellsBest_13 v1 K 0 t8))
-- BellBalanceModel.change(II)I
def J_X9_change_14 (σ : St) (K : Int32 → St → Prop)  : Prop :=
K (-1) σ
def J_X9_change_206 (v1 : Int32) (v2 : Int32) (v3 : Int32) (v6 : Int32) (σ : St) (K : Int32 → St → Prop) (Φ146 : Int32 → St → Prop) : Prop :=
(if v6 = 0 then
wp_X9_isNext σ (fun r230 t230 =>
Φ146 r230 t230)
else
wp_X9_errorNow σ (fun r212 =>
wp_X9_keepsBest σ (fun t218 =>
wp_X9_tellsBest v2 t218 (fun t223 =>
K r212 t223))))
def J_X9_change_198 (v1 : Int32) (v2 : Int32) (v3 : Int32) (v7 : Int32) (w0 : Int32) (σ : St) (K : Int32 → St → Prop) (Φ146 : Int32 → St → Prop) (Φ160 : Int32 → Int32 → Prop) : Prop :=
Φ160 w0 (v7 + 1)
def B_X9_change_160 (v1 : Int32) (v2 : Int32) (v3 : Int32) (σ : St) (K : Int32 → St → Prop) (Φ146 : Int32 → St → Prop) (Φ160 : Int32 → Int32 → Prop) (v6 : Int32) (v7 : Int32) : Prop :=
(if v3 ≤ v7 then
J_X9_change_206 v1 v2 v3 v6 σ K Φ146
else
(if v6 = 0 then
J_X9_change_206 v1 v2 v3 v6 σ K Φ146
else
(vp_in v7 6 ∧
(vp_in ((40 * v1) + v7) 240 ∧
(if (σ.1 11 v7.toNatClampNeg) = (σ.1 3 ((40 * v1) + v7).toNatClampNeg) then
J_X9_change_198 v1 v2 v3 v7 1 σ K Φ146 Φ160
else
J_X9_change_198 v1 v2 v3 v7 0 σ K Φ146 Φ160)))))
def L_X9_change_160 (v1 : Int32) (v2 : Int32) (v3 : Int32) (σ : St) (K : Int32 → St → Prop) (Φ146 : Int32 → St → Prop) (v6 : Int32) (v7 : Int32) : Prop := wl2 (B_X9_change_160 v1 v2 v3 σ K Φ146) v6 v7
def B_X9_change_146 (v1 : Int32) (v2 : Int32) (v3 : Int32) (K : Int32 → St → Prop)  (Φ146 : Int32 → St → Prop) (v5 : Int32) (σ : St) : Prop :=
(if v5 = 0 then
K (-9) σ
else
wp_X9_isAll σ (fun r152 t152 =>
L_X9_change_160 v1 v2 v3 t152 K Φ146 r152 0))
def L_X9_change_146 (v1 : Int32) (v2 : Int32) (v3 : Int32) (K : Int32 → St → Prop)  (v5 : Int32) (σ : St) : Prop := wl2 (B_X9_change_146 v1 v2 v3 K) v5 σ
def J_X9_change_118 (σ : St) (K : Int32 → St → Prop)  : Prop :=
wp_X9_found 3 σ (fun r120 t120 =>
K r120 t120)
def B_X9_change_70 (v1 : Int32) (v2 : Int32) (v3 : Int32) (σ : St) (K : Int32 → St → Prop)  (Φ70 : Int32 → Int32 → Prop) (v4 : Int32) (v5 : Int32) : Prop :=
(if v3 ≤ v5 then
wp_X9_begins σ (fun t140 =>
L_X9_change_146 v1 v2 v3 K 1 t140)
else
(vp_in ((40 * v1) + v5) 240 ∧
wp_X9_isBell (σ.1 3 ((40 * v1) + v5).toNatClampNeg) σ (fun r93 =>
(if r93 = 0 then
J_X9_change_118 σ K
else
wp_X9_isOver (σ.1 3 ((40 * v1) + v5).toNatClampNeg) σ (fun r102 =>
(if r102 = 0 then
wp_X9_has v4 (σ.1 3 ((40 * v1) + v5).toNatClampNeg) (fun r112 =>
(if r112 = 0 then
Φ70 (v4 ||| (shl 1 (σ.1 3 ((40 * v1) + v5).toNatClampNeg))) (v5 + 1)
else
J_X9_change_118 σ K))
else
J_X9_change_118 σ K))))))
def L_X9_change_70 (v1 : Int32) (v2 : Int32) (v3 : Int32) (σ : St) (K : Int32 → St → Prop)  (v4 : Int32) (v5 : Int32) : Prop := wl2 (B_X9_change_70 v1 v2 v3 σ K) v4 v5
def wp_X9_change (v1 : Int32) (v2 : Int32) (σ : St) (K : Int32 → St → Prop) : Prop :=
wp_X9_isRow v1 (fun r1 =>
(if r1 = 0 then
J_X9_change_14 σ K
else
wp_X9_isRow v2 (fun r8 =>
(if r8 = 0 then
J_X9_change_14 σ K
else
(vp_in 0 5280 ∧
(if (σ.1 1 (0 : Int32).toNatClampNeg) = 0 then
K (-4) σ
else
(vp_in v1 6 ∧
(if 0 ≤ (σ.1 4 v1.toNatClampNeg) then
wp_X9_sounds σ (fun r44 =>
(vp_in v1 6 ∧
(if (σ.1 4 v1.toNatClampNeg) = r44 then
L_X9_change_70 v1 v2 r44 σ K 0 0
else
wp_X9_found 5 σ (fun r60 t60 =>
K r60 t60))))
else
wp_X9_found 1 σ (fun r39 t39 =>
K r39 t39)))))))))
-- BellBalanceModel.fits(III)Z
def J_X9_fits_20 (w0 : Int32) (K : Int32 → Prop)  : Prop :=
(zok w0 ∧ K w0)
def J_X9_fits_19  (K : Int32 → Prop)  : Prop :=
J_X9_fits_20 0 K
def wp_X9_fits (v0 : Int32) (v1 : Int32) (v2 : Int32) (K : Int32 → Prop) : Prop :=
(if v0 < 0 then
J_X9_fits_19 K
else
(if 0 < (lg_cmp (v0.toInt64 + v1.toInt64) v2.toInt64) then
J_X9_fits_19 K
else
J_X9_fits_20 1 K))
-- BellBalanceModel.copy(IIIII)I
def J_X9_copy_14 (σ : St) (K : Int32 → St → Prop)  : Prop :=
K (-1) σ
def J_X9_copy_45 (σ : St) (K : Int32 → St → Prop)  : Prop :=
wp_X9_found 1 σ (fun r47 t47 =>
K r47 t47)
def J_X9_copy_82 (σ : St) (K : Int32 → St → Prop)  : Prop :=
wp_X9_found 2 σ (fun r84 t84 =>
K r84 t84)
def B_X9_copy_128 (v3 : Int32) (v4 : Int32) (v5 : Int32) (K : Int32 → St → Prop)  (Φ128 : Int32 → St → Prop) (v6 : Int32) (σ : St) : Prop :=
(if v5 ≤ v6 then
K 1 σ
else
(vp_in v6 40 ∧
(vp_in (((40 * v3) + v4) + v6) 240 ∧
Φ128 (v6 + 1) (uI σ 3 (((40 * v3) + v4) + v6).toNatClampNeg (σ.1 7 v6.toNatClampNeg)))))
def L_X9_copy_128 (v3 : Int32) (v4 : Int32) (v5 : Int32) (K : Int32 → St → Prop)  (v6 : Int32) (σ : St) : Prop := wl2 (B_X9_copy_128 v3 v4 v5 K) v6 σ
def B_X9_copy_91 (v1 : Int32) (v2 : Int32) (v3 : Int32) (v4 : Int32) (v5 : Int32) (K : Int32 → St → Prop)  (Φ91 : Int32 → St → Prop) (v6 : Int32) (σ : St) : Prop :=
(if v5 ≤ v6 then
L_X9_copy_128 v3 v4 v5 K 0 σ
else
(vp_in (((40 * v1) + v2) + v6) 240 ∧
(vp_in v6 40 ∧
Φ91 (v6 + 1) (uI σ 7 v6.toNatClampNeg (σ.1 3 (((40 * v1) + v2) + v6).toNatClampNeg)))))
def L_X9_copy_91 (v1 : Int32) (v2 : Int32) (v3 : Int32) (v4 : Int32) (v5 : Int32) (K : Int32 → St → Prop)  (v6 : Int32) (σ : St) : Prop := wl2 (B_X9_copy_91 v1 v2 v3 v4 v5 K) v6 σ
def wp_X9_copy (v1 : Int32) (v2 : Int32) (v3 : Int32) (v4 : Int32) (v5 : Int32) (σ : St) (K : Int32 → St → Prop) : Prop :=
wp_X9_isRow v1 (fun r1 =>
(if r1 = 0 then
J_X9_copy_14 σ K
else
wp_X9_isRow v3 (fun r8 =>
(if r8 = 0 then
J_X9_copy_14 σ K
else
(if 0 ≤ v5 then
(vp_in v1 6 ∧
(if (σ.1 4 v1.toNatClampNeg) < 0 then
J_X9_copy_45 σ K
else
(vp_in v3 6 ∧
(if 0 ≤ (σ.1 4 v3.toNatClampNeg) then
(vp_in v1 6 ∧
wp_X9_fits v2 v5 (σ.1 4 v1.toNatClampNeg) (fun r60 =>
(if r60 = 0 then
J_X9_copy_82 σ K
else
(vp_in v3 6 ∧
wp_X9_fits v4 v5 (σ.1 4 v3.toNatClampNeg) (fun r76 =>
(if r76 = 0 then
J_X9_copy_82 σ K
else
L_X9_copy_91 v1 v2 v3 v4 v5 K 0 σ))))))
else
J_X9_copy_45 σ K))))
else
wp_X9_found 5 σ (fun r23 t23 =>
K r23 t23))))))
-- BellBalanceModel.copyAll(III)V
def B_X9_copyAll_3 (v1 : Int32) (v2 : Int32) (v3 : Int32) (K : St → Prop)  (Φ3 : Int32 → St → Prop) (v4 : Int32) (σ : St) : Prop :=
(if v3 ≤ v4 then
K σ
else
(vp_in (v1 + v4) 5280 ∧
(vp_in (v2 + v4) 5280 ∧
Φ3 (v4 + 1) (uI σ 1 (v2 + v4).toNatClampNeg (σ.1 1 (v1 + v4).toNatClampNeg)))))
def L_X9_copyAll_3 (v1 : Int32) (v2 : Int32) (v3 : Int32) (K : St → Prop)  (v4 : Int32) (σ : St) : Prop := wl2 (B_X9_copyAll_3 v1 v2 v3 K) v4 σ
def wp_X9_copyAll (v1 : Int32) (v2 : Int32) (v3 : Int32) (σ : St) (K : St → Prop) : Prop :=
L_X9_copyAll_3 v1 v2 v3 K 0 σ
-- BellBalanceModel.heavies()I
def J_X9_heavies_34 (v2 : Int32) (w0 : Int32) (w1 : Int32) (σ : St) (K : Int32 → Prop) (Φ4 : Int32 → Int32 → Prop) : Prop :=
Φ4 (w0 + w1) (v2 + 1)
def B_X9_heavies_4 (σ : St) (K : Int32 → Prop)  (Φ4 : Int32 → Int32 → Prop) (v1 : Int32) (v2 : Int32) : Prop :=
(vp_in 0 5280 ∧
(if (σ.1 1 (0 : Int32).toNatClampNeg) ≤ v2 then
K v1
else
(vp_in (2 + v2) 5280 ∧
wp_X9_isHeavy (σ.1 1 (2 + v2).toNatClampNeg) (fun r23 =>
(if r23 = 0 then
J_X9_heavies_34 v2 v1 0 σ K Φ4
else
J_X9_heavies_34 v2 v1 1 σ K Φ4)))))
def L_X9_heavies_4 (σ : St) (K : Int32 → Prop)  (v1 : Int32) (v2 : Int32) : Prop := wl2 (B_X9_heavies_4 σ K) v1 v2
def wp_X9_heavies (σ : St) (K : Int32 → Prop) : Prop :=
L_X9_heavies_4 σ K 0 0
-- BellBalanceModel.standing()I
def J_X9_standing_34 (v2 : Int32) (w0 : Int32) (w1 : Int32) (σ : St) (K : Int32 → Prop) (Φ4 : Int32 → Int32 → Prop) : Prop :=
Φ4 (w0 + w1) (v2 + 1)
def B_X9_standing_4 (σ : St) (K : Int32 → Prop)  (Φ4 : Int32 → Int32 → Prop) (v1 : Int32) (v2 : Int32) : Prop :=
(vp_in 0 5280 ∧
(if (σ.1 1 (0 : Int32).toNatClampNeg) ≤ v2 then
K v1
else
(vp_in (14 + v2) 5280 ∧
(if (σ.1 1 (14 + v2).toNatClampNeg) = 20 then
J_X9_standing_34 v2 v1 1 σ K Φ4
else
J_X9_standing_34 v2 v1 0 σ K Φ4))))
def L_X9_standing_4 (σ : St) (K : Int32 → Prop)  (v1 : Int32) (v2 : Int32) : Prop := wl2 (B_X9_standing_4 σ K) v1 v2
def wp_X9_standing (σ : St) (K : Int32 → Prop) : Prop :=
L_X9_standing_4 σ K 0 0
-- BellBalanceModel.thereOf([II)I
def J_X9_thereOf_21 (k0 : Nat) (n0 : Nat) (v1 : Int32) (v3 : Int32) (w0 : Int32) (w1 : Int32) (σ : St) (K : Int32 → Prop) (Φ4 : Int32 → Int32 → Prop) : Prop :=
Φ4 (w0 + w1) (v3 + 1)
def B_X9_thereOf_4 (k0 : Nat) (n0 : Nat) (v1 : Int32) (σ : St) (K : Int32 → Prop)  (Φ4 : Int32 → Int32 → Prop) (v2 : Int32) (v3 : Int32) : Prop :=
(if v1 ≤ v3 then
K v2
else
(vp_in v3 n0 ∧
(if 0 ≤ (σ.1 k0 v3.toNatClampNeg) then
J_X9_thereOf_21 k0 n0 v1 v3 v2 1 σ K Φ4
else
J_X9_thereOf_21 k0 n0 v1 v3 v2 0 σ K Φ4)))
def L_X9_thereOf_4 (k0 : Nat) (n0 : Nat) (v1 : Int32) (σ : St) (K : Int32 → Prop)  (v2 : Int32) (v3 : Int32) : Prop := wl2 (B_X9_thereOf_4 k0 n0 v1 σ K) v2 v3
def wp_X9_thereOf (k0 : Nat) (n0 : Nat) (v1 : Int32) (σ : St) (K : Int32 → Prop) : Prop :=
L_X9_thereOf_4 k0 n0 v1 σ K 0 0
-- BellBalanceModel.count(I)I
def wp_X9_count (v1 : Int32) (σ : St) (K : Int32 → Prop) : Prop :=
(if v1 = 0 then
(vp_in 0 5280 ∧
K (σ.1 1 (0 : Int32).toNatClampNeg))
else
(if v1 = 1 then
(vp_in 1 5280 ∧
K (σ.1 1 (1 : Int32).toNatClampNeg))
else
(if v1 = 2 then
K (σ.1 0 1)
else
(if v1 = 3 then
(vp_in 0 5280 ∧
wp_X9_sounds σ (fun r78 =>
K ((σ.1 1 (0 : Int32).toNatClampNeg) - r78)))
else
(if v1 = 4 then
wp_X9_standing σ (fun r84 =>
K r84)
else
(if v1 = 5 then
wp_X9_heavies σ (fun r89 =>
K r89)
else
(if v1 = 6 then
wp_X9_thereOf 4 6 6 σ (fun r99 =>
K r99)
else
(if v1 = 7 then
wp_X9_thereOf 6 4 4 σ (fun r108 =>
K r108)
else
(if v1 = 8 then
wp_X9_thereOf 2 3 3 σ (fun r117 =>
K r117)
else
K (-1))))))))))
-- BellBalanceModel.damp(I)I
def wp_X9_damp (v1 : Int32) (σ : St) (K : Int32 → St → Prop) : Prop :=
wp_X9_in v1.toInt64 (0 : Int64) (3 : Int64) (fun r6 =>
(if r6 = 0 then
K (-1) σ
else
(vp_in 0 5280 ∧
(if (σ.1 1 (0 : Int32).toNatClampNeg) = 0 then
K (-4) σ
else
(vp_in 1 5280 ∧
(vp_in 1 5280 ∧
K (σ.1 1 (1 : Int32).toNatClampNeg) (uI σ 1 (1 : Int32).toNatClampNeg v1)))))))
-- BellBalanceModel.isSo(IIIII)Z
def J_X9_isSo_87 (v1 : Int32) (v2 : Int32) (v3 : Int32) (v5 : Int32) (v7 : Int32) (v8 : Int32) (w0 : Int32) (σ : St) (K : Int32 → Prop) (Φ10 : Int32 → Int32 → Int32 → Prop) : Prop :=
Φ10 w0 v7 (v8 + 2)
def J_X9_isSo_86 (v1 : Int32) (v2 : Int32) (v3 : Int32) (v5 : Int32) (v7 : Int32) (v8 : Int32) (σ : St) (K : Int32 → Prop) (Φ10 : Int32 → Int32 → Int32 → Prop) : Prop :=
J_X9_isSo_87 v1 v2 v3 v5 v7 v8 0 σ K Φ10
def J_X9_isSo_49 (v1 : Int32) (v2 : Int32) (v3 : Int32) (v5 : Int32) (v6 : Int32) (v8 : Int32) (w0 : Int32) (σ : St) (K : Int32 → Prop) (Φ10 : Int32 → Int32 → Int32 → Prop) : Prop :=
(if v6 = 0 then
J_X9_isSo_86 v1 v2 v3 v5 w0 v8 σ K Φ10
else
wp_X9_tenthsOf v2 v3 w0 v5 (fun r62 =>
(vp_in (((40 * v1) + v8) + 1) 240 ∧
(if r62 = (σ.1 3 (((40 * v1) + v8) + 1).toNatClampNeg) then
J_X9_isSo_87 v1 v2 v3 v5 w0 v8 1 σ K Φ10
else
J_X9_isSo_86 v1 v2 v3 v5 w0 v8 σ K Φ10))))
def B_X9_isSo_10 (v1 : Int32) (v2 : Int32) (v3 : Int32) (v5 : Int32) (σ : St) (K : Int32 → Prop)  (Φ10 : Int32 → Int32 → Int32 → Prop) (v6 : Int32) (v7 : Int32) (v8 : Int32) : Prop :=
(vp_in v1 6 ∧
(if (σ.1 4 v1.toNatClampNeg) ≤ v8 then
(zok v6 ∧ K v6)
else
(if v7 = (-1) then
J_X9_isSo_49 v1 v2 v3 v5 v6 v8 (-1) σ K Φ10
else
(vp_in ((40 * v1) + v8) 240 ∧
wp_X9_after v2 v7 (σ.1 3 ((40 * v1) + v8).toNatClampNeg) (fun r46 =>
J_X9_isSo_49 v1 v2 v3 v5 v6 v8 r46 σ K Φ10)))))
def L_X9_isSo_10 (v1 : Int32) (v2 : Int32) (v3 : Int32) (v5 : Int32) (σ : St) (K : Int32 → Prop)  (v6 : Int32) (v7 : Int32) (v8 : Int32) : Prop := wl3 (B_X9_isSo_10 v1 v2 v3 v5 σ K) v6 v7 v8
def wp_X9_isSo (v1 : Int32) (v2 : Int32) (v3 : Int32) (v4 : Int32) (v5 : Int32) (σ : St) (K : Int32 → Prop) : Prop :=
L_X9_isSo_10 v1 v2 v3 v5 σ K 1 v4 0
-- BellBalanceModel.damps(II)I
def J_X9_damps_71 (v1 : Int32) (v2 : Int32) (v5 : Int32) (w0 : Int32) (w1 : Int32) (σ : St) (K : Int32 → St → Prop) (Φ19 : Int32 → Int32 → Prop) : Prop :=
Φ19 (w0 ||| w1) (v5 + 1)
def B_X9_damps_19 (v1 : Int32) (v2 : Int32) (σ : St) (K : Int32 → St → Prop)  (Φ19 : Int32 → Int32 → Prop) (v4 : Int32) (v5 : Int32) : Prop :=
(if 4 ≤ v5 then
K v4 σ
else
(vp_in (2 + v1) 5280 ∧
(vp_in (8 + v1) 5280 ∧
(vp_in (14 + v1) 5280 ∧
wp_X9_isSo v2 (σ.1 1 (2 + v1).toNatClampNeg) (σ.1 1 (8 + v1).toNatClampNeg) (σ.1 1 (14 + v1).toNatClampNeg) v5 σ (fun r57 =>
(if r57 = 0 then
J_X9_damps_71 v1 v2 v5 v4 0 σ K Φ19
else
J_X9_damps_71 v1 v2 v5 v4 (shl 1 v5) σ K Φ19))))))
def L_X9_damps_19 (v1 : Int32) (v2 : Int32) (σ : St) (K : Int32 → St → Prop)  (v4 : Int32) (v5 : Int32) : Prop := wl2 (B_X9_damps_19 v1 v2 σ K) v4 v5
def wp_X9_damps (v1 : Int32) (v2 : Int32) (σ : St) (K : Int32 → St → Prop) : Prop :=
wp_X9_againstPairs v1 v2 σ (fun r3 t3 =>
(if 0 ≤ r3 then
L_X9_damps_19 v1 v2 t3 K 0 0
else
K r3 t3))
-- BellBalanceModel.mix(J)V
def wp_X9_mix (v1 : Int64) (σ : St) (K : St → Prop) : Prop :=
K (uL σ 0 27 (((31 : Int64) * (σ.2 0 27)) + v1))
-- BellBalanceModel.digest()J
def B_X9_digest_177 (v1 : Int32) (K : Int64 → St → Prop) (Φ159 : Int32 → St → Prop) (Φ177 : Int32 → St → Prop) (v2 : Int32) (σ : St) : Prop :=
(vp_in v1 4 ∧
(if (σ.1 6 v1.toNatClampNeg) ≤ v2 then
Φ159 (v1 + 1) σ
else
(vp_in ((60 * v1) + v2) 240 ∧
wp_X9_mix ((σ.1 5 ((60 * v1) + v2).toNatClampNeg).toInt64) σ (fun t200 =>
Φ177 (v2 + 1) t200))))
def L_X9_digest_177 (v1 : Int32) (K : Int64 → St → Prop) (Φ159 : Int32 → St → Prop) (v2 : Int32) (σ : St) : Prop := wl2 (B_X9_digest_177 v1 K Φ159) v2 σ
def B_X9_digest_159  (K : Int64 → St → Prop)  (Φ159 : Int32 → St → Prop) (v1 : Int32) (σ : St) : Prop :=
(if 4 ≤ v1 then
K (σ.2 0 27) σ
else
(vp_in v1 4 ∧
wp_X9_mix ((σ.1 6 v1.toNatClampNeg).toInt64) σ (fun t172 =>
L_X9_digest_177 v1 K Φ159 0 t172)))
def L_X9_digest_159  (K : Int64 → St → Prop)  (v1 : Int32) (σ : St) : Prop := wl2 (B_X9_digest_159 K) v1 σ
def B_X9_digest_119 (v1 : Int32) (K : Int64 → St → Prop) (Φ100 : Int32 → St → Prop) (Φ119 : Int32 → St → Prop) (v2 : Int32) (σ : St) : Prop :=
(vp_in v1 6 ∧
(if (σ.1 4 v1.toNatClampNeg) ≤ v2 then
Φ100 (v1 + 1) σ
else
(vp_in ((40 * v1) + v2) 240 ∧
wp_X9_mix ((σ.1 3 ((40 * v1) + v2).toNatClampNeg).toInt64) σ (fun t142 =>
Φ119 (v2 + 1) t142))))
def L_X9_digest_119 (v1 : Int32) (K : Int64 → St → Prop) (Φ100 : Int32 → St → Prop) (v2 : Int32) (σ : St) : Prop := wl2 (B_X9_digest_119 v1 K Φ100) v2 σ
def B_X9_digest_100  (K : Int64 → St → Prop)  (Φ100 : Int32 → St → Prop) (v1 : Int32) (σ : St) : Prop :=
(if 6 ≤ v1 then
L_X9_digest_159 K 0 σ
else
(vp_in v1 6 ∧
wp_X9_mix ((σ.1 4 v1.toNatClampNeg).toInt64) σ (fun t114 =>
L_X9_digest_119 v1 K Φ100 0 t114)))
def L_X9_digest_100  (K : Int64 → St → Prop)  (v1 : Int32) (σ : St) : Prop := wl2 (B_X9_digest_100 K) v1 σ
def B_X9_digest_76  (K : Int64 → St → Prop)  (Φ76 : Int32 → St → Prop) (v1 : Int32) (σ : St) : Prop :=
(if 3 ≤ v1 then
L_X9_digest_100 K 0 σ
else
(vp_in v1 3 ∧
wp_X9_mix ((σ.1 2 v1.toNatClampNeg).toInt64) σ (fun t89 =>
Φ76 (v1 + 1) t89)))
def L_X9_digest_76  (K : Int64 → St → Prop)  (v1 : Int32) (σ : St) : Prop := wl2 (B_X9_digest_76 K) v1 σ
def B_X9_digest_45 (v1 : Int32) (K : Int64 → St → Prop) (Φ33 : Int32 → St → Prop) (Φ45 : Int32 → St → Prop) (v2 : Int32) (σ : St) : Prop :=
(if 6 ≤ v2 then
Φ33 (v1 + 1) σ
else
wp_X9_bellTells v1 v2 σ (fun r55 =>
wp_X9_mix r55.toInt64 σ (fun t59 =>
Φ45 (v2 + 1) t59)))
def L_X9_digest_45 (v1 : Int32) (K : Int64 → St → Prop) (Φ33 : Int32 → St → Prop) (v2 : Int32) (σ : St) : Prop := wl2 (B_X9_digest_45 v1 K Φ33) v2 σ
def B_X9_digest_33  (K : Int64 → St → Prop)  (Φ33 : Int32 → St → Prop) (v1 : Int32) (σ : St) : Prop :=
(vp_in 0 5280 ∧
(if (σ.1 1 (0 : Int32).toNatClampNeg) ≤ v1 then
L_X9_digest_76 K 0 σ
else
L_X9_digest_45 v1 K Φ33 0 σ))
def L_X9_digest_33  (K : Int64 → St → Prop)  (v1 : Int32) (σ : St) : Prop := wl2 (B_X9_digest_33 K) v1 σ
def B_X9_digest_9  (K : Int64 → St → Prop)  (Φ9 : Int32 → St → Prop) (v1 : Int32) (σ : St) : Prop :=
(if 9 ≤ v1 then
L_X9_digest_33 K 0 σ
else
wp_X9_count v1 σ (fun r18 =>
wp_X9_mix r18.toInt64 σ (fun t22 =>
Φ9 (v1 + 1) t22)))
def L_X9_digest_9  (K : Int64 → St → Prop)  (v1 : Int32) (σ : St) : Prop := wl2 (B_X9_digest_9 K) v1 σ
def wp_X9_digest (σ : St) (K : Int64 → St → Prop) : Prop :=
L_X9_digest_9 K 0 (uL σ 0 27 (17 : Int64))
-- BellBalanceModel.drops(I)I
def J_X9_drops_76 (w0 : Int32) (σ : St) (K : Int32 → Prop)  : Prop :=
K w0
def J_X9_drops_64 (v3 : Int32) (σ : St) (K : Int32 → Prop)  : Prop :=
(if v3 ≤ 30 then
J_X9_drops_76 v3 σ K
else
J_X9_drops_76 (-9) σ K)
def B_X9_drops_33 (v1 : Int32) (σ : St) (K : Int32 → Prop)  (Φ33 : Int32 → Int32 → Prop) (v2 : Int32) (v3 : Int32) : Prop :=
(if v2 < 5 then
J_X9_drops_64 v3 σ K
else
(if 30 < v3 then
J_X9_drops_64 v3 σ K
else
(vp_in (2 + v1) 5280 ∧
wp_X9_after (σ.1 1 (2 + v1).toNatClampNeg) v2 0 (fun r54 =>
Φ33 r54 (v3 + 1)))))
def L_X9_drops_33 (v1 : Int32) (σ : St) (K : Int32 → Prop)  (v2 : Int32) (v3 : Int32) : Prop := wl2 (B_X9_drops_33 v1 σ K) v2 v3
def wp_X9_drops (v1 : Int32) (σ : St) (K : Int32 → Prop) : Prop :=
wp_X9_isBell v1 σ (fun r2 =>
(if r2 = 0 then
K (-1)
else
wp_X9_isOver v1 σ (fun r12 =>
(if r12 = 0 then
(vp_in (14 + v1) 5280 ∧
L_X9_drops_33 v1 σ K (σ.1 1 (14 + v1).toNatClampNeg) 0)
else
K (-4)))))
-- BellBalanceModel.heardSet()I
def B_X9_heardSet_4 (σ : St) (K : Int32 → Prop)  (Φ4 : Int32 → Int32 → Prop) (v1 : Int32) (v2 : Int32) : Prop :=
(if (σ.1 0 18) ≤ v2 then
K v1
else
(vp_in v2 6 ∧
Φ4 (v1 ||| (shl 1 (σ.1 11 v2.toNatClampNeg))) (v2 + 1)))
def L_X9_heardSet_4 (σ : St) (K : Int32 → Prop)  (v1 : Int32) (v2 : Int32) : Prop := wl2 (B_X9_heardSet_4 σ K) v1 v2
def wp_X9_heardSet (σ : St) (K : Int32 → Prop) : Prop :=
L_X9_heardSet_4 σ K 0 0
-- BellBalanceModel.laysPulls(I)V
def B_X9_laysPulls_2 (v1 : Int32) (K : St → Prop)  (Φ2 : Int32 → St → Prop) (v2 : Int32) (σ : St) : Prop :=
(vp_in 0 5280 ∧
(if (σ.1 1 (0 : Int32).toNatClampNeg) ≤ v2 then
wp_X9_rings σ (fun t36 =>
K t36)
else
(vp_in ((40 * v1) + v2) 240 ∧
(vp_in v2 6 ∧
Φ2 (v2 + 1) (uI σ 9 v2.toNatClampNeg (σ.1 3 ((40 * v1) + v2).toNatClampNeg))))))
def L_X9_laysPulls_2 (v1 : Int32) (K : St → Prop)  (v2 : Int32) (σ : St) : Prop := wl2 (B_X9_laysPulls_2 v1 K) v2 σ
def wp_X9_laysPulls (v1 : Int32) (σ : St) (K : St → Prop) : Prop :=
L_X9_laysPulls_2 v1 K 0 σ
-- BellBalanceModel.error(I)I
def wp_X9_error (v1 : Int32) (σ : St) (K : Int32 → St → Prop) : Prop :=
wp_X9_against v1 σ (fun r2 t2 =>
(if 0 ≤ r2 then
wp_X9_laysPulls v1 t2 (fun t14 =>
wp_X9_heardSet t14 (fun r19 =>
wp_X9_errorNow t14 (fun r23 =>
wp_X9_tells r19 r23 t14 (fun r26 t26 =>
K r26 t26))))
else
K r2 t2))
-- BellBalanceModel.even(I)I
def J_X9_even_58 (v1 : Int32) (v2 : Int32) (σ : St) (K : Int32 → St → Prop) (Φ30 : Int32 → Int32 → St → Prop) : Prop :=
wp_X9_isNext σ (fun r59 t59 =>
Φ30 v2 r59 t59)
def B_X9_even_30 (v1 : Int32) (K : Int32 → St → Prop)  (Φ30 : Int32 → Int32 → St → Prop) (v2 : Int32) (v3 : Int32) (σ : St) : Prop :=
(if v3 = 0 then
(if v2 = 1000000 then
K (-9) σ
else
wp_X9_tellsBest v1 σ (fun t77 =>
K v2 t77))
else
wp_X9_isAll σ (fun r35 t35 =>
(if r35 = 0 then
J_X9_even_58 v1 v2 t35 K Φ30
else
wp_X9_errorNow t35 (fun r42 =>
(if v2 ≤ r42 then
J_X9_even_58 v1 v2 t35 K Φ30
else
wp_X9_errorNow t35 (fun r50 =>
wp_X9_keepsBest t35 (fun t55 =>
J_X9_even_58 v1 r50 t55 K Φ30)))))))
def L_X9_even_30 (v1 : Int32) (K : Int32 → St → Prop)  (v2 : Int32) (v3 : Int32) (σ : St) : Prop := wl3 (B_X9_even_30 v1 K) v2 v3 σ
def wp_X9_even (v1 : Int32) (σ : St) (K : Int32 → St → Prop) : Prop :=
wp_X9_isRow v1 (fun r1 =>
(if r1 = 0 then
K (-1) σ
else
(vp_in 0 5280 ∧
(if (σ.1 1 (0 : Int32).toNatClampNeg) = 0 then
K (-4) σ
else
wp_X9_begins σ (fun t25 =>
L_X9_even_30 v1 K 1000000 1 t25)))))
-- BellBalanceModel.figure(III)I
def wp_X9_figure (v1 : Int32) (v2 : Int32) (v3 : Int32) (σ : St) (K : Int32 → St → Prop) : Prop :=
wp_X9_byteAt v1 (σ.1 0 13) σ (fun r6 =>
wp_X9_in ((r6 - 48).toInt64) v2.toInt64 v3.toInt64 (fun r21 =>
(if r21 = 0 then
K (-1) σ
else
K (r6 - 48) (uI σ 0 13 ((σ.1 0 13) + 1)))))
-- BellBalanceModel.kindOf(I)I
def J_X9_kindOf_61 (w0 : Int32) (K : Int32 → Prop)  : Prop :=
K w0
def wp_X9_kindOf (v0 : Int32) (K : Int32 → Prop) : Prop :=
(if v0 = 98 then
J_X9_kindOf_61 0 K
else
(if v0 = 104 then
J_X9_kindOf_61 1 K
else
(if v0 = 113 then
J_X9_kindOf_61 2 K
else
(if v0 = 110 then
J_X9_kindOf_61 3 K
else
(if v0 = 103 then
J_X9_kindOf_61 4 K
else
(if v0 = 116 then
J_X9_kindOf_61 5 K
else
J_X9_kindOf_61 (-1) K))))))
-- BellBalanceModel.takesBell(I)Z
def J_X9_takesBell_32 (σ : St) (K : Int32 → St → Prop)  : Prop :=
K 0 σ
def J_X9_takesBell_99 (v2 : Int32) (v3 : Int32) (v4 : Int32) (v5 : Int32) (w0 : Int32) (σ : St) (K : Int32 → St → Prop)  : Prop :=
(if 0 ≤ w0 then
(vp_in (5250 + v3) 5280 ∧
(vp_in (5256 + v3) 5280 ∧
(vp_in (5262 + v3) 5280 ∧
(vp_in 5248 5280 ∧
(vp_in 5248 5280 ∧
K 1 (uI (uI (uI (uI σ 1 (5250 + v3).toNatClampNeg v2) 1 (5256 + v3).toNatClampNeg v4) 1 (5262 + v3).toNatClampNeg ((10 * v5) + w0)) 1 (5248 : Int32).toNatClampNeg (((uI (uI (uI σ 1 (5250 + v3).toNatClampNeg v2) 1 (5256 + v3).toNatClampNeg v4) 1 (5262 + v3).toNatClampNeg ((10 * v5) + w0)).1 1 (5248 : Int32).toNatClampNeg) + 1)))))))
else
K 0 σ)
def J_X9_takesBell_96 (v2 : Int32) (v3 : Int32) (v4 : Int32) (v5 : Int32) (w1 : Int32) (w2 : Int32) (w3 : Int32) (σ : St) (K : Int32 → St → Prop)  : Prop :=
wp_X9_figure w1 w2 w3 σ (fun r96 t96 =>
J_X9_takesBell_99 v2 v3 v4 v5 r96 t96 K)
def J_X9_takesBell_70 (v1 : Int32) (v2 : Int32) (v3 : Int32) (v4 : Int32) (w0 : Int32) (σ : St) (K : Int32 → St → Prop)  : Prop :=
(if 0 ≤ w0 then
(if w0 = 2 then
J_X9_takesBell_96 v2 v3 v4 w0 v1 0 0 σ K
else
J_X9_takesBell_96 v2 v3 v4 w0 v1 0 9 σ K)
else
J_X9_takesBell_99 v2 v3 v4 w0 (-1) σ K)
def wp_X9_takesBell (v1 : Int32) (σ : St) (K : Int32 → St → Prop) : Prop :=
wp_X9_byteAt v1 (σ.1 0 13) σ (fun r6 =>
wp_X9_kindOf r6 (fun r9 =>
(vp_in 5248 5280 ∧
(if r9 < 0 then
J_X9_takesBell_32 σ K
else
(if (σ.1 1 (5248 : Int32).toNatClampNeg) = 6 then
J_X9_takesBell_32 σ K
else
wp_X9_figure v1 1 9 (uI σ 0 13 ((σ.1 0 13) + 1)) (fun r49 t49 =>
(if 0 ≤ r49 then
wp_X9_figure v1 0 2 t49 (fun r67 t67 =>
J_X9_takesBell_70 v1 r9 (σ.1 1 (5248 : Int32).toNatClampNeg) r49 r67 t67 K)
else
J_X9_takesBell_70 v1 r9 (σ.1 1 (5248 : Int32).toNatClampNeg) r49 (-1) t49 K)))))))
-- BellBalanceModel.faultOf(I)I
def J_X9_faultOf_119 (v1 : Int32) (σ : St) (K : Int32 → St → Prop) (Φ95 : St → Prop) : Prop :=
wp_X9_takesBell v1 σ (fun r121 t121 =>
(if r121 = 0 then
K (t121.1 0 13) t121
else
wp_X9_blanks v1 t121 (fun t134 =>
Φ95 t134)))
def B_X9_faultOf_95 (v1 : Int32) (K : Int32 → St → Prop)  (Φ95 : St → Prop) (σ : St) : Prop :=
(vp_in v1 4 ∧
(if (σ.1 0 13) < (σ.1 6 v1.toNatClampNeg) then
J_X9_faultOf_119 v1 σ K Φ95
else
(vp_in 5248 5280 ∧
(if (σ.1 1 (5248 : Int32).toNatClampNeg) = 0 then
J_X9_faultOf_119 v1 σ K Φ95
else
K (-9) σ))))
def L_X9_faultOf_95 (v1 : Int32) (K : Int32 → St → Prop)  (σ : St) : Prop := wl1 (B_X9_faultOf_95 v1 K) σ
def B_X9_faultOf_2 (v1 : Int32) (K : Int32 → St → Prop)  (Φ2 : Int32 → St → Prop) (v2 : Int32) (σ : St) : Prop :=
(if 32 ≤ v2 then
wp_X9_blanks v1 (uI σ 0 13 0) (fun t32 =>
wp_X9_byteAt v1 (t32.1 0 13) t32 (fun r41 =>
(if r41 = 100 then
wp_X9_figure v1 0 3 (uI t32 0 13 ((t32.1 0 13) + 1)) (fun r68 t68 =>
(if 0 ≤ r68 then
(vp_in 5249 5280 ∧
wp_X9_blanks v1 (uI t68 1 (5249 : Int32).toNatClampNeg r68) (fun t92 =>
L_X9_faultOf_95 v1 K t92))
else
K (t68.1 0 13) t68))
else
K (t32.1 0 13) t32)))
else
(vp_in (5248 + v2) 5280 ∧
Φ2 (v2 + 1) (uI σ 1 (5248 + v2).toNatClampNeg 0)))
def L_X9_faultOf_2 (v1 : Int32) (K : Int32 → St → Prop)  (v2 : Int32) (σ : St) : Prop := wl2 (B_X9_faultOf_2 v1 K) v2 σ
def wp_X9_faultOf (v1 : Int32) (σ : St) (K : Int32 → St → Prop) : Prop :=
L_X9_faultOf_2 v1 K 0 σ
-- BellBalanceModel.isText(I)Z
def wp_X9_isText (v0 : Int32) (K : Int32 → Prop) : Prop :=
wp_X9_in v0.toInt64 (0 : Int64) (3 : Int64) (fun r6 =>
(zok r6 ∧ K r6))
-- BellBalanceModel.fault(I)I
def J_X9_fault_31 (w0 : Int32) (σ : St) (K : Int32 → St → Prop)  : Prop :=
K w0 σ
def wp_X9_fault (v1 : Int32) (σ : St) (K : Int32 → St → Prop) : Prop :=
wp_X9_isText v1 (fun r1 =>
(if r1 = 0 then
K (-1) σ
else
(vp_in v1 4 ∧
(if 0 ≤ (σ.1 6 v1.toNatClampNeg) then
wp_X9_faultOf v1 σ (fun r28 t28 =>
J_X9_fault_31 r28 t28 K)
else
wp_X9_found 1 σ (fun r20 t20 =>
J_X9_fault_31 r20 t20 K)))))
-- BellBalanceModel.finding()I
def wp_X9_finding (σ : St) (K : Int32 → Prop) : Prop :=
K (σ.1 0 8)
-- BellBalanceModel.findings(I)I
def J_X9_findings_22 (w0 : Int32) (σ : St) (K : Int32 → Prop)  : Prop :=
K w0
def wp_X9_findings (v1 : Int32) (σ : St) (K : Int32 → Prop) : Prop :=
wp_X9_in v1.toInt64 (1 : Int64) (5 : Int64) (fun r6 =>
(if r6 = 0 then
J_X9_findings_22 (-1) σ K
else
(vp_in v1 6 ∧
J_X9_findings_22 (σ.1 8 v1.toNatClampNeg) σ K)))
-- BellBalanceModel.layGame(II)V
def J_X9_layGame_177 (v1 : Int32) (v2 : Int32) (v3 : Int32) (v4 : Int32) (v6 : Int32) (σ : St) (K : St → Prop) (Φ2 : Int32 → St → Prop) (Φ12 : Int32 → St → Prop) : Prop :=
(vp_in ((21 * v3) + v4) 147 ∧
Φ12 (v4 + 1) (uI σ 17 ((21 * v3) + v4).toNatClampNeg (vp_nar .boolean v6)))
def J_X9_layGame_169 (v1 : Int32) (v2 : Int32) (v3 : Int32) (v4 : Int32) (v5 : Int32) (v7 : Int32) (w0 : Int32) (σ : St) (K : St → Prop) (Φ2 : Int32 → St → Prop) (Φ12 : Int32 → St → Prop) (Φ66 : Int32 → Int32 → Prop) : Prop :=
Φ66 w0 (v7 + 1)
def J_X9_layGame_168 (v1 : Int32) (v2 : Int32) (v3 : Int32) (v4 : Int32) (v5 : Int32) (v7 : Int32) (σ : St) (K : St → Prop) (Φ2 : Int32 → St → Prop) (Φ12 : Int32 → St → Prop) (Φ66 : Int32 → Int32 → Prop) : Prop :=
J_X9_layGame_169 v1 v2 v3 v4 v5 v7 0 σ K Φ2 Φ12 Φ66
def J_X9_layGame_146 (v1 : Int32) (v2 : Int32) (v3 : Int32) (v4 : Int32) (v5 : Int32) (v7 : Int32) (σ : St) (K : St → Prop) (Φ2 : Int32 → St → Prop) (Φ12 : Int32 → St → Prop) (Φ66 : Int32 → Int32 → Prop) : Prop :=
J_X9_layGame_169 v1 v2 v3 v4 v5 v7 1 σ K Φ2 Φ12 Φ66
def J_X9_layGame_129 (v1 : Int32) (v2 : Int32) (v3 : Int32) (v4 : Int32) (v5 : Int32) (v6 : Int32) (v7 : Int32) (w0 : Int32) (σ : St) (K : St → Prop) (Φ2 : Int32 → St → Prop) (Φ12 : Int32 → St → Prop) (Φ66 : Int32 → Int32 → Prop) : Prop :=
(if v5 = 0 then
(if v6 = 0 then
J_X9_layGame_168 v1 v2 v3 v4 v5 v7 σ K Φ2 Φ12 Φ66
else
(if w0 = 0 then
J_X9_layGame_168 v1 v2 v3 v4 v5 v7 σ K Φ2 Φ12 Φ66
else
J_X9_layGame_169 v1 v2 v3 v4 v5 v7 1 σ K Φ2 Φ12 Φ66))
else
(if v6 = 0 then
(if w0 = 0 then
J_X9_layGame_169 v1 v2 v3 v4 v5 v7 0 σ K Φ2 Φ12 Φ66
else
J_X9_layGame_146 v1 v2 v3 v4 v5 v7 σ K Φ2 Φ12 Φ66)
else
J_X9_layGame_146 v1 v2 v3 v4 v5 v7 σ K Φ2 Φ12 Φ66))
def J_X9_layGame_79 (v1 : Int32) (v2 : Int32) (v3 : Int32) (v4 : Int32) (v5 : Int32) (v6 : Int32) (v7 : Int32) (w0 : Int32) (w1 : Int32) (σ : St) (K : St → Prop) (Φ2 : Int32 → St → Prop) (Φ12 : Int32 → St → Prop) (Φ66 : Int32 → Int32 → Prop) : Prop :=
(if w1 ≤ w0 then
J_X9_layGame_177 v1 v2 v3 v4 v6 σ K Φ2 Φ12
else
(if v3 ≤ 0 then
J_X9_layGame_177 v1 v2 v3 v4 v6 σ K Φ2 Φ12
else
wp_X9_after v1 v4 v7 (fun r91 =>
(if r91 = (-1) then
(if v5 = 0 then
J_X9_layGame_129 v1 v2 v3 v4 v5 v6 v7 1 σ K Φ2 Φ12 Φ66
else
J_X9_layGame_129 v1 v2 v3 v4 v5 v6 v7 0 σ K Φ2 Φ12 Φ66)
else
(vp_in ((21 * (v3 - 1)) + r91) 147 ∧
J_X9_layGame_129 v1 v2 v3 v4 v5 v6 v7 (σ.1 17 ((21 * (v3 - 1)) + r91).toNatClampNeg) σ K Φ2 Φ12 Φ66)))))
def B_X9_layGame_66 (v1 : Int32) (v2 : Int32) (v3 : Int32) (v4 : Int32) (v5 : Int32) (σ : St) (K : St → Prop) (Φ2 : Int32 → St → Prop) (Φ12 : Int32 → St → Prop) (Φ66 : Int32 → Int32 → Prop) (v6 : Int32) (v7 : Int32) : Prop :=
(if v5 = 0 then
J_X9_layGame_79 v1 v2 v3 v4 v5 v6 v7 v7 4 σ K Φ2 Φ12 Φ66
else
J_X9_layGame_79 v1 v2 v3 v4 v5 v6 v7 v7 7 σ K Φ2 Φ12 Φ66)
def L_X9_layGame_66 (v1 : Int32) (v2 : Int32) (v3 : Int32) (v4 : Int32) (v5 : Int32) (σ : St) (K : St → Prop) (Φ2 : Int32 → St → Prop) (Φ12 : Int32 → St → Prop) (v6 : Int32) (v7 : Int32) : Prop := wl2 (B_X9_layGame_66 v1 v2 v3 v4 v5 σ K Φ2 Φ12) v6 v7
def J_X9_layGame_61 (v1 : Int32) (v2 : Int32) (v3 : Int32) (v4 : Int32) (v5 : Int32) (w0 : Int32) (σ : St) (K : St → Prop) (Φ2 : Int32 → St → Prop) (Φ12 : Int32 → St → Prop) : Prop :=
L_X9_layGame_66 v1 v2 v3 v4 v5 σ K Φ2 Φ12 w0 0
def J_X9_layGame_30 (v1 : Int32) (v2 : Int32) (v3 : Int32) (v4 : Int32) (w0 : Int32) (σ : St) (K : St → Prop) (Φ2 : Int32 → St → Prop) (Φ12 : Int32 → St → Prop) : Prop :=
(if v3 = 0 then
(if v4 = 20 then
J_X9_layGame_61 v1 v2 v3 v4 w0 1 σ K Φ2 Φ12
else
J_X9_layGame_61 v1 v2 v3 v4 w0 0 σ K Φ2 Φ12)
else
(if w0 = 0 then
J_X9_layGame_61 v1 v2 v3 v4 w0 1 σ K Φ2 Φ12
else
J_X9_layGame_61 v1 v2 v3 v4 w0 0 σ K Φ2 Φ12))
def B_X9_layGame_12 (v1 : Int32) (v2 : Int32) (v3 : Int32) (K : St → Prop) (Φ2 : Int32 → St → Prop) (Φ12 : Int32 → St → Prop) (v4 : Int32) (σ : St) : Prop :=
(if 20 < v4 then
Φ2 (v3 + 1) σ
else
(if (irm v3 2) = 0 then
J_X9_layGame_30 v1 v2 v3 v4 1 σ K Φ2 Φ12
else
J_X9_layGame_30 v1 v2 v3 v4 0 σ K Φ2 Φ12))
def L_X9_layGame_12 (v1 : Int32) (v2 : Int32) (v3 : Int32) (K : St → Prop) (Φ2 : Int32 → St → Prop) (v4 : Int32) (σ : St) : Prop := wl2 (B_X9_layGame_12 v1 v2 v3 K Φ2) v4 σ
def B_X9_layGame_2 (v1 : Int32) (v2 : Int32) (K : St → Prop)  (Φ2 : Int32 → St → Prop) (v3 : Int32) (σ : St) : Prop :=
(if (2 * v2) < v3 then
K σ
else
L_X9_layGame_12 v1 v2 v3 K Φ2 0 σ)
def L_X9_layGame_2 (v1 : Int32) (v2 : Int32) (K : St → Prop)  (v3 : Int32) (σ : St) : Prop := wl2 (B_X9_layGame_2 v1 v2 K) v3 σ
def wp_X9_layGame (v1 : Int32) (v2 : Int32) (σ : St) (K : St → Prop) : Prop :=
L_X9_layGame_2 v1 v2 K 0 σ
-- BellBalanceModel.first(II)I
def J_X9_first_20 (σ : St) (K : Int32 → St → Prop)  : Prop :=
K (-1) σ
def J_X9_first_104 (v1 : Int32) (v2 : Int32) (v3 : Int32) (σ : St) (K : Int32 → St → Prop) (Φ48 : Int32 → Prop) : Prop :=
Φ48 (v3 + 1)
def B_X9_first_48 (v1 : Int32) (v2 : Int32) (σ : St) (K : Int32 → St → Prop)  (Φ48 : Int32 → Prop) (v3 : Int32) : Prop :=
(if 7 ≤ v3 then
K (-9) σ
else
(vp_in (2 + v1) 5280 ∧
(vp_in (14 + v1) 5280 ∧
wp_X9_after (σ.1 1 (2 + v1).toNatClampNeg) (σ.1 1 (14 + v1).toNatClampNeg) v3 (fun r72 =>
(if r72 = (-1) then
J_X9_first_104 v1 v2 v3 σ K Φ48
else
(vp_in ((21 * ((2 * v2) - 1)) + r72) 147 ∧
(if (σ.1 17 ((21 * ((2 * v2) - 1)) + r72).toNatClampNeg) = 0 then
J_X9_first_104 v1 v2 v3 σ K Φ48
else
K v3 σ)))))))
def L_X9_first_48 (v1 : Int32) (v2 : Int32) (σ : St) (K : Int32 → St → Prop)  (v3 : Int32) : Prop := wl1 (B_X9_first_48 v1 v2 σ K) v3
def wp_X9_first (v1 : Int32) (v2 : Int32) (σ : St) (K : Int32 → St → Prop) : Prop :=
wp_X9_isBell v1 σ (fun r2 =>
(if r2 = 0 then
J_X9_first_20 σ K
else
wp_X9_in v2.toInt64 (1 : Int64) (3 : Int64) (fun r14 =>
(if r14 = 0 then
J_X9_first_20 σ K
else
wp_X9_isOver v1 σ (fun r24 =>
(if r24 = 0 then
(vp_in (2 + v1) 5280 ∧
wp_X9_layGame (σ.1 1 (2 + v1).toNatClampNeg) v2 σ (fun t43 =>
L_X9_first_48 v1 v2 t43 K 0))
else
K (-4) σ))))))
-- BellBalanceModel.game(II)I
def J_X9_game_20 (σ : St) (K : Int32 → St → Prop)  : Prop :=
K (-1) σ
def J_X9_game_73 (w0 : Int32) (σ : St) (K : Int32 → St → Prop)  : Prop :=
K w0 σ
def wp_X9_game (v1 : Int32) (v2 : Int32) (σ : St) (K : Int32 → St → Prop) : Prop :=
wp_X9_isBell v1 σ (fun r2 =>
(if r2 = 0 then
J_X9_game_20 σ K
else
wp_X9_in v2.toInt64 (0 : Int64) (3 : Int64) (fun r14 =>
(if r14 = 0 then
J_X9_game_20 σ K
else
wp_X9_isOver v1 σ (fun r24 =>
(if r24 = 0 then
(vp_in (2 + v1) 5280 ∧
wp_X9_layGame (σ.1 1 (2 + v1).toNatClampNeg) v2 σ (fun t43 =>
(vp_in (14 + v1) 5280 ∧
(vp_in ((42 * v2) + (t43.1 1 (14 + v1).toNatClampNeg)) 147 ∧
(if (t43.1 17 ((42 * v2) + (t43.1 1 (14 + v1).toNatClampNeg)).toNatClampNeg) = 0 then
J_X9_game_73 0 t43 K
else
J_X9_game_73 1 t43 K)))))
else
K (-4) σ))))))
-- BellBalanceModel.heard(II)I
def J_X9_heard_65 (w0 : Int32) (σ : St) (K : Int32 → St → Prop)  : Prop :=
K w0 σ
def wp_X9_heard (v1 : Int32) (v2 : Int32) (σ : St) (K : Int32 → St → Prop) : Prop :=
wp_X9_in v2.toInt64 (0 : Int64) (5 : Int64) (fun r6 =>
(if r6 = 0 then
K (-1) σ
else
wp_X9_against v1 σ (fun r16 t16 =>
(if 0 ≤ r16 then
wp_X9_laysPulls v1 t16 (fun t28 =>
(if (t28.1 0 18) ≤ v2 then
J_X9_heard_65 (-9) t28 K
else
(vp_in v2 6 ∧
(vp_in (t28.1 11 v2.toNatClampNeg) 6 ∧
(vp_in v2 6 ∧
wp_X9_tells (t28.1 10 (t28.1 11 v2.toNatClampNeg).toNatClampNeg) (t28.1 11 v2.toNatClampNeg) t28 (fun r57 t57 =>
J_X9_heard_65 r57 t57 K))))))
else
K r16 t16))))
-- BellBalanceModel.heights(II)I
def J_X9_heights_69 (v1 : Int32) (v2 : Int32) (v5 : Int32) (w0 : Int32) (w1 : Int32) (σ : St) (K : Int32 → St → Prop) (Φ19 : Int32 → Int32 → Prop) : Prop :=
Φ19 (w0 ||| w1) (v5 + 1)
def B_X9_heights_19 (v1 : Int32) (v2 : Int32) (σ : St) (K : Int32 → St → Prop)  (Φ19 : Int32 → Int32 → Prop) (v4 : Int32) (v5 : Int32) : Prop :=
(if 20 < v5 then
K v4 σ
else
(vp_in (2 + v1) 5280 ∧
(vp_in (8 + v1) 5280 ∧
(vp_in 1 5280 ∧
wp_X9_isSo v2 (σ.1 1 (2 + v1).toNatClampNeg) (σ.1 1 (8 + v1).toNatClampNeg) v5 (σ.1 1 (1 : Int32).toNatClampNeg) σ (fun r55 =>
(if r55 = 0 then
J_X9_heights_69 v1 v2 v5 v4 0 σ K Φ19
else
J_X9_heights_69 v1 v2 v5 v4 (shl 1 v5) σ K Φ19))))))
def L_X9_heights_19 (v1 : Int32) (v2 : Int32) (σ : St) (K : Int32 → St → Prop)  (v4 : Int32) (v5 : Int32) : Prop := wl2 (B_X9_heights_19 v1 v2 σ K) v4 v5
def wp_X9_heights (v1 : Int32) (v2 : Int32) (σ : St) (K : Int32 → St → Prop) : Prop :=
wp_X9_againstPairs v1 v2 σ (fun r3 t3 =>
(if 0 ≤ r3 then
L_X9_heights_19 v1 v2 t3 K 0 0
else
K r3 t3))
-- BellBalanceModel.strikesBy(III)I
def wp_X9_strikesBy (v1 : Int32) (v2 : Int32) (v3 : Int32) (σ : St) (K : Int32 → Prop) : Prop :=
(vp_in (2 + v1) 5280 ∧
wp_X9_after (σ.1 1 (2 + v1).toNatClampNeg) v2 v3 (fun r10 =>
(vp_in (2 + v1) 5280 ∧
(vp_in (8 + v1) 5280 ∧
(vp_in 1 5280 ∧
wp_X9_tenthsOf (σ.1 1 (2 + v1).toNatClampNeg) (σ.1 1 (8 + v1).toNatClampNeg) r10 (σ.1 1 (1 : Int32).toNatClampNeg) (fun r40 =>
K r40))))))
-- BellBalanceModel.hold(II)I
def J_X9_hold_20 (σ : St) (K : Int32 → St → Prop)  : Prop :=
K (-1) σ
def J_X9_hold_153 (w0 : Int32) (σ : St) (K : Int32 → St → Prop)  : Prop :=
K w0 σ
def J_X9_hold_127 (v1 : Int32) (v2 : Int32) (v3 : Int32) (v5 : Int32) (w0 : Int32) (σ : St) (K : Int32 → St → Prop) (Φ43 : Int32 → Int32 → Int32 → Prop) : Prop :=
Φ43 v3 w0 (v5 + 1)
def J_X9_hold_112 (v1 : Int32) (v2 : Int32) (v4 : Int32) (v5 : Int32) (v7 : Int32) (w0 : Int32) (σ : St) (K : Int32 → St → Prop) (Φ43 : Int32 → Int32 → Int32 → Prop) : Prop :=
(if v4 ≤ v7 then
J_X9_hold_127 v1 v2 w0 v5 v4 σ K Φ43
else
J_X9_hold_127 v1 v2 w0 v5 v7 σ K Φ43)
def J_X9_hold_97 (v1 : Int32) (v2 : Int32) (v3 : Int32) (v4 : Int32) (v5 : Int32) (w0 : Int32) (σ : St) (K : Int32 → St → Prop) (Φ43 : Int32 → Int32 → Int32 → Prop) : Prop :=
(if v4 ≤ w0 then
J_X9_hold_112 v1 v2 v4 v5 w0 v3 σ K Φ43
else
J_X9_hold_112 v1 v2 v4 v5 w0 v5 σ K Φ43)
def B_X9_hold_43 (v1 : Int32) (v2 : Int32) (σ : St) (K : Int32 → St → Prop)  (Φ43 : Int32 → Int32 → Int32 → Prop) (v3 : Int32) (v4 : Int32) (v5 : Int32) : Prop :=
(if 7 ≤ v5 then
(if v3 = (-9) then
J_X9_hold_153 (-9) σ K
else
wp_X9_tells v4 v3 σ (fun r150 t150 =>
J_X9_hold_153 r150 t150 K))
else
(vp_in (14 + v1) 5280 ∧
wp_X9_strikesBy v1 (σ.1 1 (14 + v1).toNatClampNeg) v5 σ (fun r63 =>
(if r63 = (-9) then
J_X9_hold_97 v1 v2 v3 v4 v5 1000000 σ K Φ43
else
(if r63 ≤ v2 then
J_X9_hold_97 v1 v2 v3 v4 v5 (v2 - r63) σ K Φ43
else
J_X9_hold_97 v1 v2 v3 v4 v5 (r63 - v2) σ K Φ43)))))
def L_X9_hold_43 (v1 : Int32) (v2 : Int32) (σ : St) (K : Int32 → St → Prop)  (v3 : Int32) (v4 : Int32) (v5 : Int32) : Prop := wl3 (B_X9_hold_43 v1 v2 σ K) v3 v4 v5
def wp_X9_hold (v1 : Int32) (v2 : Int32) (σ : St) (K : Int32 → St → Prop) : Prop :=
wp_X9_isBell v1 σ (fun r2 =>
(if r2 = 0 then
J_X9_hold_20 σ K
else
wp_X9_in v2.toInt64 (0 : Int64) (40 : Int64) (fun r14 =>
(if r14 = 0 then
J_X9_hold_20 σ K
else
wp_X9_isOver v1 σ (fun r24 =>
(if r24 = 0 then
L_X9_hold_43 v1 v2 σ K (-9) 1000000 0
else
K (-4) σ))))))
-- BellBalanceModel.keep(I)I
def wp_X9_keep (v1 : Int32) (σ : St) (K : Int32 → St → Prop) : Prop :=
wp_X9_in v1.toInt64 (0 : Int64) (2 : Int64) (fun r6 =>
(if r6 = 0 then
K (-1) σ
else
(vp_in 0 5280 ∧
(if (σ.1 1 (0 : Int32).toNatClampNeg) = 0 then
K (-4) σ
else
wp_X9_copyAll 0 (1312 * (v1 + 1)) 1312 σ (fun t38 =>
(vp_in v1 3 ∧
K ((uI t38 2 v1.toNatClampNeg (t38.1 0 1)).1 0 1) (uI t38 2 v1.toNatClampNeg (t38.1 0 1))))))))
-- BellBalanceModel.kinds(II)I
def J_X9_kinds_70 (v1 : Int32) (v2 : Int32) (v5 : Int32) (w0 : Int32) (w1 : Int32) (σ : St) (K : Int32 → St → Prop) (Φ19 : Int32 → Int32 → Prop) : Prop :=
Φ19 (w0 ||| w1) (v5 + 1)
def B_X9_kinds_19 (v1 : Int32) (v2 : Int32) (σ : St) (K : Int32 → St → Prop)  (Φ19 : Int32 → Int32 → Prop) (v4 : Int32) (v5 : Int32) : Prop :=
(if 6 ≤ v5 then
K v4 σ
else
(vp_in (8 + v1) 5280 ∧
(vp_in (14 + v1) 5280 ∧
(vp_in 1 5280 ∧
wp_X9_isSo v2 v5 (σ.1 1 (8 + v1).toNatClampNeg) (σ.1 1 (14 + v1).toNatClampNeg) (σ.1 1 (1 : Int32).toNatClampNeg) σ (fun r56 =>
(if r56 = 0 then
J_X9_kinds_70 v1 v2 v5 v4 0 σ K Φ19
else
J_X9_kinds_70 v1 v2 v5 v4 (shl 1 v5) σ K Φ19))))))
def L_X9_kinds_19 (v1 : Int32) (v2 : Int32) (σ : St) (K : Int32 → St → Prop)  (v4 : Int32) (v5 : Int32) : Prop := wl2 (B_X9_kinds_19 v1 v2 σ K) v4 v5
def wp_X9_kinds (v1 : Int32) (v2 : Int32) (σ : St) (K : Int32 → St → Prop) : Prop :=
wp_X9_againstPairs v1 v2 σ (fun r3 t3 =>
(if 0 ≤ r3 then
L_X9_kinds_19 v1 v2 t3 K 0 0
else
K r3 t3))
-- BellBalanceModel.late(I)I
def J_X9_late_62 (v4 : Int32) (w0 : Int32) (σ : St) (K : Int32 → St → Prop) (Φ33 : Int32 → Int32 → Prop) : Prop :=
Φ33 w0 (v4 + 1)
def B_X9_late_33 (σ : St) (K : Int32 → St → Prop)  (Φ33 : Int32 → Int32 → Prop) (v3 : Int32) (v4 : Int32) : Prop :=
(if (σ.1 0 18) ≤ v4 then
wp_X9_gap v3 σ (fun r72 =>
(vp_in v3 6 ∧
wp_X9_tells r72 (σ.1 11 v3.toNatClampNeg) σ (fun r81 t81 =>
K r81 t81)))
else
wp_X9_gap v4 σ (fun r45 =>
wp_X9_gap v3 σ (fun r50 =>
(if r45 ≤ r50 then
J_X9_late_62 v4 v3 σ K Φ33
else
J_X9_late_62 v4 v4 σ K Φ33))))
def L_X9_late_33 (σ : St) (K : Int32 → St → Prop)  (v3 : Int32) (v4 : Int32) : Prop := wl2 (B_X9_late_33 σ K) v3 v4
def wp_X9_late (v1 : Int32) (σ : St) (K : Int32 → St → Prop) : Prop :=
wp_X9_against v1 σ (fun r2 t2 =>
(if 0 ≤ r2 then
wp_X9_laysPulls v1 t2 (fun t14 =>
(if 2 ≤ (t14.1 0 18) then
L_X9_late_33 t14 K 1 2
else
K (-9) t14))
else
K r2 t2))
-- BellBalanceModel.lay(III)I
def J_X9_lay_26 (v4 : Int32) (σ : St) (K : Int32 → St → Prop)  : Prop :=
K v4 σ
def wp_X9_lay (v1 : Int32) (v2 : Int32) (v3 : Int32) (σ : St) (K : Int32 → St → Prop) : Prop :=
wp_X9_at v1 v2 σ (fun r3 t3 =>
(if r3 = 1 then
(vp_in ((40 * v1) + v2) 240 ∧
J_X9_lay_26 r3 (uI t3 3 ((40 * v1) + v2).toNatClampNeg v3) K)
else
J_X9_lay_26 r3 t3 K))
-- BellBalanceModel.laySlips(IIII)J
def B_X9_laySlips_224 (v1 : Int32) (v2 : Int32) (v3 : Int32) (v4 : Int32) (v5 : Int64) (v7 : Int32) (K : Int64 → St → Prop) (Φ48 : Int64 → Int32 → St → Prop) (Φ224 : Int32 → St → Prop) (v8 : Int32) (σ : St) : Prop :=
(if 20 < v8 then
Φ48 v5 (v7 + 1) σ
else
(vp_in v8 21 ∧
(vp_in v8 21 ∧
Φ224 (v8 + 1) (uL σ 18 v8.toNatClampNeg (σ.2 19 v8.toNatClampNeg)))))
def L_X9_laySlips_224 (v1 : Int32) (v2 : Int32) (v3 : Int32) (v4 : Int32) (v5 : Int64) (v7 : Int32) (K : Int64 → St → Prop) (Φ48 : Int64 → Int32 → St → Prop) (v8 : Int32) (σ : St) : Prop := wl2 (B_X9_laySlips_224 v1 v2 v3 v4 v5 v7 K Φ48) v8 σ
def J_X9_laySlips_213 (v1 : Int32) (v2 : Int32) (v3 : Int32) (v4 : Int32) (v5 : Int64) (v7 : Int32) (v8 : Int32) (kw0 : Nat) (nw0 : Nat) (w1 : Int32) (w2 : Int64) (w3 : Int64) (σ : St) (K : Int64 → St → Prop) (Φ48 : Int64 → Int32 → St → Prop) (Φ89 : Int32 → St → Prop) : Prop :=
(vp_in w1 nw0 ∧
Φ89 (v8 + 1) (uL σ kw0 w1.toNatClampNeg (w2 + w3)))
def J_X9_laySlips_190 (v1 : Int32) (v2 : Int32) (v3 : Int32) (v4 : Int32) (v5 : Int64) (v7 : Int32) (v8 : Int32) (v10 : Int32) (kw0 : Nat) (nw0 : Nat) (w1 : Int32) (σ : St) (K : Int64 → St → Prop) (Φ48 : Int64 → Int32 → St → Prop) (Φ89 : Int32 → St → Prop) : Prop :=
(vp_in w1 nw0 ∧
(if v10 = (-1) then
J_X9_laySlips_213 v1 v2 v3 v4 v5 v7 v8 kw0 nw0 w1 (σ.2 kw0 w1.toNatClampNeg) (0 : Int64) σ K Φ48 Φ89
else
(vp_in v8 21 ∧
J_X9_laySlips_213 v1 v2 v3 v4 v5 v7 v8 kw0 nw0 w1 (σ.2 kw0 w1.toNatClampNeg) ((σ.2 18 v8.toNatClampNeg) * v4.toInt64) σ K Φ48 Φ89)))
def J_X9_laySlips_172 (v1 : Int32) (v2 : Int32) (v3 : Int32) (v4 : Int32) (v5 : Int64) (v7 : Int32) (v8 : Int32) (v10 : Int32) (kw0 : Nat) (nw0 : Nat) (w1 : Int32) (w2 : Int64) (w3 : Int64) (σ : St) (K : Int64 → St → Prop) (Φ48 : Int64 → Int32 → St → Prop) (Φ89 : Int32 → St → Prop) : Prop :=
(vp_in w1 nw0 ∧
(if v10 = (-1) then
J_X9_laySlips_190 v1 v2 v3 v4 v5 v7 v8 v10 19 21 0 (uL σ kw0 w1.toNatClampNeg (w2 + w3)) K Φ48 Φ89
else
J_X9_laySlips_190 v1 v2 v3 v4 v5 v7 v8 v10 19 21 v10 (uL σ kw0 w1.toNatClampNeg (w2 + w3)) K Φ48 Φ89))
def J_X9_laySlips_146 (v1 : Int32) (v2 : Int32) (v3 : Int32) (v4 : Int32) (v5 : Int64) (v7 : Int32) (v8 : Int32) (v9 : Int32) (v10 : Int32) (kw0 : Nat) (nw0 : Nat) (w1 : Int32) (σ : St) (K : Int64 → St → Prop) (Φ48 : Int64 → Int32 → St → Prop) (Φ89 : Int32 → St → Prop) : Prop :=
(vp_in w1 nw0 ∧
(if v9 = (-1) then
J_X9_laySlips_172 v1 v2 v3 v4 v5 v7 v8 v10 kw0 nw0 w1 (σ.2 kw0 w1.toNatClampNeg) (0 : Int64) σ K Φ48 Φ89
else
(vp_in v8 21 ∧
J_X9_laySlips_172 v1 v2 v3 v4 v5 v7 v8 v10 kw0 nw0 w1 (σ.2 kw0 w1.toNatClampNeg) ((σ.2 18 v8.toNatClampNeg) * (12 - v4).toInt64) σ K Φ48 Φ89)))
def B_X9_laySlips_89 (v1 : Int32) (v2 : Int32) (v3 : Int32) (v4 : Int32) (v5 : Int64) (v7 : Int32) (K : Int64 → St → Prop) (Φ48 : Int64 → Int32 → St → Prop) (Φ89 : Int32 → St → Prop) (v8 : Int32) (σ : St) : Prop :=
(if 20 < v8 then
L_X9_laySlips_224 v1 v2 v3 v4 v5 v7 K Φ48 0 σ
else
(vp_in (2 + v1) 5280 ∧
wp_X9_after (σ.1 1 (2 + v1).toNatClampNeg) v8 v2 (fun r107 =>
(vp_in (2 + v1) 5280 ∧
wp_X9_after (σ.1 1 (2 + v1).toNatClampNeg) v8 (v2 + 1) (fun r125 =>
(if r107 = (-1) then
J_X9_laySlips_146 v1 v2 v3 v4 v5 v7 v8 r107 r125 19 21 0 σ K Φ48 Φ89
else
J_X9_laySlips_146 v1 v2 v3 v4 v5 v7 v8 r107 r125 19 21 r107 σ K Φ48 Φ89))))))
def L_X9_laySlips_89 (v1 : Int32) (v2 : Int32) (v3 : Int32) (v4 : Int32) (v5 : Int64) (v7 : Int32) (K : Int64 → St → Prop) (Φ48 : Int64 → Int32 → St → Prop) (v8 : Int32) (σ : St) : Prop := wl2 (B_X9_laySlips_89 v1 v2 v3 v4 v5 v7 K Φ48) v8 σ
def B_X9_laySlips_65 (v1 : Int32) (v2 : Int32) (v3 : Int32) (v4 : Int32) (v5 : Int64) (v7 : Int32) (K : Int64 → St → Prop) (Φ48 : Int64 → Int32 → St → Prop) (Φ65 : Int32 → St → Prop) (v8 : Int32) (σ : St) : Prop :=
(if 20 < v8 then
L_X9_laySlips_89 v1 v2 v3 v4 v5 v7 K Φ48 0 σ
else
(vp_in v8 21 ∧
Φ65 (v8 + 1) (uL σ 19 v8.toNatClampNeg (0 : Int64))))
def L_X9_laySlips_65 (v1 : Int32) (v2 : Int32) (v3 : Int32) (v4 : Int32) (v5 : Int64) (v7 : Int32) (K : Int64 → St → Prop) (Φ48 : Int64 → Int32 → St → Prop) (v8 : Int32) (σ : St) : Prop := wl2 (B_X9_laySlips_65 v1 v2 v3 v4 v5 v7 K Φ48) v8 σ
def B_X9_laySlips_48 (v1 : Int32) (v2 : Int32) (v3 : Int32) (v4 : Int32) (K : Int64 → St → Prop)  (Φ48 : Int64 → Int32 → St → Prop) (v5 : Int64) (v7 : Int32) (σ : St) : Prop :=
(if v3 ≤ v7 then
K v5 σ
else
L_X9_laySlips_65 v1 v2 v3 v4 (v5 * (12 : Int64)) v7 K Φ48 0 σ)
def L_X9_laySlips_48 (v1 : Int32) (v2 : Int32) (v3 : Int32) (v4 : Int32) (K : Int64 → St → Prop)  (v5 : Int64) (v7 : Int32) (σ : St) : Prop := wl3 (B_X9_laySlips_48 v1 v2 v3 v4 K) v5 v7 σ
def J_X9_laySlips_38 (v1 : Int32) (v2 : Int32) (v3 : Int32) (v4 : Int32) (v5 : Int64) (v7 : Int32) (kw0 : Nat) (nw0 : Nat) (w1 : Int32) (w2 : Int64) (σ : St) (K : Int64 → St → Prop) (Φ6 : Int32 → St → Prop) : Prop :=
(vp_in w1 nw0 ∧
Φ6 (v7 + 1) (uL σ kw0 w1.toNatClampNeg w2))
def B_X9_laySlips_6 (v1 : Int32) (v2 : Int32) (v3 : Int32) (v4 : Int32) (v5 : Int64) (K : Int64 → St → Prop)  (Φ6 : Int32 → St → Prop) (v7 : Int32) (σ : St) : Prop :=
(if 20 < v7 then
L_X9_laySlips_48 v1 v2 v3 v4 K v5 0 σ
else
(vp_in (14 + v1) 5280 ∧
(if v7 = (σ.1 1 (14 + v1).toNatClampNeg) then
J_X9_laySlips_38 v1 v2 v3 v4 v5 v7 18 21 v7 (1 : Int64) σ K Φ6
else
J_X9_laySlips_38 v1 v2 v3 v4 v5 v7 18 21 v7 (0 : Int64) σ K Φ6)))
def L_X9_laySlips_6 (v1 : Int32) (v2 : Int32) (v3 : Int32) (v4 : Int32) (v5 : Int64) (K : Int64 → St → Prop)  (v7 : Int32) (σ : St) : Prop := wl2 (B_X9_laySlips_6 v1 v2 v3 v4 v5 K) v7 σ
def wp_X9_laySlips (v1 : Int32) (v2 : Int32) (v3 : Int32) (v4 : Int32) (σ : St) (K : Int64 → St → Prop) : Prop :=
L_X9_laySlips_6 v1 v2 v3 v4 (1 : Int64) K 0 σ
-- BellBalanceModel.layStands(I)V
def J_X9_layStands_97 (v1 : Int32) (v2 : Int32) (v3 : Int32) (v4 : Int32) (σ : St) (K : St → Prop) (Φ2 : Int32 → St → Prop) (Φ10 : Int32 → St → Prop) : Prop :=
(vp_in ((21 * v2) + v3) 651 ∧
Φ10 (v3 + 1) (uI σ 12 ((21 * v2) + v3).toNatClampNeg (vp_nar .boolean v4)))
def J_X9_layStands_89 (v1 : Int32) (v2 : Int32) (v3 : Int32) (v5 : Int32) (w0 : Int32) (σ : St) (K : St → Prop) (Φ2 : Int32 → St → Prop) (Φ10 : Int32 → St → Prop) (Φ36 : Int32 → Int32 → Prop) : Prop :=
Φ36 w0 (v5 + 1)
def J_X9_layStands_84 (v1 : Int32) (v2 : Int32) (v3 : Int32) (v5 : Int32) (σ : St) (K : St → Prop) (Φ2 : Int32 → St → Prop) (Φ10 : Int32 → St → Prop) (Φ36 : Int32 → Int32 → Prop) : Prop :=
J_X9_layStands_89 v1 v2 v3 v5 1 σ K Φ2 Φ10 Φ36
def J_X9_layStands_88 (v1 : Int32) (v2 : Int32) (v3 : Int32) (v5 : Int32) (σ : St) (K : St → Prop) (Φ2 : Int32 → St → Prop) (Φ10 : Int32 → St → Prop) (Φ36 : Int32 → Int32 → Prop) : Prop :=
J_X9_layStands_89 v1 v2 v3 v5 0 σ K Φ2 Φ10 Φ36
def B_X9_layStands_36 (v1 : Int32) (v2 : Int32) (v3 : Int32) (σ : St) (K : St → Prop) (Φ2 : Int32 → St → Prop) (Φ10 : Int32 → St → Prop) (Φ36 : Int32 → Int32 → Prop) (v4 : Int32) (v5 : Int32) : Prop :=
(if 7 ≤ v5 then
J_X9_layStands_97 v1 v2 v3 v4 σ K Φ2 Φ10
else
(if v2 ≤ 0 then
J_X9_layStands_97 v1 v2 v3 v4 σ K Φ2 Φ10
else
wp_X9_after v1 v3 v5 (fun r51 =>
(if v4 = 0 then
(if r51 = (-1) then
J_X9_layStands_88 v1 v2 v3 v5 σ K Φ2 Φ10 Φ36
else
(vp_in ((21 * (v2 - 1)) + r51) 651 ∧
(if (σ.1 12 ((21 * (v2 - 1)) + r51).toNatClampNeg) = 0 then
J_X9_layStands_88 v1 v2 v3 v5 σ K Φ2 Φ10 Φ36
else
J_X9_layStands_84 v1 v2 v3 v5 σ K Φ2 Φ10 Φ36)))
else
J_X9_layStands_84 v1 v2 v3 v5 σ K Φ2 Φ10 Φ36))))
def L_X9_layStands_36 (v1 : Int32) (v2 : Int32) (v3 : Int32) (σ : St) (K : St → Prop) (Φ2 : Int32 → St → Prop) (Φ10 : Int32 → St → Prop) (v4 : Int32) (v5 : Int32) : Prop := wl2 (B_X9_layStands_36 v1 v2 v3 σ K Φ2 Φ10) v4 v5
def J_X9_layStands_31 (v1 : Int32) (v2 : Int32) (v3 : Int32) (w0 : Int32) (σ : St) (K : St → Prop) (Φ2 : Int32 → St → Prop) (Φ10 : Int32 → St → Prop) : Prop :=
L_X9_layStands_36 v1 v2 v3 σ K Φ2 Φ10 w0 0
def J_X9_layStands_30 (v1 : Int32) (v2 : Int32) (v3 : Int32) (σ : St) (K : St → Prop) (Φ2 : Int32 → St → Prop) (Φ10 : Int32 → St → Prop) : Prop :=
J_X9_layStands_31 v1 v2 v3 0 σ K Φ2 Φ10
def B_X9_layStands_10 (v1 : Int32) (v2 : Int32) (K : St → Prop) (Φ2 : Int32 → St → Prop) (Φ10 : Int32 → St → Prop) (v3 : Int32) (σ : St) : Prop :=
(if 20 < v3 then
Φ2 (v2 + 1) σ
else
(if v2 = 0 then
(if v3 = 20 then
J_X9_layStands_31 v1 v2 v3 1 σ K Φ2 Φ10
else
J_X9_layStands_30 v1 v2 v3 σ K Φ2 Φ10)
else
J_X9_layStands_30 v1 v2 v3 σ K Φ2 Φ10))
def L_X9_layStands_10 (v1 : Int32) (v2 : Int32) (K : St → Prop) (Φ2 : Int32 → St → Prop) (v3 : Int32) (σ : St) : Prop := wl2 (B_X9_layStands_10 v1 v2 K Φ2) v3 σ
def B_X9_layStands_2 (v1 : Int32) (K : St → Prop)  (Φ2 : Int32 → St → Prop) (v2 : Int32) (σ : St) : Prop :=
(if 30 < v2 then
K σ
else
L_X9_layStands_10 v1 v2 K Φ2 0 σ)
def L_X9_layStands_2 (v1 : Int32) (K : St → Prop)  (v2 : Int32) (σ : St) : Prop := wl2 (B_X9_layStands_2 v1 K) v2 σ
def wp_X9_layStands (v1 : Int32) (σ : St) (K : St → Prop) : Prop :=
L_X9_layStands_2 v1 K 0 σ
-- BellBalanceModel.minds()V
def wp_X9_minds (σ : St) (K : St → Prop) : Prop :=
wp_X9_copyAll 0 (32 * ((σ.1 0 1) + 1)) 32 σ (fun t13 =>
K (uI t13 0 1 ((t13.1 0 1) + 1)))
-- BellBalanceModel.strokes(II)V
def J_X9_strokes_59 (v1 : Int32) (kw0 : Nat) (nw0 : Nat) (w1 : Int32) (w2 : Int32) (σ : St) (K : St → Prop)  : Prop :=
(vp_in w1 nw0 ∧
(vp_in (26 + v1) 5280 ∧
(vp_in (26 + v1) 5280 ∧
K (uI (uI σ kw0 w1.toNatClampNeg w2) 1 (26 + v1).toNatClampNeg (((uI σ kw0 w1.toNatClampNeg w2).1 1 (26 + v1).toNatClampNeg) + 1)))))
def J_X9_strokes_40 (v1 : Int32) (v3 : Int32) (kw0 : Nat) (nw0 : Nat) (w1 : Int32) (w2 : Int32) (σ : St) (K : St → Prop)  : Prop :=
(vp_in w1 nw0 ∧
(if v3 = (-1) then
J_X9_strokes_59 v1 1 5280 (20 + v1) 1 (uI σ kw0 w1.toNatClampNeg w2) K
else
J_X9_strokes_59 v1 1 5280 (20 + v1) 0 (uI σ kw0 w1.toNatClampNeg w2) K))
def wp_X9_strokes (v1 : Int32) (v2 : Int32) (σ : St) (K : St → Prop) : Prop :=
(vp_in (2 + v1) 5280 ∧
(vp_in (14 + v1) 5280 ∧
wp_X9_after (σ.1 1 (2 + v1).toNatClampNeg) (σ.1 1 (14 + v1).toNatClampNeg) v2 (fun r18 =>
(if r18 = (-1) then
J_X9_strokes_40 v1 r18 1 5280 (14 + v1) 0 σ K
else
J_X9_strokes_40 v1 r18 1 5280 (14 + v1) r18 σ K))))
-- BellBalanceModel.lots(II)I
def J_X9_lots_24 (σ : St) (K : Int32 → St → Prop)  : Prop :=
K (-1) σ
def J_X9_lots_117 (v1 : Int32) (v3 : Int64) (v5 : Int32) (v6 : Int32) (σ : St) (K : Int32 → St → Prop) (Φ58 : Int64 → Int32 → St → Prop) (Φ71 : Int64 → Int32 → St → Prop) : Prop :=
Φ71 v3 (v6 + 1) σ
def B_X9_lots_71 (v1 : Int32) (v5 : Int32) (K : Int32 → St → Prop) (Φ58 : Int64 → Int32 → St → Prop) (Φ71 : Int64 → Int32 → St → Prop) (v3 : Int64) (v6 : Int32) (σ : St) : Prop :=
(vp_in 0 5280 ∧
(if (σ.1 1 (0 : Int32).toNatClampNeg) ≤ v6 then
Φ58 v3 (v5 + 1) σ
else
wp_X9_isOver v6 σ (fun r85 =>
(if r85 = 0 then
wp_X9_strokes v6 ((lrm ((lrm (v3 * (48271 : Int64)) (2147483647 : Int64)) / (16 : Int64)) (4 : Int64)).toInt32) σ (fun t114 =>
J_X9_lots_117 v1 (lrm (v3 * (48271 : Int64)) (2147483647 : Int64)) v5 v6 t114 K Φ58 Φ71)
else
J_X9_lots_117 v1 v3 v5 v6 σ K Φ58 Φ71))))
def L_X9_lots_71 (v1 : Int32) (v5 : Int32) (K : Int32 → St → Prop) (Φ58 : Int64 → Int32 → St → Prop) (v3 : Int64) (v6 : Int32) (σ : St) : Prop := wl3 (B_X9_lots_71 v1 v5 K Φ58) v3 v6 σ
def B_X9_lots_58 (v1 : Int32) (K : Int32 → St → Prop)  (Φ58 : Int64 → Int32 → St → Prop) (v3 : Int64) (v5 : Int32) (σ : St) : Prop :=
(if v1 ≤ v5 then
wp_X9_sounds σ (fun r130 =>
K r130 σ)
else
wp_X9_minds σ (fun t65 =>
L_X9_lots_71 v1 v5 K Φ58 v3 0 t65))
def L_X9_lots_58 (v1 : Int32) (K : Int32 → St → Prop)  (v3 : Int64) (v5 : Int32) (σ : St) : Prop := wl3 (B_X9_lots_58 v1 K) v3 v5 σ
def wp_X9_lots (v1 : Int32) (v2 : Int32) (σ : St) (K : Int32 → St → Prop) : Prop :=
wp_X9_in v1.toInt64 (1 : Int64) (20 : Int64) (fun r6 =>
(if r6 = 0 then
J_X9_lots_24 σ K
else
wp_X9_in v2.toInt64 (1 : Int64) (2147483646 : Int64) (fun r18 =>
(if r18 = 0 then
J_X9_lots_24 σ K
else
(vp_in 0 5280 ∧
(if (σ.1 1 (0 : Int32).toNatClampNeg) = 0 then
K (-4) σ
else
(if ((σ.1 0 1) + v1) ≤ 40 then
L_X9_lots_58 v1 K v2.toInt64 0 σ
else
K (-2) σ)))))))
-- BellBalanceModel.lower()J
def wp_X9_lower (σ : St) (K : Int64 → Prop) : Prop :=
K (σ.2 0 12)
-- BellBalanceModel.markOf(II)I
def J_X9_markOf_79 (v1 : Int32) (v3 : Int32) (v5 : Int32) (w0 : Int32) (σ : St) (K : Int32 → Prop) (Φ47 : Int32 → Int32 → Prop) : Prop :=
Φ47 w0 (v5 + 1)
def B_X9_markOf_47 (v1 : Int32) (v3 : Int32) (σ : St) (K : Int32 → Prop)  (Φ47 : Int32 → Int32 → Prop) (v4 : Int32) (v5 : Int32) : Prop :=
(if 7 ≤ v5 then
K v4
else
(vp_in (2 + v1) 5280 ∧
wp_X9_after (σ.1 1 (2 + v1).toNatClampNeg) v3 v5 (fun r65 =>
(if r65 = (-1) then
J_X9_markOf_79 v1 v3 v5 v4 σ K Φ47
else
J_X9_markOf_79 v1 v3 v5 v5 σ K Φ47))))
def L_X9_markOf_47 (v1 : Int32) (v3 : Int32) (σ : St) (K : Int32 → Prop)  (v4 : Int32) (v5 : Int32) : Prop := wl2 (B_X9_markOf_47 v1 v3 σ K) v4 v5
def J_X9_markOf_152 (v1 : Int32) (v5 : Int32) (w0 : Int32) (w1 : Int32) (σ : St) (K : Int32 → Prop) (Φ106 : Int32 → Int32 → Prop) : Prop :=
Φ106 (w0 + w1) (v5 + 1)
def J_X9_markOf_151 (v1 : Int32) (v5 : Int32) (w0 : Int32) (σ : St) (K : Int32 → Prop) (Φ106 : Int32 → Int32 → Prop) : Prop :=
J_X9_markOf_152 v1 v5 w0 0 σ K Φ106
def B_X9_markOf_106 (v1 : Int32) (σ : St) (K : Int32 → Prop)  (Φ106 : Int32 → Int32 → Prop) (v4 : Int32) (v5 : Int32) : Prop :=
(vp_in 0 5280 ∧
(if (σ.1 1 (0 : Int32).toNatClampNeg) ≤ v5 then
K v4
else
(if v5 = v1 then
J_X9_markOf_151 v1 v5 v4 σ K Φ106
else
(vp_in (8 + v5) 5280 ∧
(vp_in (8 + v1) 5280 ∧
(if (σ.1 1 (8 + v5).toNatClampNeg) < (σ.1 1 (8 + v1).toNatClampNeg) then
J_X9_markOf_151 v1 v5 v4 σ K Φ106
else
J_X9_markOf_152 v1 v5 v4 1 σ K Φ106))))))
def L_X9_markOf_106 (v1 : Int32) (σ : St) (K : Int32 → Prop)  (v4 : Int32) (v5 : Int32) : Prop := wl2 (B_X9_markOf_106 v1 σ K) v4 v5
def J_X9_markOf_256 (w0 : Int32) (σ : St) (K : Int32 → Prop)  : Prop :=
K w0
def J_X9_markOf_233 (v1 : Int32) (v5 : Int32) (v6 : Int32) (w0 : Int32) (w1 : Int32) (σ : St) (K : Int32 → Prop) (Φ176 : Int32 → Int32 → Prop) : Prop :=
Φ176 (w0 + w1) (v6 + 1)
def J_X9_markOf_232 (v1 : Int32) (v5 : Int32) (v6 : Int32) (w0 : Int32) (σ : St) (K : Int32 → Prop) (Φ176 : Int32 → Int32 → Prop) : Prop :=
J_X9_markOf_233 v1 v5 v6 w0 0 σ K Φ176
def B_X9_markOf_176 (v1 : Int32) (v5 : Int32) (σ : St) (K : Int32 → Prop)  (Φ176 : Int32 → Int32 → Prop) (v4 : Int32) (v6 : Int32) : Prop :=
(vp_in 0 5280 ∧
(if (σ.1 1 (0 : Int32).toNatClampNeg) ≤ v6 then
(if v5 = (-9) then
J_X9_markOf_256 (-9) σ K
else
J_X9_markOf_256 v4 σ K)
else
(vp_in (14 + v6) 5280 ∧
wp_X9_strikesBy v6 (σ.1 1 (14 + v6).toNatClampNeg) 1 σ (fun r201 =>
(if v6 = v1 then
J_X9_markOf_232 v1 v5 v6 v4 σ K Φ176
else
(if r201 = (-9) then
J_X9_markOf_232 v1 v5 v6 v4 σ K Φ176
else
(if v5 ≤ r201 then
J_X9_markOf_232 v1 v5 v6 v4 σ K Φ176
else
J_X9_markOf_233 v1 v5 v6 v4 1 σ K Φ176)))))))
def L_X9_markOf_176 (v1 : Int32) (v5 : Int32) (σ : St) (K : Int32 → Prop)  (v4 : Int32) (v6 : Int32) : Prop := wl2 (B_X9_markOf_176 v1 v5 σ K) v4 v6
def wp_X9_markOf (v1 : Int32) (v2 : Int32) (σ : St) (K : Int32 → Prop) : Prop :=
(vp_in (14 + v1) 5280 ∧
(if v2 = 1 then
L_X9_markOf_47 v1 (σ.1 1 (14 + v1).toNatClampNeg) σ K 0 0
else
(if v2 = 2 then
K (20 - (σ.1 1 (14 + v1).toNatClampNeg))
else
(if v2 = 3 then
wp_X9_strikesBy v1 (σ.1 1 (14 + v1).toNatClampNeg) 1 σ (fun r99 =>
K r99)
else
(if v2 = 4 then
L_X9_markOf_106 v1 σ K 0 0
else
wp_X9_strikesBy v1 (σ.1 1 (14 + v1).toNatClampNeg) 1 σ (fun r168 =>
L_X9_markOf_176 v1 r168 σ K 0 0))))))
-- BellBalanceModel.mark(II)I
def J_X9_mark_20 (σ : St) (K : Int32 → St → Prop)  : Prop :=
K (-1) σ
def J_X9_mark_82 (w0 : Int32) (σ : St) (K : Int32 → St → Prop)  : Prop :=
K w0 σ
def J_X9_mark_61 (v1 : Int32) (v2 : Int32) (w0 : Int32) (σ : St) (K : Int32 → St → Prop)  : Prop :=
(if w0 = 0 then
wp_X9_found 3 σ (fun r79 t79 =>
J_X9_mark_82 r79 t79 K)
else
wp_X9_markOf v1 v2 σ (fun r71 =>
J_X9_mark_82 r71 σ K))
def J_X9_mark_56 (v1 : Int32) (v2 : Int32) (σ : St) (K : Int32 → St → Prop)  : Prop :=
J_X9_mark_61 v1 v2 1 σ K
def J_X9_mark_60 (v1 : Int32) (v2 : Int32) (σ : St) (K : Int32 → St → Prop)  : Prop :=
J_X9_mark_61 v1 v2 0 σ K
def J_X9_mark_46 (v1 : Int32) (v2 : Int32) (v3 : Int32) (σ : St) (K : Int32 → St → Prop)  : Prop :=
(if v2 = 2 then
(if v3 = 5 then
J_X9_mark_56 v1 v2 σ K
else
J_X9_mark_60 v1 v2 σ K)
else
J_X9_mark_60 v1 v2 σ K)
def wp_X9_mark (v1 : Int32) (v2 : Int32) (σ : St) (K : Int32 → St → Prop) : Prop :=
wp_X9_isBell v1 σ (fun r2 =>
(if r2 = 0 then
J_X9_mark_20 σ K
else
wp_X9_in v2.toInt64 (1 : Int64) (5 : Int64) (fun r14 =>
(if r14 = 0 then
J_X9_mark_20 σ K
else
(vp_in (2 + v1) 5280 ∧
(if (σ.1 1 (2 + v1).toNatClampNeg) = v2 then
J_X9_mark_56 v1 v2 σ K
else
(if v2 = 1 then
(if (σ.1 1 (2 + v1).toNatClampNeg) = 4 then
J_X9_mark_56 v1 v2 σ K
else
J_X9_mark_46 v1 v2 (σ.1 1 (2 + v1).toNatClampNeg) σ K)
else
J_X9_mark_46 v1 v2 (σ.1 1 (2 + v1).toNatClampNeg) σ K)))))))
-- BellBalanceModel.mean(I)I
def B_X9_mean_44 (v1 : Int32) (σ : St) (K : Int32 → St → Prop)  (Φ44 : Int64 → Int32 → Prop) (v2 : Int64) (v4 : Int32) : Prop :=
(vp_in v1 6 ∧
(if (σ.1 4 v1.toNatClampNeg) ≤ v4 then
(vp_in v1 6 ∧
(¬ ((σ.1 4 v1.toNatClampNeg).toInt64) = 0 ∧
wp_X9_tells ((v2 / (σ.1 4 v1.toNatClampNeg).toInt64).toInt32) 1 σ (fun r89 t89 =>
K r89 t89)))
else
(vp_in ((40 * v1) + v4) 240 ∧
Φ44 (v2 + (σ.1 3 ((40 * v1) + v4).toNatClampNeg).toInt64) (v4 + 1))))
def L_X9_mean_44 (v1 : Int32) (σ : St) (K : Int32 → St → Prop)  (v2 : Int64) (v4 : Int32) : Prop := wl2 (B_X9_mean_44 v1 σ K) v2 v4
def wp_X9_mean (v1 : Int32) (σ : St) (K : Int32 → St → Prop) : Prop :=
wp_X9_isRow v1 (fun r1 =>
(if r1 = 0 then
K (-1) σ
else
(vp_in v1 6 ∧
(if 0 ≤ (σ.1 4 v1.toNatClampNeg) then
(vp_in v1 6 ∧
(if (σ.1 4 v1.toNatClampNeg) = 0 then
wp_X9_found 4 σ (fun r35 t35 =>
K r35 t35)
else
L_X9_mean_44 v1 σ K (0 : Int64) 0))
else
wp_X9_found 1 σ (fun r20 t20 =>
K r20 t20)))))
-- BellBalanceModel.mend(I)I
def wp_X9_mend (v1 : Int32) (σ : St) (K : Int32 → St → Prop) : Prop :=
wp_X9_isBell v1 σ (fun r2 =>
(if r2 = 0 then
K (-1) σ
else
wp_X9_isOver v1 σ (fun r12 =>
(if r12 = 0 then
K (-4) σ
else
(if (σ.1 0 1) = 40 then
K (-2) σ
else
wp_X9_minds σ (fun t34 =>
(vp_in (20 + v1) 5280 ∧
K 1 (uI t34 1 (20 + v1).toNatClampNeg 0))))))))
-- BellBalanceModel.mid(IIII)I
def B_X9_mid_36 (v6 : Int64) (σ : St) (K : Int32 → St → Prop)  (Φ36 : Int64 → Int32 → Prop) (v8 : Int64) (v10 : Int32) : Prop :=
(if 20 < v10 then
wp_X9_chance v8 v6 σ (fun r70 t70 =>
K r70 t70)
else
(vp_in v10 21 ∧
Φ36 (v8 + (v10.toInt64 * (σ.2 18 v10.toNatClampNeg))) (v10 + 1)))
def L_X9_mid_36 (v6 : Int64) (σ : St) (K : Int32 → St → Prop)  (v8 : Int64) (v10 : Int32) : Prop := wl2 (B_X9_mid_36 v6 σ K) v8 v10
def wp_X9_mid (v1 : Int32) (v2 : Int32) (v3 : Int32) (v4 : Int32) (σ : St) (K : Int32 → St → Prop) : Prop :=
wp_X9_againstSlips v1 v2 v3 v4 σ (fun r6 =>
(if 0 ≤ r6 then
wp_X9_laySlips v1 v2 v3 v4 σ (fun r25 t25 =>
L_X9_mid_36 r25 t25 K (0 : Int64) 0)
else
K r6 σ))
-- BellBalanceModel.odds(IIII)I
def B_X9_odds_36 (v6 : Int64) (σ : St) (K : Int32 → St → Prop)  (Φ36 : Int64 → Int32 → Prop) (v8 : Int64) (v10 : Int32) : Prop :=
(if 20 < v10 then
wp_X9_chance v8 v6 σ (fun r66 t66 =>
K r66 t66)
else
(vp_in v10 21 ∧
Φ36 (v8 + (σ.2 18 v10.toNatClampNeg)) (v10 + 1)))
def L_X9_odds_36 (v6 : Int64) (σ : St) (K : Int32 → St → Prop)  (v8 : Int64) (v10 : Int32) : Prop := wl2 (B_X9_odds_36 v6 σ K) v8 v10
def wp_X9_odds (v1 : Int32) (v2 : Int32) (v3 : Int32) (v4 : Int32) (σ : St) (K : Int32 → St → Prop) : Prop :=
wp_X9_againstSlips v1 v2 v3 v4 σ (fun r6 =>
(if 0 ≤ r6 then
wp_X9_laySlips v1 v2 v3 v4 σ (fun r25 t25 =>
L_X9_odds_36 r25 t25 K (0 : Int64) 0)
else
K r6 σ))
-- BellBalanceModel.on(I)I
def wp_X9_on (v1 : Int32) (σ : St) (K : Int32 → St → Prop) : Prop :=
wp_X9_in v1.toInt64 (0 : Int64) (2 : Int64) (fun r6 =>
(if r6 = 0 then
K (-1) σ
else
(vp_in v1 3 ∧
(if 0 ≤ (σ.1 2 v1.toNatClampNeg) then
wp_X9_copyAll (1312 * (v1 + 1)) 0 1312 σ (fun t41 =>
(vp_in v1 3 ∧
K ((uI t41 0 1 (t41.1 2 v1.toNatClampNeg)).1 0 1) (uI t41 0 1 (t41.1 2 v1.toNatClampNeg))))
else
wp_X9_found 1 σ (fun r25 t25 =>
K r25 t25)))))
-- BellBalanceModel.orders()I
def J_X9_orders_109 (v1 : Int32) (σ : St) (K : Int32 → St → Prop) (Φ41 : Int32 → Int32 → St → Prop) : Prop :=
wp_X9_isNext σ (fun r110 t110 =>
Φ41 v1 r110 t110)
def J_X9_orders_100 (v3 : Int32) (w0 : Int32) (w1 : Int32) (σ : St) (K : Int32 → St → Prop) (Φ41 : Int32 → Int32 → St → Prop) : Prop :=
(vp_in v3 46656 ∧
J_X9_orders_109 (w0 + w1) (uI σ 16 v3.toNatClampNeg (vp_nar .boolean 1)) K Φ41)
def B_X9_orders_57 (v1 : Int32) (σ : St) (K : Int32 → St → Prop) (Φ41 : Int32 → Int32 → St → Prop) (Φ57 : Int32 → Int32 → Prop) (v3 : Int32) (v4 : Int32) : Prop :=
(if (σ.1 0 18) ≤ v4 then
(vp_in v3 46656 ∧
(if (σ.1 16 v3.toNatClampNeg) = 0 then
J_X9_orders_100 v3 v1 1 σ K Φ41
else
J_X9_orders_100 v3 v1 0 σ K Φ41))
else
(vp_in v4 6 ∧
Φ57 ((6 * v3) + (σ.1 11 v4.toNatClampNeg)) (v4 + 1)))
def L_X9_orders_57 (v1 : Int32) (σ : St) (K : Int32 → St → Prop) (Φ41 : Int32 → Int32 → St → Prop) (v3 : Int32) (v4 : Int32) : Prop := wl2 (B_X9_orders_57 v1 σ K Φ41) v3 v4
def B_X9_orders_41  (K : Int32 → St → Prop)  (Φ41 : Int32 → Int32 → St → Prop) (v1 : Int32) (v2 : Int32) (σ : St) : Prop :=
(if v2 = 0 then
K v1 σ
else
wp_X9_isAll σ (fun r46 t46 =>
(if r46 = 0 then
J_X9_orders_109 v1 t46 K Φ41
else
L_X9_orders_57 v1 t46 K Φ41 0 0)))
def L_X9_orders_41  (K : Int32 → St → Prop)  (v1 : Int32) (v2 : Int32) (σ : St) : Prop := wl3 (B_X9_orders_41 K) v1 v2 σ
def B_X9_orders_14  (K : Int32 → St → Prop)  (Φ14 : Int32 → St → Prop) (v1 : Int32) (σ : St) : Prop :=
(if 46656 ≤ v1 then
wp_X9_begins σ (fun t36 =>
L_X9_orders_41 K 0 1 t36)
else
(vp_in v1 46656 ∧
Φ14 (v1 + 1) (uI σ 16 v1.toNatClampNeg (vp_nar .boolean 0))))
def L_X9_orders_14  (K : Int32 → St → Prop)  (v1 : Int32) (σ : St) : Prop := wl2 (B_X9_orders_14 K) v1 σ
def wp_X9_orders (σ : St) (K : Int32 → St → Prop) : Prop :=
(vp_in 0 5280 ∧
(if (σ.1 1 (0 : Int32).toNatClampNeg) = 0 then
K (-4) σ
else
L_X9_orders_14 K 0 σ))
-- BellBalanceModel.put(III)I
def wp_X9_put (v1 : Int32) (v2 : Int32) (v3 : Int32) (σ : St) (K : Int32 → St → Prop) : Prop :=
wp_X9_isText v1 (fun r1 =>
(if r1 = 0 then
K (-1) σ
else
(vp_in v1 4 ∧
(if 0 ≤ (σ.1 6 v1.toNatClampNeg) then
(vp_in v1 4 ∧
wp_X9_in v2.toInt64 (0 : Int64) (((σ.1 6 v1.toNatClampNeg) - 1).toInt64) (fun r36 =>
(if r36 = 0 then
wp_X9_found 2 σ (fun r44 t44 =>
K r44 t44)
else
(vp_in ((60 * v1) + v2) 240 ∧
(vp_in ((60 * v1) + v2) 240 ∧
K ((σ.1 5 ((60 * v1) + v2).toNatClampNeg) + 1000) (uI σ 5 ((60 * v1) + v2).toNatClampNeg v3.toInt8.toInt32))))))
else
wp_X9_found 1 σ (fun r20 t20 =>
K r20 t20)))))
-- BellBalanceModel.raise(II)I
def J_X9_raise_15 (σ : St) (K : Int32 → St → Prop)  : Prop :=
K (-1) σ
def J_X9_raise_151 (v2 : Int32) (v3 : Int32) (v4 : Int32) (v5 : Int32) (v6 : Int32) (v7 : Int32) (σ : St) (K : Int32 → St → Prop) (Φ105 : Int32 → Int32 → St → Prop) (Φ124 : Int32 → Int32 → Prop) : Prop :=
wp_X9_after v3 v4 (v7 + 1) (fun r159 =>
Φ124 (v7 + 1) r159)
def B_X9_raise_124 (v2 : Int32) (v3 : Int32) (v4 : Int32) (v5 : Int32) (v6 : Int32) (σ : St) (K : Int32 → St → Prop) (Φ105 : Int32 → Int32 → St → Prop) (Φ124 : Int32 → Int32 → Prop) (v7 : Int32) (v8 : Int32) : Prop :=
(if v8 = (-1) then
J_X9_raise_151 v2 v3 v4 v5 v6 v7 σ K Φ105 Φ124
else
(vp_in ((21 * ((v5 - v6) - 1)) + v8) 651 ∧
(if (σ.1 12 ((21 * ((v5 - v6) - 1)) + v8).toNatClampNeg) = 0 then
J_X9_raise_151 v2 v3 v4 v5 v6 v7 σ K Φ105 Φ124
else
(vp_in ((40 * v2) + v6) 240 ∧
Φ105 v8 (v6 + 1) (uI σ 3 ((40 * v2) + v6).toNatClampNeg v7)))))
def L_X9_raise_124 (v2 : Int32) (v3 : Int32) (v4 : Int32) (v5 : Int32) (v6 : Int32) (σ : St) (K : Int32 → St → Prop) (Φ105 : Int32 → Int32 → St → Prop) (v7 : Int32) (v8 : Int32) : Prop := wl2 (B_X9_raise_124 v2 v3 v4 v5 v6 σ K Φ105) v7 v8
def B_X9_raise_105 (v2 : Int32) (v3 : Int32) (v5 : Int32) (K : Int32 → St → Prop)  (Φ105 : Int32 → Int32 → St → Prop) (v4 : Int32) (v6 : Int32) (σ : St) : Prop :=
(if v5 ≤ v6 then
K v5 σ
else
wp_X9_after v3 v4 0 (fun r119 =>
L_X9_raise_124 v2 v3 v4 v5 v6 σ K Φ105 0 r119))
def L_X9_raise_105 (v2 : Int32) (v3 : Int32) (v5 : Int32) (K : Int32 → St → Prop)  (v4 : Int32) (v6 : Int32) (σ : St) : Prop := wl3 (B_X9_raise_105 v2 v3 v5 K) v4 v6 σ
def J_X9_raise_85 (v2 : Int32) (v3 : Int32) (v4 : Int32) (v5 : Int32) (σ : St) (K : Int32 → St → Prop)  : Prop :=
(if v5 ≤ 30 then
wp_X9_anew v2 v5 σ (fun t99 =>
L_X9_raise_105 v2 v3 v5 K v4 0 t99)
else
K (-9) σ)
def B_X9_raise_56 (v2 : Int32) (v3 : Int32) (v4 : Int32) (σ : St) (K : Int32 → St → Prop)  (Φ56 : Int32 → Prop) (v5 : Int32) : Prop :=
(if 30 < v5 then
J_X9_raise_85 v2 v3 v4 v5 σ K
else
(vp_in ((21 * v5) + v4) 651 ∧
(if (σ.1 12 ((21 * v5) + v4).toNatClampNeg) = 0 then
Φ56 (v5 + 1)
else
J_X9_raise_85 v2 v3 v4 v5 σ K)))
def L_X9_raise_56 (v2 : Int32) (v3 : Int32) (v4 : Int32) (σ : St) (K : Int32 → St → Prop)  (v5 : Int32) : Prop := wl1 (B_X9_raise_56 v2 v3 v4 σ K) v5
def wp_X9_raise (v1 : Int32) (v2 : Int32) (σ : St) (K : Int32 → St → Prop) : Prop :=
wp_X9_isBell v1 σ (fun r2 =>
(if r2 = 0 then
J_X9_raise_15 σ K
else
wp_X9_isRow v2 (fun r9 =>
(if r9 = 0 then
J_X9_raise_15 σ K
else
wp_X9_isOver v1 σ (fun r19 =>
(if r19 = 0 then
(vp_in (2 + v1) 5280 ∧
wp_X9_layStands (σ.1 1 (2 + v1).toNatClampNeg) σ (fun t39 =>
(vp_in (14 + v1) 5280 ∧
L_X9_raise_56 v2 (σ.1 1 (2 + v1).toNatClampNeg) (t39.1 1 (14 + v1).toNatClampNeg) t39 K 0)))
else
K (-4) σ))))))
-- BellBalanceModel.round(I)I
def J_X9_round_64 (v3 : Int32) (σ : St) (K : Int32 → St → Prop) (Φ35 : Int32 → St → Prop) : Prop :=
Φ35 (v3 + 1) σ
def B_X9_round_35  (K : Int32 → St → Prop)  (Φ35 : Int32 → St → Prop) (v3 : Int32) (σ : St) : Prop :=
(vp_in 0 5280 ∧
(if (σ.1 1 (0 : Int32).toNatClampNeg) ≤ v3 then
wp_X9_heardSet σ (fun r71 =>
K r71 σ)
else
wp_X9_isOver v3 σ (fun r47 =>
(if r47 = 0 then
(vp_in v3 6 ∧
wp_X9_strokes v3 (σ.1 9 v3.toNatClampNeg) σ (fun t61 =>
J_X9_round_64 v3 t61 K Φ35))
else
J_X9_round_64 v3 σ K Φ35))))
def L_X9_round_35  (K : Int32 → St → Prop)  (v3 : Int32) (σ : St) : Prop := wl2 (B_X9_round_35 K) v3 σ
def wp_X9_round (v1 : Int32) (σ : St) (K : Int32 → St → Prop) : Prop :=
wp_X9_against v1 σ (fun r2 t2 =>
(if 0 ≤ r2 then
(if (t2.1 0 1) = 40 then
K (-2) t2
else
wp_X9_laysPulls v1 t2 (fun t26 =>
wp_X9_minds t26 (fun t30 =>
L_X9_round_35 K 0 t30)))
else
K r2 t2))
-- BellBalanceModel.row(II)I
def J_X9_row_13 (σ : St) (K : Int32 → St → Prop)  : Prop :=
K (-1) σ
def wp_X9_row (v1 : Int32) (v2 : Int32) (σ : St) (K : Int32 → St → Prop) : Prop :=
wp_X9_isRow v1 (fun r1 =>
(if r1 = 0 then
J_X9_row_13 σ K
else
(if v2 ≤ 40 then
(if 0 ≤ v2 then
wp_X9_anew v1 v2 σ (fun t28 =>
K v2 t28)
else
wp_X9_found 5 σ (fun r21 t21 =>
K r21 t21))
else
J_X9_row_13 σ K)))
-- BellBalanceModel.stands(I)I
def J_X9_stands_92 (v1 : Int32) (v2 : Int32) (v4 : Int32) (w0 : Int32) (w1 : Int32) (σ : St) (K : Int32 → St → Prop) (Φ28 : Int32 → Int32 → Int32 → Prop) : Prop :=
Φ28 v2 (w0 ||| w1) (v4 + 1)
def J_X9_stands_75 (v1 : Int32) (v3 : Int32) (v4 : Int32) (v5 : Int32) (w0 : Int32) (w1 : Int32) (σ : St) (K : Int32 → St → Prop) (Φ28 : Int32 → Int32 → Int32 → Prop) : Prop :=
(if v5 = (-1) then
J_X9_stands_92 v1 (w0 ||| w1) v4 v3 (shl 1 v4) σ K Φ28
else
J_X9_stands_92 v1 (w0 ||| w1) v4 v3 0 σ K Φ28)
def B_X9_stands_28 (v1 : Int32) (σ : St) (K : Int32 → St → Prop)  (Φ28 : Int32 → Int32 → Int32 → Prop) (v2 : Int32) (v3 : Int32) (v4 : Int32) : Prop :=
(if 7 ≤ v4 then
wp_X9_tells v3 v2 σ (fun r103 t103 =>
K r103 t103)
else
(vp_in (2 + v1) 5280 ∧
(vp_in (14 + v1) 5280 ∧
wp_X9_after (σ.1 1 (2 + v1).toNatClampNeg) (σ.1 1 (14 + v1).toNatClampNeg) v4 (fun r54 =>
(if r54 = 20 then
J_X9_stands_75 v1 v3 v4 r54 v2 (shl 1 v4) σ K Φ28
else
J_X9_stands_75 v1 v3 v4 r54 v2 0 σ K Φ28)))))
def L_X9_stands_28 (v1 : Int32) (σ : St) (K : Int32 → St → Prop)  (v2 : Int32) (v3 : Int32) (v4 : Int32) : Prop := wl3 (B_X9_stands_28 v1 σ K) v2 v3 v4
def wp_X9_stands (v1 : Int32) (σ : St) (K : Int32 → St → Prop) : Prop :=
wp_X9_isBell v1 σ (fun r2 =>
(if r2 = 0 then
K (-1) σ
else
wp_X9_isOver v1 σ (fun r12 =>
(if r12 = 0 then
L_X9_stands_28 v1 σ K 0 0 0
else
K (-4) σ))))
-- BellBalanceModel.strikes(II)I
def J_X9_strikes_15 (σ : St) (K : Int32 → Prop)  : Prop :=
K (-1)
def J_X9_strikes_45 (w0 : Int32) (σ : St) (K : Int32 → Prop)  : Prop :=
K w0
def wp_X9_strikes (v1 : Int32) (v2 : Int32) (σ : St) (K : Int32 → Prop) : Prop :=
wp_X9_isBell v1 σ (fun r2 =>
(if r2 = 0 then
J_X9_strikes_15 σ K
else
wp_X9_isPull v2 (fun r9 =>
(if r9 = 0 then
J_X9_strikes_15 σ K
else
wp_X9_isOver v1 σ (fun r19 =>
(if r19 = 0 then
(vp_in (14 + v1) 5280 ∧
wp_X9_strikesBy v1 (σ.1 1 (14 + v1).toNatClampNeg) v2 σ (fun r42 =>
J_X9_strikes_45 r42 σ K))
else
J_X9_strikes_45 (-4) σ K))))))
-- BellBalanceModel.stroke(II)I
def J_X9_stroke_15 (σ : St) (K : Int32 → St → Prop)  : Prop :=
K (-1) σ
def wp_X9_stroke (v1 : Int32) (v2 : Int32) (σ : St) (K : Int32 → St → Prop) : Prop :=
wp_X9_isBell v1 σ (fun r2 =>
(if r2 = 0 then
J_X9_stroke_15 σ K
else
wp_X9_isPull v2 (fun r9 =>
(if r9 = 0 then
J_X9_stroke_15 σ K
else
wp_X9_isOver v1 σ (fun r19 =>
(if r19 = 0 then
(if (σ.1 0 1) = 40 then
K (-2) σ
else
wp_X9_minds σ (fun t41 =>
wp_X9_strokes v1 v2 t41 (fun t47 =>
(vp_in (14 + v1) 5280 ∧
K (t47.1 1 (14 + v1).toNatClampNeg) t47))))
else
K (-4) σ))))))
-- BellBalanceModel.tear(I)I
def wp_X9_tear (v1 : Int32) (σ : St) (K : Int32 → St → Prop) : Prop :=
wp_X9_isRow v1 (fun r1 =>
(if r1 = 0 then
K (-1) σ
else
(vp_in v1 6 ∧
(if 0 ≤ (σ.1 4 v1.toNatClampNeg) then
(vp_in v1 6 ∧
K 1 (uI σ 4 v1.toNatClampNeg (-1)))
else
wp_X9_found 1 σ (fun r20 t20 =>
K r20 t20)))))
-- BellBalanceModel.text(II)I
def J_X9_text_13 (σ : St) (K : Int32 → St → Prop)  : Prop :=
K (-1) σ
def B_X9_text_34 (v1 : Int32) (v2 : Int32) (K : Int32 → St → Prop)  (Φ34 : Int32 → St → Prop) (v3 : Int32) (σ : St) : Prop :=
(if 60 ≤ v3 then
K v2 σ
else
(vp_in ((60 * v1) + v3) 240 ∧
Φ34 (v3 + 1) (uI σ 5 ((60 * v1) + v3).toNatClampNeg 32)))
def L_X9_text_34 (v1 : Int32) (v2 : Int32) (K : Int32 → St → Prop)  (v3 : Int32) (σ : St) : Prop := wl2 (B_X9_text_34 v1 v2 K) v3 σ
def wp_X9_text (v1 : Int32) (v2 : Int32) (σ : St) (K : Int32 → St → Prop) : Prop :=
wp_X9_isText v1 (fun r1 =>
(if r1 = 0 then
J_X9_text_13 σ K
else
(if v2 ≤ 60 then
(if 0 ≤ v2 then
(vp_in v1 4 ∧
L_X9_text_34 v1 v2 K 0 (uI σ 6 v1.toNatClampNeg v2))
else
wp_X9_found 5 σ (fun r21 t21 =>
K r21 t21))
else
J_X9_text_13 σ K)))
-- BellBalanceModel.tower(I)I
def B_X9_tower_54  (K : Int32 → St → Prop)  (Φ54 : Int32 → St → Prop) (v2 : Int32) (σ : St) : Prop :=
(if 3 ≤ v2 then
(vp_in 0 5280 ∧
K (σ.1 1 (0 : Int32).toNatClampNeg) σ)
else
(vp_in v2 3 ∧
Φ54 (v2 + 1) (uI σ 2 v2.toNatClampNeg (-1))))
def L_X9_tower_54  (K : Int32 → St → Prop)  (v2 : Int32) (σ : St) : Prop := wl2 (B_X9_tower_54 K) v2 σ
def wp_X9_tower (v1 : Int32) (σ : St) (K : Int32 → St → Prop) : Prop :=
wp_X9_isText v1 (fun r1 =>
(if r1 = 0 then
K (-1) σ
else
(vp_in v1 4 ∧
(if 0 ≤ (σ.1 6 v1.toNatClampNeg) then
wp_X9_faultOf v1 σ (fun r26 t26 =>
(if r26 = (-9) then
wp_X9_copyAll 5248 0 32 t26 (fun t44 =>
L_X9_tower_54 K 0 (uI t44 0 1 0))
else
K (-4) t26))
else
wp_X9_found 1 σ (fun r20 t20 =>
K r20 t20)))))
-- BellBalanceModel.undo(I)I
def J_X9_undo_59 (v2 : Int32) (σ : St) (K : Int32 → St → Prop)  : Prop :=
K v2 σ
def wp_X9_undo (v1 : Int32) (σ : St) (K : Int32 → St → Prop) : Prop :=
wp_X9_in v1.toInt64 (0 : Int64) ((σ.1 0 1).toInt64) (fun r8 =>
(if r8 = 0 then
K (-1) σ
else
(if ((σ.1 0 1) - v1) ≤ 0 then
J_X9_undo_59 ((σ.1 0 1) - v1) σ K
else
(vp_in 1 5280 ∧
wp_X9_copyAll (32 * (v1 + 1)) 0 32 σ (fun t44 =>
(vp_in 1 5280 ∧
J_X9_undo_59 ((σ.1 0 1) - v1) (uI (uI t44 1 (1 : Int32).toNatClampNeg (σ.1 1 (1 : Int32).toNatClampNeg)) 0 1 v1) K))))))
-- BellBalanceModel.upper()J
def wp_X9_upper (σ : St) (K : Int64 → Prop) : Prop :=
K (σ.2 0 11)
-- BellBalanceModel.ways(II)I
def J_X9_ways_20 (σ : St) (K : Int32 → St → Prop)  : Prop :=
K (-1) σ
def J_X9_ways_134 (v1 : Int32) (v2 : Int32) (v3 : Int32) (v4 : Int32) (v5 : Int64) (σ : St) (K : Int32 → St → Prop) (Φ35 : Int32 → St → Prop) (Φ43 : Int32 → St → Prop) : Prop :=
(vp_in ((21 * v3) + v4) 273 ∧
Φ43 (v4 + 1) (uL σ 14 ((21 * v3) + v4).toNatClampNeg v5))
def J_X9_ways_125 (v1 : Int32) (v2 : Int32) (v3 : Int32) (v4 : Int32) (v7 : Int32) (w0 : Int64) (w1 : Int64) (σ : St) (K : Int32 → St → Prop) (Φ35 : Int32 → St → Prop) (Φ43 : Int32 → St → Prop) (Φ71 : Int64 → Int32 → Prop) : Prop :=
Φ71 (w0 + w1) (v7 + 1)
def B_X9_ways_71 (v1 : Int32) (v2 : Int32) (v3 : Int32) (v4 : Int32) (σ : St) (K : Int32 → St → Prop) (Φ35 : Int32 → St → Prop) (Φ43 : Int32 → St → Prop) (Φ71 : Int64 → Int32 → Prop) (v5 : Int64) (v7 : Int32) : Prop :=
(if 7 ≤ v7 then
J_X9_ways_134 v1 v2 v3 v4 v5 σ K Φ35 Φ43
else
(if v3 ≤ 0 then
J_X9_ways_134 v1 v2 v3 v4 v5 σ K Φ35 Φ43
else
(vp_in (2 + v1) 5280 ∧
wp_X9_after (σ.1 1 (2 + v1).toNatClampNeg) v4 v7 (fun r94 =>
(if r94 = (-1) then
J_X9_ways_125 v1 v2 v3 v4 v7 v5 (0 : Int64) σ K Φ35 Φ43 Φ71
else
(vp_in ((21 * (v3 - 1)) + r94) 273 ∧
J_X9_ways_125 v1 v2 v3 v4 v7 v5 (σ.2 14 ((21 * (v3 - 1)) + r94).toNatClampNeg) σ K Φ35 Φ43 Φ71))))))
def L_X9_ways_71 (v1 : Int32) (v2 : Int32) (v3 : Int32) (v4 : Int32) (σ : St) (K : Int32 → St → Prop) (Φ35 : Int32 → St → Prop) (Φ43 : Int32 → St → Prop) (v5 : Int64) (v7 : Int32) : Prop := wl2 (B_X9_ways_71 v1 v2 v3 v4 σ K Φ35 Φ43) v5 v7
def J_X9_ways_66 (v1 : Int32) (v2 : Int32) (v3 : Int32) (v4 : Int32) (w0 : Int64) (σ : St) (K : Int32 → St → Prop) (Φ35 : Int32 → St → Prop) (Φ43 : Int32 → St → Prop) : Prop :=
L_X9_ways_71 v1 v2 v3 v4 σ K Φ35 Φ43 w0 0
def J_X9_ways_65 (v1 : Int32) (v2 : Int32) (v3 : Int32) (v4 : Int32) (σ : St) (K : Int32 → St → Prop) (Φ35 : Int32 → St → Prop) (Φ43 : Int32 → St → Prop) : Prop :=
J_X9_ways_66 v1 v2 v3 v4 (0 : Int64) σ K Φ35 Φ43
def B_X9_ways_43 (v1 : Int32) (v2 : Int32) (v3 : Int32) (K : Int32 → St → Prop) (Φ35 : Int32 → St → Prop) (Φ43 : Int32 → St → Prop) (v4 : Int32) (σ : St) : Prop :=
(if 20 < v4 then
Φ35 (v3 + 1) σ
else
(if v3 = 0 then
(if v4 = 20 then
J_X9_ways_66 v1 v2 v3 v4 (1 : Int64) σ K Φ35 Φ43
else
J_X9_ways_65 v1 v2 v3 v4 σ K Φ35 Φ43)
else
J_X9_ways_65 v1 v2 v3 v4 σ K Φ35 Φ43))
def L_X9_ways_43 (v1 : Int32) (v2 : Int32) (v3 : Int32) (K : Int32 → St → Prop) (Φ35 : Int32 → St → Prop) (v4 : Int32) (σ : St) : Prop := wl2 (B_X9_ways_43 v1 v2 v3 K Φ35) v4 σ
def B_X9_ways_35 (v1 : Int32) (v2 : Int32) (K : Int32 → St → Prop)  (Φ35 : Int32 → St → Prop) (v3 : Int32) (σ : St) : Prop :=
(if v2 < v3 then
(vp_in (14 + v1) 5280 ∧
(vp_in ((21 * v2) + (σ.1 1 (14 + v1).toNatClampNeg)) 273 ∧
K 1 (uL (uL σ 0 11 (σ.2 14 ((21 * v2) + (σ.1 1 (14 + v1).toNatClampNeg)).toNatClampNeg)) 0 12 (1 : Int64))))
else
L_X9_ways_43 v1 v2 v3 K Φ35 0 σ)
def L_X9_ways_35 (v1 : Int32) (v2 : Int32) (K : Int32 → St → Prop)  (v3 : Int32) (σ : St) : Prop := wl2 (B_X9_ways_35 v1 v2 K) v3 σ
def wp_X9_ways (v1 : Int32) (v2 : Int32) (σ : St) (K : Int32 → St → Prop) : Prop :=
wp_X9_isBell v1 σ (fun r2 =>
(if r2 = 0 then
J_X9_ways_20 σ K
else
wp_X9_in v2.toInt64 (0 : Int64) (12 : Int64) (fun r14 =>
(if r14 = 0 then
J_X9_ways_20 σ K
else
wp_X9_isOver v1 σ (fun r24 =>
(if r24 = 0 then
L_X9_ways_35 v1 v2 K 0 σ
else
K (-4) σ))))))

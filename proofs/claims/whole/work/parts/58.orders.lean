/-! orders: counting codes -/
def sumN (f : Nat → Nat) : Nat → Nat
  | 0 => 0
  | n + 1 => sumN f n + f n
def cntB (P : Nat → Bool) : Nat → Nat
  | 0 => 0
  | n + 1 => cntB P n + (P n).toNat
theorem cntB_congr {P Q : Nat → Bool} {n : Nat} (h : ∀ c, c < n → P c = Q c) : cntB P n = cntB Q n := by
  induction n with
  | zero => rfl
  | succ n ih => simp only [cntB]; rw [ih (fun c hc => h c (by omega)), h n (by omega)]
theorem cntB_f {P : Nat → Bool} {n : Nat} (h : ∀ c, c < n → P c = false) : cntB P n = 0 := by
  induction n with
  | zero => rfl
  | succ n ih => simp only [cntB]; rw [ih (fun c hc => h c (by omega)), h n (by omega)]; rfl
theorem cntB_add (P : Nat → Bool) (a b : Nat) : cntB P (a + b) = cntB P a + cntB (fun c => P (a + c)) b := by
  induction b with
  | zero => rfl
  | succ b ih =>
    have e : cntB P (a + (b + 1)) = cntB P (a + b) + (P (a + b)).toNat := rfl
    rw [e, ih]
    simp only [cntB]
    omega
theorem cntB_mul (P : Nat → Bool) (a k : Nat) : cntB P (k * a) = sumN (fun i => cntB (fun c => P (i * a + c)) a) k := by
  induction k with
  | zero => rw [Nat.zero_mul]; rfl
  | succ k ih =>
    rw [Nat.succ_mul, cntB_add, ih]
    rfl
theorem sumN_congr {f g : Nat → Nat} {n : Nat} (h : ∀ i, i < n → f i = g i) : sumN f n = sumN g n := by
  induction n with
  | zero => rfl
  | succ n ih => simp only [sumN]; rw [ih (fun i hi => h i (by omega)), h n (by omega)]
theorem sumN_z {f : Nat → Nat} {n k : Nat} (h : ∀ i, n ≤ i → f i = 0) : sumN f (n + k) = sumN f n := by
  induction k with
  | zero => rfl
  | succ k ih =>
    have e : sumN f (n + (k + 1)) = sumN f (n + k) + f (n + k) := rfl
    rw [e, ih, h (n + k) (by omega)]; rfl
theorem cntB_set {M : Nat → Bool} {a : Nat} (h : M a = false) (n : Nat) : cntB (fun c => M c || decide (a = c)) n = cntB M n + (if a < n then 1 else 0) := by
  induction n with
  | zero => rfl
  | succ n ih =>
    have e0 : cntB (fun c => M c || decide (a = c)) (n + 1) = cntB (fun c => M c || decide (a = c)) n + (M n || decide (a = n)).toNat := rfl
    have e1 : cntB M (n + 1) = cntB M n + (M n).toNat := rfl
    rw [e0, e1, ih]
    by_cases e : a = n
    · subst e
      rw [h, decide_eq_true rfl, if_neg (Nat.lt_irrefl _), if_pos (by omega)]
      rfl
    · rw [decide_eq_false e, Bool.or_false]
      by_cases e2 : a < n
      · rw [if_pos e2, if_pos (by omega)]; omega
      · rw [if_neg e2, if_neg (by omega)]; omega
/-- may bell i come next, behind rank β, past x -/
def okI (n : Nat) (R : Nat → Nat → Nat) (x β i : Nat) : Bool := decide (i < n ∧ x / 2 ^ i % 2 = 0) && anyB (fun p => decide (β < R i p)) 7
def nxR (R : Nat → Nat → Nat) (β i : Nat) : Nat := R i (fstB (fun p => decide (β < R i p)) 7)
def feB (n : Nat) (R : Nat → Nat → Nat) : Nat → Nat → Nat → Nat → Bool
  | 0, _, _, _ => true
  | d + 1, x, β, c => okI n R x β (c / 6 ^ d) && feB n R d (x + 2 ^ (c / 6 ^ d)) (nxR R β (c / 6 ^ d)) (c % 6 ^ d)
theorem cnt_fe (n : Nat) (R : Nat → Nat → Nat) (d x β : Nat) : cntB (feB n R (d + 1) x β) (6 ^ (d + 1)) = sumN (fun i => if okI n R x β i then cntB (feB n R d (x + 2 ^ i) (nxR R β i)) (6 ^ d) else 0) 6 := by
  rw [show 6 ^ (d + 1) = 6 * 6 ^ d by rw [Nat.pow_succ, Nat.mul_comm], cntB_mul]
  refine sumN_congr (fun i _ => ?_)
  have hp : 0 < 6 ^ d := Nat.pow_pos (by decide)
  have key : ∀ c, c < 6 ^ d → feB n R (d + 1) x β (i * 6 ^ d + c) = (okI n R x β i && feB n R d (x + 2 ^ i) (nxR R β i) c) := by
    intro c hc
    have e1 : (i * 6 ^ d + c) / 6 ^ d = i := by rw [Nat.add_comm, Nat.add_mul_div_right _ _ hp, Nat.div_eq_of_lt hc, Nat.zero_add]
    have e2 : (i * 6 ^ d + c) % 6 ^ d = c := by rw [Nat.add_comm, Nat.add_mul_mod_self_right, Nat.mod_eq_of_lt hc]
    show (okI n R x β ((i * 6 ^ d + c) / 6 ^ d) && feB n R d (x + 2 ^ ((i * 6 ^ d + c) / 6 ^ d)) (nxR R β ((i * 6 ^ d + c) / 6 ^ d)) ((i * 6 ^ d + c) % 6 ^ d)) = _
    rw [e1, e2]
  rw [cntB_congr key]
  cases e : okI n R x β i with
  | true => rw [if_pos rfl]; exact cntB_congr (fun c _ => by rw [Bool.true_and])
  | false => exact cntB_f (fun c _ => by rw [Bool.false_and])
/-- zero bits -/
def zcN (x : Nat) : Nat → Nat
  | 0 => 0
  | i + 1 => zcN x i + (1 - x / 2 ^ i % 2)
theorem zc_full : ∀ n, n < 7 → ∀ x, x < 64 → x < 2 ^ n → (zcN x n = 0 ↔ x = 2 ^ n - 1) := by decide +kernel
theorem zc_set0 : ∀ n, n < 7 → ∀ i, i < 6 → ∀ x, x < 64 → (i < n ∧ x < 2 ^ n ∧ x / 2 ^ i % 2 = 0) → (x + 2 ^ i < 2 ^ n ∧ zcN (x + 2 ^ i) n + 1 = zcN x n) := by decide +kernel
theorem zc_set (n : Nat) (hn : n < 7) (i : Nat) (hi : i < 6) (hin : i < n) (x : Nat) (hx : x < 64) (hxn : x < 2 ^ n) (hb : x / 2 ^ i % 2 = 0) : x + 2 ^ i < 2 ^ n ∧ zcN (x + 2 ^ i) n + 1 = zcN x n := zc_set0 n hn i hi x hx ⟨hin, hxn, hb⟩
theorem bit_set : ∀ i, i < 6 → ∀ j, j < 6 → ∀ x, x < 64 → x / 2 ^ i % 2 = 0 → (x + 2 ^ i) / 2 ^ j % 2 = if j = i then 1 else x / 2 ^ j % 2 := by decide +kernel
theorem shl_full : ∀ n, n < 7 → shl 1 (nI n) - 1 = nI (2 ^ n - 1) := by decide +kernel
theorem p26' {n : Nat} (h : n ≤ 6) : 2 ^ n ≤ 64 := (by decide : ∀ i, i < 7 → 2 ^ i ≤ 64) n (by omega)
theorem ordersC_s {c m : St} {n dm d0 : Nat} (N : Now c m n dm d0) : ∀ (f d x β dep : Nat) (K : Int32 → Prop), d < f → d + dep ≤ 6 → x < 2 ^ n → zcN x n = d → β < 2 ^ 20 → K (nI (cntB (feB n (rkN (sN c dm)) d x β) (6 ^ d))) → wpR_X7_ordersBehind f 25 (nI x) (eR β) (nI dep) c K := by
  have hn := N.1.1
  have h64 := p26' hn
  intro f
  induction f with
  | zero => intro d x β dep K h1; omega
  | succ f ih =>
    intro d x β dep K hf hdep hx hz hβ hK
    show D_X7_ordersBehind (wpR_X7_ordersBehind f) 25 (nI x) (eR β) (nI dep) c K
    unfold D_X7_ordersBehind J_X7_ordersBehind_18
    rw [N.2.1.1, shl_full n (by omega)]
    have hfull := zc_full n (by omega) x (by omega) hx
    cases d with
    | zero =>
      have e : x = 2 ^ n - 1 := hfull.mp hz
      exact ite_tt hK (by rw [← e])
    | succ d =>
      have ne : ¬ x = 2 ^ n - 1 := fun e => by have := hfull.mpr e; omega
      refine ite_ff (ite_tt ?_ (by rw [lit_nI, nI_le' (by omega) (by decide)]; omega)) (by rw [nI_inj (by omega) (by omega)]; exact ne)
      rw [cnt_fe] at hK
      have hF : ∀ i, n ≤ i → (if okI n (rkN (sN c dm)) x β i then cntB (feB n (rkN (sN c dm)) d (x + 2 ^ i) (nxR (rkN (sN c dm)) β i)) (6 ^ d) else 0) = 0 := by
        intro i hi
        have : okI n (rkN (sN c dm)) x β i = false := by unfold okI; rw [decide_eq_false (by omega)]; rfl
        rw [this]; rfl
      have h6 := sumN_z (k := 6 - n) hF
      rw [show n + (6 - n) = 6 by omega] at h6
      rw [h6] at hK
      obtain ⟨F, eF⟩ := ex_eq (fun i => if okI n (rkN (sN c dm)) x β i then cntB (feB n (rkN (sN c dm)) d (x + 2 ^ i) (nxR (rkN (sN c dm)) β i)) (6 ^ d) else 0)
      have hFi : ∀ i, F i = if okI n (rkN (sN c dm)) x β i then cntB (feB n (rkN (sN c dm)) d (x + 2 ^ i) (nxR (rkN (sN c dm)) β i)) (6 ^ d) else 0 := fun i => by rw [← eF]
      rw [eF] at hK
      obtain ⟨A, A0, As, Ae⟩ : ∃ A : Nat → Nat, A 0 = 0 ∧ (∀ i, A (i + 1) = A i + F i) ∧ sumN F n = A n := ⟨sumN F, rfl, fun _ => rfl, rfl⟩
      rw [Ae] at hK
      unfold L_X7_ordersBehind_26
      refine for2_2 n (fun i v => v = nI (A i)) ?_ ?_ 0 _ (Nat.zero_le _) (by rw [A0]; rfl)
      · rintro _ Φ rfl
        unfold B_X7_ordersBehind_26
        rw [N.2.1.1]
        exact ite_tt hK (Int32.le_refl _)
      · rintro i _ Φ hi rfl hΦ
        unfold B_X7_ordersBehind_26 J_X7_ordersBehind_56 J_X7_ordersBehind_91
        rw [N.2.1.1, shr_bit i (by omega) x (by omega), show nI i + 1 = nI (i + 1) from nI_1 i, show nI dep + 1 = nI (dep + 1) from nI_1 dep]
        have hb := Nat.mod_lt (x / 2 ^ i) (show 0 < 2 by decide)
        have skip : okI n (rkN (sN c dm)) x β i = false → Φ (nI (A i)) (nI (i + 1)) := by
          intro e
          refine hΦ _ ?_
          rw [As, hFi, e]; rfl
        refine ite_ff (ite_c (fun zz1 => ?_) (fun zz1 => ite_tt (skip (by
          rw [lit_nI, nI_inj (by omega) (by decide)] at zz1
          unfold okI; rw [decide_eq_false (by omega)]; rfl)) rfl)) (nI_ge hi (by omega))
        rw [lit_nI, nI_inj (by omega) (by decide)] at zz1
        refine soonest_s N hi hβ (fun q hq zz2 zz3 => ?_) (fun zz2 => ite_tt (skip (by unfold okI; rw [zz2, Bool.and_false])) rfl)
        have hok : okI n (rkN (sN c dm)) x β i = true := by
          unfold okI
          rw [decide_eq_true ⟨hi, zz1⟩, anyB_t hq (decide_eq_true zz2)]; rfl
        have hnx : nxR (rkN (sN c dm)) β i = rkN (sN c dm) i q := by
          unfold nxR
          rw [fstB_eq hq (decide_eq_true zz2) zz3]
        have hset := zc_set n (by omega) i (by omega) hi x (by omega) hx zz1
        refine ite_ff (rankBy_s N hi hq ?_) (fun e => (nI_neg9 (a := q) (by omega)).mp e)
        rw [or_bit2 i (by omega) x (by omega) zz1]
        refine ih d (x + 2 ^ i) (rkN (sN c dm) i q) (dep + 1) _ (by omega) (by omega) hset.1 (by omega) (by have := rk_lt N hi q; omega) (hΦ _ ?_)
        rw [As, hFi, hok, if_pos rfl, hnx, nI_add]
/-! codes and digits -/
def cdN (u : Nat → Nat) : Nat → Nat
  | 0 => 0
  | k + 1 => 6 * cdN u k + u k
def dgN (d c k : Nat) : Nat := c / 6 ^ (d - 1 - k) % 6
theorem cd_lt {u : Nat → Nat} {s : Nat} (h : ∀ k, k < s → u k < 6) : cdN u s < 6 ^ s := by
  induction s with
  | zero => exact Nat.one_pos
  | succ s ih =>
    have h1 := ih (fun k hk => h k (by omega))
    have h2 := h s (by omega)
    simp only [cdN]
    rw [Nat.pow_succ]; omega
theorem cd_congr {u w : Nat → Nat} {s : Nat} (h : ∀ k, k < s → u k = w k) : cdN u s = cdN w s := by
  induction s with
  | zero => rfl
  | succ s ih => simp only [cdN]; rw [ih (fun k hk => h k (by omega)), h s (by omega)]
theorem dg_s {s c k : Nat} (hk : k < s) : dgN (s + 1) c k = dgN s (c / 6) k := by
  unfold dgN
  rw [show s + 1 - 1 - k = (s - 1 - k) + 1 by omega, Nat.pow_succ, Nat.mul_comm, ← Nat.div_div_eq_div_mul]
theorem dg_cd {u : Nat → Nat} {s : Nat} (h : ∀ k, k < s → u k < 6) : ∀ k, k < s → dgN s (cdN u s) k = u k := by
  induction s with
  | zero => intro k hk; omega
  | succ s ih =>
    intro k hk
    have h2 := h s (by omega)
    by_cases e : k = s
    · subst e
      unfold dgN
      rw [show k + 1 - 1 - k = 0 by omega, Nat.pow_zero, Nat.div_one]
      simp only [cdN]; omega
    · rw [dg_s (by omega)]
      have e2 : cdN u (s + 1) / 6 = cdN u s := by simp only [cdN]; omega
      rw [e2]
      exact ih (fun k hk => h k (by omega)) k (by omega)
theorem cd_dg : ∀ (s c : Nat), c < 6 ^ s → cdN (dgN s c) s = c := by
  intro s
  induction s with
  | zero => intro c hc; show 0 = c; have : c < 1 := hc; omega
  | succ s ih =>
    intro c hc
    have h1 : c / 6 < 6 ^ s := by rw [Nat.pow_succ] at hc; omega
    have e1 : cdN (dgN (s + 1) c) s = cdN (dgN s (c / 6)) s := cd_congr (fun k hk => dg_s hk)
    have e2 : dgN (s + 1) c s = c % 6 := by
      unfold dgN
      rw [show s + 1 - 1 - s = 0 by omega, Nat.pow_zero, Nat.div_one]
    show 6 * cdN (dgN (s + 1) c) s + dgN (s + 1) c s = c
    rw [e1, ih _ h1, e2]; omega
theorem dg_lt (s c k : Nat) : dgN s c k < 6 := Nat.mod_lt _ (by decide)
def xsN (x : Nat) (w : Nat → Nat) : Nat → Nat
  | 0 => x
  | k + 1 => xsN x w k + 2 ^ w k
def bsN (R : Nat → Nat → Nat) (β : Nat) (w : Nat → Nat) : Nat → Nat
  | 0 => β
  | k + 1 => nxR R (bsN R β w k) (w k)
theorem xs_sh (x : Nat) (w : Nat → Nat) (k : Nat) : xsN x w (k + 1) = xsN (x + 2 ^ w 0) (fun j => w (j + 1)) k := by
  induction k with
  | zero => rfl
  | succ k ih => simp only [xsN] at ih ⊢; rw [ih]
theorem bs_sh (R : Nat → Nat → Nat) (β : Nat) (w : Nat → Nat) (k : Nat) : bsN R β w (k + 1) = bsN R (nxR R β (w 0)) (fun j => w (j + 1)) k := by
  induction k with
  | zero => rfl
  | succ k ih => simp only [bsN] at ih ⊢; rw [ih]
theorem xs_congr {x : Nat} {w v : Nat → Nat} {k : Nat} (h : ∀ j, j < k → w j = v j) : xsN x w k = xsN x v k := by
  induction k with
  | zero => rfl
  | succ k ih => simp only [xsN]; rw [ih (fun j hj => h j (by omega)), h k (by omega)]
theorem bs_congr {R : Nat → Nat → Nat} {β : Nat} {w v : Nat → Nat} {k : Nat} (h : ∀ j, j < k → w j = v j) : bsN R β w k = bsN R β v k := by
  induction k with
  | zero => rfl
  | succ k ih => simp only [bsN]; rw [ih (fun j hj => h j (by omega)), h k (by omega)]
theorem bs_gr (R : Nat → Nat → Nat) (w : Nat → Nat) (k : Nat) : bsN R 0 w k = grB R w k := by
  induction k with
  | zero => rfl
  | succ k ih => simp only [bsN, grB]; rw [ih]; rfl
theorem fe_iff (n : Nat) (R : Nat → Nat → Nat) : ∀ (d x β c : Nat), c < 6 ^ d → (feB n R d x β c = true ↔ ∀ k, k < d → okI n R (xsN x (dgN d c) k) (bsN R β (dgN d c) k) (dgN d c k) = true) := by
  intro d
  induction d with
  | zero => intro x β c _; exact ⟨fun _ k hk => by omega, fun _ => rfl⟩
  | succ d ih =>
    intro x β c hc
    have hp : 0 < 6 ^ d := Nat.pow_pos (by decide)
    have hq : c / 6 ^ d < 6 := by rw [Nat.div_lt_iff_lt_mul hp, Nat.mul_comm, ← Nat.pow_succ]; exact hc
    have e0 : dgN (d + 1) c 0 = c / 6 ^ d := by
      unfold dgN
      rw [show d + 1 - 1 - 0 = d by omega, Nat.mod_eq_of_lt hq]
    have es : ∀ k, k < d → dgN (d + 1) c (k + 1) = dgN d (c % 6 ^ d) k := by
      intro k hk
      unfold dgN
      rw [show d + 1 - 1 - (k + 1) = d - 1 - k by omega]
      have ep : 6 ^ d = 6 ^ (d - 1 - k) * 6 ^ (k + 1) := by rw [← Nat.pow_add]; congr 1; omega
      rw [ep, Nat.mod_mul_right_div_self, Nat.mod_mod_of_dvd _ ⟨6 ^ k, by rw [Nat.pow_succ, Nat.mul_comm]⟩]
    have hi := ih (x + 2 ^ (c / 6 ^ d)) (nxR R β (c / 6 ^ d)) (c % 6 ^ d) (Nat.mod_lt _ hp)
    show (okI n R x β (c / 6 ^ d) && feB n R d (x + 2 ^ (c / 6 ^ d)) (nxR R β (c / 6 ^ d)) (c % 6 ^ d)) = true ↔ _
    rw [Bool.and_eq_true, hi]
    have tr : ∀ k, k < d → (okI n R (xsN x (dgN (d + 1) c) (k + 1)) (bsN R β (dgN (d + 1) c) (k + 1)) (dgN (d + 1) c (k + 1)) = okI n R (xsN (x + 2 ^ (c / 6 ^ d)) (dgN d (c % 6 ^ d)) k) (bsN R (nxR R β (c / 6 ^ d)) (dgN d (c % 6 ^ d)) k) (dgN d (c % 6 ^ d) k)) := by
      intro k hk
      rw [xs_sh, bs_sh, e0, es k hk, xs_congr (fun j hj => es j (by omega)), bs_congr (fun j hj => es j (by omega))]
    constructor
    · rintro ⟨a, b⟩ k hk
      cases k with
      | zero => rw [e0]; exact a
      | succ k => rw [tr k (by omega)]; exact b k (by omega)
    · intro h
      refine ⟨?_, fun k hk => ?_⟩
      · have := h 0 (by omega)
        rw [e0] at this; exact this
      · have := h (k + 1) (by omega)
        rw [tr k hk] at this; exact this

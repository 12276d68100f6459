/-! digest -/
def mixH (f : Nat → Int32) (x : Int64) : Nat → Int64
  | 0 => x
  | k + 1 => 31 * mixH f x k + (f k).toInt64
/-- behind the first i of several rows: of each its size, then its places -/
def mixR (sz : Nat → Int32) (len : Nat → Nat) (f : Nat → Nat → Int32) (x : Int64) : Nat → Int64
  | 0 => x
  | i + 1 => mixH (f i) (31 * mixR sz len f x i + (sz i).toInt64) (len i)
/-- behind the first i bells -/
def mixB (f : Nat → Nat → Int32) (x : Int64) : Nat → Int64
  | 0 => x
  | i + 1 => mixH (f i) (mixB f x i) 6
/-- what a bell tells -/
def tellV (c : St) (i q : Nat) : Int32 := if q = 0 then nI (kd c i) else if q = 1 then nI (wd c i) else if q = 2 then nI (hdN c i) else if q = 3 then nI (od c i) else if q = 4 then (if hdN c i = 20 then 1 else 0) else c.1 (28 + i) 4
def rLen (m : St) (i : Nat) : Nat := (m.1 4 i).toNatClampNeg
def xLen (m : St) (i : Nat) : Nat := (m.1 6 i).toNatClampNeg
def digV (c m : St) (n dm d : Nat) : Int64 :=
  mixR (fun i => m.1 6 i) (xLen m) (fun i k => m.1 5 (60 * i + k)) (mixR (fun i => m.1 4 i) (rLen m) (fun i k => m.1 3 (40 * i + k)) (mixH (fun i => m.1 2 i) (mixB (fun i q => tellV c i q) (mixH (fun p => cntV c m n dm d (nI p)) 17 9) n) 3) 6) 4
section DIG
variable {c m : St} {n dm d : Nat}
theorem tell_s (N : Now c m n dm d) {i q : Nat} (hi : i < n) (hq : q < 6) {K : Int32 → Prop} (hK : K (tellV c i q)) : wp_X0_tell (28 + i) (nI q) c K := by
  obtain ⟨⟨b1, b2, b3, b4, b5⟩, ⟨c1, c2, c3, c4⟩, -⟩ := N.2.2.2 i hi
  have e : ∀ k, k < 6 → (nI q = nI k ↔ q = k) := fun k hk => nI_eq (by omega) (by omega)
  unfold wp_X0_tell J_X0_tell_63 J_X0_tell_78
  unfold tellV at hK
  rw [c1, c2, c3, c4]
  refine ite_c (fun y => ?_) (fun y0 => ite_c (fun y => ?_) (fun y1 => ite_c (fun y => ?_) (fun y2 => ite_c (fun y => ?_) (fun y3 => ite_c (fun y => ?_) (fun y4 => ?_)))))
  · rw [if_pos ((e 0 (by decide)).mp y)] at hK; exact hK
  · rw [if_neg (fun w => y0 ((e 0 (by decide)).mpr w)), if_pos ((e 1 (by decide)).mp y)] at hK; exact hK
  · rw [if_neg (fun w => y0 ((e 0 (by decide)).mpr w)), if_neg (fun w => y1 ((e 1 (by decide)).mpr w)), if_pos ((e 2 (by decide)).mp y)] at hK; exact hK
  · rw [if_neg (fun w => y0 ((e 0 (by decide)).mpr w)), if_neg (fun w => y1 ((e 1 (by decide)).mpr w)), if_neg (fun w => y2 ((e 2 (by decide)).mpr w)), if_pos ((e 3 (by decide)).mp y)] at hK
    refine ite_c (fun z => ?_) (fun z => ?_)
    · rw [lit_nI, nI_inj (by omega) (by decide)] at z; rw [z] at hK; exact hK
    · rw [lit_nI, nI_inj (by omega) (by decide)] at z; rw [show od c i = 1 by omega] at hK; exact hK
  · rw [if_neg (fun w => y0 ((e 0 (by decide)).mpr w)), if_neg (fun w => y1 ((e 1 (by decide)).mpr w)), if_neg (fun w => y2 ((e 2 (by decide)).mpr w)), if_neg (fun w => y3 ((e 3 (by decide)).mpr w)), if_pos ((e 4 (by decide)).mp y)] at hK
    refine ite_c (fun z => ?_) (fun z => ?_)
    · rw [lit_nI, nI_inj (by omega) (by decide)] at z; rw [if_pos z] at hK; exact hK
    · rw [lit_nI, nI_inj (by omega) (by decide)] at z; rw [if_neg z] at hK; exact hK
  · rw [if_neg (fun w => y0 ((e 0 (by decide)).mpr w)), if_neg (fun w => y1 ((e 1 (by decide)).mpr w)), if_neg (fun w => y2 ((e 2 (by decide)).mpr w)), if_neg (fun w => y3 ((e 3 (by decide)).mpr w)), if_neg (fun w => y4 ((e 4 (by decide)).mpr w))] at hK; exact hK
theorem tellM_s (N : Now c m n dm d) {i q : Nat} (hi : i < n) (hq : q < 6) {K : Int32 → Prop} (hK : K (tellV c i q)) : wp_X9_bellTells (nI i) (nI q) m K := by
  have hn := N.1.1
  obtain ⟨⟨b1, b2, b3, b4, b5⟩, ⟨c1, c2, c3, c4⟩, d1, d2, d3, d4, d5⟩ := N.2.2.2 i hi
  unfold wp_X9_bellTells J_X9_bellTells_94
  unfold tellV at hK
  simp (disch := omega) only [lit_nI, nI_add, pk_mul, nI_clamp, vp_nI, nI_inj, nI_lt', nI_le', nI_neg1, nI_neg9, nI_neg3, neg1_nI, neg9_nI, neg_l0, neg_g0, ↓reduceIte, true_and, and_true, not_true_eq_false, not_false_eq_true, Nat.reduceEqDiff, Nat.reduceLeDiff, Nat.reduceAdd, Nat.reduceSub, Nat.reduceDiv, Nat.reduceMod, Nat.reducePow, Nat.reduceLT, Nat.reduceMul, Nat.not_lt_zero, Nat.zero_le, Nat.succ_ne_self, one_ne0, zero_ne1, ne_eq, d1, d2, d3, d4, d5]
  refine ite_c (fun y => ⟨by omega, ?_⟩) (fun y0 => ite_c (fun y => ⟨by omega, ?_⟩) (fun y1 => ite_c (fun y => ⟨by omega, ?_⟩) (fun y2 => ite_c (fun y => ⟨by omega, ?_⟩) (fun y3 => ite_c (fun y => ⟨by omega, ?_⟩) (fun y4 => ⟨by omega, ?_⟩)))))
  · rw [if_pos y] at hK; exact hK
  · rw [if_neg y0, if_pos y] at hK; exact hK
  · rw [if_neg y0, if_neg y1, if_pos y] at hK; exact hK
  · rw [if_neg y0, if_neg y1, if_neg y2, if_pos y] at hK; exact hK
  · rw [if_neg y0, if_neg y1, if_neg y2, if_neg y3, if_pos y] at hK
    refine ite_c (fun z => ?_) (fun z => ?_)
    · rw [if_pos z] at hK; exact hK
    · rw [if_neg z] at hK; exact hK
  · rw [if_neg y0, if_neg y1, if_neg y2, if_neg y3, if_neg y4] at hK; exact hK
end DIG
theorem mixH_congr {f g : Nat → Int32} {x : Int64} {n : Nat} (h : ∀ i, i < n → f i = g i) : mixH f x n = mixH g x n := by
  induction n with
  | zero => rfl
  | succ n ih => simp only [mixH]; rw [ih (fun i hi => h i (by omega)), h n (by omega)]
/-- a row of the class's: its size (-1: missing), its places -/
theorem digestOn_s {c : St} {k N s : Nat} (hN : s ≤ N) (hN2 : N < 2 ^ 30) (sz : Int32) (f : Nat → Int32) (h : (c.1 k 1 = nI 1 ∧ c.1 k 2 = nI s ∧ sz = nI s ∧ ∀ i, i < s → f i = c.1 (k + 1) i) ∨ (c.1 k 1 = nI 0 ∧ c.1 k 2 = nI 0 ∧ sz = -1 ∧ s = 0)) {x : Int64} {K : Int64 → Prop} (hK : K (mixH f (31 * x + sz.toInt64) s)) : wp_X6_digestOn k N x c K := by
  unfold wp_X6_digestOn J_X6_digestOn_20
  have lp : c.1 k 2 = nI s → (∀ i, i < s → f i = c.1 (k + 1) i) → L_X6_digestOn_26 k N c K (31 * x + sz.toInt64) 0 := by
    intro h2 hf
    unfold L_X6_digestOn_26
    refine for2_2 s (fun j y => y = mixH f (31 * x + sz.toInt64) j) ?_ ?_ 0 _ (Nat.zero_le _) rfl
    · rintro _ Φ rfl
      unfold B_X6_digestOn_26
      rw [h2]
      exact ite_tt hK (Int32.le_refl _)
    · rintro j _ Φ hj rfl hΦ
      unfold B_X6_digestOn_26
      rw [h2, nI_clamp (by omega), show nI j + 1 = nI (j + 1) from nI_1 j]
      refine ite_ff ⟨vp_in_nI (by omega) (by omega), hΦ _ ?_⟩ (nI_ge hj (by omega))
      simp only [mixH]; rw [hf j hj]
  rcases h with ⟨h1, h2, h3, h4⟩ | ⟨h1, h2, h3, h4⟩
  · refine ite_ff ?_ (by rw [h1]; decide)
    rw [h2, ← h3]
    exact lp h2 h4
  · subst h4
    refine ite_tt ?_ h1
    rw [← h3]
    exact lp h2 (fun i hi => by omega)

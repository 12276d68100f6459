/-! orders: the reference; the call -/
theorem ob_bit {c : St} {n : Nat} (h : ∀ i, i < n → od c i ≤ 1) (hn : n ≤ 6) : ∀ i, i < n → obN c n / 2 ^ i % 2 = od c i := by
  intro i hi
  rw [ob_msk h hn, msk_bit _ (Nat.le_refl 6) i (by omega)]
  have := h i hi
  rcases (show od c i = 0 ∨ od c i = 1 by omega) with e | e
  · rw [decide_eq_false (by omega), e]; rfl
  · rw [decide_eq_true ⟨hi, e⟩, e]; rfl
theorem zc_ob {c : St} {n : Nat} (h : ∀ i, i < n → od c i ≤ 1) (hn : n ≤ 6) : zcN (obN c n) n = n - ovN c n := by
  have hb := ob_bit h hn
  generalize obN c n = x at hb
  have key : ∀ k, k ≤ n → zcN x k = k - ovN c k := by
    intro k
    induction k with
    | zero => intro _; rfl
    | succ k ih =>
      intro hk
      have h1 := ovN_le (c := c) (n := k) (fun i hi => h i (by omega))
      have h2 := h k (by omega)
      simp only [zcN, ovN]
      rw [ih (by omega), hb k (by omega)]
      omega
  exact key n (Nat.le_refl _)
theorem fe_ord {c m : St} {n dm d : Nat} (N : Now c m n dm d) {s x : Nat} (hs : s = n - ovN c n) (hx : x < 6 ^ s) : feB n (rkN (sN c dm)) s (obN c n) 0 x = true ↔ (isOrd c n s (dgN s x) ∧ ∀ k, k < s → grY (rkN (sN c dm)) (dgN s x) k = true) := by
  have hn := N.1.1
  have h64 := p26' hn
  rw [fe_iff n (rkN (sN c dm)) s (obN c n) 0 x hx]
  have hw6 := dg_lt s x
  generalize dgN s x = w at hw6
  have hok : ∀ k, (okI n (rkN (sN c dm)) (xsN (obN c n) w k) (bsN (rkN (sN c dm)) 0 w k) (w k) = true ↔ (w k < n ∧ xsN (obN c n) w k / 2 ^ w k % 2 = 0) ∧ grY (rkN (sN c dm)) w k = true) := by
    intro k
    unfold okI
    rw [Bool.and_eq_true, decide_eq_true_eq, bs_gr]
    exact Iff.rfl
  have bits : ∀ k, k ≤ s → (∀ j, j < k → w j < n ∧ xsN (obN c n) w j / 2 ^ w j % 2 = 0) → xsN (obN c n) w k < 2 ^ n ∧ ∀ i, i < n → (xsN (obN c n) w k / 2 ^ i % 2 = 0 ↔ od c i = 0 ∧ ∀ j, j < k → w j ≠ i) := by
    intro k
    induction k with
    | zero =>
      intro _ _
      refine ⟨obN_lt N.od1, fun i hi => ?_⟩
      show obN c n / 2 ^ i % 2 = 0 ↔ _
      rw [ob_bit N.od1 hn i hi]
      exact ⟨fun e => ⟨e, fun j hj => by omega⟩, fun e => e.1⟩
    | succ k ih =>
      intro hk hj
      obtain ⟨b1, b2⟩ := ih (by omega) (fun j hj' => hj j (by omega))
      obtain ⟨e1, e2⟩ := hj k (by omega)
      have h1 := zc_set n (by omega) (w k) (by omega) e1 (xsN (obN c n) w k) (by omega) b1 e2
      refine ⟨h1.1, fun i hi => ?_⟩
      show (xsN (obN c n) w k + 2 ^ w k) / 2 ^ i % 2 = 0 ↔ _
      rw [bit_set (w k) (by omega) i (by omega) _ (by omega) e2]
      by_cases e : i = w k
      · rw [if_pos e]
        exact ⟨fun z => by omega, fun z => absurd e.symm (z.2 k (by omega))⟩
      · rw [if_neg e, b2 i hi]
        refine ⟨fun z => ⟨z.1, fun j hj' => ?_⟩, fun z => ⟨z.1, fun j hj' => z.2 j (by omega)⟩⟩
        by_cases ej : j = k
        · subst ej; exact fun q => e q.symm
        · exact z.2 j (by omega)
  constructor
  · intro h
    have h' : ∀ j, j < s → w j < n ∧ xsN (obN c n) w j / 2 ^ w j % 2 = 0 := fun j hj => ((hok j).mp (h j hj)).1
    refine ⟨⟨hs, fun k hk => ?_, fun j k hjk hk => ?_⟩, fun k hk => ((hok k).mp (h k hk)).2⟩
    · have := ((bits k (by omega) (fun j hj => h' j (by omega))).2 (w k) (h' k hk).1).mp (h' k hk).2
      exact ⟨(h' k hk).1, this.1⟩
    · have := ((bits k (by omega) (fun j hj => h' j (by omega))).2 (w k) (h' k hk).1).mp (h' k hk).2
      exact this.2 j hjk
  · rintro ⟨ho, hg⟩ k hk
    have pre : ∀ k, k ≤ s → ∀ j, j < k → w j < n ∧ xsN (obN c n) w j / 2 ^ w j % 2 = 0 := by
      intro k
      induction k with
      | zero => intro _ j hj; omega
      | succ k ih =>
        intro hk j hj
        by_cases e : j = k
        · subst e
          refine ⟨(ho.2.1 j (by omega)).1, ?_⟩
          exact ((bits j (by omega) (ih (by omega))).2 (w j) (ho.2.1 j (by omega)).1).mpr ⟨(ho.2.1 j (by omega)).2, fun i hi => ho.2.2 i j hi (by omega)⟩
        · exact ih (by omega) j (by omega)
    exact (hok k).mpr ⟨pre (k + 1) (by omega) k (by omega), hg k hk⟩
/-- the code of a row's order -/
def cdR (c : St) (n dm : Nat) (r : Nat → Nat) : Nat := cdN (hearF (rowF (od c) (sN c dm) r) n).2.1 (n - ovN c n)
theorem cdR_lt {c m : St} {n dm d : Nat} (N : Now c m n dm d) {r : Nat → Nat} (hA : rowA n (od c) (sN c dm) r) : cdR c n dm r < 6 ^ (n - ovN c n) := cd_lt (fun k hk => by have := ((row_order N hA).2.1.2.1 k hk).1; have := N.1.1; omega)
theorem cdR_congr {c : St} {n dm : Nat} {p r : Nat → Nat} (h : ∀ j, j < n → p j = r j) : cdR c n dm p = cdR c n dm r := by
  unfold cdR
  rw [hearF_congr (f := rowF (od c) (sN c dm) p) (g := rowF (od c) (sN c dm) r) (fun j hj => by unfold rowF; rw [h j hj])]
theorem cdR_iff {c m : St} {n dm d : Nat} (N : Now c m n dm d) {x : Nat} (hx : x < 6 ^ (n - ovN c n)) : (∃ r, rowA n (od c) (sN c dm) r ∧ cdR c n dm r = x) ↔ feB n (rkN (sN c dm)) (n - ovN c n) (obN c n) 0 x = true := by
  have hn := N.1.1
  rw [fe_ord N rfl hx]
  constructor
  · rintro ⟨r, hA, rfl⟩
    obtain ⟨a1, a2, a3, a4⟩ := row_order N hA
    have hd : ∀ k, k < n - ovN c n → dgN (n - ovN c n) (cdR c n dm r) k = (hearF (rowF (od c) (sN c dm) r) n).2.1 k := dg_cd (fun k hk => by have := (a2.2.1 k hk).1; omega)
    have ho : isOrd c n (n - ovN c n) (dgN (n - ovN c n) (cdR c n dm r)) := ⟨rfl, fun k hk => by rw [hd k hk]; exact a2.2.1 k hk, fun j k hjk hk => by rw [hd j (by omega), hd k hk]; exact a2.2.2 j k hjk hk⟩
    exact ⟨ho, (gr_first N hA ho (fun k hk => by rw [hd k (by omega), hd (k + 1) hk]; exact a4 k hk)).1⟩
  · rintro ⟨ho, hg⟩
    obtain ⟨g1, g2⟩ := gr_row N ho hg
    obtain ⟨i1, i2⟩ := row_is N g1 ho g2
    refine ⟨_, g1, ?_⟩
    unfold cdR
    rw [cd_congr (fun k hk => (i2 k hk).1), cd_dg _ _ hx]
theorem ordersM_s {c m : St} {n dm d : Nat} (N : Now c m n dm d) {K : Int32 → St → Prop} (hK : ∀ m' M, SrM m m' → (∀ x, M x = true ↔ ∃ r, rowA n (od c) (sN c dm) r ∧ cdR c n dm r = x) → K (nI (cntB M 46656)) m') : L_X9_orders_14 K 0 m := by
  have hn := N.1.1
  have hs6 : n - ovN c n ≤ 6 := by omega
  have h66 : 6 ^ (n - ovN c n) ≤ 46656 := Nat.pow_le_pow_right (n := 6) (by decide) hs6
  have hcl : ∀ r, rowA n (od c) (sN c dm) r → cdR c n dm r < 46656 := fun r hr => Nat.lt_of_lt_of_le (cdR_lt N hr) h66
  unfold L_X9_orders_14
  refine for2_1 46656 (fun j τ => (∀ x, x < j → τ.1 16 x = 0) ∧ (∀ a b, a ≠ 16 → τ.1 a b = m.1 a b) ∧ τ.2 = m.2) ?_ ?_ 0 _ (Nat.zero_le _) ⟨fun x hx => absurd hx (Nat.not_lt_zero x), fun _ _ _ => rfl, rfl⟩
  · rintro τ Φ ⟨t1, t2, t3⟩
    unfold B_X9_orders_14
    refine ite_tt (begins_s (fun m0 z1 z2 z3 => ?_)) (by rw [lit_nI, nI_le' (by decide) (by decide)]; exact Nat.le_refl _)
    unfold L_X9_orders_41
    have S0 : SrM m m0 := ⟨fun a b _ h9 _ _ _ h16 => (z2 a b h9).trans (t2 a b h16), z3.trans t3⟩
    refine wl3_ind (fun v1 v2 τ => SrM m τ ∧ ((v2 = 1 ∧ ∃ p M, v1 = nI (cntB M 46656) ∧ (∀ j, j < n → τ.1 9 j = nI (p j)) ∧ admR c n p ∧ (∀ x, x < 46656 → τ.1 16 x = bI (M x)) ∧ ∀ x, M x = true ↔ ∃ r, rowA n (od c) (sN c dm) r ∧ vN r n < vN p n ∧ cdR c n dm r = x) ∨ (v2 = 0 ∧ ∃ M, v1 = nI (cntB M 46656) ∧ ∀ x, M x = true ↔ ∃ r, rowA n (od c) (sN c dm) r ∧ cdR c n dm r = x))) (fun _ v2 τ => if v2 = 0 then 0 else 7 ^ n + 1 - vN (fun j => (τ.1 9 j).toNatClampNeg) n) ?_ _ _ _ ⟨S0, Or.inl ⟨rfl, fun _ => 0, fun _ => false, by rw [cntB_f (fun _ _ => rfl)]; rfl, fun j hj => z1 j (by omega), fun j hj => ⟨Nat.lt_of_lt_of_le Nat.one_pos (by decide), fun _ => rfl⟩, fun x hx => (z2 16 x (by decide)).trans (t1 x hx), fun x => ⟨fun z => Bool.noConfusion z, fun ⟨r, _, z, _⟩ => absurd z (by rw [vN_zero]; exact Nat.not_lt_zero _)⟩⟩⟩
    rintro v1 v2 τ ⟨S, h⟩ Φ hΦ
    rcases h with ⟨rfl, p, M, rfl, h9, ha, h16, hM⟩ | ⟨rfl, M, rfl, hM⟩
    · have N' := S.now N
      have meas : ∀ q : Nat → Nat, (∀ j, j < n → (q j) < 7) → ∀ σ : St, (∀ j, j < n → σ.1 9 j = nI (q j)) → vN (fun j => (σ.1 9 j).toNatClampNeg) n = vN q n := fun q hq σ hσ => vN_congr (fun j hj => by rw [hσ j hj, nI_clamp (by have := hq j hj; omega)])
      have next : ∀ (τ' : St) (M' : Nat → Bool) (v : Int32), v = nI (cntB M' 46656) → SrM m τ' → (∀ j, j < n → τ'.1 9 j = nI (p j)) → (∀ x, x < 46656 → τ'.1 16 x = bI (M' x)) → (∀ x, M' x = true ↔ ∃ r, rowA n (od c) (sN c dm) r ∧ vN r n < vN p n + 1 ∧ cdR c n dm r = x) → J_X9_orders_109 v τ' K Φ := by
        intro τ' M' v hv S' h9' h16' hM'
        unfold J_X9_orders_109
        refine isNext_s (S'.now N) h9' ha (fun m2 p' g1 g2 g3 g4 g5 g6 => hΦ _ _ _ ⟨⟨fun a x y1 y2 y3 y4 y5 y6 => (g5 a x y2).trans (S'.1 a x y1 y2 y3 y4 y5 y6), g6.trans S'.2⟩, Or.inl ⟨rfl, p', M', hv, g1, g2, fun x hx => (g5 16 x (by decide)).trans (h16' x hx), fun x => ?_⟩⟩ ?_) (fun g1 m2 g5 g6 => hΦ _ _ _ ⟨⟨fun a x y1 y2 y3 y4 y5 y6 => (g5 a x y2).trans (S'.1 a x y1 y2 y3 y4 y5 y6), g6.trans S'.2⟩, Or.inr ⟨rfl, M', hv, fun x => ?_⟩⟩ ?_)
        · rw [hM' x]
          constructor
          · rintro ⟨r, r1, r2, r3⟩; exact ⟨r, r1, by omega, r3⟩
          · rintro ⟨r, r1, r2, r3⟩
            refine ⟨r, r1, ?_, r3⟩
            rcases Nat.lt_or_ge (vN r n) (vN p n + 1) with q | q
            · exact q
            · have := g4 r (rowA_a r1) (by omega); omega
        · have v1 := vN_lt (p := p') (n := n) (fun j hj => (g2 j hj).1)
          rw [if_neg (by decide), if_neg (by decide), meas p' (fun j hj => (g2 j hj).1) m2 g1, meas p (fun j hj => (ha j hj).1) τ h9]
          omega
        · rw [hM' x]
          constructor
          · rintro ⟨r, r1, r2, r3⟩; exact ⟨r, r1, r3⟩
          · rintro ⟨r, r1, r3⟩; exact ⟨r, r1, Nat.lt_succ_of_le (g1 r (rowA_a r1)), r3⟩
        · have v1 := vN_lt (p := p) (n := n) (fun j hj => (ha j hj).1)
          rw [if_pos rfl, if_neg (by decide), meas p (fun j hj => (ha j hj).1) τ h9]
          omega
      have same : ∀ r, rowA n (od c) (sN c dm) r → vN r n = vN p n → ∀ j, j < n → r j = p j := fun r hr e => vN_inj (fun j hj => (hr j hj).1) (fun j hj => (ha j hj).1) e
      unfold B_X9_orders_41
      refine ite_ff (isAll_s N' (fun i hi => ⟨h9 i hi, (ha i hi).1⟩) (fun m1 y1 y2 => ?_)) (by decide)
      have S1 : SrM m m1 := ⟨fun a x z1 z2 z3 z4 z5 z6 => (y2.1 a x z1 z3 z4).trans (S.1 a x z1 z2 z3 z4 z5 z6), y2.2.trans S.2⟩
      have h91 : ∀ j, j < n → m1.1 9 j = nI (p j) := fun j hj => (y2.1 9 j (by omega) (by omega) (by omega)).trans (h9 j hj)
      have h161 : ∀ x, x < 46656 → m1.1 16 x = bI (M x) := fun x hx => (y2.1 16 x (by omega) (by omega) (by omega)).trans (h16 x hx)
      refine ⟨fun hval => ite_ff ?_ (by decide), fun hval => ite_tt (next m1 M _ rfl S1 h91 h161 (fun x => ?_)) rfl⟩
      · have hA := rowA_i ha hval
        obtain ⟨a1, a2, a3, a4⟩ := row_order N hA
        have hu6 : ∀ k, k < n - ovN c n → (hearF (rowF (od c) (sN c dm) p) n).2.1 k < 6 := fun k hk => by have := (a2.2.1 k hk).1; omega
        have hcd : cdN (hearF (rowF (od c) (sN c dm) p) n).2.1 (n - ovN c n) = cdR c n dm p := rfl
        have hlt := hcl p hA
        have y11 : m1.1 0 18 = nI (n - ovN c n) := by rw [y1.1, a1]
        have y12 : ∀ k, k < n - ovN c n → m1.1 11 k = nI ((hearF (rowF (od c) (sN c dm) p) n).2.1 k) := fun k hk => (y1.2 k (by omega)).1
        obtain ⟨u, eu⟩ := ex_eq (hearF (rowF (od c) (sN c dm) p) n).2.1
        rw [eu] at hu6 hcd y12
        obtain ⟨s, es⟩ := ex_eq (n - ovN c n)
        rw [es] at hu6 hcd y11 y12 hs6
        obtain ⟨C, C0, Cs, Ce⟩ : ∃ C : Nat → Nat, C 0 = 0 ∧ (∀ k, C (k + 1) = 6 * C k + u k) ∧ cdN u s = C s := ⟨cdN u, rfl, fun _ => rfl, rfl⟩
        rw [Ce] at hcd
        obtain ⟨q, eq⟩ := ex_eq (cdR c n dm p)
        rw [eq] at hcd hlt
        unfold L_X9_orders_57
        refine for2_2 s (fun k v => v = nI (C k)) ?_ ?_ 0 _ (Nat.zero_le _) (by rw [C0]; rfl)
        · rintro _ Ψ rfl
          unfold B_X9_orders_57 J_X9_orders_100
          have hvq : vp_in (nI q) 46656 := vp_in_nI hlt (by decide)
          rw [y11, hcd, nI_clamp (by omega), h161 q hlt, show vp_nar .boolean (1 : Int32) = bI true from rfl]
          refine ite_tt ⟨hvq, ?_⟩ (Int32.le_refl _)
          have upd : ∀ (M' : Nat → Bool), (∀ x, M' x = (M x || decide (q = x))) → (∀ j, j < n → (uI m1 16 q (bI true)).1 9 j = nI (p j)) ∧ (∀ x, x < 46656 → (uI m1 16 q (bI true)).1 16 x = bI (M' x)) ∧ (∀ x, M' x = true ↔ ∃ r, rowA n (od c) (sN c dm) r ∧ vN r n < vN p n + 1 ∧ cdR c n dm r = x) := by
            intro M' hM'
            refine ⟨fun j hj => (uI_c (by decide)).trans (h91 j hj), fun x hx => ?_, fun x => ?_⟩
            · rw [hM']
              by_cases e : x = q
              · subst e; rw [uI_s, decide_eq_true rfl, Bool.or_true]
              · rw [uI_n e, h161 x hx, decide_eq_false (fun z => e z.symm), Bool.or_false]
            · rw [hM', Bool.or_eq_true, hM x, decide_eq_true_eq]
              constructor
              · rintro (⟨r, r1, r2, r3⟩ | e)
                · exact ⟨r, r1, by omega, r3⟩
                · exact ⟨p, hA, by omega, by rw [eq]; exact e⟩
              · rintro ⟨r, r1, r2, r3⟩
                rcases Nat.lt_or_ge (vN r n) (vN p n) with zz | zz
                · exact Or.inl ⟨r, r1, zz, r3⟩
                · right
                  rw [← eq, ← r3]
                  exact (cdR_congr (same r r1 (by omega))).symm
          have S2 : SrM m (uI m1 16 q (bI true)) := ⟨fun a x z1 z2 z3 z4 z5 z6 => (uI_c z6).trans (S1.1 a x z1 z2 z3 z4 z5 z6), S1.2⟩
          obtain ⟨b1, b2, b3⟩ := upd (fun x => M x || decide (q = x)) (fun _ => rfl)
          cases hMq : M q with
          | true =>
            refine ite_ff ⟨hvq, next _ _ _ ?_ S2 b1 b2 b3⟩ (by decide)
            have : cntB (fun x => M x || decide (q = x)) 46656 = cntB M 46656 := cntB_congr (fun x _ => by
              by_cases e : q = x
              · subst e; rw [hMq]; rfl
              · rw [decide_eq_false e, Bool.or_false])
            rw [this]
            exact Int32.add_zero _
          | false =>
            refine ite_tt ⟨hvq, next _ _ _ ?_ S2 b1 b2 b3⟩ rfl
            rw [cntB_set hMq, if_pos hlt]
            exact nI_1 _
        · rintro k _ Ψ hk rfl hΨ
          unfold B_X9_orders_57
          rw [y11, nI_clamp (show k < 2 ^ 31 by omega), y12 k hk, show nI k + 1 = nI (k + 1) from nI_1 k]
          refine ite_ff ⟨vp_in_nI (by omega) (by decide), hΨ _ ?_⟩ (nI_ge hk (by omega))
          rw [Cs, lit_nI, pk_mul, nI_add]
      · rw [hM x]
        constructor
        · rintro ⟨r, r1, r2, r3⟩; exact ⟨r, r1, by omega, r3⟩
        · rintro ⟨r, r1, r2, r3⟩
          refine ⟨r, r1, ?_, r3⟩
          rcases Nat.lt_or_ge (vN r n) (vN p n) with zz | zz
          · exact zz
          · have e := same r r1 (by omega)
            exact absurd (fun j hj o => by rw [← e j hj]; exact (r1 j hj).2.2 o) hval
    · unfold B_X9_orders_41
      exact ite_tt (hK τ M S hM) rfl
  · rintro j τ Φ hj ⟨t1, t2, t3⟩ hΦ
    unfold B_X9_orders_14
    rw [nI_clamp (by omega), show nI j + 1 = nI (j + 1) from nI_1 j, show vp_nar .boolean (0 : Int32) = 0 from rfl]
    refine ite_ff ⟨vp_in_nI hj (by decide), hΦ _ ⟨fun x hx => ?_, fun a b z => (uI_c z).trans (t2 a b z), t3⟩⟩ (by rw [lit_nI, nI_le' (by decide) (by omega)]; omega)
    by_cases e : x = j
    · subst e; exact uI_s _ _ _ _
    · rw [uI_n e]; exact t1 x (by omega)
theorem op_orders {c m : St} (h : Rel c m) : wp_X8_orders c (fun r => wp_X9_orders m (fun r' m' => r = r' ∧ Rel c m')) := by
  obtain ⟨n, dm, d, N⟩ := h.now
  have hn := N.1.1
  have hov := ovN_le (c := c) N.od1
  have pre : ∀ K : Int32 → St → Prop, (if nI n = 0 then K (-4) m else L_X9_orders_14 K 0 m) → wp_X9_orders m K := by
    intro K hK
    unfold wp_X9_orders
    rw [show (0 : Int32).toNatClampNeg = 0 from rfl, N.2.2.1.1]
    exact ⟨in0, hK⟩
  unfold wp_X8_orders J_X8_orders_32 wp_X7_ordersBehind
  rw [N.2.1.1]
  refine ite_c (fun zz1 => pre _ (ite_tt ⟨rfl, h⟩ zz1)) (fun zz1 => overBits_s N ?_)
  have hlt := obN_lt (c := c) N.od1
  refine ordersC_s N 8 (n - ovN c n) (obN c n) 0 0 _ (by omega) (by omega) hlt (zc_ob N.od1 hn) (by decide) (pre _ (ite_ff (ordersM_s N (fun m' M S hM => ⟨?_, S.keep h⟩)) zz1))
  have h66 : 6 ^ (n - ovN c n) ≤ 46656 := Nat.pow_le_pow_right (n := 6) (by decide) (show n - ovN c n ≤ 6 by omega)
  have e1 : cntB M 46656 = cntB M (6 ^ (n - ovN c n)) := by
    have := cntB_add M (6 ^ (n - ovN c n)) (46656 - 6 ^ (n - ovN c n))
    rw [show 6 ^ (n - ovN c n) + (46656 - 6 ^ (n - ovN c n)) = 46656 by omega] at this
    rw [this, cntB_f (P := fun x => M (6 ^ (n - ovN c n) + x)) (fun x _ => ?_)]
    · rfl
    · cases e : M (6 ^ (n - ovN c n) + x) with
      | false => rfl
      | true =>
        obtain ⟨r, r1, r2⟩ := (hM _).mp e
        have := cdR_lt N r1
        omega
  rw [e1]
  congr 1
  refine cntB_congr (fun x hx => ?_)
  have hi := (hM x).trans (cdR_iff N hx)
  cases e : M x with
  | true => rw [hi.mp e]
  | false =>
    cases e2 : feB n (rkN (sN c dm)) (n - ovN c n) (obN c n) 0 x with
    | false => rfl
    | true => rw [hi.mpr e2] at e; exact absurd e (by decide)

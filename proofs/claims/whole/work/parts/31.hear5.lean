theorem op_heard {c m : St} (h : Rel c m) (a b : Int32) : wp_X8_heard a b c (fun r c' => wp_X9_heard a b m (fun r' m' => r = r' ∧ Rel c' m')) := by
  obtain ⟨n, dm, d, N⟩ := h.now
  have hn := N.1.1
  unfold wp_X8_heard J_X8_heard_10
  by_cases hb : vp_in b 6
  · obtain ⟨j, hj, rfl⟩ := vp_in_of hb (by decide)
    have mod : ∀ {K : Int32 → St → Prop}, (wp_X9_against a m (fun r16 t16 => (if 0 ≤ r16 then wp_X9_laysPulls a t16 (fun t28 => (if (t28.1 0 18) ≤ nI j then J_X9_heard_65 (-9) t28 K else (vp_in (nI j) 6 ∧ (vp_in (t28.1 11 (nI j).toNatClampNeg) 6 ∧ (vp_in (nI j) 6 ∧ wp_X9_tells (t28.1 10 (t28.1 11 (nI j).toNatClampNeg).toNatClampNeg) (t28.1 11 (nI j).toNatClampNeg) t28 (fun r57 t57 => J_X9_heard_65 r57 t57 K)))))) else K r16 t16))) → wp_X9_heard a (nI j) m K := by
      intro K hh
      unfold wp_X9_heard
      exact inM (x := j) (l := 0) (h := 5) (by rw [toInt_L, nI_toInt (by omega)]) (by decide) (by decide) (fun _ _ => ite_ff hh (by decide)) (fun q => by omega)
    refine ite_ff (ite_tt (rnd_c h N a (fun r c' r0 r1 hM => ite_ff ?_ r0) (fun ρ p hρ n0 ea hsz hp hpm hM => ite_tt ?_ rfl)) (by rw [lit_nI, nI_lt' (by omega) (by decide)]; exact hj)) (by rw [lit_nI, nI_lt' (by omega) (by decide)]; omega)
    · exact mod (hM _ (fun m' hR => ite_ff ⟨rfl, hR⟩ r1))
    · subst ea
      have ok : HOK (hearF (fun i => hN c dm i (p i)) n) n := hearF_ok (fun i hi => hN_le N hi _) hn
      have ok1 := ok.1
      refine ⟨vp_in_nI hρ (by decide), ?_⟩
      rw [nI_clamp (n := ρ) (by omega)]
      refine listen_s N (by omega) hsz (by omega) (by decide) (fun i hi => ⟨(hp i hi).1, by have := (hp i hi).2; omega⟩) (fun c' g1 g2 g3 => ?_)
      rw [g1.1]
      refine ite_c (fun z => ⟨hb, hb, ?_⟩) (fun z => ?_)
      · rw [nI_lt' (by omega) (by omega)] at z
        have w1 := (ok.2 j z).1
        rw [nI_clamp (n := j) (by omega), uI_c (by omega), (g1.2 j z).1, (g1.2 j z).2]
        refine mod (hM _ (ite_tt (laysPulls_s N hρ (fun i hi => ⟨hpm i hi, by have := (hp i hi).2; omega⟩) (fun m' y1 y2 y3 _ y4 y5 => ?_)) (by decide)))
        unfold wp_X9_tells J_X9_heard_65
        rw [y1.1, nI_clamp (n := j) (by omega), (y1.2 j z).1, nI_clamp (by omega), (y1.2 j z).2]
        exact ite_ff ⟨hb, vp_in_nI (by omega) (by decide), hb, rfl, (h.keep (keepC_h g2 g3) (keepM_h y4 y5)).tell _⟩ (nI_ge z (by omega))
      · rw [nI_lt' (by omega) (by omega)] at z
        refine mod (hM _ (ite_tt (laysPulls_s N hρ (fun i hi => ⟨hpm i hi, by have := (hp i hi).2; omega⟩) (fun m' y1 y2 y3 _ y4 y5 => ?_)) (by decide)))
        unfold J_X9_heard_65
        rw [y1.1]
        exact ite_tt ⟨rfl, h.keep (keepC_h g2 g3) (keepM_h y4 y5)⟩ (by rw [nI_le' (by omega) (by omega)]; omega)
  · have mod : wp_X9_heard a b m (fun r' m' => -1 = r' ∧ Rel c m') := by
      unfold wp_X9_heard
      refine inM (x := b.toInt) (l := 0) (h := 5) (toInt_L b) (by decide) (by decide) (fun q1 q2 => ?_) (fun q => ite_tt ⟨rfl, h⟩ rfl)
      exact absurd (vp_in_iff.mpr ⟨q1, by omega⟩) hb
    refine ite_c (fun _ => mod) (fun z => ite_c (fun z2 => ?_) (fun _ => mod))
    rcases out_of (by decide) hb with q | q
    · exact absurd q z
    · exact absurd z2 (by rw [Int32.not_lt]; exact q)
theorem gap_s {m : St} {X : HS} {n k : Nat} (hc : HM m X) (ok : HOK X n) (hn : n ≤ 6) (hs : srtH X.2.2 X.1) (hk1 : 1 ≤ k) (hk : k < X.1) {K : Int32 → Prop} (hK : K (nI (X.2.2 k - X.2.2 (k - 1)))) : wp_X9_gap (nI k) m K := by
  obtain ⟨k, rfl⟩ : ∃ k', k = k' + 1 := ⟨k - 1, by omega⟩
  have h1 := ok.1
  have g2 := hs k (by omega)
  have w1 := (ok.2 (k + 1) (by omega))
  have w2 := (ok.2 k (by omega))
  unfold wp_X9_gap
  rw [show nI (k + 1) - 1 = nI k from nI_pred k, nI_clamp (n := k + 1) (by omega), nI_clamp (n := k) (by omega), (hc.2 (k + 1) (by omega)).1, (hc.2 k (by omega)).1, nI_clamp (n := X.2.1 (k + 1)) (by omega), nI_clamp (n := X.2.1 k) (by omega), (hc.2 (k + 1) (by omega)).2, (hc.2 k (by omega)).2, pk_sub (by omega)]
  exact ⟨vp_in_nI (by omega) (by decide), vp_in_nI (by omega) (by decide), vp_in_nI (by omega) (by decide), vp_in_nI (by omega) (by decide), hK⟩
/-- where the longest gap is among the first -/
def lgN (g : Nat → Nat) : Nat → Nat
  | 0 => 1
  | k + 1 => if g (k + 2) ≤ g (lgN g k) then lgN g k else k + 2
theorem lgN_le (g : Nat → Nat) (k : Nat) : 1 ≤ lgN g k ∧ lgN g k ≤ k + 1 := by
  induction k with
  | zero => exact ⟨Nat.le_refl _, Nat.le_refl _⟩
  | succ k ih => simp only [lgN]; split <;> omega
theorem op_late {c m : St} (h : Rel c m) (a : Int32) : wp_X8_late a c (fun r c' => wp_X9_late a m (fun r' m' => r = r' ∧ Rel c' m')) := by
  obtain ⟨n, dm, d, N⟩ := h.now
  have hn := N.1.1
  unfold wp_X8_late
  refine rnd_c h N a (fun r c' r0 r1 hM => ite_ff ?_ r0) (fun ρ p hρ n0 ea hsz hp hpm hM => ite_tt ?_ rfl)
  · unfold wp_X9_late
    exact hM _ (fun m' hR => ite_ff ⟨rfl, hR⟩ r1)
  · subst ea
    have ok : HOK (hearF (fun i => hN c dm i (p i)) n) n := hearF_ok (fun i hi => hN_le N hi _) hn
    have sr := hearF_srt (fun i => hN c dm i (p i)) n
    refine ⟨vp_in_nI hρ (by decide), ?_⟩
    rw [nI_clamp (by omega)]
    refine listen_s N (by omega) hsz (by omega) (by decide) (fun i hi => ⟨(hp i hi).1, by have := (hp i hi).2; omega⟩) (fun c' g1 g2 g3 => ?_)
    have lm : ∀ {KM : St → Prop}, (∀ m', HM m' (hearF (fun i => hN c dm i (p i)) n) → Rel c' m' → KM m') → wp_X9_laysPulls (nI ρ) m KM := fun hk => laysPulls_s N hρ (fun i hi => ⟨hpm i hi, by have := (hp i hi).2; omega⟩) (fun m' y1 y2 y3 _ y4 y5 => hk m' y1 (h.keep (keepC_h g2 g3) (keepM_h y4 y5)))
    generalize hearF (fun i => hN c dm i (p i)) n = X at ok sr g1 lm
    obtain ⟨s, w, t⟩ := X
    have h1 : s ≤ n := ok.1
    have ho : ∀ j, j < s → w j < n ∧ t j ≤ 50 := ok.2
    have hs : srtH t s := sr
    have hc1 : c'.1 70 2 = nI s := g1.1
    have hc2 : ∀ j, j < s → c'.1 71 j = nI (w j) ∧ c'.1 72 j = nI (t j) := g1.2
    obtain ⟨b, b0, bs, bl⟩ : ∃ b : Nat → Nat, b 2 = 1 ∧ (∀ k, 2 ≤ k → b (k + 1) = if t k - t (k - 1) ≤ t (b k) - t (b k - 1) then b k else k) ∧ ∀ k, 2 ≤ k → 1 ≤ b k ∧ b k < k := by
      refine ⟨fun k => lgN (fun k => t k - t (k - 1)) (k - 2), rfl, fun k hk => ?_, fun k hk => ?_⟩
      · obtain ⟨k, rfl⟩ : ∃ k', k = k' + 2 := ⟨k - 2, by omega⟩
        rfl
      · have := lgN_le (fun k => t k - t (k - 1)) (k - 2)
        show 1 ≤ lgN _ _ ∧ lgN _ _ < k
        omega
    unfold L_X8_late_31
    refine for3_3 (max s 1) (fun k x y => 1 ≤ k ∧ (k = 1 → x = -9 ∧ y = -1) ∧ (2 ≤ k → x = nI (w (b k)) ∧ y = nI (t (b k) - t (b k - 1)))) ?_ ?_ 1 _ _ (by omega) ⟨Nat.le_refl _, fun _ => ⟨rfl, rfl⟩, fun z => by omega⟩
    · rintro x y Φ ⟨_, e1, e2⟩
      unfold B_X8_late_31 J_X8_late_108
      rw [hc1]
      refine ite_tt ?_ (by rw [nI_le' (by omega) (by omega)]; omega)
      unfold wp_X9_late
      by_cases s2 : 2 ≤ s
      · rw [show max s 1 = s by omega] at e2
        obtain ⟨rfl, rfl⟩ := e2 s2
        have hb := bl s s2
        have hw := (ho (b s) (by omega)).1
        refine ite_ff (hM _ (ite_tt (lm (fun m' y1 hR => ?_)) (by decide))) (fun e => (nI_neg9 (a := w (b s)) (by omega)).mp e)
        have hm1 : m'.1 0 18 = nI s := y1.1
        rw [hm1]
        refine ite_tt ?_ (by rw [lit_nI, nI_le' (by decide) (by omega)]; exact s2)
        unfold L_X9_late_33
        refine for2_2 s (fun k x => 2 ≤ k ∧ x = nI (b k)) ?_ ?_ 2 _ s2 ⟨Nat.le_refl _, by rw [b0]; rfl⟩
        · rintro _ Φ ⟨_, rfl⟩
          unfold B_X9_late_33 wp_X9_tells
          rw [hm1]
          refine ite_tt (gap_s y1 ok hn sr hb.1 hb.2 ⟨vp_in_nI (by omega) (by decide), ?_⟩) (Int32.le_refl _)
          rw [nI_clamp (by omega), (y1.2 (b s) hb.2).1]
          exact ⟨rfl, hR.tell _⟩
        · rintro k _ Φ hk ⟨hk2, rfl⟩ hΦ
          have hbk := bl k hk2
          have tk := (ho k hk).2
          have tb := (ho (b k) (by omega)).2
          unfold B_X9_late_33 J_X9_late_62
          rw [hm1, show nI k + 1 = nI (k + 1) from nI_1 k]
          refine ite_ff (gap_s y1 ok hn sr (by omega) hk (gap_s y1 ok hn sr hbk.1 (by show b k < s; omega) ?_)) (nI_ge hk (by omega))
          show (if nI (t k - t (k - 1)) ≤ nI (t (b k) - t (b k - 1)) then Φ (nI (b k)) (nI (k + 1)) else Φ (nI k) (nI (k + 1)))
          refine ite_c (fun z => hΦ _ ⟨by omega, ?_⟩) (fun z => hΦ _ ⟨by omega, ?_⟩)
          · rw [nI_le' (by omega) (by omega)] at z
            rw [bs k hk2, if_pos z]
          · rw [nI_le' (by omega) (by omega)] at z
            rw [bs k hk2, if_neg z]
      · obtain ⟨rfl, rfl⟩ := e1 (by omega)
        refine ite_tt (hM _ (ite_tt (lm (fun m' y1 hR => ?_)) (by decide))) rfl
        have hm1 : m'.1 0 18 = nI s := y1.1
        rw [hm1]
        exact ite_ff ⟨rfl, hR⟩ (by rw [lit_nI, nI_le' (by decide) (by omega)]; exact s2)
    · rintro k x y Φ hk ⟨hk1, e1, e2⟩ hΦ
      have hks : k < s := by omega
      have tk := (ho k hks).2
      have sk := hs (k - 1) (by omega)
      rw [show k - 1 + 1 = k by omega] at sk
      have ek : nI k - 1 = nI (k - 1) := pk_sub (b := 1) (by omega)
      unfold B_X8_late_31 J_X8_late_90
      rw [hc1, ek, nI_clamp (by omega), nI_clamp (by omega), (hc2 k hks).1, (hc2 k hks).2, (hc2 (k - 1) (by omega)).2, pk_sub sk, show nI k + 1 = nI (k + 1) from nI_1 k]
      have v1 := vp_in_nI (n := k) (N := 6) (by omega) (by decide)
      have v2 := vp_in_nI (n := k - 1) (N := 6) (by omega) (by decide)
      refine ite_ff ⟨v1, v2, ite_c (fun z => hΦ _ _ ⟨by omega, fun e => by omega, fun _ => ?_⟩) (fun z => ⟨v1, hΦ _ _ ⟨by omega, fun e => by omega, fun _ => ?_⟩⟩)⟩ (nI_ge hks (by omega))
      · by_cases k1 : k = 1
        · rw [(e1 k1).2] at z
          exact absurd (Int32.le_trans (nI_pos' (n := t k - t (k - 1)) (by omega)) z) (by decide)
        · obtain ⟨rfl, rfl⟩ := e2 (by omega)
          have hbk := bl k (by omega)
          have tb := (ho (b k) (by omega)).2
          rw [nI_le' (by omega) (by omega)] at z
          rw [bs k (by omega), if_pos z]
          exact ⟨rfl, rfl⟩
      · by_cases k1 : k = 1
        · subst k1; rw [b0]; exact ⟨rfl, rfl⟩
        · obtain ⟨rfl, rfl⟩ := e2 (by omega)
          have hbk := bl k (by omega)
          have tb := (ho (b k) (by omega)).2
          rw [nI_le' (by omega) (by omega)] at z
          rw [bs k (by omega), if_neg z]
          exact ⟨rfl, rfl⟩

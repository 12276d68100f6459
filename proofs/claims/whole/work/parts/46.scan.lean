/-! the small language: what is read -/
def kN (v : Int32) : Nat := if v = 98 then 0 else if v = 104 then 1 else if v = 113 then 2 else if v = 110 then 3 else if v = 103 then 4 else if v = 116 then 5 else 9
def eK (x : Nat) : Int32 := if x = 9 then -9 else nI x
theorem kN_b (v : Int32) : kN v < 6 ∨ kN v = 9 := by unfold kN; (repeat' split) <;> omega
theorem kindC_s {v : Int32} {K : Int32 → Prop} (hK : K (eK (kN v))) : wp_X8_kindOf v K := by
  unfold wp_X8_kindOf J_X8_kindOf_104
  by_cases e98 : v = 98
  · subst e98
    rw [show eK (kN 98) = 0 by decide] at hK
    exact ite_tt hK rfl
  by_cases e103 : v = 103
  · subst e103
    rw [show eK (kN 103) = 4 by decide] at hK
    exact ite_ff (ite_ff (ite_ff (ite_ff (ite_ff (ite_tt hK rfl) (by decide)) (by decide)) (by decide)) (by decide)) (by decide)
  by_cases e104 : v = 104
  · subst e104
    rw [show eK (kN 104) = 1 by decide] at hK
    exact ite_ff (ite_ff (ite_ff (ite_ff (ite_ff (ite_ff (ite_tt hK rfl) (by decide)) (by decide)) (by decide)) (by decide)) (by decide)) (by decide)
  by_cases e110 : v = 110
  · subst e110
    rw [show eK (kN 110) = 3 by decide] at hK
    exact ite_ff (ite_ff (ite_ff (ite_ff (ite_ff (ite_ff (ite_ff (ite_ff (ite_ff (ite_ff (ite_ff (ite_ff (ite_tt hK rfl) (by decide)) (by decide)) (by decide)) (by decide)) (by decide)) (by decide)) (by decide)) (by decide)) (by decide)) (by decide)) (by decide)) (by decide)
  by_cases e113 : v = 113
  · subst e113
    rw [show eK (kN 113) = 2 by decide] at hK
    exact ite_ff (ite_ff (ite_ff (ite_ff (ite_ff (ite_ff (ite_ff (ite_ff (ite_ff (ite_ff (ite_ff (ite_ff (ite_ff (ite_ff (ite_ff (ite_tt hK rfl) (by decide)) (by decide)) (by decide)) (by decide)) (by decide)) (by decide)) (by decide)) (by decide)) (by decide)) (by decide)) (by decide)) (by decide)) (by decide)) (by decide)) (by decide)
  by_cases e116 : v = 116
  · subst e116
    rw [show eK (kN 116) = 5 by decide] at hK
    exact ite_ff (ite_ff (ite_ff (ite_ff (ite_ff (ite_ff (ite_ff (ite_ff (ite_ff (ite_ff (ite_ff (ite_ff (ite_ff (ite_ff (ite_ff (ite_ff (ite_ff (ite_ff (ite_tt hK rfl) (by decide)) (by decide)) (by decide)) (by decide)) (by decide)) (by decide)) (by decide)) (by decide)) (by decide)) (by decide)) (by decide)) (by decide)) (by decide)) (by decide)) (by decide)) (by decide)) (by decide)) (by decide)
  have e : kN v = 9 := by unfold kN; rw [if_neg e98, if_neg e104, if_neg e113, if_neg e110, if_neg e103, if_neg e116]
  rw [e, show eK 9 = -9 from rfl] at hK
  exact ite_ff (ite_c (fun _ => hK) (fun _ => ite_c (fun _ => hK) (fun _ => ite_c (fun _ => hK) (fun _ => ite_c (fun _ => hK) (fun _ => ite_ff (ite_ff (ite_c (fun _ => hK) (fun _ => ite_c (fun _ => hK) (fun _ => ite_c (fun _ => hK) (fun _ => ite_c (fun _ => hK) (fun _ => ite_c (fun _ => hK) (fun _ => ite_ff (ite_c (fun _ => hK) (fun _ => ite_c (fun _ => hK) (fun _ => ite_ff (ite_c (fun _ => hK) (fun _ => ite_c (fun _ => hK) (fun _ => ite_ff (hK) e116))) e113))) e110)))))) e104) e103))))) e98
theorem kindM_s {v : Int32} {K : Int32 → Prop} (hK : K (if kN v = 9 then -1 else nI (kN v))) : wp_X9_kindOf v K := by
  unfold wp_X9_kindOf J_X9_kindOf_61
  by_cases e98 : v = 98
  · subst e98
    rw [show (if kN 98 = 9 then (-1 : Int32) else nI (kN 98)) = 0 by decide] at hK
    exact ite_tt hK rfl
  by_cases e104 : v = 104
  · subst e104
    rw [show (if kN 104 = 9 then (-1 : Int32) else nI (kN 104)) = 1 by decide] at hK
    exact ite_ff (ite_tt hK rfl) (by decide)
  by_cases e113 : v = 113
  · subst e113
    rw [show (if kN 113 = 9 then (-1 : Int32) else nI (kN 113)) = 2 by decide] at hK
    exact ite_ff (ite_ff (ite_tt hK rfl) (by decide)) (by decide)
  by_cases e110 : v = 110
  · subst e110
    rw [show (if kN 110 = 9 then (-1 : Int32) else nI (kN 110)) = 3 by decide] at hK
    exact ite_ff (ite_ff (ite_ff (ite_tt hK rfl) (by decide)) (by decide)) (by decide)
  by_cases e103 : v = 103
  · subst e103
    rw [show (if kN 103 = 9 then (-1 : Int32) else nI (kN 103)) = 4 by decide] at hK
    exact ite_ff (ite_ff (ite_ff (ite_ff (ite_tt hK rfl) (by decide)) (by decide)) (by decide)) (by decide)
  by_cases e116 : v = 116
  · subst e116
    rw [show (if kN 116 = 9 then (-1 : Int32) else nI (kN 116)) = 5 by decide] at hK
    exact ite_ff (ite_ff (ite_ff (ite_ff (ite_ff (ite_tt hK rfl) (by decide)) (by decide)) (by decide)) (by decide)) (by decide)
  have e : kN v = 9 := by unfold kN; rw [if_neg e98, if_neg e104, if_neg e113, if_neg e110, if_neg e103, if_neg e116]
  rw [if_pos e] at hK
  exact ite_ff (ite_ff (ite_ff (ite_ff (ite_ff (ite_ff (hK) e116) e103) e110) e113) e104) e98
/-- past blanks -/
def pbF (T : Nat → Int32) (s : Nat) : Nat → Nat → Nat
  | 0, p => p
  | f + 1, p => if p < s ∧ T p = 32 then pbF T s f (p + 1) else p
def pb (T : Nat → Int32) (s p : Nat) : Nat := pbF T s (s - p) p
theorem pb_y {T : Nat → Int32} {s p : Nat} (h : p < s) (h2 : T p = 32) : pb T s p = pb T s (p + 1) := by
  unfold pb
  rw [show s - p = (s - (p + 1)) + 1 by omega]
  simp only [pbF]
  rw [if_pos ⟨h, h2⟩]
theorem pb_n {T : Nat → Int32} {s p : Nat} (h : ¬ (p < s ∧ T p = 32)) : pb T s p = p := by
  unfold pb
  cases e : s - p with
  | zero => rfl
  | succ f => simp only [pbF]; rw [if_neg h]
theorem pb_le {T : Nat → Int32} {s : Nat} : ∀ f p, s - p = f → p ≤ s → pb T s p ≤ s := by
  intro f
  induction f with
  | zero => intro p h1 h2; rw [pb_n (by omega)]; exact h2
  | succ f ih =>
    intro p h1 h2
    by_cases e : p < s ∧ T p = 32
    · rw [pb_y e.1 e.2]; exact ih (p + 1) (by omega) (by omega)
    · rw [pb_n e]; exact h2
/-- a figure at a place; 99: none -/
def fgN (T : Nat → Int32) (s p : Nat) : Nat := if p < s ∧ 0 ≤ (T p - 48).toInt ∧ (T p - 48).toInt ≤ 9 then (T p - 48).toNatClampNeg else 99
theorem fg_lt {T : Nat → Int32} {s p : Nat} (h : fgN T s p ≠ 99) : p < s ∧ fgN T s p ≤ 9 ∧ T p - 48 = nI (fgN T s p) := by
  unfold fgN at h ⊢
  by_cases e : p < s ∧ 0 ≤ (T p - 48).toInt ∧ (T p - 48).toInt ≤ 9
  · rw [if_pos e]
    obtain ⟨e1, e2, e3⟩ := e
    obtain ⟨j, hj, ej⟩ := vp_in_of (vp_in_iff.mpr ⟨e2, by omega⟩ : vp_in (T p - 48) 10) (by decide)
    rw [ej, nI_clamp (by omega)]
    exact ⟨e1, by omega, rfl⟩
  · rw [if_neg e] at h; exact absurd rfl h
theorem fg_no {T : Nat → Int32} {s p : Nat} (h : fgN T s p = 99) (hp : p < s) : (T p - 48).toInt < 0 ∨ 9 < (T p - 48).toInt := by
  unfold fgN at h
  by_cases e : p < s ∧ 0 ≤ (T p - 48).toInt ∧ (T p - 48).toInt ≤ 9
  · rw [if_pos e] at h
    obtain ⟨e1, e2, e3⟩ := e
    obtain ⟨j, hj, ej⟩ := vp_in_of (vp_in_iff.mpr ⟨e2, by omega⟩ : vp_in (T p - 48) 10) (by decide)
    rw [ej, nI_clamp (by omega)] at h
    omega
  · omega
def kdN (T : Nat → Int32) (s p : Nat) : Nat := if p < s then kN (T p) else 9
theorem kd_b (T : Nat → Int32) (s p : Nat) : kdN T s p < 6 ∨ kdN T s p = 9 := by
  unfold kdN
  split
  · exact kN_b _
  · exact Or.inr rfl
def limN (f : Nat) : Nat := if f = 2 then 0 else 9
/-- how many signs of a bell are right -/
def gdN (T : Nat → Int32) (s p : Nat) : Nat := if kdN T s p = 9 then 0 else if ¬ (1 ≤ fgN T s (p + 1) ∧ fgN T s (p + 1) ≤ 9) then 1 else if ¬ fgN T s (p + 2) ≤ 2 then 2 else if ¬ fgN T s (p + 3) ≤ limN (fgN T s (p + 2)) then 3 else 4
theorem gd_4 {T : Nat → Int32} {s p : Nat} (h : gdN T s p = 4) : kdN T s p < 6 ∧ 1 ≤ fgN T s (p + 1) ∧ fgN T s (p + 1) ≤ 9 ∧ fgN T s (p + 2) ≤ 2 ∧ fgN T s (p + 3) ≤ limN (fgN T s (p + 2)) ∧ p + 3 < s ∧ 10 * fgN T s (p + 2) + fgN T s (p + 3) ≤ 20 := by
  have hb := kd_b T s p
  unfold gdN at h
  by_cases e1 : kdN T s p = 9
  · rw [if_pos e1] at h; omega
  rw [if_neg e1] at h
  by_cases e2 : ¬ (1 ≤ fgN T s (p + 1) ∧ fgN T s (p + 1) ≤ 9)
  · rw [if_pos e2] at h; omega
  rw [if_neg e2] at h
  by_cases e3 : ¬ fgN T s (p + 2) ≤ 2
  · rw [if_pos e3] at h; omega
  rw [if_neg e3] at h
  by_cases e4 : ¬ fgN T s (p + 3) ≤ limN (fgN T s (p + 2))
  · rw [if_pos e4] at h; omega
  have hl : limN (fgN T s (p + 2)) ≤ 9 := by unfold limN; split <;> omega
  have h3 := fg_lt (T := T) (s := s) (p := p + 3) (by omega)
  refine ⟨by omega, by omega, by omega, by omega, by omega, h3.1, ?_⟩
  unfold limN at e4
  by_cases e5 : fgN T s (p + 2) = 2
  · rw [if_pos e5] at e4; omega
  · rw [if_neg e5] at e4; omega
/-- a text of the class: at cell k -/
def TxC (c : St) (k : Nat) (T : Nat → Int32) (s : Nat) : Prop := s ≤ 60 ∧ c.1 k 2 = nI s ∧ ∀ i, i < s → c.1 (k + 1) i = T i
theorem signC_s {c : St} {k s q : Nat} {T : Nat → Int32} (h : TxC c k T s) (hq : q < 2 ^ 20) {K : Int32 → Prop} (k1 : q < s → K (T q)) (k0 : s ≤ q → K 1000) : wp_X6_sign k 60 (nI q) c K := by
  obtain ⟨hs, h2, hT⟩ := h
  unfold wp_X6_sign J_X6_sign_20
  refine has_c (by omega) h2 (fun i hi e => ?_) (fun e => ite_tt (k0 ?_) rfl)
  · rw [nI_inj (by omega) (by omega)] at e
    subst e
    rw [nI_clamp (by omega), hT q hi]
    exact ite_ff ⟨vp_in_nI (by omega) (by decide), k1 hi⟩ (by decide)
  · rcases Nat.lt_or_ge q s with z | z
    · exact absurd (vp_in_nI z (by omega)) e
    · exact z
theorem isFigC_s {c : St} {k s q lo hi : Nat} {T : Nat → Int32} (h : TxC c k T s) (hq : q < 2 ^ 20) (hlo : lo ≤ 9) (hhi : hi ≤ 9) {K : Int32 → Prop} (k1 : lo ≤ fgN T s q → fgN T s q ≤ hi → K 1) (k0 : ¬ (lo ≤ fgN T s q ∧ fgN T s q ≤ hi) → K 0) : wp_X6_isFigure k 60 (nI q) (nI lo) (nI hi) c K := by
  unfold wp_X6_isFigure wp_X6_figure J_X6_isFigure_22 J_X6_isFigure_23
  refine signC_s h hq (fun z => ?_) (fun z => ?_)
  · by_cases e : fgN T s q = 99
    · have hn := fg_no e z
      have kk : K 0 := k0 (by omega)
      refine ite_c (fun _ => ⟨zok0, kk⟩) (fun y => signC_s h hq (fun _ => ite_tt ⟨zok0, kk⟩ ?_) (fun _ => by omega))
      rw [Int32.lt_iff_toInt_lt, nI_toInt (by omega)] at y ⊢
      omega
    · obtain ⟨_, f2, f3⟩ := fg_lt e
      rw [f3]
      refine ite_c (fun y => ⟨zok0, k0 ?_⟩) (fun y => signC_s h hq (fun _ => ?_) (fun _ => by omega))
      · rw [nI_lt' (by omega) (by omega)] at y; omega
      · rw [f3]
        rw [nI_lt' (by omega) (by omega)] at y
        refine ite_c (fun w => ⟨zok0, k0 ?_⟩) (fun w => ⟨zok1, k1 (by omega) ?_⟩)
        · rw [nI_lt' (by omega) (by omega)] at w; omega
        · rw [nI_lt' (by omega) (by omega)] at w; omega
  · have e99 : fgN T s q = 99 := by unfold fgN; rw [if_neg (by omega)]
    have kk : K 0 := k0 (by omega)
    have ev : (1000 - 48 : Int32) = nI 952 := rfl
    rw [ev]
    refine ite_ff (signC_s h hq (fun _ => by omega) (fun _ => ?_)) (by rw [nI_lt' (by decide) (by omega)]; omega)
    rw [ev]
    exact ite_tt ⟨zok0, kk⟩ (by rw [nI_lt' (by omega) (by decide)]; omega)
theorem figC_s {c : St} {k s q : Nat} {T : Nat → Int32} (h : TxC c k T s) (hq : q < 2 ^ 20) (hf : fgN T s q ≤ 9) {K : Int32 → Prop} (hK : K (nI (fgN T s q))) : wp_X6_figure k 60 (nI q) c K := by
  unfold wp_X6_figure
  obtain ⟨f1, f2, f3⟩ := fg_lt (T := T) (s := s) (p := q) (by omega)
  exact signC_s h hq (fun _ => by rw [f3]; exact hK) (fun _ => by omega)
theorem blanksC_s {c : St} {k s p : Nat} {T : Nat → Int32} (h : TxC c k T s) (hp : p ≤ s) {K : Int32 → Prop} (hK : K (nI (pb T s p))) : wp_X6_pastBlanks k 60 (nI p) c K := by
  have hs := h.1
  unfold wp_X6_pastBlanks L_X6_pastBlanks_2
  refine wl1_ind (fun x => ∃ q, x = nI q ∧ q ≤ s ∧ pb T s q = pb T s p) (fun x => 60 - x.toNatClampNeg) ?_ _ ⟨p, rfl, hp, rfl⟩
  rintro _ ⟨q, rfl, hq, e⟩ Φ hΦ
  unfold B_X6_pastBlanks_2 J_X6_pastBlanks_26
  rw [h.2.1, show nI q + 1 = nI (q + 1) from nI_1 q]
  refine ite_c (fun z => ?_) (fun z => ?_)
  · rw [nI_le' (by omega) (by omega)] at z
    rw [pb_n (by omega)] at e
    rw [e]; exact hK
  · rw [nI_le' (by omega) (by omega)] at z
    refine signC_s h (by omega) (fun y => ite_c (fun w => hΦ _ ⟨q + 1, rfl, by omega, ?_⟩ ?_) (fun w => ?_)) (fun y => by omega)
    · rw [← pb_y y w]; exact e
    · rw [nI_clamp (by omega), nI_clamp (by omega)]; omega
    · rw [pb_n (fun z => w z.2)] at e
      rw [e]; exact hK
theorem itemC_s {c : St} {k s p : Nat} {T : Nat → Int32} (h : TxC c k T s) (hp : p ≤ s) {K : Int32 → Prop} (hK : K (nI (gdN T s p))) : wp_X8_itemSigns k 60 (nI p) c K := by
  have hs := h.1
  unfold gdN at hK
  unfold wp_X8_itemSigns J_X8_itemSigns_78
  have e1 : nI p + 1 = nI (p + 1) := nI_1 p
  have e2 : nI p + 2 = nI (p + 2) := nI_add p 2
  have e3 : nI p + 3 = nI (p + 3) := nI_add p 3
  rw [e1, e2, e3]
  have main : ∀ v : Int32, kN v = kdN T s p → wp_X8_kindOf v (fun r5 => if r5 = -9 then K 0 else wp_X6_isFigure k 60 (nI (p + 1)) 1 9 c (fun r22 => if r22 = 0 then K 1 else wp_X6_isFigure k 60 (nI (p + 2)) 0 2 c (fun r36 => if r36 = 0 then K 2 else wp_X6_figure k 60 (nI (p + 2)) c (fun r59 => wp_X6_isFigure k 60 (nI (p + 3)) 0 (imin 9 (20 - (10 * r59))) c (fun r67 => if r67 = 0 then K 3 else K 4))))) := by
    intro v hv
    have hb := kd_b T s p
    refine kindC_s ?_
    rw [hv]
    by_cases k9 : kdN T s p = 9
    · rw [if_pos k9] at hK
      rw [k9]
      exact ite_tt hK rfl
    · rw [if_neg k9] at hK
      have ek : eK (kdN T s p) = nI (kdN T s p) := by unfold eK; rw [if_neg k9]
      rw [ek]
      refine ite_ff (isFigC_s (lo := 1) (hi := 9) h (by omega) (by omega) (by omega) (fun w1 w2 => ite_ff ?_ (by decide)) (fun w => ite_tt ?_ rfl)) (fun e => (nI_neg9 (a := kdN T s p) (by omega)).mp e)
      · rw [if_neg (by omega)] at hK
        refine isFigC_s (lo := 0) (hi := 2) h (by omega) (by omega) (by omega) (fun _ w3 => ite_ff ?_ (by decide)) (fun w => ite_tt ?_ rfl)
        · rw [if_neg (by omega)] at hK
          refine figC_s h (by omega) (by omega) ?_
          have el : imin 9 (20 - 10 * nI (fgN T s (p + 2))) = nI (limN (fgN T s (p + 2))) := by
            generalize fgN T s (p + 2) = f at w3
            rcases (show f = 0 ∨ f = 1 ∨ f = 2 by omega) with rfl | rfl | rfl <;> decide
          have hl : limN (fgN T s (p + 2)) ≤ 9 := by unfold limN; split <;> omega
          rw [el]
          refine isFigC_s (lo := 0) h (by omega) (by omega) hl (fun _ w4 => ite_ff ?_ (by decide)) (fun w => ite_tt ?_ rfl)
          · rw [if_neg (by omega)] at hK; exact hK
          · rw [if_pos (by omega)] at hK; exact hK
        · rw [if_pos (by omega)] at hK; exact hK
      · rw [if_pos w] at hK; exact hK
  refine signC_s h (by omega) (fun z => main _ ?_) (fun z => main _ ?_)
  · unfold kdN; rw [if_pos z]
  · unfold kdN; rw [if_neg (by omega)]; decide

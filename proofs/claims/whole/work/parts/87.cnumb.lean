/-! has, longest; the number game: gain, reckonWorths -/
section
variable {u z rk jf ln ng cg tb rn P st wa we : Nat} {c ro fx : Nat → Nat} {M : rg_M} {y : Nat → Rat}
theorem cT_isWithin (a b d : Int32) : rT_isWithin a b d M = some (if b ≤ a ∧ a ≤ d then 1 else 0, M) := by
  rw [rT_isWithin_u, rT_isWithin_e]
  by_cases h1 : a < b
  · rw [if_pos h1, rT_isWithin_14_e, rT_isWithin_15_e, if_pos (Or.inl rfl), if_neg (fun h => absurd h.1 (by rw [Int32.le_iff_toInt_le]; rw [Int32.lt_iff_toInt_lt] at h1; omega))]; rfl
  · have e1 : b ≤ a := by rw [Int32.le_iff_toInt_le]; rw [Int32.lt_iff_toInt_lt] at h1; omega
    rw [if_neg h1]
    by_cases h2 : d < a
    · rw [if_pos h2, rT_isWithin_14_e, rT_isWithin_15_e, if_pos (Or.inl rfl), if_neg (fun h => absurd h.2 (by rw [Int32.le_iff_toInt_le]; rw [Int32.lt_iff_toInt_lt] at h2; omega))]; rfl
    · have e2 : a ≤ d := by rw [Int32.le_iff_toInt_le]; rw [Int32.lt_iff_toInt_lt] at h2; omega
      rw [if_neg h2, rT_isWithin_15_e, if_pos (Or.inr rfl), if_pos ⟨e1, e2⟩]; rfl
theorem nI_within {x : Int32} {n : Nat} (hn : n < 2 ^ 30) : (0 ≤ x ∧ x ≤ nI n - 1) ↔ ∃ k, k < n ∧ x = nI k := by
  have e : (nI n - 1).toInt = (n : Int) - 1 := pk_sub_toInt (a := n) (b := 1) hn (by decide)
  constructor
  · rintro ⟨h1, h2⟩
    rw [Int32.le_iff_toInt_le] at h1 h2
    have h1 : 0 ≤ x.toInt := h1
    rw [e] at h2
    obtain ⟨k, k1, k2⟩ := nI_of (x := x) (by rw [Int32.lt_iff_toInt_lt]; show ¬ x.toInt < 0; omega)
    refine ⟨k, ?_, k2⟩
    rw [k2, nI_toInt k1] at h2
    omega
  · rintro ⟨k, h1, rfl⟩
    refine ⟨nI_pos' (by omega), ?_⟩
    rw [Int32.le_iff_toInt_le, e, nI_toInt (by omega)]
    omega
theorem cL_has (hK : rg_K M ln = 3) (hI : cLi ln P st wa we M) (hP : P < 100) (ha : wa < 100) (he : we < 100) (x w : Int32) : ∃ r, rL_has ln x w M = some (r, M) ∧ (r = 0 ∨ r = 1) ∧ (r = 1 ↔ ∃ p v, p < P ∧ v < wyc wa we p ∧ x = nI p ∧ w = nI v) := by
  rw [rL_has_u, rL_has_e, if_pos hK, hI.1, cT_isWithin]
  simp only [Option.bind_some]
  by_cases h1 : 0 ≤ x ∧ x ≤ nI P - 1
  · rw [if_pos h1, if_neg (by decide), if_pos hK]
    obtain ⟨p, p1, p2⟩ := (nI_within (by omega)).mp h1
    subst p2
    have hw : wyc wa we p < 100 := by unfold wyc; split <;> omega
    rw [cL_ways hK hI (by omega)]
    simp only [Option.bind_some]
    rw [cT_isWithin]
    simp only [Option.bind_some]
    by_cases h2 : 0 ≤ w ∧ w ≤ nI (wyc wa we p) - 1
    · rw [if_pos h2, if_neg (by decide), rL_has_34_e, if_pos (Or.inr rfl)]
      obtain ⟨v, v1, v2⟩ := (nI_within (by omega)).mp h2
      exact ⟨1, rfl, Or.inr rfl, fun _ => ⟨p, v, p1, v1, rfl, v2⟩, fun _ => rfl⟩
    · rw [if_neg h2, if_pos rfl, rL_has_33_e, rL_has_34_e, if_pos (Or.inl rfl)]
      refine ⟨0, rfl, Or.inl rfl, fun h => absurd h (by decide), ?_⟩
      rintro ⟨p', v, q1, q2, q3, q4⟩
      have : p = p' := (nI_eq (by omega) (by omega)).mp q3
      subst this
      exact absurd ((nI_within (by omega)).mpr ⟨v, q2, q4⟩) h2
  · rw [if_neg h1, if_pos rfl, rL_has_33_e, rL_has_34_e, if_pos (Or.inl rfl)]
    refine ⟨0, rfl, Or.inl rfl, fun h => absurd h (by decide), ?_⟩
    rintro ⟨p', v, q1, q2, q3, q4⟩
    exact absurd ((nI_within (by omega)).mpr ⟨p', q1, q3⟩) h1
/-- the longest numerator or denominator -/
def lgW (y : Nat → Rat) (fr a : Nat) : Nat → Nat
  | 0 => a
  | n + 1 => max (max (lgW y fr a n) (qB (y (fr + n)))) (qB (y (40 + (fr + n))))
def lgP (y : Nat → Rat) (st wa we : Nat) : Nat → Nat
  | 0 => 0
  | p + 1 => lgW y (p * st) (lgP y st wa we p) (wyc wa we p)
theorem nI_max {a b : Nat} (ha : a < 2 ^ 31) (hb : b < 2 ^ 31) : (if nI a < nI b then nI b else nI a) = nI (max a b) := by
  by_cases h : a < b
  · rw [if_pos (by rw [nI_ltI ha hb]; exact h), Nat.max_eq_right (by omega)]
  · rw [if_neg (by rw [nI_ltI ha hb]; exact h), Nat.max_eq_left (by omega)]
theorem cL_lg14 (hE : cE u z rk c jf ln ng cg tb rn ro fx M y) (hI : cLi ln P st wa we M) {p a : Nat} (hp : p < 20) (hst : p * st + wyc wa we p ≤ 40) (ha : a ≤ 40300) : ∀ d j : Nat, wyc wa we p - j = d → j ≤ wyc wa we p → lgW y (p * st) a j ≤ 40300 → rL_longest_14 ln (nI (lgW y (p * st) a j)) (nI p) (nI j) M = rL_longest_4 ln (nI (lgW y (p * st) a (wyc wa we p))) (nI (p + 1)) M ∧ lgW y (p * st) a (wyc wa we p) ≤ 40300 := by
  have A := hE.1.all
  intro d
  induction d with
  | zero =>
    intro j hd hj hl
    have e : j = wyc wa we p := by omega
    subst e
    rw [rL_longest_14_e, if_pos A.1.1, cL_ways A.1.1 hI (by omega)]
    simp only [Option.bind_some, Int32.le_refl, if_true, nI_1]
    exact ⟨trivial, hl⟩
  | succ d ih =>
    intro j hd hj hl
    have hjn : j < wyc wa we p := by omega
    have q0 := hE.1.q (k := 0) (i := p * st + j) (by omega) (by omega)
    have q1 := hE.1.q (k := 1) (i := p * st + j) (by omega) (by omega)
    rw [show 40 * 0 + (p * st + j) = p * st + j by omega] at q0
    rw [show 40 * 1 + (p * st + j) = 40 + (p * st + j) by omega] at q1
    have k1 := nI_clamp (n := p * st + j) (by omega)
    have k2 := rm_i0 (a := p * st + j) (by omega)
    have k3 : p * st + j < 40 := by omega
    have pp : ¬ nI (wyc wa we p) ≤ nI j := by rw [nI_leI (by omega) (by omega)]; omega
    obtain ⟨m1, m2⟩ := cE_longest hE (i := p * st + j) (Or.inl (by omega))
    obtain ⟨m3, m4⟩ := cE_longest hE (i := 40 + (p * st + j)) (Or.inl (by omega))
    have hl2 : lgW y (p * st) a (j + 1) ≤ 40300 := by
      show max (max _ _) _ ≤ _; omega
    rw [rL_longest_14_e, if_pos A.1.1, cL_ways A.1.1 hI (by omega)]
    simp only [Option.bind_some, pp, if_false, A, if_true, cL_slot A.1.1 hI p j, k1, k2, k3, and_self, q0, q1, m1, m3]
    rw [nI_max (by omega) (by omega), nI_max (by omega) (by omega), nI_1]
    exact ih (j + 1) (by omega) (by omega) hl2
theorem cL_longest (hE : cE u z rk c jf ln ng cg tb rn ro fx M y) (hI : cLi ln P st wa we M) (hP : P ≤ 20) (hst : ∀ p, p < P → p * st + wyc wa we p ≤ 40) : rL_longest ln M = some (nI (lgP y st wa we P), M) := by
  have A := hE.1.all
  have go : ∀ d j : Nat, P - j = d → j ≤ P → lgP y st wa we j ≤ 40300 → rL_longest_4 ln (nI (lgP y st wa we j)) (nI j) M = some (some (.int (nI (lgP y st wa we P))), M) := by
    intro d
    induction d with
    | zero =>
      intro j hd hj hl
      have e : j = P := by omega
      subst e
      rw [rL_longest_4_e, if_pos A.1.1, hI.1, if_pos (Int32.le_refl _)]
    | succ d ih =>
      intro j hd hj hl
      have pp : ¬ nI P ≤ nI j := by rw [nI_leI (by omega) (by omega)]; omega
      obtain ⟨g1, g2⟩ := cL_lg14 hE hI (p := j) (a := lgP y st wa we j) (by omega) (hst j (by omega)) hl _ 0 rfl (Nat.zero_le _) hl
      have g1 : rL_longest_14 ln (nI (lgP y st wa we j)) (nI j) 0 M = _ := g1
      rw [rL_longest_4_e, if_pos A.1.1, hI.1, if_neg pp, g1]
      exact ih (j + 1) (by omega) (by omega) g2
  have := go P 0 rfl (Nat.zero_le _) (Nat.zero_le _)
  have this : rL_longest_4 ln 0 0 M = _ := this
  rw [rL_longest_u, rL_longest_e, this]; rfl
/-- what a player gets -/
def gI (num : Nat → Int32) (p w v : Nat) : Int32 := if p = 0 then num (w * 5 + v) else -(num (v * 5 + w))
theorem cN_gain (hn : cEn rk ln ng cg tb rn ro fx M) {p w v : Nat} (hp : p < 2) (hw : w < 5) (hv : v < 5) : rN_gain ng (nI p) (nI w) (nI v) M = some (gI (rg_A M rn) p w v, M) := by
  have A := hn.all
  have e5 : (5 : Int32) = nI 5 := rfl
  rw [rN_gain_u, rN_gain_e]
  unfold gI
  by_cases c : p = 0
  · have k1 := nI_clamp (n := w * 5 + v) (by omega)
    have k2 := rm_i0 (a := w * 5 + v) (by omega)
    have k3 : w * 5 + v < 25 := by omega
    rw [if_pos (by rw [c]; rfl), if_pos c, e5, pk_mul, nI_add]
    simp only [A, if_true, Option.bind_some, k1, k2, k3, and_self, rN_gain_28_e]
    rfl
  · have k1 := nI_clamp (n := v * 5 + w) (by omega)
    have k2 := rm_i0 (a := v * 5 + w) (by omega)
    have k3 : v * 5 + w < 25 := by omega
    rw [if_neg (nI_ne0 (by omega) (by omega)), if_neg c, e5, pk_mul, nI_add]
    simp only [A, if_true, Option.bind_some, k1, k2, k3, and_self, rN_gain_28_e]
    rfl
/-- a worth: what way w of player p gets against the other's parts -/
def wth (y : Nat → Rat) (num : Nat → Int32) (st p w : Nat) (n : Nat) : Rat := qs (fun v => y (160 + ((1 - p) * st + v)) * (((gI num p w v).toInt : Int) : Rat)) n
theorem cG.A {M M' : rg_M} (hG : cG M M') (hn : cEn rk ln ng cg tb rn ro fx M) : rg_A M' rn = rg_A M rn := (hG.2.2.2.2.2.2 rn hn.1.2.2.2.2.1 hn.1.2.2.2.2.2.2).1
theorem cN_rw47 {p w kp kw : Nat} {num : Nat → Int32} (hp : p < 2) (hw : w < 5) (hst : p * st + w < 40) (hst2 : (1 - p) * st + wyc wa we (1 - p) ≤ 40) (hn5 : wyc wa we (1 - p) ≤ 5) (hkp : kp ≤ 425) (hkw : kw ≤ 425) (hP : ∀ v, v < wyc wa we (1 - p) → qL (y (160 + ((1 - p) * st + v))) kp) (hW : ∀ j, j ≤ wyc wa we (1 - p) → qL (wth y num st p w j) kw) : ∀ d j : Nat, wyc wa we (1 - p) - j = d → j ≤ wyc wa we (1 - p) → ∀ (M : rg_M) (y' : Nat → Rat), cE u z rk c jf ln ng cg tb rn ro fx M y' → cLi ln P st wa we M → rg_A M rn = num → (∀ i, (i < 200 ∨ 240 ≤ i) → y' i = y i) → y' (200 + (p * st + w)) = wth y num st p w j →
    ∃ M' y'', rN_reckonWorths_47 ng (nI p) (nI (1 - p)) (nI w) (fx (200 + (p * st + w))) (nI j) M = rN_reckonWorths_6 ng (nI p) (nI (1 - p)) (nI (w + 1)) M' ∧ cE u z rk c jf ln ng cg tb rn ro fx M' y'' ∧ y'' (200 + (p * st + w)) = wth y num st p w (wyc wa we (1 - p)) ∧ (∀ i, i ≠ 200 + (p * st + w) → y'' i = y' i) ∧ cG M M' := by
  intro d
  induction d with
  | zero =>
    intro j hd hj M y' hE hI hA h1 h2
    have e : j = wyc wa we (1 - p) := by omega
    subst e
    have A := hE.1.all
    rw [rN_reckonWorths_47_e]
    simp only [A, if_true, Option.bind_some, cL_ways A.1.1 hI (show 1 - p < 100 by omega), Int32.le_refl, nI_1]
    exact ⟨M, y', rfl, hE, h2, fun _ _ => rfl, cG.rf M⟩
  | succ d ih =>
    intro j hd hj M y' hE hI hA h1 h2
    have hjn : j < wyc wa we (1 - p) := by omega
    have A := hE.1.all
    have q4 := hE.1.q (k := 4) (i := (1 - p) * st + j) (by omega) (by omega)
    rw [show 40 * 4 + ((1 - p) * st + j) = 160 + ((1 - p) * st + j) by omega] at q4
    have k1 := nI_clamp (n := (1 - p) * st + j) (by omega)
    have k2 := rm_i0 (a := (1 - p) * st + j) (by omega)
    have k3 : (1 - p) * st + j < 40 := by omega
    have pp : ¬ nI (wyc wa we (1 - p)) ≤ nI j := by rw [nI_leI (by omega) (by omega)]; omega
    have hg := cN_gain hE.1 (p := p) (w := w) (v := j) hp hw (by omega)
    rw [hA] at hg
    have e4 : y' (160 + ((1 - p) * st + j)) = y (160 + ((1 - p) * st + j)) := h1 _ (by omega)
    obtain ⟨M1, a1, a2, a3⟩ := cE_add hE (i := 200 + (p * st + w)) (j := 160 + ((1 - p) * st + j)) (k := 425) (Or.inl (by omega)) (Or.inl (by omega)) (by omega) (gI num p w j) (by decide) (by rw [h2]; exact (hW j (by omega)).mono hkw) (by rw [e4]; exact (hP j hjn).mono hkp)
    rw [h2, e4] at a2
    rw [rN_reckonWorths_47_e]
    simp only [A, if_true, Option.bind_some, cL_ways A.1.1 hI (show 1 - p < 100 by omega), pp, if_false, cL_slot A.1.1 hI (1 - p) j, k1, k2, k3, and_self, q4, hg, a1, nI_1]
    obtain ⟨M', y'', b1, b2, b3, b4, b5⟩ := ih (j + 1) (by omega) (by omega) M1 _ a2 (hI.G a3) (by rw [a3.A hE.1]; exact hA) (fun i hi => by rw [rg_up_ne (by omega)]; exact h1 i hi) (by rw [rg_up_eq]; rfl)
    exact ⟨M', y'', b1, b2, b3, fun i hi => by rw [b4 i hi, rg_up_ne hi], a3.tr b5⟩
theorem cN_rw6 {p kp kw : Nat} {num : Nat → Int32} (hp : p < 2) (hn5' : wyc wa we p ≤ 5) (hst : p * st + wyc wa we p ≤ 40) (hst2 : (1 - p) * st + wyc wa we (1 - p) ≤ 40) (hn5 : wyc wa we (1 - p) ≤ 5) (hkp : kp ≤ 425) (hkw : kw ≤ 425) (hP : ∀ v, v < wyc wa we (1 - p) → qL (y (160 + ((1 - p) * st + v))) kp) (hW : ∀ w j, w < wyc wa we p → j ≤ wyc wa we (1 - p) → qL (wth y num st p w j) kw) : ∀ d j : Nat, wyc wa we p - j = d → j ≤ wyc wa we p → ∀ (M : rg_M) (y' : Nat → Rat), cE u z rk c jf ln ng cg tb rn ro fx M y' → cLi ln P st wa we M → rg_A M rn = num → (∀ i, (i < 200 + p * st ∨ 200 + p * st + wyc wa we p ≤ i) → y' i = y i) → (∀ w, w < j → y' (200 + (p * st + w)) = wth y num st p w (wyc wa we (1 - p))) →
    ∃ M' y'', rN_reckonWorths_6 ng (nI p) (nI (1 - p)) (nI j) M = some (none, M') ∧ cE u z rk c jf ln ng cg tb rn ro fx M' y'' ∧ (∀ i, (i < 200 + p * st ∨ 200 + p * st + wyc wa we p ≤ i) → y'' i = y i) ∧ (∀ w, w < wyc wa we p → y'' (200 + (p * st + w)) = wth y num st p w (wyc wa we (1 - p))) ∧ cG M M' := by
  intro d
  induction d with
  | zero =>
    intro j hd hj M y' hE hI hA h1 h2
    have e : j = wyc wa we p := by omega
    subst e
    have A := hE.1.all
    rw [rN_reckonWorths_6_e]
    simp only [A, if_true, Option.bind_some, cL_ways A.1.1 hI (show p < 100 by omega), Int32.le_refl]
    exact ⟨M, y', rfl, hE, h1, h2, cG.rf M⟩
  | succ d ih =>
    intro j hd hj M y' hE hI hA h1 h2
    have hjn : j < wyc wa we p := by omega
    have A := hE.1.all
    have q5 := hE.1.q (k := 5) (i := p * st + j) (by omega) (by omega)
    rw [show 40 * 5 + (p * st + j) = 200 + (p * st + j) by omega] at q5
    have k1 := nI_clamp (n := p * st + j) (by omega)
    have k2 := rm_i0 (a := p * st + j) (by omega)
    have k3 : p * st + j < 40 := by omega
    have pp : ¬ nI (wyc wa we p) ≤ nI j := by rw [nI_leI (by omega) (by omega)]; omega
    obtain ⟨M1, a1, a2, a3⟩ := cE_zero hE (i := 200 + (p * st + j)) (Or.inl (by omega))
    obtain ⟨M2, y2, b1, b2, b3, b4, b5⟩ := cN_rw47 (u := u) (z := z) (rk := rk) (jf := jf) (ln := ln) (ng := ng) (cg := cg) (tb := tb) (rn := rn) (P := P) (c := c) (ro := ro) (fx := fx) (y := va_up y' (200 + (p * st + j)) 0) (num := num) (kp := kp) (kw := kw) (w := j) hp (by omega) (by omega) hst2 hn5 hkp hkw (fun v hv => by rw [rg_up_ne (by omega), h1 _ (by omega)]; exact hP v hv) (fun i hi => by
      have : wth (va_up y' (200 + (p * st + j)) 0) num st p j i = wth y num st p j i := qs_cong (fun v hv => by rw [rg_up_ne (by omega), h1 _ (by omega)])
      rw [this]; exact hW j i hjn hi) _ 0 rfl (Nat.zero_le _) M1 _ a2 (hI.G a3) (by rw [a3.A hE.1]; exact hA) (fun _ _ => rfl) (by rw [rg_up_eq]; rfl)
    have b1 : rN_reckonWorths_47 ng (nI p) (nI (1 - p)) (nI j) (fx (200 + (p * st + j))) 0 M1 = _ := b1
    rw [rN_reckonWorths_6_e]
    simp only [A, if_true, Option.bind_some, cL_ways A.1.1 hI (show p < 100 by omega), pp, if_false, cL_slot A.1.1 hI p j, k1, k2, k3, and_self, q5, a1, b1]
    have hG2 := a3.tr b5
    obtain ⟨M', y'', d1, d2, d3, d4, d5⟩ := ih (j + 1) (by omega) (by omega) M2 y2 b2 (hI.G hG2) (by rw [hG2.A hE.1]; exact hA) (fun i hi => by rw [b4 i (by omega), rg_up_ne (by omega)]; exact h1 i hi) (fun w hw => by
      by_cases e : w = j
      · rw [e, b3]
        exact qs_cong (fun v hv => by rw [rg_up_ne (by omega), h1 _ (by omega)])
      · rw [b4 _ (by omega), rg_up_ne (by omega)]; exact h2 w (by omega))
    exact ⟨M', y'', d1, d2, d3, d4, hG2.tr d5⟩
theorem cN_reckonWorths (hE : cE u z rk c jf ln ng cg tb rn ro fx M y) (hI : cLi ln P st wa we M) {p kp kw : Nat} (hp : p < 2) (hn5' : wyc wa we p ≤ 5) (hst : p * st + wyc wa we p ≤ 40) (hst2 : (1 - p) * st + wyc wa we (1 - p) ≤ 40) (hn5 : wyc wa we (1 - p) ≤ 5) (hkp : kp ≤ 425) (hkw : kw ≤ 425) (hP : ∀ v, v < wyc wa we (1 - p) → qL (y (160 + ((1 - p) * st + v))) kp) (hW : ∀ w j, w < wyc wa we p → j ≤ wyc wa we (1 - p) → qL (wth y (rg_A M rn) st p w j) kw) : ∃ M' y', rN_reckonWorths ng (nI p) M = some M' ∧ cE u z rk c jf ln ng cg tb rn ro fx M' y' ∧ (∀ i, (i < 200 + p * st ∨ 200 + p * st + wyc wa we p ≤ i) → y' i = y i) ∧ (∀ w, w < wyc wa we p → y' (200 + (p * st + w)) = wth y (rg_A M rn) st p w (wyc wa we (1 - p))) ∧ cG M M' := by
  obtain ⟨M', y', b1, b2, b3, b4, b5⟩ := cN_rw6 (y := y) hp hn5' hst hst2 hn5 hkp hkw hP hW _ 0 rfl (Nat.zero_le _) M y hE hI rfl (fun _ _ => rfl) (fun w hw => by omega)
  have b1 : rN_reckonWorths_6 ng (nI p) (nI (1 - p)) 0 M = _ := b1
  have e1 : (1 : Int32) - nI p = nI (1 - p) := pk_sub (a := 1) (b := p) (by omega)
  refine ⟨M', y', ?_, b2, b3, b4, b5⟩
  rw [rN_reckonWorths_u, rN_reckonWorths_e, e1, b1]; rfl
end

/-! Learning: ways, slots, findParts -/
def cLi (ln P st wa we : Nat) (M : rg_M) : Prop := rg_I M 42 ln = nI P ∧ rg_I M 43 ln = nI st ∧ rg_I M 44 ln = nI wa ∧ rg_I M 45 ln = nI we
def wyc (wa we p : Nat) : Nat := if p = 0 then wa else we
theorem cLi.G {ln P st wa we : Nat} {M M' : rg_M} (h : cLi ln P st wa we M) (hG : cG M M') : cLi ln P st wa we M' := by
  have hI : ∀ f a, f ≠ 81 → f ≠ 82 → rg_I M' f a = rg_I M f a := hG.2.2.2.1
  exact ⟨by rw [hI _ _ (by decide) (by decide)]; exact h.1, by rw [hI _ _ (by decide) (by decide)]; exact h.2.1, by rw [hI _ _ (by decide) (by decide)]; exact h.2.2.1, by rw [hI _ _ (by decide) (by decide)]; exact h.2.2.2⟩
section
variable {u z rk jf ln ng cg tb rn P st wa we : Nat} {c ro fx : Nat → Nat} {M : rg_M} {y : Nat → Rat}
theorem cL_ways (hK : rg_K M ln = 3) (h : cLi ln P st wa we M) {p : Nat} (hp : p < 100) : rL_ways ln (nI p) M = some (nI (wyc wa we p), M) := by
  rw [rL_ways_u, rL_ways_e]
  unfold wyc
  by_cases c : p = 0
  · rw [if_pos (by rw [c]; rfl), if_pos hK, rL_ways_15_e, if_pos c, h.2.2.1]; rfl
  · rw [if_neg (nI_ne0 (by omega) (by omega)), if_pos hK, rL_ways_15_e, if_neg c, h.2.2.2]; rfl
theorem cL_slot (hK : rg_K M ln = 3) (h : cLi ln P st wa we M) (p w : Nat) : rL_slot ln (nI p) (nI w) M = some (nI (p * st + w), M) := by
  rw [rL_slot_u, rL_slot_e, if_pos hK, h.2.1, pk_mul, nI_add]; rfl
/-- the total -/
theorem cL_fp26 {kk n fr : Nat} (hkk : kk < 2) (hfr : fr + n ≤ 40) (hn : n ≤ 5) (hL : ∀ w, w < n → qL (y (40 * kk + (fr + w))) 9) : ∀ d j : Nat, n - j = d → j ≤ n → ∀ (M : rg_M) (y' : Nat → Rat), cE u z rk c jf ln ng cg tb rn ro fx M y' → (∀ i, i ≠ 240 → y' i = y i) → y' 240 = mxT (fun w => y (40 * kk + (fr + w))) j →
    ∃ M' y'', rL_findParts_26 ln (ro kk) (nI fr) (nI n) (nI (fr + j)) M = rL_findParts_26 ln (ro kk) (nI fr) (nI n) (nI (fr + n)) M' ∧ cE u z rk c jf ln ng cg tb rn ro fx M' y'' ∧ (∀ i, i ≠ 240 → y'' i = y i) ∧ y'' 240 = mxT (fun w => y (40 * kk + (fr + w))) n ∧ cG M M' := by
  intro d
  induction d with
  | zero =>
    intro j hd hj M y' hE h1 h2
    have e : j = n := by omega
    subst e
    exact ⟨M, y', rfl, hE, h1, h2, cG.rf M⟩
  | succ d ih =>
    intro j hd hj M y' hE h1 h2
    have hjn : j < n := by omega
    have A := hE.1.all
    have q1 := hE.1.q (k := kk) (i := fr + j) (by omega) (by omega)
    have k1 := nI_clamp (n := fr + j) (by omega)
    have k2 := rm_i0 (a := fr + j) (by omega)
    have k3 : fr + j < 40 := by omega
    have kr := hE.1.2.2.2.2.2.2.1 kk (by omega)
    have vi : vx (40 * kk + (fr + j)) := Or.inl (by omega)
    obtain ⟨t, s, s1, s2, s3, s4⟩ := cE_sign hE vi
    rw [h1 _ (by omega)] at s4
    have p : ¬ nI (fr + n) ≤ nI (fr + j) := by rw [nI_leI (by omega) (by omega)]; omega
    have hT : mxT (fun w => y (40 * kk + (fr + w))) (j + 1) = mxT (fun w => y (40 * kk + (fr + w))) j + qp (y (40 * kk + (fr + j))) := rfl
    rw [rL_findParts_26_e, nI_add, if_neg p]
    simp only [kr.2.1, kr.2.2, k1, k2, k3, and_self, if_true, q1, Option.bind_some, s1, s2, s3]
    by_cases c : 0 < y (40 * kk + (fr + j))
    · rw [if_neg (by rw [s4]; exact fun h => h c)]
      simp only [A, kr.2.1, kr.2.2, k3, and_self, if_true, q1, Option.bind_some]
      obtain ⟨M1, a1, a2, a3⟩ := cE_add hE (i := 240) (j := 40 * kk + (fr + j)) (k := 51) (Or.inl (by decide)) vi (by omega) 1 (by decide) (by rw [h2]; exact (mxT_L (fun v hv => hL v (by omega))).mono (by omega)) (by rw [h1 _ (by omega)]; exact (hL j hjn).mono (by decide))
      rw [a1]
      simp only [Option.bind_some]
      rw [rL_findParts_64_e, nI_1]
      obtain ⟨M', y'', b1, b2, b3, b4, b5⟩ := ih (j + 1) (by omega) (by omega) M1 _ a2 (fun i hi => by rw [rg_up_ne hi]; exact h1 i hi) (by
        rw [rg_up_eq, hT, h2, h1 _ (by omega)]
        unfold qp; rw [if_pos c]
        show _ + _ * ((1 : Int) : Rat) = _
        rw [Rat.intCast_one, Rat.mul_one])
      exact ⟨M', y'', b1, b2, b3, b4, a3.tr b5⟩
    · rw [if_pos (s4.mpr c), rL_findParts_64_e, nI_1]
      obtain ⟨M', y'', b1, b2, b3, b4, b5⟩ := ih (j + 1) (by omega) (by omega) M y' hE h1 (by
        rw [hT, h2]
        unfold qp; rw [if_neg c, Rat.add_zero])
      exact ⟨M', y'', b1, b2, b3, b4, b5⟩
theorem q_1n {n : Nat} (hn : 0 < n) : (((1 : Int) : Rat) / ((n : Nat) : Rat)).num = 1 ∧ (((((1 : Int) : Rat) / ((n : Nat) : Rat)).den : Nat) : Int) = (n : Int) := by
  have hz : ((n : Nat) : Rat) ≠ 0 := fun e => by have := Rat.natCast_eq_zero_iff.mp e; omega
  refine q_uni (by omega) (by simp) ?_
  rw [Rat.intCast_natCast, Rat.div_mul_cancel hz]
/-- the parts -/
theorem cL_fp105 {kk n fr : Nat} {any : Int32} {tot : Rat} (hkk : kk < 2) (hfr : fr + n ≤ 40) (hn : n ≤ 5) (hn0 : 0 < n) (hL : ∀ w, w < n → qL (y (40 * kk + (fr + w))) 9) (hany : any = 0 ∨ any = 1) (h0 : any = 0 ↔ ¬ 0 < mxT (fun w => y (40 * kk + (fr + w))) n) (ht : any ≠ 0 → tot = (mxT (fun w => y (40 * kk + (fr + w))) n)⁻¹) : ∀ d j : Nat, n - j = d → j ≤ n → ∀ (M : rg_M) (y' : Nat → Rat), cE u z rk c jf ln ng cg tb rn ro fx M y' → (∀ i, i ≠ 240 → (i < 160 + fr ∨ 160 + fr + n ≤ i) → y' i = y i) → y' 240 = tot → (∀ w, w < j → y' (160 + fr + w) = mx (fun w => y (40 * kk + (fr + w))) n w) →
    ∃ M' y'', rL_findParts_105 ln (ro kk) (nI fr) (nI n) any (nI (fr + j)) M = some (none, M') ∧ cE u z rk c jf ln ng cg tb rn ro fx M' y'' ∧ (∀ i, i ≠ 240 → (i < 160 + fr ∨ 160 + fr + n ≤ i) → y'' i = y i) ∧ (∀ w, w < n → y'' (160 + fr + w) = mx (fun w => y (40 * kk + (fr + w))) n w) ∧ cG M M' := by
  intro d
  induction d with
  | zero =>
    intro j hd hj M y' hE h1 h2 h3
    have e : j = n := by omega
    subst e
    rw [rL_findParts_105_e, nI_add, if_pos (Int32.le_refl _)]
    exact ⟨M, y', rfl, hE, h1, h3, cG.rf M⟩
  | succ d ih =>
    intro j hd hj M y' hE h1 h2 h3
    have hjn : j < n := by omega
    have A := hE.1.all
    have q1 := hE.1.q (k := kk) (i := fr + j) (by omega) (by omega)
    have q4 := hE.1.q (k := 4) (i := fr + j) (by omega) (by omega)
    rw [show 40 * 4 + (fr + j) = 160 + fr + j by omega] at q4
    have k1 := nI_clamp (n := fr + j) (by omega)
    have k2 := rm_i0 (a := fr + j) (by omega)
    have k3 : fr + j < 40 := by omega
    have kr := hE.1.2.2.2.2.2.2.1 kk (by omega)
    have vi : vx (40 * kk + (fr + j)) := Or.inl (by omega)
    have vp : vx (160 + fr + j) := Or.inl (by omega)
    have p : ¬ nI (fr + n) ≤ nI (fr + j) := by rw [nI_leI (by omega) (by omega)]; omega
    -- what is left to do behind this part
    have next : ∀ (M1 : rg_M) (y1 : Nat → Rat), cE u z rk c jf ln ng cg tb rn ro fx M1 y1 → cG M M1 → (∀ i, i ≠ 160 + fr + j → y1 i = y' i) → y1 (160 + fr + j) = mx (fun w => y (40 * kk + (fr + w))) n j → ∃ M' y'', rL_findParts_195 ln (ro kk) (nI fr) (nI n) any (nI (fr + j)) M1 = some (none, M') ∧ cE u z rk c jf ln ng cg tb rn ro fx M' y'' ∧ (∀ i, i ≠ 240 → (i < 160 + fr ∨ 160 + fr + n ≤ i) → y'' i = y i) ∧ (∀ w, w < n → y'' (160 + fr + w) = mx (fun w => y (40 * kk + (fr + w))) n w) ∧ cG M M' := by
      intro M1 y1 e1 e2 e3 e4
      obtain ⟨M', y'', b1, b2, b3, b4, b5⟩ := ih (j + 1) (by omega) (by omega) M1 y1 e1 (fun i hi hi2 => by rw [e3 i (by omega)]; exact h1 i hi hi2) (by rw [e3 240 (by omega)]; exact h2) (fun w hw => by
        by_cases c : w = j
        · rw [c]; exact e4
        · rw [e3 _ (by omega)]; exact h3 w (by omega))
      rw [rL_findParts_195_e, nI_1]
      exact ⟨M', y'', b1, b2, b3, b4, e2.tr b5⟩
    rw [rL_findParts_105_e, nI_add, if_neg p]
    by_cases ca : any = 0
    · rw [if_pos ca]
      simp only [A, k1, k2, k3, and_self, if_true, q4, Option.bind_some]
      obtain ⟨g1, g2⟩ := q_1n hn0
      obtain ⟨M1, a1, a2, a3⟩ := cE_become hE vp 1 (nI n) (x := ((1 : Int) : Rat) / ((n : Nat) : Rat)) g1 (by rw [g2, nI_toInt (by omega)])
      rw [a1]
      simp only [Option.bind_some]
      exact next M1 _ a2 a3 (fun i hi => rg_up_ne hi) (by rw [rg_up_eq]; unfold mx; rw [if_neg (h0.mp ca)])
    · have hpos : 0 < mxT (fun w => y (40 * kk + (fr + w))) n := by
        by_cases cc : 0 < mxT (fun w => y (40 * kk + (fr + w))) n
        · exact cc
        · exact absurd (h0.mpr cc) ca
      rw [if_neg ca]
      obtain ⟨t, s, s1, s2, s3, s4⟩ := cE_sign hE vi
      have hyi : y' (40 * kk + (fr + j)) = y (40 * kk + (fr + j)) := h1 _ (by omega) (by omega)
      rw [hyi] at s4
      simp only [kr.2.1, kr.2.2, k1, k2, k3, and_self, if_true, q1, Option.bind_some, s1, s2, s3]
      by_cases cj : 0 < y (40 * kk + (fr + j))
      · rw [if_neg (by rw [s4]; exact fun h => h cj)]
        simp only [A, kr.2.1, kr.2.2, k1, k2, k3, and_self, if_true, q1, q4, Option.bind_some]
        obtain ⟨M1, a1, a2, a3⟩ := cE_copy hE (i := 160 + fr + j) (j := 40 * kk + (fr + j)) (k := 9) vp vi (by omega) (by decide) (by rw [hyi]; exact hL j hjn)
        have A1 := a2.1.all
        have q41 := a2.1.q (k := 4) (i := fr + j) (by omega) (by omega)
        rw [show 40 * 4 + (fr + j) = 160 + fr + j by omega] at q41
        rw [a1]
        simp only [Option.bind_some, A1, k2, k3, and_self, if_true, q41]
        have et : va_up y' (160 + fr + j) (y' (40 * kk + (fr + j))) 240 = tot := by rw [rg_up_ne (by omega)]; exact h2
        have ej : va_up y' (160 + fr + j) (y' (40 * kk + (fr + j))) (160 + fr + j) = y (40 * kk + (fr + j)) := by rw [rg_up_eq]; exact hyi
        obtain ⟨M2, b1, b2, b3⟩ := cE_mul a2 (i := 160 + fr + j) (j := 240) (k := 51) vp (Or.inl (by decide)) (by omega) (by decide) (by rw [ej]; exact (hL j hjn).mono (by decide)) (by rw [et, ht ca]; exact (qL_inv hpos (mxT_L hL)).mono (by omega))
        rw [b1]
        simp only [Option.bind_some]
        rw [et, ej] at b2
        exact next M2 _ b2 (a3.tr b3) (fun i hi => by rw [rg_up_ne hi, rg_up_ne hi]) (by rw [rg_up_eq, ht ca]; unfold mx; rw [if_pos hpos, if_pos cj])
      · rw [if_pos (s4.mpr cj)]
        simp only [A, k1, k2, k3, and_self, if_true, q4, Option.bind_some]
        obtain ⟨M1, a1, a2, a3⟩ := cE_zero hE vp
        rw [a1]
        simp only [Option.bind_some]
        exact next M1 _ a2 a3 (fun i hi => rg_up_ne hi) (by rw [rg_up_eq]; unfold mx; rw [if_pos hpos, if_neg cj])
theorem cL_findParts (hE : cE u z rk c jf ln ng cg tb rn ro fx M y) (hI : cLi ln P st wa we M) {kk p : Nat} (hkk : kk < 2) (hp : p < 20) (hst : p * st + wyc wa we p ≤ 40) (hn : wyc wa we p ≤ 5) (hn0 : 0 < wyc wa we p) (hL : ∀ w, w < wyc wa we p → qL (y (40 * kk + (p * st + w))) 9) : ∃ M' y', rL_findParts ln (nI p) (ro kk) M = some M' ∧ cE u z rk c jf ln ng cg tb rn ro fx M' y' ∧ (∀ i, i ≠ 240 → (i < 160 + p * st ∨ 160 + p * st + wyc wa we p ≤ i) → y' i = y i) ∧ (∀ w, w < wyc wa we p → y' (160 + p * st + w) = mx (fun w => y (40 * kk + (p * st + w))) (wyc wa we p) w) ∧ cG M M' := by
  have A := hE.1.all
  have w1 := cL_ways (p := p) A.1.1 hI (by omega)
  have w2 := cL_slot A.1.1 hI p 0
  have w2 : rL_slot ln (nI p) 0 M = some (nI (p * st), M) := w2
  obtain ⟨n, hnd⟩ : ∃ n, n = wyc wa we p := ⟨_, rfl⟩
  obtain ⟨fr, hfr⟩ : ∃ fr, fr = p * st := ⟨_, rfl⟩
  rw [← hnd] at hst hn hn0 hL w1 ⊢
  rw [← hfr] at hst hL w2 ⊢
  obtain ⟨M1, a1, a2, a3⟩ := cE_zero hE (i := 240) (Or.inl (by decide))
  obtain ⟨M2, y2, b1, b2, b3, b4, b5⟩ := cL_fp26 (u := u) (z := z) (rk := rk) (jf := jf) (ln := ln) (ng := ng) (cg := cg) (tb := tb) (rn := rn) (c := c) (ro := ro) (fx := fx) (y := y) (kk := kk) (n := n) (fr := fr) hkk hst hn hL n 0 rfl (Nat.zero_le _) M1 _ a2 (fun i hi => rg_up_ne hi) rg_up_eq
  have A2 := b2.1.all
  obtain ⟨t, s, s1, s2, s3, s4⟩ := cE_sign b2 (i := 240) (Or.inl (by decide))
  rw [b4] at s4
  have b1 : rL_findParts_26 ln (ro kk) (nI fr) (nI n) (nI fr) M1 = _ := b1
  have fin : ∃ M' y', rL_findParts_26 ln (ro kk) (nI fr) (nI n) (nI (fr + n)) M2 = some (none, M') ∧ cE u z rk c jf ln ng cg tb rn ro fx M' y' ∧ (∀ i, i ≠ 240 → (i < 160 + fr ∨ 160 + fr + n ≤ i) → y' i = y i) ∧ (∀ w, w < n → y' (160 + fr + w) = mx (fun w => y (40 * kk + (fr + w))) n w) ∧ cG M2 M' := by
    rw [rL_findParts_26_e, nI_add, if_pos (Int32.le_refl _)]
    simp only [A2, if_true, Option.bind_some, s1, s2, s3]
    by_cases hp0 : 0 < mxT (fun w => y (40 * kk + (fr + w))) n
    · rw [if_neg (by rw [s4]; exact fun h => h hp0), rL_findParts_88_e, if_neg (by decide)]
      simp only [A2, if_true, Option.bind_some]
      obtain ⟨M3, c1, c2, c3⟩ := cE_turn b2 (i := 240) (Or.inl (by decide)) (by rw [b4]; exact hp0)
      rw [c1]
      simp only [Option.bind_some]
      rw [rL_findParts_102_e]
      rw [b4] at c2
      obtain ⟨M4, y4, d1, d2, d3, d4, d5⟩ := cL_fp105 (u := u) (z := z) (rk := rk) (jf := jf) (ln := ln) (ng := ng) (cg := cg) (tb := tb) (rn := rn) (c := c) (ro := ro) (fx := fx) (y := y) (kk := kk) (n := n) (fr := fr) (any := 1) (tot := (mxT (fun w => y (40 * kk + (fr + w))) n)⁻¹) hkk hst hn hn0 hL (Or.inr rfl) ⟨fun h => absurd h (by decide), fun h => absurd hp0 h⟩ (fun _ => rfl) n 0 rfl (Nat.zero_le _) M3 _ c2 (fun i hi _ => by rw [rg_up_ne hi]; exact b3 i hi) rg_up_eq (fun w hw => by omega)
      exact ⟨M4, y4, d1, d2, d3, d4, c3.tr d5⟩
    · rw [if_pos (s4.mpr hp0), rL_findParts_88_e, if_pos rfl, rL_findParts_102_e]
      exact cL_fp105 (u := u) (z := z) (rk := rk) (jf := jf) (ln := ln) (ng := ng) (cg := cg) (tb := tb) (rn := rn) (c := c) (ro := ro) (fx := fx) (y := y) (kk := kk) (n := n) (fr := fr) (any := 0) (tot := y2 240) hkk hst hn hn0 hL (Or.inl rfl) ⟨fun _ => hp0, fun _ => rfl⟩ (fun h => absurd rfl h) n 0 rfl (Nat.zero_le _) M2 y2 b2 (fun i hi _ => b3 i hi) rfl (fun w hw => by omega)
  obtain ⟨M', y', f1, f2, f3, f4, f5⟩ := fin
  refine ⟨M', y', ?_, f2, f3, f4, a3.tr (b5.tr f5)⟩
  rw [rL_findParts_u, rL_findParts_e]
  simp only [A, if_true, w1, w2, Option.bind_some, a1, b1, f1]
  rfl
end

/-! Learning: all parts, a certain way, worths at 0, what a round makes of a place -/
section
variable {u z rk jf ln ng cg tb rn P st wa we : Nat} {c ro fx : Nat → Nat} {M : rg_M} {y : Nat → Rat}
/-- the places' slots lie apart -/
def cLo (P st wa we : Nat) : Prop := P ≤ 20 ∧ ∀ p, p < P → p * st + st ≤ 40 ∧ wyc wa we p ≤ st ∧ wyc wa we p ≤ 5 ∧ 0 < wyc wa we p
theorem cL_fa2 {kk : Nat} (hkk : kk < 2) (hO : cLo P st wa we) (hL : ∀ p w, p < P → w < wyc wa we p → qL (y (40 * kk + (p * st + w))) 9) : ∀ d j : Nat, P - j = d → j ≤ P → ∀ (M : rg_M) (y' : Nat → Rat), cE u z rk c jf ln ng cg tb rn ro fx M y' → cLi ln P st wa we M → (∀ i, i ≠ 240 → (i < 160 ∨ 200 ≤ i) → y' i = y i) → (∀ p w, p < j → w < wyc wa we p → y' (160 + p * st + w) = mx (fun w => y (40 * kk + (p * st + w))) (wyc wa we p) w) →
    ∃ M' y'', rL_findAllParts_2 ln (ro kk) (nI j) M = some (none, M') ∧ cE u z rk c jf ln ng cg tb rn ro fx M' y'' ∧ (∀ i, i ≠ 240 → (i < 160 ∨ 200 ≤ i) → y'' i = y i) ∧ (∀ p w, p < P → w < wyc wa we p → y'' (160 + p * st + w) = mx (fun w => y (40 * kk + (p * st + w))) (wyc wa we p) w) ∧ cG M M' := by
  intro d
  induction d with
  | zero =>
    intro j hd hj M y' hE hI h1 h2
    have e : j = P := by omega
    subst e
    have A := hE.1.all
    rw [rL_findAllParts_2_e, if_pos A.1.1, hI.1, if_pos (Int32.le_refl _)]
    exact ⟨M, y', rfl, hE, h1, h2, cG.rf M⟩
  | succ d ih =>
    intro j hd hj M y' hE hI h1 h2
    have hjP : j < P := by omega
    have hP := hO.1
    obtain ⟨o1, o2, o3, o4⟩ := hO.2 j hjP
    have A := hE.1.all
    have p : ¬ nI P ≤ nI j := by rw [nI_leI (by omega) (by omega)]; omega
    obtain ⟨M1, y1, a1, a2, a3, a4, a5⟩ := cL_findParts hE hI (kk := kk) (p := j) hkk (by omega) (by omega) o3 o4 (fun w hw => by rw [h1 _ (by omega) (by omega)]; exact hL j w hjP hw)
    rw [rL_findAllParts_2_e, if_pos A.1.1, hI.1, if_neg p, if_pos A.1.1, a1]
    simp only [Option.bind_some, nI_1]
    obtain ⟨M', y'', b1, b2, b3, b4, b5⟩ := ih (j + 1) (by omega) (by omega) M1 y1 a2 (hI.G a5) (fun i hi hi2 => by rw [a3 i hi (by omega)]; exact h1 i hi hi2) (fun q w hq hw => by
      by_cases e : q = j
      · subst e
        rw [a4 w hw]
        exact mx_cong (fun v hv => h1 _ (by omega) (by omega)) hw
      · have hq2 : q < j := by omega
        obtain ⟨o5, o6, -, -⟩ := hO.2 q (by omega)
        have hm : q * st + st ≤ j * st := by rw [← Nat.succ_mul]; exact Nat.mul_le_mul_right _ hq2
        rw [a3 _ (by omega) (by omega)]
        exact h2 q w hq2 hw)
    exact ⟨M', y'', b1, b2, b3, b4, a5.tr b5⟩
theorem cL_findAllParts (hE : cE u z rk c jf ln ng cg tb rn ro fx M y) (hI : cLi ln P st wa we M) {kk : Nat} (hkk : kk < 2) (hO : cLo P st wa we) (hL : ∀ p w, p < P → w < wyc wa we p → qL (y (40 * kk + (p * st + w))) 9) : ∃ M' y', rL_findAllParts ln (ro kk) M = some M' ∧ cE u z rk c jf ln ng cg tb rn ro fx M' y' ∧ (∀ i, i ≠ 240 → (i < 160 ∨ 200 ≤ i) → y' i = y i) ∧ (∀ p w, p < P → w < wyc wa we p → y' (160 + p * st + w) = mx (fun w => y (40 * kk + (p * st + w))) (wyc wa we p) w) ∧ cG M M' := by
  obtain ⟨M', y', b1, b2, b3, b4, b5⟩ := cL_fa2 (y := y) hkk hO hL P 0 rfl (Nat.zero_le _) M y hE hI (fun _ _ _ => rfl) (fun p w hp => by omega)
  have b1 : rL_findAllParts_2 ln (ro kk) 0 M = _ := b1
  refine ⟨M', y', ?_, b2, b3, b4, b5⟩
  rw [rL_findAllParts_u, rL_findAllParts_e, b1]; rfl
theorem cL_sc2 {p m : Nat} (hp : p < 20) (hst : p * st + wyc wa we p ≤ 40) (hm : m < 100) : ∀ d j : Nat, wyc wa we p - j = d → j ≤ wyc wa we p → ∀ (M : rg_M) (y' : Nat → Rat), cE u z rk c jf ln ng cg tb rn ro fx M y' → cLi ln P st wa we M → (∀ i, (i < 160 + p * st ∨ 160 + p * st + wyc wa we p ≤ i) → y' i = y i) → (∀ w, w < j → y' (160 + p * st + w) = if w = m then 1 else 0) →
    ∃ M' y'', rL_setCertain_2 ln (nI p) (nI m) (nI j) M = some (none, M') ∧ cE u z rk c jf ln ng cg tb rn ro fx M' y'' ∧ (∀ i, (i < 160 + p * st ∨ 160 + p * st + wyc wa we p ≤ i) → y'' i = y i) ∧ (∀ w, w < wyc wa we p → y'' (160 + p * st + w) = if w = m then 1 else 0) ∧ cG M M' := by
  intro d
  induction d with
  | zero =>
    intro j hd hj M y' hE hI h1 h2
    have e : j = wyc wa we p := by omega
    subst e
    have A := hE.1.all
    rw [rL_setCertain_2_e, if_pos A.1.1, cL_ways A.1.1 hI (by omega)]
    simp only [Option.bind_some, Int32.le_refl, if_true]
    exact ⟨M, y', rfl, hE, h1, h2, cG.rf M⟩
  | succ d ih =>
    intro j hd hj M y' hE hI h1 h2
    have hjn : j < wyc wa we p := by omega
    have A := hE.1.all
    have q4 := hE.1.q (k := 4) (i := p * st + j) (by omega) (by omega)
    rw [show 40 * 4 + (p * st + j) = 160 + p * st + j by omega] at q4
    have k1 := nI_clamp (n := p * st + j) (by omega)
    have k2 := rm_i0 (a := p * st + j) (by omega)
    have k3 : p * st + j < 40 := by omega
    have pp : ¬ nI (wyc wa we p) ≤ nI j := by rw [nI_leI (by omega) (by omega)]; omega
    have vp : vx (160 + p * st + j) := Or.inl (by omega)
    rw [rL_setCertain_2_e, if_pos A.1.1, cL_ways A.1.1 hI (by omega)]
    simp only [Option.bind_some, pp, if_false, A, if_true, cL_slot A.1.1 hI p j, k1, k2, k3, and_self, q4]
    have go : ∀ (s0 : Int32) (x : Rat), x.num = s0.toInt → (x.den : Int) = 1 → (x = if j = m then 1 else 0) → ∃ M' y'', rL_setCertain_32 ln (nI p) (nI m) (nI j) s0 (fx (160 + p * st + j)) M = some (none, M') ∧ cE u z rk c jf ln ng cg tb rn ro fx M' y'' ∧ (∀ i, (i < 160 + p * st ∨ 160 + p * st + wyc wa we p ≤ i) → y'' i = y i) ∧ (∀ w, w < wyc wa we p → y'' (160 + p * st + w) = if w = m then 1 else 0) ∧ cG M M' := by
      intro s0 x e1 e2 e3
      obtain ⟨M1, a1, a2, a3⟩ := cE_become hE vp s0 1 (x := x) e1 e2
      rw [rL_setCertain_32_e, if_pos q4.2, a1]
      simp only [Option.bind_some, nI_1]
      obtain ⟨M', y'', b1, b2, b3, b4, b5⟩ := ih (j + 1) (by omega) (by omega) M1 _ a2 (hI.G a3) (fun i hi => by rw [rg_up_ne (by omega)]; exact h1 i hi) (fun w hw => by
        by_cases e : w = j
        · rw [e, rg_up_eq]; exact e3
        · rw [rg_up_ne (by omega)]; exact h2 w (by omega))
      exact ⟨M', y'', b1, b2, b3, b4, a3.tr b5⟩
    by_cases cm : j = m
    · rw [if_pos (by rw [cm])]
      exact go 1 1 rfl rfl (by rw [if_pos cm])
    · rw [if_neg (by rw [nI_eq (by omega) (by omega)]; exact cm)]
      exact go 0 0 rfl rfl (by rw [if_neg cm])
theorem cL_setCertain (hE : cE u z rk c jf ln ng cg tb rn ro fx M y) (hI : cLi ln P st wa we M) {p m : Nat} (hp : p < 20) (hst : p * st + wyc wa we p ≤ 40) (hm : m < 100) : ∃ M' y', rL_setCertain ln (nI p) (nI m) M = some M' ∧ cE u z rk c jf ln ng cg tb rn ro fx M' y' ∧ (∀ i, (i < 160 + p * st ∨ 160 + p * st + wyc wa we p ≤ i) → y' i = y i) ∧ (∀ w, w < wyc wa we p → y' (160 + p * st + w) = if w = m then 1 else 0) ∧ cG M M' := by
  obtain ⟨M', y', b1, b2, b3, b4, b5⟩ := cL_sc2 (y := y) hp hst hm _ 0 rfl (Nat.zero_le _) M y hE hI (fun _ _ => rfl) (fun w hw => by omega)
  have b1 : rL_setCertain_2 ln (nI p) (nI m) 0 M = _ := b1
  refine ⟨M', y', ?_, b2, b3, b4, b5⟩
  rw [rL_setCertain_u, rL_setCertain_e, b1]; rfl
theorem cL_cw2 : ∀ d j : Nat, 40 - j = d → j ≤ 40 → ∀ (M : rg_M) (y' : Nat → Rat), cE u z rk c jf ln ng cg tb rn ro fx M y' → (∀ i, (i < 200 ∨ 240 ≤ i) → y' i = y i) → (∀ w, w < j → y' (200 + w) = 0) →
    ∃ M' y'', rL_clearWorths_2 ln (nI j) M = some (none, M') ∧ cE u z rk c jf ln ng cg tb rn ro fx M' y'' ∧ (∀ i, (i < 200 ∨ 240 ≤ i) → y'' i = y i) ∧ (∀ w, w < 40 → y'' (200 + w) = 0) ∧ cG M M' := by
  intro d
  induction d with
  | zero =>
    intro j hd hj M y' hE h1 h2
    have e : j = 40 := by omega
    subst e
    rw [rL_clearWorths_2_e, if_pos (by decide)]
    exact ⟨M, y', rfl, hE, h1, h2, cG.rf M⟩
  | succ d ih =>
    intro j hd hj M y' hE h1 h2
    have A := hE.1.all
    have q5 := hE.1.q (k := 5) (i := j) (by omega) (by omega)
    rw [show 40 * 5 + j = 200 + j by omega] at q5
    have k1 := nI_clamp (n := j) (by omega)
    have k2 := rm_i0 (a := j) (by omega)
    have k3 : j < 40 := by omega
    rw [rL_clearWorths_2_e, if_neg (by rw [show (40 : Int32) = nI 40 from rfl, nI_leI (by omega) (by omega)]; omega)]
    simp only [A, if_true, Option.bind_some, k1, k2, k3, and_self, q5]
    obtain ⟨M1, a1, a2, a3⟩ := cE_zero hE (i := 200 + j) (Or.inl (by omega))
    rw [a1]
    simp only [Option.bind_some, nI_1]
    obtain ⟨M', y'', b1, b2, b3, b4, b5⟩ := ih (j + 1) (by omega) (by omega) M1 _ a2 (fun i hi => by rw [rg_up_ne (by omega)]; exact h1 i hi) (fun w hw => by
      by_cases e : w = j
      · rw [e, rg_up_eq]
      · rw [rg_up_ne (by omega)]; exact h2 w (by omega))
    exact ⟨M', y'', b1, b2, b3, b4, a3.tr b5⟩
theorem cL_clearWorths (hE : cE u z rk c jf ln ng cg tb rn ro fx M y) : ∃ M' y', rL_clearWorths ln M = some M' ∧ cE u z rk c jf ln ng cg tb rn ro fx M' y' ∧ (∀ i, (i < 200 ∨ 240 ≤ i) → y' i = y i) ∧ (∀ w, w < 40 → y' (200 + w) = 0) ∧ cG M M' := by
  obtain ⟨M', y', b1, b2, b3, b4, b5⟩ := cL_cw2 (y := y) 40 0 rfl (Nat.zero_le _) M y hE (fun _ _ => rfl) (fun w hw => by omega)
  have b1 : rL_clearWorths_2 ln 0 M = _ := b1
  refine ⟨M', y', ?_, b2, b3, b4, b5⟩
  rw [rL_clearWorths_u, rL_clearWorths_e, b1]; rfl
/-- the average -/
theorem cL_la28 {row fr n kp kw ka : Nat} (hfr : fr + n ≤ 40) (hk : kp ≤ 200) (hk2 : kw ≤ 200) (hka : ka ≤ 400) (hP : ∀ w, w < n → qL (y (160 + (fr + w))) kp) (hW : ∀ w, w < n → qL (y (200 + (fr + w))) kw) (hA : ∀ j, j ≤ n → qL (qs (fun w => y (160 + (fr + w)) * y (200 + (fr + w))) j) ka) : ∀ d j : Nat, n - j = d → j ≤ n → ∀ (M : rg_M) (y' : Nat → Rat), cE u z rk c jf ln ng cg tb rn ro fx M y' → (∀ i, i ≠ 241 → i ≠ 242 → y' i = y i) → y' 241 = qs (fun w => y (160 + (fr + w)) * y (200 + (fr + w))) j →
    ∃ M' y'', rL_learnAt_28 ln row (nI fr) (nI (fr + n)) (nI (fr + j)) M = rL_learnAt_92 ln row (nI (fr + n)) (nI fr) M' ∧ cE u z rk c jf ln ng cg tb rn ro fx M' y'' ∧ (∀ i, i ≠ 241 → i ≠ 242 → y'' i = y i) ∧ y'' 241 = qs (fun w => y (160 + (fr + w)) * y (200 + (fr + w))) n ∧ cG M M' := by
  intro d
  induction d with
  | zero =>
    intro j hd hj M y' hE h1 h2
    have e : j = n := by omega
    subst e
    rw [rL_learnAt_28_e, if_pos (Int32.le_refl _)]
    exact ⟨M, y', rfl, hE, h1, h2, cG.rf M⟩
  | succ d ih =>
    intro j hd hj M y' hE h1 h2
    have hjn : j < n := by omega
    have A := hE.1.all
    have q4 := hE.1.q (k := 4) (i := fr + j) (by omega) (by omega)
    have k1 := nI_clamp (n := fr + j) (by omega)
    have k2 := rm_i0 (a := fr + j) (by omega)
    have k3 : fr + j < 40 := by omega
    have p : ¬ nI (fr + n) ≤ nI (fr + j) := by rw [nI_leI (by omega) (by omega)]; omega
    have v4 : vx (40 * 4 + (fr + j)) := Or.inl (by omega)
    have v5 : vx (40 * 5 + (fr + j)) := Or.inl (by omega)
    have v2 : vx 242 := Or.inl (by decide)
    have v1 : vx 241 := Or.inl (by decide)
    obtain ⟨M1, a1, a2, a3⟩ := cE_copy hE (i := 242) (j := 40 * 4 + (fr + j)) (k := kp) v2 v4 (by omega) (by omega) (by rw [h1 _ (by omega) (by omega)]; exact hP j hjn)
    rw [h1 _ (show 40 * 4 + (fr + j) ≠ 241 by omega) (by omega)] at a2
    have A1 := a2.1.all
    have q5 := a2.1.q (k := 5) (i := fr + j) (by omega) (by omega)
    have e5 : va_up y' 242 (y (40 * 4 + (fr + j))) (40 * 5 + (fr + j)) = y (40 * 5 + (fr + j)) := by rw [rg_up_ne (by omega)]; exact h1 _ (by omega) (by omega)
    obtain ⟨M2, b1, b2, b3⟩ := cE_mul a2 (i := 242) (j := 40 * 5 + (fr + j)) (k := 200) v2 v5 (by omega) (by decide) (by rw [rg_up_eq]; exact (hP j hjn).mono hk) (by rw [e5]; exact (hW j hjn).mono hk2)
    rw [rg_up_eq, e5, rg_up_up] at b2
    have A2 := b2.1.all
    have e1 : va_up y' 242 (y (40 * 4 + (fr + j)) * y (40 * 5 + (fr + j))) 241 = qs (fun w => y (160 + (fr + w)) * y (200 + (fr + w))) j := by rw [rg_up_ne (by decide)]; exact h2
    obtain ⟨M3, c1, c2, c3⟩ := cE_add b2 (i := 241) (j := 242) (k := 400) v1 v2 (by decide) 1 (by decide) (by rw [e1]; exact (hA j (by omega)).mono hka) (by rw [rg_up_eq]; exact (qL_mul (hP j hjn) (hW j hjn)).mono (by omega))
    rw [rg_up_eq, e1] at c2
    rw [rL_learnAt_28_e, if_neg p]
    simp only [A, if_true, Option.bind_some, k1, k2, k3, and_self, q4, a1, A1, q5, b1, A2, c1, nI_1]
    obtain ⟨M', y'', d1, d2, d3, d4, d5⟩ := ih (j + 1) (by omega) (by omega) M3 _ c2 (fun i hi hi2 => by rw [rg_up_ne hi, rg_up_ne hi2]; exact h1 i hi hi2) (by
      rw [rg_up_eq, qs_s]
      show _ + _ * ((1 : Int) : Rat) = _
      rw [Rat.intCast_one, Rat.mul_one])
    exact ⟨M', y'', d1, d2, d3, d4, a3.tr (b3.tr (c3.tr d5))⟩
end

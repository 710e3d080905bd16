/-! the number game: a round of both, the best answers -/
section
variable {u z rk jf ln ng cg tb rn wa we : Nat} {c ro fx : Nat → Nat} {M : rg_M} {y : Nat → Rat}
theorem cLo2 {num : Nat → Int32} (hok : tOk wa we num y) : cLo 2 5 wa we := ⟨by decide, fun p hp => by
  obtain ⟨o1, o2⟩ := hok.w p
  exact ⟨by omega, by omega, by omega, o1⟩⟩
theorem tMx_N {num : Nat → Int32} (hok : tOk wa we num y) {o p : Nat} (ho : o = 0 ∨ o = 40) (hp : p < 2) : ∃ D : Int, qN (tMx y o wa we p) (wyc wa we p) D ∧ cL D 46 := by
  obtain ⟨o1, o2⟩ := hok.w p
  obtain ⟨D, d1, d2, d3⟩ := mx_facts (f := fun w => y (o + (p * 5 + w))) o1 o2 (fun v hv => hok.2.2.2.2.2 _ (by omega))
  exact ⟨D, ⟨d1, d3⟩, d2.mono (by omega)⟩
/-- worths of one player by the mixes that lie in the parts -/
theorem cN_wr (hE : cE u z rk c jf ln ng cg tb rn ro fx M y) (hI : cLi ln 2 5 wa we M) {Y : Nat → Rat} {num : Nat → Int32} (hA : rg_A M rn = num) (hok : tOk wa we num Y) {o p : Nat} (ho : o = 0 ∨ o = 40) (hp : p < 2) (hmx : ∀ w, w < wyc wa we (1 - p) → y (160 + ((1 - p) * 5 + w)) = tMx Y o wa we (1 - p) w) : ∃ M' y', rN_reckonWorths ng (nI p) M = some M' ∧ cE u z rk c jf ln ng cg tb rn ro fx M' y' ∧ (∀ i, (i < 200 + p * 5 ∨ 200 + p * 5 + wyc wa we p ≤ i) → y' i = y i) ∧ (∀ w, w < wyc wa we p → y' (200 + (p * 5 + w)) = tWr (tMx Y o wa we (1 - p)) num p w (wyc wa we (1 - p)) ∧ qL (tWr (tMx Y o wa we (1 - p)) num p w (wyc wa we (1 - p))) 47) ∧ cG M M' := by
  obtain ⟨o1, o2⟩ := hok.w p
  obtain ⟨o3, o4⟩ := hok.w (1 - p)
  have on := hok.2.2.2.2.1
  obtain ⟨D, hD, lD⟩ := tMx_N hok ho (show 1 - p < 2 by omega)
  have hs : ∀ w j, w < wyc wa we p → j ≤ wyc wa we (1 - p) → qL (tWr (tMx Y o wa we (1 - p)) num p w j) 47 := fun w j hw hj => (hD.sum (a := fun v => gT num p w v) lD hj (fun v hv => (gI_T on (by omega) (by omega)).2) (by omega)).1
  obtain ⟨M1, y1, a1, a2, a3, a4, a5⟩ := cN_reckonWorths hE hI (p := p) (kp := 47) (kw := 47) hp o2 (by omega) (by omega) o4 (by decide) (by decide) (fun v hv => by rw [hmx v hv]; exact hD.L lD hv) (fun w j hw hj => by
    rw [hA, wth_T on (by omega) o4 hj hmx]; exact hs w j hw hj)
  exact ⟨M1, y1, a1, a2, a3, fun w hw => ⟨by rw [a4 w hw, hA]; exact wth_T on (by omega) o4 (Nat.le_refl _) hmx, hs w _ hw (Nat.le_refl _)⟩, a5⟩
theorem cN_learn (hE : cE u z rk c jf ln ng cg tb rn ro fx M y) (hI : cLi ln 2 5 wa we M) (hok : tOk wa we (rg_A M rn) y) :
    ∃ M' y' r, rN_learn ng M = some (r, M') ∧ cE u z rk c jf ln ng cg tb rn ro fx M' y' ∧ cG M M' ∧ (∀ i, (i < 80 ∨ 243 ≤ i) → y' i = y i) ∧ ((r = 1 ∧ ∀ p w, p < 2 → w < wyc wa we p → y' (80 + (p * 5 + w)) = tR y (tMx y 0 wa we p) (tMx y 0 wa we (1 - p)) (rg_A M rn) p (wyc wa we p) (wyc wa we (1 - p)) w ∧ y' (120 + (p * 5 + w)) = tS y (tMx y 0 wa we p) p w ∧ tFit y (tMx y 0 wa we p) (tMx y 0 wa we (1 - p)) (rg_A M rn) p (wyc wa we p) (wyc wa we (1 - p)) w) ∨ (r = 0 ∧ ∃ p w, p < 2 ∧ w < wyc wa we p ∧ ¬ tFit y (tMx y 0 wa we p) (tMx y 0 wa we (1 - p)) (rg_A M rn) p (wyc wa we p) (wyc wa we (1 - p)) w)) := by
  have A := hE.1.all
  have oL := hok.2.2.2.2.2
  have hn : ∀ p, 0 < wyc wa we p ∧ wyc wa we p ≤ 5 := fun p => hok.w p
  obtain ⟨M1, y1, a1, a2, a3, a4, a5⟩ := cL_findAllParts hE hI (kk := 0) (by decide) (cLo2 hok) (fun p w hp hw => by have := hn p; exact oL _ (by omega))
  have B1 := a2.1.all
  have hI1 := hI.G a5
  have hA1 : rg_A M1 rn = rg_A M rn := a5.A hE.1
  have hm1 : ∀ p w, p < 2 → w < wyc wa we p → y1 (160 + (p * 5 + w)) = tMx y 0 wa we p w := fun p w hp hw => by
    rw [show 160 + (p * 5 + w) = 160 + p * 5 + w by omega, a4 p w hp hw]; rfl
  obtain ⟨M2, y2, b1, b2, b3, b4, b5⟩ := cN_wr a2 hI1 hA1 hok (o := 0) (p := 0) (Or.inl rfl) (by decide) (fun w hw => hm1 1 w (by decide) hw)
  have b1 : rN_reckonWorths ng 0 M1 = some M2 := b1
  have B2 := b2.1.all
  have hI2 := hI1.G b5
  have hA2 : rg_A M2 rn = rg_A M rn := by rw [b5.A a2.1, hA1]
  have hn0 := hn 0
  have hn1 := hn 1
  have hm2 : ∀ p w, p < 2 → w < wyc wa we p → y2 (160 + (p * 5 + w)) = tMx y 0 wa we p w := fun p w hp hw => by have := hn p; rw [b3 _ (by omega)]; exact hm1 p w hp hw
  obtain ⟨M3, y3, c1, c2, c3, c4, c5⟩ := cN_wr b2 hI2 hA2 hok (o := 0) (p := 1) (Or.inl rfl) (by decide) (fun w hw => hm2 0 w (by decide) hw)
  have c1 : rN_reckonWorths ng 1 M2 = some M3 := c1
  have B3 := c2.1.all
  have hI3 := hI2.G c5
  have hA3 : rg_A M3 rn = rg_A M rn := by rw [c5.A b2.1, hA2]
  have hm3 : ∀ p w, p < 2 → w < wyc wa we p → y3 (160 + (p * 5 + w)) = tMx y 0 wa we p w := fun p w hp hw => by have := hn p; rw [c3 _ (by omega)]; exact hm2 p w hp hw
  have hw3 : ∀ p w, p < 2 → w < wyc wa we p → y3 (200 + (p * 5 + w)) = tWr (tMx y 0 wa we (1 - p)) (rg_A M rn) p w (wyc wa we (1 - p)) := fun p w hp hw => by
    rcases (show p = 0 ∨ p = 1 by omega) with e | e
    · subst e; rw [c3 _ (by omega)]; exact (b4 w hw).1
    · subst e; exact (c4 w hw).1
  have hs3 : ∀ i, (i < 80 ∨ 243 ≤ i) → y3 i = y i := fun i hi => by rw [c3 i (by omega), b3 i (by omega), a3 i (by omega) (by omega)]
  have okk : ∀ (M' : rg_M) (Y : Nat → Rat), rg_A M' rn = rg_A M rn → (∀ s, s < 80 → Y s = y s) → tOk wa we (rg_A M' rn) Y := fun M' Y h1 h2 => by
    obtain ⟨k1, k2, k3, k4, k5, k6⟩ := hok
    exact ⟨k1, k2, k3, k4, by rw [h1]; exact k5, fun s hs => by rw [h2 s hs]; exact k6 s hs⟩
  obtain ⟨D0, hD0, lD0⟩ := tMx_N hok (o := 0) (p := 0) (Or.inl rfl) (by decide)
  obtain ⟨D1, hD1, lD1⟩ := tMx_N hok (o := 0) (p := 1) (Or.inl rfl) (by decide)
  obtain ⟨M4, y4, r4, e1, e2, e3, e4, e5⟩ := cN_place c2 hI3 (p := 0) (by decide) (D := D0) (E := D1) (mu := tMx y 0 wa we 0) (nu := tMx y 0 wa we 1) (okk M3 y3 hA3 (fun s hs => hs3 s (by omega))) (fun w hw => hm3 0 w (by decide) hw) (fun w hw => by rw [hA3]; exact hw3 0 w (by decide) hw) hD0 lD0 hD1 lD1
  have e1 : rL_learnAt ln 0 (ro 4) M3 = some (r4, M4) := e1
  rw [hA3] at e5
  have B4 := e2.1.all
  have hI4 := hI3.G e4
  have hA4 : rg_A M4 rn = rg_A M rn := by rw [e4.A c2.1, hA3]
  have t1 : ∀ (Y mu nu : Nat → Rat) (p w : Nat), p < 2 → w < wyc wa we p → (∀ s, s < 80 → Y s = y s) → tR Y mu nu (rg_A M rn) p (wyc wa we p) (wyc wa we (1 - p)) w = tR y mu nu (rg_A M rn) p (wyc wa we p) (wyc wa we (1 - p)) w ∧ tS Y mu p w = tS y mu p w := fun Y mu nu p w hp hw hY => by
    have := hn p
    unfold tR tS; rw [hY _ (by omega), hY _ (by omega)]; exact ⟨rfl, rfl⟩
  have t2 : ∀ (Y mu nu : Nat → Rat) (p w : Nat), p < 2 → w < wyc wa we p → (∀ s, s < 80 → Y s = y s) → (tFit Y mu nu (rg_A M rn) p (wyc wa we p) (wyc wa we (1 - p)) w ↔ tFit y mu nu (rg_A M rn) p (wyc wa we p) (wyc wa we (1 - p)) w) := fun Y mu nu p w hp hw hY => by
    obtain ⟨x1, x2⟩ := t1 Y mu nu p w hp hw hY
    unfold tFit; rw [x1, x2]
  have G3 : cG M M3 := a5.tr (b5.tr c5)
  rw [rN_learn_u, rN_learn_e]
  simp only [A, if_true, Option.bind_some, a1, B1, b1, B2, c1, B3, e1]
  rcases e5 with ⟨h1, h2⟩ | ⟨h1, w, hw, h2⟩
  · rw [if_neg (by rw [h1]; decide)]
    have hs4 : ∀ s, s < 80 → y4 s = y s := fun s hs => by rw [e3 s (by omega) (by omega) (by omega) (by omega)]; exact hs3 s (by omega)
    obtain ⟨M5, y5, r5, g1, g2, g3, g4, g5⟩ := cN_place e2 hI4 (p := 1) (by decide) (D := D1) (E := D0) (mu := tMx y 0 wa we 1) (nu := tMx y 0 wa we 0) (okk M4 y4 hA4 hs4) (fun w hw => by rw [e3 _ (by omega) (by omega) (by omega) (by omega)]; exact hm3 1 w (by decide) hw) (fun w hw => by rw [hA4, e3 _ (by omega) (by omega) (by omega) (by omega)]; exact hw3 1 w (by decide) hw) hD1 lD1 hD0 lD0
    have g1 : rL_learnAt ln 1 (ro 4) M4 = some (r5, M5) := g1
    rw [hA4] at g5
    simp only [B4, if_true, Option.bind_some, g1]
    have hs5 : ∀ i, (i < 80 ∨ 243 ≤ i) → y5 i = y i := fun i hi => by rw [g3 i (by omega) (by omega) (by omega) (by omega), e3 i (by omega) (by omega) (by omega) (by omega)]; exact hs3 i hi
    rcases g5 with ⟨k1, k2⟩ | ⟨k1, w, hw, k2⟩
    · rw [if_neg (by rw [k1]; decide), rN_learn_65_e, if_pos (Or.inr rfl)]
      refine ⟨M5, y5, 1, rfl, g2, G3.tr (e4.tr g4), hs5, Or.inl ⟨rfl, fun p w hp hw => ?_⟩⟩
      rcases (show p = 0 ∨ p = 1 by omega) with e | e
      · subst e
        obtain ⟨x1, x2, x3⟩ := h2 w hw
        obtain ⟨z1, z2⟩ := t1 y3 (tMx y 0 wa we 0) (tMx y 0 wa we 1) 0 w hp hw (fun s hs => hs3 s (by omega))
        exact ⟨by rw [g3 _ (by omega) (by omega) (by omega) (by omega), x1]; exact z1, by rw [g3 _ (by omega) (by omega) (by omega) (by omega), x2]; exact z2, (t2 y3 _ _ 0 w hp hw (fun s hs => hs3 s (by omega))).mp x3⟩
      · subst e
        obtain ⟨x1, x2, x3⟩ := k2 w hw
        obtain ⟨z1, z2⟩ := t1 y4 (tMx y 0 wa we 1) (tMx y 0 wa we 0) 1 w hp hw hs4
        exact ⟨by rw [x1]; exact z1, by rw [x2]; exact z2, (t2 y4 _ _ 1 w hp hw hs4).mp x3⟩
    · rw [if_pos k1, rN_learn_64_e, rN_learn_65_e, if_pos (Or.inl rfl)]
      exact ⟨M5, y5, 0, rfl, g2, G3.tr (e4.tr g4), hs5, Or.inr ⟨rfl, 1, w, by decide, hw, fun h => k2 ((t2 y4 _ _ 1 w (by decide) hw hs4).mpr h)⟩⟩
  · rw [if_pos h1, rN_learn_64_e, rN_learn_65_e, if_pos (Or.inl rfl)]
    exact ⟨M4, y4, 0, rfl, e2, G3.tr e4, fun i hi => by rw [e3 i (by omega) (by omega) (by omega) (by omega)]; exact hs3 i hi, Or.inr ⟨rfl, 0, w, by decide, hw, fun h => h2 ((t2 y3 _ _ 0 w (by decide) hw (fun s hs => hs3 s (by omega))).mpr h)⟩⟩
/-- the best answer of a player to the other's mean -/
def tBest (y : Nat → Rat) (num : Nat → Int32) (wa we p : Nat) : Rat := qM (fun w => tWr (tMx y 40 wa we (1 - p)) num p w (wyc wa we (1 - p))) (wyc wa we p - 1)
theorem cN_fb69 {bi p : Nat} {who : Int32} (hbi : bi = 247 ∨ bi = 248) (hp : p < 2) {f : Nat → Rat} {n : Nat} {B : Rat} (hn5 : n ≤ 5) (hn0 : 0 < n) (hnw : n = wyc wa we p) (hL : ∀ w, w < n → qL (f w) 47) (hB : qL B 200) : ∀ d j : Nat, n - (j + 1) = d → j + 1 ≤ n → ∀ (M : rg_M) (y : Nat → Rat), cE u z rk c jf ln ng cg tb rn ro fx M y → cLi ln 2 5 wa we M → (∀ w, w < n → y (200 + (p * 5 + w)) = f w) → y 243 = qM f j → y bi = B →
    ∃ M' y', rN_findBest_69 ng (fx bi) who (nI p) (nI (j + 1)) M = rN_findBest_130 ng (fx bi) who (nI p) M' ∧ cE u z rk c jf ln ng cg tb rn ro fx M' y' ∧ y' bi = B + qM f (n - 1) ∧ (∀ i, i ≠ 243 → i ≠ bi → y' i = y i) ∧ cG M M' := by
  have vb : vx bi := Or.inl (by omega)
  intro d
  induction d with
  | zero =>
    intro j hd hj M y hE hI h1 h2 h3
    have e : n = j + 1 := by omega
    have A := hE.1.all
    obtain ⟨M1, a1, a2, a3⟩ := cE_add hE (i := bi) (j := 243) (k := 200) vb (Or.inl (by decide)) (by omega) 1 (by decide) (by rw [h3]; exact hB) (by rw [h2]; exact (qM_L j (fun i hi => hL i (by omega))).mono (by decide))
    rw [rN_findBest_69_e]
    simp only [A, if_true, Option.bind_some, cL_ways A.1.1 hI (show p < 100 by omega), ← hnw, e, Int32.le_refl, a1]
    refine ⟨M1, _, rfl, a2, ?_, fun i _ hi => rg_up_ne hi, a3⟩
    rw [rg_up_eq, h2, h3, Nat.add_sub_cancel]
    show _ + _ * ((1 : Int) : Rat) = _
    rw [Rat.intCast_one, Rat.mul_one]
  | succ d ih =>
    intro j hd hj M y hE hI h1 h2 h3
    have hjn : j + 1 < n := by omega
    have A := hE.1.all
    have q5 := hE.1.q (k := 5) (i := p * 5 + (j + 1)) (by omega) (by omega)
    rw [show 40 * 5 + (p * 5 + (j + 1)) = 200 + (p * 5 + (j + 1)) by omega] at q5
    have k1 := nI_clamp (n := p * 5 + (j + 1)) (by omega)
    have k2 := rm_i0 (a := p * 5 + (j + 1)) (by omega)
    have k3 : p * 5 + (j + 1) < 40 := by omega
    have pp : ¬ nI n ≤ nI (j + 1) := by rw [nI_leI (by omega) (by omega)]; omega
    obtain ⟨M1, a1, a2, a3⟩ := cE_keepG hE (i := 243) (j := 200 + (p * 5 + (j + 1))) (k := 47) (Or.inl (by decide)) (Or.inl (by omega)) (by omega) (by decide) (by rw [h2]; exact qM_L j (fun i hi => hL i (by omega))) (by rw [h1 _ hjn]; exact hL _ hjn)
    rw [h2, h1 _ hjn] at a2
    rw [rN_findBest_69_e]
    simp only [A, if_true, Option.bind_some, cL_ways A.1.1 hI (show p < 100 by omega), ← hnw, pp, if_false, cL_slot A.1.1 hI p (j + 1), k1, k2, k3, and_self, q5, a1]
    rw [nI_1]
    obtain ⟨M', y', b1, b2, b3, b4, b5⟩ := ih (j + 1) (by omega) (by omega) M1 _ a2 (hI.G a3) (fun w hw => by rw [rg_up_ne (by omega)]; exact h1 w hw) (by rw [rg_up_eq]; rfl) (by rw [rg_up_ne (by omega)]; exact h3)
    exact ⟨M', y', b1, b2, b3, fun i hi hi2 => by rw [b4 i hi hi2, rg_up_ne hi], a3.tr b5⟩
end

/-! the number game: a round against a told move, a round of both -/
def gT (num : Nat → Int32) (p w v : Nat) : Int := if p = 0 then (num (w * 5 + v)).toInt else -((num (v * 5 + w)).toInt)
theorem neg_toInt {x : Int32} (h : x.toInt.natAbs ≤ 1000) : (-x).toInt = -(x.toInt) := by
  have e : -x = Int32.ofInt (-(x.toInt)) := by rw [Int32.ofInt_neg, Int32.ofInt_toInt]
  rw [e]
  exact Int32.toInt_ofInt_of_le (by omega) (by omega)
theorem gI_T {num : Nat → Int32} (hn : ∀ i, i < 25 → (num i).toInt.natAbs ≤ 1000) {p w v : Nat} (hw : w < 5) (hv : v < 5) : (gI num p w v).toInt = gT num p w v ∧ (gT num p w v).natAbs ≤ 1000 := by
  unfold gI gT
  by_cases c : p = 0
  · rw [if_pos c, if_pos c]; exact ⟨rfl, hn _ (by omega)⟩
  · have := hn (v * 5 + w) (by omega)
    rw [if_neg c, if_neg c, neg_toInt this]; exact ⟨rfl, by omega⟩
section
variable {u z rk jf ln ng cg tb rn wa we : Nat} {c ro fx : Nat → Nat} {M : rg_M} {y : Nat → Rat}
/-- what holds of the number game's learning -/
def tOk (wa we : Nat) (num : Nat → Int32) (y : Nat → Rat) : Prop := 0 < wa ∧ wa ≤ 5 ∧ 0 < we ∧ we ≤ 5 ∧ (∀ i, i < 25 → (num i).toInt.natAbs ≤ 1000) ∧ ∀ s, s < 80 → qL (y s) 9
theorem tOk.w {num : Nat → Int32} (h : tOk wa we num y) (p : Nat) : 0 < wyc wa we p ∧ wyc wa we p ≤ 5 := by
  obtain ⟨h1, h2, h3, h4, -⟩ := h
  unfold wyc; split <;> omega
def tWr (nu : Nat → Rat) (num : Nat → Int32) (p w n : Nat) : Rat := qs (fun v => nu v * ((gT num p w v : Int) : Rat)) n
def tAv (mu : Nat → Rat) (nu : Nat → Rat) (num : Nat → Int32) (p n n' : Nat) : Rat := qs (fun w => mu w * tWr nu num p w n') n
/-- the next regret and sum of a way, given both parts -/
def tR (y mu nu : Nat → Rat) (num : Nat → Int32) (p n n' w : Nat) : Rat := y (p * 5 + w) + (tWr nu num p w n' - tAv mu nu num p n n')
def tS (y mu : Nat → Rat) (p w : Nat) : Rat := y (40 + (p * 5 + w)) + mu w
def tFit (y mu nu : Nat → Rat) (num : Nat → Int32) (p n n' w : Nat) : Prop := qB (tR y mu nu num p n n' w) ≤ 256 ∧ qB (tS y mu p w) ≤ 256
theorem row4 : ∀ (M : rg_M) (y : Nat → Rat) (s : Nat), cE u z rk c jf ln ng cg tb rn ro fx M y → s < 40 → rg_K M (ro 4) = 12 ∧ rg_L M (ro 4) = 40 ∧ rg_Q M (ro 4) s = some (fx (160 + s)) ∧ rg_K M (fx (160 + s)) = 2 := by
  intro M y s hE hs
  have A := hE.1.2.2.2.2.2.2.1 4 (by decide)
  have q := hE.1.q (k := 4) (i := s) (by decide) hs
  exact ⟨A.2.1, A.2.2, q⟩
/-- worths and what a player's place becomes, once both parts are there -/
theorem cN_place (hE : cE u z rk c jf ln ng cg tb rn ro fx M y) (hI : cLi ln 2 5 wa we M) {p : Nat} (hp : p < 2) {D E : Int} {mu nu : Nat → Rat} (hok : tOk wa we (rg_A M rn) y) (hmu : ∀ w, w < wyc wa we p → y (160 + (p * 5 + w)) = mu w) (hwr : ∀ w, w < wyc wa we p → y (200 + (p * 5 + w)) = tWr nu (rg_A M rn) p w (wyc wa we (1 - p))) (hD : qN mu (wyc wa we p) D) (lD : cL D 46) (hEn : qN nu (wyc wa we (1 - p)) E) (lE : cL E 46) :
    ∃ M' y' r, rL_learnAt ln (nI p) (ro 4) M = some (r, M') ∧ cE u z rk c jf ln ng cg tb rn ro fx M' y' ∧ (∀ i, i ≠ 241 → i ≠ 242 → (i < 80 + p * 5 ∨ 80 + p * 5 + wyc wa we p ≤ i) → (i < 120 + p * 5 ∨ 120 + p * 5 + wyc wa we p ≤ i) → y' i = y i) ∧ cG M M' ∧ ((r = 1 ∧ ∀ w, w < wyc wa we p → y' (80 + (p * 5 + w)) = tR y mu nu (rg_A M rn) p (wyc wa we p) (wyc wa we (1 - p)) w ∧ y' (120 + (p * 5 + w)) = tS y mu p w ∧ tFit y mu nu (rg_A M rn) p (wyc wa we p) (wyc wa we (1 - p)) w) ∨ (r = 0 ∧ ∃ w, w < wyc wa we p ∧ ¬ tFit y mu nu (rg_A M rn) p (wyc wa we p) (wyc wa we (1 - p)) w)) := by
  obtain ⟨o1, o2⟩ := hok.w p
  obtain ⟨o3, o4⟩ := hok.w (1 - p)
  obtain ⟨-, -, -, -, on, oL⟩ := hok
  have hwrf : ∀ w, w < wyc wa we p → qL (tWr nu (rg_A M rn) p w (wyc wa we (1 - p))) 47 ∧ qD (tWr nu (rg_A M rn) p w (wyc wa we (1 - p))) E ∧ -((wyc wa we (1 - p) * 1000 : Nat) : Rat) ≤ tWr nu (rg_A M rn) p w (wyc wa we (1 - p)) ∧ tWr nu (rg_A M rn) p w (wyc wa we (1 - p)) ≤ ((wyc wa we (1 - p) * 1000 : Nat) : Rat) := fun w hw =>
    hEn.sum (a := fun v => gT (rg_A M rn) p w v) lE (Nat.le_refl _) (fun v hv => (gI_T on (by omega) (by omega)).2) (by omega)
  have hcong : ∀ j, j ≤ wyc wa we p → qs (fun w => y (160 + (p * 5 + w)) * y (200 + (p * 5 + w))) j = qs (fun w => mu w * tWr nu (rg_A M rn) p w (wyc wa we (1 - p))) j := fun j hj => qs_cong (fun w hw => by rw [hmu w (by omega), hwr w (by omega)])
  obtain ⟨M', y', r, a1, a2, a3, a4, a5⟩ := cL_learnAt hE hI (row := ro 4) (p := p) (kp := 47) (kw := 47) (ka := 93) (kq := 47) (gx := fun s => 160 + s) (by omega) (by omega) row4 (fun s hs => ⟨Or.inl (by omega), by omega, by omega, by omega⟩) (by decide) (by decide) (by decide) (by decide) (by decide) (fun w hw => oL _ (by omega)) (fun w hw => oL _ (by omega)) (fun w hw => by rw [hmu w hw]; exact hD.L lD hw) (fun w hw => by rw [hwr w hw]; exact (hwrf w hw).1) (fun j hj => by
    rw [hcong j hj]
    have hb9 : wyc wa we p * (wyc wa we (1 - p) * 1000) < 2147483648 := Nat.lt_of_le_of_lt (Nat.mul_le_mul o2 (Nat.mul_le_mul_right 1000 o4)) (by decide)
    have h9 := qN.avg (mu := mu) (x := fun w => tWr nu (rg_A M rn) p w (wyc wa we (1 - p))) (n := wyc wa we p) (j := j) (k := 46) (l := 46) (B := wyc wa we (1 - p) * 1000) (D := D) (E := E) hD lD lE hEn.1 hj (fun v hv => (hwrf v hv).2) hb9
    exact h9) (fun w hw => by show qL (y (160 + (p * 5 + w))) 47; rw [hmu w hw]; exact hD.L lD hw)
  rw [hcong _ (Nat.le_refl _)] at a5
  have e1 : ∀ w, w < wyc wa we p → nR (va_up y 241 (qs (fun w => mu w * tWr nu (rg_A M rn) p w (wyc wa we (1 - p))) (wyc wa we p))) (p * 5) w = tR y mu nu (rg_A M rn) p (wyc wa we p) (wyc wa we (1 - p)) w := fun w hw => by
    unfold nR tR
    rw [rg_up_eq, rg_up_ne (by omega), rg_up_ne (by omega), hwr w hw]; rfl
  have e2 : ∀ w, w < wyc wa we p → nS y (fun s => 160 + s) (p * 5) w = tS y mu p w := fun w hw => by
    unfold nS tS
    show _ + y (160 + (p * 5 + w)) = _
    rw [hmu w hw]
  have e3 : ∀ w, w < wyc wa we p → nS (va_up y 241 (qs (fun w => mu w * tWr nu (rg_A M rn) p w (wyc wa we (1 - p))) (wyc wa we p))) (fun s => 160 + s) (p * 5) w = tS y mu p w := fun w hw => by
    rw [← e2 w hw]
    unfold nS
    show va_up y 241 _ (40 + (p * 5 + w)) + va_up y 241 _ (160 + (p * 5 + w)) = _
    rw [rg_up_ne (by omega), rg_up_ne (by omega)]
  have e4 : ∀ w, w < wyc wa we p → (fitW (va_up y 241 (qs (fun w => mu w * tWr nu (rg_A M rn) p w (wyc wa we (1 - p))) (wyc wa we p))) (fun s => 160 + s) (p * 5) w ↔ tFit y mu nu (rg_A M rn) p (wyc wa we p) (wyc wa we (1 - p)) w) := fun w hw => by
    unfold fitW tFit; rw [e1 w hw, e3 w hw]
  refine ⟨M', y', r, a1, a2, a3, a4, ?_⟩
  rcases a5 with ⟨h1, h2⟩ | ⟨h1, w, hw, h2⟩
  · refine Or.inl ⟨h1, fun w hw => ?_⟩
    obtain ⟨t1, t2, t3⟩ := h2 w hw
    exact ⟨by rw [t1, e1 w hw], by rw [t2, e2 w hw], (e4 w hw).mp t3⟩
  · exact Or.inr ⟨h1, w, hw, fun h => h2 ((e4 w hw).mpr h)⟩
/-- the mix of a player -/
def tMx (y : Nat → Rat) (o wa we p w : Nat) : Rat := mx (fun w => y (o + (p * 5 + w))) (wyc wa we p) w
theorem wth_T {num : Nat → Int32} (hn : ∀ i, i < 25 → (num i).toInt.natAbs ≤ 1000) {nu : Nat → Rat} {p w n j : Nat} (hw : w < 5) (hn5 : n ≤ 5) (hj : j ≤ n) (h : ∀ v, v < n → y (160 + ((1 - p) * 5 + v)) = nu v) : wth y num 5 p w j = tWr nu num p w j := by
  refine qs_cong (fun v hv => ?_)
  rw [h v (by omega), (gI_T hn hw (by omega)).1]
/-- a round of one player against a told move -/
theorem cN_learnAgainst (hE : cE u z rk c jf ln ng cg tb rn ro fx M y) (hI : cLi ln 2 5 wa we M) (hok : tOk wa we (rg_A M rn) y) {p m : Nat} (hp : p < 2) (hm : m < wyc wa we (1 - p)) :
    ∃ M' y' r, rN_learnAgainst ng (nI p) (nI m) M = some (r, M') ∧ cE u z rk c jf ln ng cg tb rn ro fx M' y' ∧ cG M M' ∧ (∀ i, (i < 80 ∨ 243 ≤ i) → y' i = y i) ∧ ((r = 1 ∧ ∀ w, w < wyc wa we p → y' (80 + (p * 5 + w)) = tR y (tMx y 0 wa we p) (fun v => if v = m then 1 else 0) (rg_A M rn) p (wyc wa we p) (wyc wa we (1 - p)) w ∧ y' (120 + (p * 5 + w)) = tS y (tMx y 0 wa we p) p w ∧ tFit y (tMx y 0 wa we p) (fun v => if v = m then 1 else 0) (rg_A M rn) p (wyc wa we p) (wyc wa we (1 - p)) w) ∨ (r = 0 ∧ ∃ w, w < wyc wa we p ∧ ¬ tFit y (tMx y 0 wa we p) (fun v => if v = m then 1 else 0) (rg_A M rn) p (wyc wa we p) (wyc wa we (1 - p)) w)) := by
  have A := hE.1.all
  obtain ⟨o1, o2⟩ := hok.w p
  obtain ⟨o3, o4⟩ := hok.w (1 - p)
  have on := hok.2.2.2.2.1
  have oL := hok.2.2.2.2.2
  obtain ⟨M1, y1, a1, a2, a3, a4, a5⟩ := cL_findParts hE hI (kk := 0) (p := p) (by decide) (by omega) (by omega) o2 o1 (fun w hw => oL _ (by omega))
  have B1 := a2.1.all
  have hI1 := hI.G a5
  obtain ⟨M2, y2, b1, b2, b3, b4, b5⟩ := cL_setCertain a2 hI1 (p := 1 - p) (m := m) (by omega) (by omega) (by omega)
  have B2 := b2.1.all
  have hI2 := hI1.G b5
  have hA2 : rg_A M2 rn = rg_A M rn := by rw [b5.A a2.1, a5.A hE.1]
  have hnu : qN (fun v => if v = m then (1 : Rat) else 0) (wyc wa we (1 - p)) 1 := ⟨by decide, fun v _ => by
    show qD (if v = m then (1 : Rat) else 0) 1 ∧ _ ∧ _
    by_cases cc : v = m
    · simp only [if_pos cc]; exact ⟨⟨1, by rw [Rat.intCast_one, Rat.mul_one]⟩, by decide, by decide⟩
    · simp only [if_neg cc]; exact ⟨⟨0, by rw [Rat.zero_mul, Rat.intCast_zero]⟩, by decide, by decide⟩⟩
  have lE : cL (1 : Int) 46 := by unfold cL; exact Nat.lt_of_lt_of_le (show 1 < wB ^ 1 by decide) (Nat.pow_le_pow_right (by decide) (by decide))
  obtain ⟨D, d1, d2, d3⟩ := mx_facts (f := fun w => y (40 * 0 + (p * 5 + w))) o1 o2 (fun v hv => oL _ (by omega))
  have hw2 : ∀ w, w < wyc wa we p → y2 (160 + (p * 5 + w)) = tMx y 0 wa we p w := fun w hw => by
    have h9 : 160 + (p * 5 + w) < 160 + (1 - p) * 5 ∨ 160 + (1 - p) * 5 + wyc wa we (1 - p) ≤ 160 + (p * 5 + w) := by
      rcases (show p = 0 ∨ p = 1 by omega) with e | e <;> subst e <;> omega
    rw [b3 _ h9, show 160 + (p * 5 + w) = 160 + p * 5 + w by omega, a4 w hw]; rfl
  have hv2 : ∀ v, v < wyc wa we (1 - p) → y2 (160 + ((1 - p) * 5 + v)) = (fun v => if v = m then (1 : Rat) else 0) v := fun v hv => by rw [show 160 + ((1 - p) * 5 + v) = 160 + (1 - p) * 5 + v by omega]; exact b4 v hv
  obtain ⟨M3, y3, c1, c2, c3, c4, c5⟩ := cN_reckonWorths b2 hI2 (p := p) (kp := 47) (kw := 47) hp o2 (by omega) (by omega) o4 (by decide) (by decide) (fun v hv => by rw [hv2 v hv]; exact hnu.L lE hv) (fun w j hw hj => by
    rw [hA2, wth_T on (by omega) o4 hj hv2]
    exact (hnu.sum (a := fun v => gT (rg_A M rn) p w v) lE hj (fun v hv => (gI_T on (by omega) (by omega)).2) (by omega)).1)
  have B3 := c2.1.all
  have hI3 := hI2.G c5
  have hA3 : rg_A M3 rn = rg_A M rn := by rw [c5.A b2.1, hA2]
  have hys : ∀ s, s < 80 → y3 s = y s := fun s hs => by rw [c3 s (by omega), b3 s (by omega), a3 s (by omega) (by omega)]
  have hok3 : tOk wa we (rg_A M3 rn) y3 := by
    obtain ⟨k1, k2, k3, k4, k5, k6⟩ := hok
    exact ⟨k1, k2, k3, k4, by rw [hA3]; exact k5, fun s hs => by rw [hys s hs]; exact k6 s hs⟩
  obtain ⟨M4, y4, r, e1, e2, e3, e4, e5⟩ := cN_place c2 hI3 (p := p) hp (D := D) (E := 1) (mu := tMx y 0 wa we p) (nu := fun v => if v = m then 1 else 0) hok3 (fun w hw => by rw [c3 _ (by omega)]; exact hw2 w hw) (fun w hw => by
    rw [c4 w hw, hA2, hA3]
    exact wth_T on (by omega) o4 (Nat.le_refl _) hv2) ⟨d1, d3⟩ (d2.mono (by omega)) hnu lE
  rw [hA3] at e5
  have f1 : ∀ w, w < wyc wa we p → tR y3 (tMx y 0 wa we p) (fun v => if v = m then 1 else 0) (rg_A M rn) p (wyc wa we p) (wyc wa we (1 - p)) w = tR y (tMx y 0 wa we p) (fun v => if v = m then 1 else 0) (rg_A M rn) p (wyc wa we p) (wyc wa we (1 - p)) w := fun w hw => by unfold tR; rw [hys _ (by omega)]
  have f2 : ∀ w, w < wyc wa we p → tS y3 (tMx y 0 wa we p) p w = tS y (tMx y 0 wa we p) p w := fun w hw => by unfold tS; rw [hys _ (by omega)]
  have f3 : ∀ w, w < wyc wa we p → (tFit y3 (tMx y 0 wa we p) (fun v => if v = m then 1 else 0) (rg_A M rn) p (wyc wa we p) (wyc wa we (1 - p)) w ↔ tFit y (tMx y 0 wa we p) (fun v => if v = m then 1 else 0) (rg_A M rn) p (wyc wa we p) (wyc wa we (1 - p)) w) := fun w hw => by unfold tFit; rw [f1 w hw, f2 w hw]
  have hr01 : r = 0 ∨ r = 1 := by rcases e5 with h | h; exact Or.inr h.1; exact Or.inl h.1
  refine ⟨M4, y4, r, ?_, e2, a5.tr (b5.tr (c5.tr e4)), fun i hi => ?_, ?_⟩
  · have em : (1 : Int32) - nI p = nI (1 - p) := pk_sub (a := 1) (b := p) (by omega)
    rw [rN_learnAgainst_u, rN_learnAgainst_e]
    simp only [A, if_true, Option.bind_some, a1, B1, em, b1, B2, c1, B3, e1]
    rw [if_pos hr01]; rfl
  · rw [e3 i (by omega) (by omega) (by omega) (by omega), c3 i (by omega), b3 i (by omega), a3 i (by omega) (by omega)]
  · rcases e5 with ⟨h1, h2⟩ | ⟨h1, w, hw, h2⟩
    · refine Or.inl ⟨h1, fun w hw => ?_⟩
      obtain ⟨t1, t2, t3⟩ := h2 w hw
      exact ⟨by rw [t1, f1 w hw], by rw [t2, f2 w hw], (f3 w hw).mp t3⟩
    · exact Or.inr ⟨h1, w, hw, fun h => h2 ((f3 w hw).mpr h)⟩
end

/-! the number game: findBest, span, begin -/
section
variable {u z rk jf ln ng cg tb rn wa we : Nat} {c ro fx : Nat → Nat} {M : rg_M} {y : Nat → Rat}
theorem cN_fb37 (hE : cE u z rk c jf ln ng cg tb rn ro fx M y) (hI : cLi ln 2 5 wa we M) {Y : Nat → Rat} {num : Nat → Int32} (hA : rg_A M rn = num) (hok : tOk wa we num Y) {bi p : Nat} {who : Int32} {B : Rat} (hbi : bi = 247 ∨ bi = 248) (hp : p < 2) (hmx : ∀ p w, p < 2 → w < wyc wa we p → y (160 + (p * 5 + w)) = tMx Y 40 wa we p w) (hB : qL B 200) (hb : y bi = B) :
    ∃ M' y', rN_findBest_37 ng (fx bi) who (nI p) M = rN_findBest_22 ng (fx bi) who (nI (p + 1)) M' ∧ cE u z rk c jf ln ng cg tb rn ro fx M' y' ∧ y' bi = B + tBest Y num wa we p ∧ (∀ i, (i < 200 ∨ 240 ≤ i) → i ≠ 243 → i ≠ bi → y' i = y i) ∧ cG M M' ∧ qL (tBest Y num wa we p) 47 := by
  have A := hE.1.all
  obtain ⟨o1, o2⟩ := hok.w p
  obtain ⟨M1, y1, a1, a2, a3, a4, a5⟩ := cN_wr hE hI hA hok (o := 40) (p := p) (Or.inr rfl) hp (fun w hw => hmx (1 - p) w (by omega) hw)
  have B1 := a2.1.all
  have hI1 := hI.G a5
  have q5 := a2.1.q (k := 5) (i := p * 5) (by omega) (by omega)
  rw [show 40 * 5 + p * 5 = 200 + (p * 5 + 0) by omega] at q5
  have k1 := nI_clamp (n := p * 5) (by omega)
  have k2 := rm_i0 (a := p * 5) (by omega)
  have k3 : p * 5 < 40 := by omega
  have w2 := cL_slot B1.1.1 hI1 p 0
  have w2 : rL_slot ln (nI p) 0 M1 = some (nI (p * 5), M1) := w2
  obtain ⟨M2, b1, b2, b3⟩ := cE_copy a2 (i := 243) (j := 200 + (p * 5 + 0)) (k := 47) (Or.inl (by decide)) (Or.inl (by omega)) (by omega) (by decide) (by rw [(a4 0 o1).1]; exact (a4 0 o1).2)
  rw [(a4 0 o1).1] at b2
  obtain ⟨M3, y3, c1, c2, c3, c4, c5⟩ := cN_fb69 (u := u) (z := z) (rk := rk) (jf := jf) (ln := ln) (ng := ng) (cg := cg) (tb := tb) (rn := rn) (wa := wa) (we := we) (c := c) (ro := ro) (fx := fx) (bi := bi) (p := p) (who := who) hbi hp (f := fun w => tWr (tMx Y 40 wa we (1 - p)) num p w (wyc wa we (1 - p))) (n := wyc wa we p) (B := B) o2 o1 rfl (fun w hw => (a4 w hw).2) hB _ 0 rfl (by omega) M2 _ b2 (hI1.G b3) (fun w hw => by rw [rg_up_ne (by omega)]; exact (a4 w hw).1) (by rw [rg_up_eq]; rfl) (by rw [rg_up_ne (by omega), a3 _ (by omega)]; exact hb)
  have c1 : rN_findBest_69 ng (fx bi) who (nI p) 1 M2 = _ := c1
  refine ⟨M3, y3, ?_, c2, c3, fun i i1 i2 i3 => by rw [c4 i i2 i3, rg_up_ne i2, a3 i (by omega)], a5.tr (b3.tr c5), qM_L _ (fun i hi => (a4 i (by omega)).2)⟩
  rw [rN_findBest_37_e]
  simp only [A, if_true, Option.bind_some, a1, B1, w2, k1, k2, k3, and_self, q5, b1, c1]
  rw [rN_findBest_130_e, nI_1]
/-- who: 0 A, 1 B, 2 both -/
def tBests (y : Nat → Rat) (num : Nat → Int32) (wa we who : Nat) : Rat := if who = 0 then tBest y num wa we 0 else if who = 1 then tBest y num wa we 1 else tBest y num wa we 0 + tBest y num wa we 1
theorem cN_findBest (hE : cE u z rk c jf ln ng cg tb rn ro fx M y) (hI : cLi ln 2 5 wa we M) (hok : tOk wa we (rg_A M rn) y) {bi who : Nat} (hbi : bi = 247 ∨ bi = 248) (hw : who < 3) :
    ∃ M' y', rN_findBest ng (fx bi) (nI who) M = some M' ∧ cE u z rk c jf ln ng cg tb rn ro fx M' y' ∧ y' bi = tBests y (rg_A M rn) wa we who ∧ (∀ i, (i < 80 ∨ 244 ≤ i) → i ≠ bi → y' i = y i) ∧ cG M M' ∧ qL (tBests y (rg_A M rn) wa we who) 100 := by
  have A := hE.1.all
  have oL := hok.2.2.2.2.2
  have hn : ∀ p, 0 < wyc wa we p ∧ wyc wa we p ≤ 5 := fun p => hok.w p
  have vb : vx bi := Or.inl (by omega)
  obtain ⟨M1, y1, a1, a2, a3, a4, a5⟩ := cL_findAllParts hE hI (kk := 1) (by decide) (cLo2 hok) (fun p w hp hw => by have := hn p; exact oL _ (by omega))
  have hI1 := hI.G a5
  have hA1 : rg_A M1 rn = rg_A M rn := a5.A hE.1
  have hm1 : ∀ p w, p < 2 → w < wyc wa we p → y1 (160 + (p * 5 + w)) = tMx y 40 wa we p w := fun p w hp hw => by
    rw [show 160 + (p * 5 + w) = 160 + p * 5 + w by omega, a4 p w hp hw]; rfl
  have B1 := a2.1.all
  obtain ⟨M2, b1, b2, b3⟩ := cE_zero a2 (i := bi) vb
  have hI2 := hI1.G b3
  have hA2 : rg_A M2 rn = rg_A M rn := by rw [b3.A a2.1, hA1]
  have hm2 : ∀ p w, p < 2 → w < wyc wa we p → va_up y1 bi 0 (160 + (p * 5 + w)) = tMx y 40 wa we p w := fun p w hp hw => by have := hn p; rw [rg_up_ne (by omega)]; exact hm1 p w hp hw
  have kb : rg_K M1 (fx bi) = 2 := a2.k vb
  have s2 : ∀ i, (i < 80 ∨ 244 ≤ i) → i ≠ bi → va_up y1 bi 0 i = y i := fun i hi hi2 => by rw [rg_up_ne hi2]; exact a3 i (by omega) (by omega)
  -- the loop, twice
  have fin : ∃ M' y', rN_findBest_22 ng (fx bi) (nI who) 0 M2 = some (none, M') ∧ cE u z rk c jf ln ng cg tb rn ro fx M' y' ∧ y' bi = tBests y (rg_A M rn) wa we who ∧ (∀ i, (i < 80 ∨ 244 ≤ i) → i ≠ bi → y' i = y i) ∧ cG M2 M' ∧ qL (tBests y (rg_A M rn) wa we who) 100 := by
    have p2 : (1 : Int32) < nI (1 + 1) := by decide
    rcases (show who = 0 ∨ who = 1 ∨ who = 2 by omega) with e | e | e
    · subst e
      obtain ⟨M3, y3, c1, c2, c3, c4, c5, c6⟩ := cN_fb37 b2 hI2 hA2 hok (bi := bi) (p := 0) (who := nI 0) (B := 0) hbi (by decide) hm2 (qL_0 (by decide)) rg_up_eq
      have c1 : rN_findBest_37 ng (fx bi) (nI 0) 0 M2 = rN_findBest_22 ng (fx bi) (nI 0) 1 M3 := c1
      rw [rN_findBest_22_e, if_neg (by decide), if_pos (show nI 0 = (0 : Int32) from rfl), c1, rN_findBest_22_e, if_neg (by decide), if_neg (by decide), if_neg (by decide), rN_findBest_130_e, rN_findBest_22_e, if_pos (by decide)]
      exact ⟨M3, y3, rfl, c2, by rw [c3, Rat.zero_add]; rfl, fun i hi hi2 => by rw [c4 i (by omega) (by omega) hi2]; exact s2 i hi hi2, c5, c6.mono (by decide)⟩
    · subst e
      rw [rN_findBest_22_e, if_neg (by decide), if_neg (by decide), if_neg (by decide), rN_findBest_130_e, rN_findBest_22_e, if_neg (by decide), if_pos (show nI 1 = (0 : Int32) + 1 from rfl)]
      obtain ⟨M3, y3, c1, c2, c3, c4, c5, c6⟩ := cN_fb37 b2 hI2 hA2 hok (bi := bi) (p := 1) (who := nI 1) (B := 0) hbi (by decide) hm2 (qL_0 (by decide)) rg_up_eq
      have c1 : rN_findBest_37 ng (fx bi) (nI 1) (0 + 1) M2 = rN_findBest_22 ng (fx bi) (nI 1) (nI 2) M3 := c1
      rw [c1, rN_findBest_22_e, if_pos (by decide)]
      exact ⟨M3, y3, rfl, c2, by rw [c3, Rat.zero_add]; rfl, fun i hi hi2 => by rw [c4 i (by omega) (by omega) hi2]; exact s2 i hi hi2, c5, c6.mono (by decide)⟩
    · subst e
      obtain ⟨M3, y3, c1, c2, c3, c4, c5, c6⟩ := cN_fb37 b2 hI2 hA2 hok (bi := bi) (p := 0) (who := nI 2) (B := 0) hbi (by decide) hm2 (qL_0 (by decide)) rg_up_eq
      have c1 : rN_findBest_37 ng (fx bi) (nI 2) 0 M2 = rN_findBest_22 ng (fx bi) (nI 2) 1 M3 := c1
      have hA3 : rg_A M3 rn = rg_A M rn := by rw [c5.A b2.1, hA2]
      rw [Rat.zero_add] at c3
      obtain ⟨M4, y4, d1, d2, d3, d4, d5, d6⟩ := cN_fb37 c2 (hI2.G c5) hA3 hok (bi := bi) (p := 1) (who := nI 2) (B := tBest y (rg_A M rn) wa we 0) hbi (by decide) (fun p w hp hw => by have := hn p; rw [c4 _ (by omega) (by omega) (by omega)]; exact hm2 p w hp hw) (c6.mono (by decide)) c3
      have d1 : rN_findBest_37 ng (fx bi) (nI 2) 1 M3 = rN_findBest_22 ng (fx bi) (nI 2) (nI 2) M4 := d1
      rw [rN_findBest_22_e, if_neg (by decide), if_neg (by decide), if_pos (show nI 2 = (2 : Int32) from rfl), c1, rN_findBest_22_e, if_neg (by decide), if_neg (by decide), if_pos (show nI 2 = (2 : Int32) from rfl), d1, rN_findBest_22_e, if_pos (by decide)]
      exact ⟨M4, y4, rfl, d2, by rw [d3]; rfl, fun i hi hi2 => by rw [d4 i (by omega) (by omega) hi2, c4 i (by omega) (by omega) hi2]; exact s2 i hi hi2, c5.tr d5, (qL_add c6 d6).mono (by decide)⟩
  obtain ⟨M', y', f1, f2, f3, f4, f5, f6⟩ := fin
  refine ⟨M', y', ?_, f2, f3, f4, a5.tr (b3.tr f5), f6⟩
  rw [rN_findBest_u, rN_findBest_e]
  simp only [A, if_true, Option.bind_some, a1, kb, b1, f1]
  rfl
/-- the least and the greatest number -/
def spA (num : Nat → Int32) (r : Nat) (a : Int32 × Int32) : Nat → Int32 × Int32
  | 0 => a
  | k + 1 => (if num (r * 5 + k) < (spA num r a k).1 then num (r * 5 + k) else (spA num r a k).1, if (spA num r a k).2 < num (r * 5 + k) then num (r * 5 + k) else (spA num r a k).2)
def spB (num : Nat → Int32) (we : Nat) : Nat → Int32 × Int32
  | 0 => (1000, -1000)
  | r + 1 => spA num r (spB num we r) we
def spn (num : Nat → Int32) (wa we : Nat) : Int32 := (spB num we wa).2 - (spB num we wa).1
theorem cN_sp25 (hn : cEn rk ln ng cg tb rn ro fx M) (hI : cLi ln 2 5 wa we M) (h5 : we ≤ 5) {r : Nat} (hr : r < 5) (a : Int32 × Int32) : ∀ d j : Nat, we - j = d → j ≤ we → rN_span_25 ng (spA (rg_A M rn) r a j).1 (spA (rg_A M rn) r a j).2 (nI r) (nI j) M = rN_span_10 ng (spA (rg_A M rn) r a we).1 (spA (rg_A M rn) r a we).2 (nI (r + 1)) M := by
  have A := hn.all
  have w1 := cL_ways (p := 1) A.1.1 hI (by decide)
  have w1 : rL_ways ln 1 M = some (nI we, M) := w1
  intro d
  induction d with
  | zero =>
    intro j hd hj
    have e : j = we := by omega
    subst e
    rw [rN_span_25_e]
    simp only [A, if_true, Option.bind_some, w1, Int32.le_refl, nI_1]
  | succ d ih =>
    intro j hd hj
    have k1 := nI_clamp (n := r * 5 + j) (by omega)
    have k2 := rm_i0 (a := r * 5 + j) (by omega)
    have k3 : r * 5 + j < 25 := by omega
    have pp : ¬ nI we ≤ nI j := by rw [nI_leI (by omega) (by omega)]; omega
    rw [rN_span_25_e]
    simp only [A, if_true, Option.bind_some, w1, pp, if_false, show (5 : Int32) = nI 5 from rfl, pk_mul, nI_add, k1, k2, k3, and_self, nI_1]
    exact ih (j + 1) (by omega) (by omega)
theorem cN_span (hn : cEn rk ln ng cg tb rn ro fx M) (hI : cLi ln 2 5 wa we M) (h4 : wa ≤ 5) (h5 : we ≤ 5) : rN_span ng M = some (spn (rg_A M rn) wa we, M) := by
  have A := hn.all
  have w0 := cL_ways (p := 0) A.1.1 hI (by decide)
  have w0 : rL_ways ln 0 M = some (nI wa, M) := w0
  have go : ∀ d j : Nat, wa - j = d → j ≤ wa → rN_span_10 ng (spB (rg_A M rn) we j).1 (spB (rg_A M rn) we j).2 (nI j) M = some (some (.int (spn (rg_A M rn) wa we)), M) := by
    intro d
    induction d with
    | zero =>
      intro j hd hj
      have e : j = wa := by omega
      subst e
      rw [rN_span_10_e]
      simp only [A, if_true, Option.bind_some, w0, Int32.le_refl]
      rfl
    | succ d ih =>
      intro j hd hj
      have pp : ¬ nI wa ≤ nI j := by rw [nI_leI (by omega) (by omega)]; omega
      have h := cN_sp25 hn hI h5 (r := j) (by omega) (spB (rg_A M rn) we j) we 0 rfl (Nat.zero_le _)
      have h : rN_span_25 ng (spB (rg_A M rn) we j).1 (spB (rg_A M rn) we j).2 (nI j) 0 M = _ := h
      rw [rN_span_10_e]
      simp only [A, if_true, Option.bind_some, w0, pp, if_false, h]
      exact ih (j + 1) (by omega) (by omega)
  have h := go wa 0 rfl (Nat.zero_le _)
  have h : rN_span_10 ng 1000 (-1000) 0 M = _ := h
  rw [rN_span_u, rN_span_e, h]; rfl
theorem xM_cr (M : rg_M) {b : Nat} (f : Nat → Int32) (h : ¬ cO M b) : xM M (cr M b f) := ⟨rfl, rfl, rfl, rfl, rfl, rfl, fun _ _ _ => rfl, fun x hx => cr_An (fun e => h (by rw [← e]; exact hx))⟩
/-- a new table: all numbers 0 -/
theorem cN_begin (hE : cE u z rk c jf ln ng cg tb rn ro fx M y) (r k : Nat) : ∃ M1 M' y', rN_begin ng (nI r) (nI k) M = some M' ∧ cE u z rk c jf ln ng cg tb rn ro fx M' y' ∧ (∀ i, 80 ≤ i → y' i = y i) ∧ (∀ s, s < 80 → y' s = 0) ∧ cLi ln 2 5 r k M' ∧ (∀ i, i < 25 → rg_A M' rn i = 0) ∧ M1 = rg_wI (rg_wI (rg_wI (rg_wI (cr M rn (fb_put (rg_A M rn) (fun _ => 0) 0 25)) 42 ln (nI 2)) 43 ln (nI 5)) 44 ln (nI r)) 45 ln (nI k) ∧ xM M M1 ∧ cG M1 M' := by
  have A := hE.1.all
  have hO := hE.1.1.2.2.2.2.2.2
  obtain ⟨M0, hM0⟩ : ∃ M0, M0 = cr M rn (fb_put (rg_A M rn) (fun _ => 0) 0 25) := ⟨_, rfl⟩
  have hx0 : xM M M0 := by rw [hM0]; exact xM_cr M _ hO
  have hE0 := hx0.E hE
  have A0 := hE0.1.all
  have loop : ∀ d j : Nat, 25 - j = d → j ≤ 25 → rN_begin_2 ng (nI r) (nI k) (nI j) (cr M rn (fb_put (rg_A M rn) (fun _ => 0) 0 j)) = rN_begin_2 ng (nI r) (nI k) (nI 25) M0 := by
    intro d
    induction d with
    | zero => intro j hd hj; rw [show j = 25 by omega, hM0]
    | succ d ih =>
      intro j hd hj
      have k1 := nI_clamp (n := j) (by omega)
      have k2 := rm_i0 (a := j) (by omega)
      have k3 : j < 25 := by omega
      have pp : ¬ nI 25 ≤ nI j := by rw [nI_leI (by omega) (by omega)]; omega
      have e := fb_put_succ (rg_A M rn) (fun _ => 0) 0 j
      rw [Nat.zero_add] at e
      rw [← ih (j + 1) (by omega) (by omega), rN_begin_2_e]
      simp only [cr_K, cr_R, cr_L, A, if_true, Option.bind_some, pp, if_false, k1, k2, k3, and_self, cr_w, e, nI_1]
  obtain ⟨M1, M', y', a1, a2, a3, a4, a5, a6, a7, a8⟩ := cL_begin hE0 2 5 r k
  have a1 : rL_begin ln 2 5 (nI r) (nI k) M0 = some M' := a1
  have l0 := loop 25 0 rfl (Nat.zero_le _)
  rw [fb_put_0, cr_id] at l0
  have l0 : rN_begin_2 ng (nI r) (nI k) 0 M = _ := l0
  rw [hM0] at a6
  refine ⟨M1, M', y', ?_, a2, a3, a4, a5, fun i hi => ?_, a6, hx0.tr a7, a8⟩
  · rw [rN_begin_u, rN_begin_e, l0, rN_begin_2_e]
    simp only [A0, if_true, Option.bind_some, Int32.le_refl, a1]
    rfl
  · have hE1 := a7.E hE0
    rw [a8.A hE1.1, a6]
    show rg_A (cr M rn _) rn i = 0
    rw [cr_A, fb_put_in (Nat.zero_le _) (by omega)]
end

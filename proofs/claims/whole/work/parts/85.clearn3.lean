/-! Learning: learnAt, adopt, begin, greatestRegret, longest -/
theorem qL_neg {x : Rat} {k : Nat} (h : qL x k) : qL (-x) k := ⟨by rw [Rat.neg_num]; exact h.1.neg, by rw [Rat.neg_den]; exact h.2⟩
theorem qB_L {x : Rat} (h : qB x ≤ 256) : qL x 9 := by
  unfold qB at h
  have h1 := rm_bits_lt x.num.natAbs
  have h2 := rm_bits_lt x.den
  have h3 : 2 ^ 256 ≤ wB ^ 9 := by decide
  refine ⟨?_, ?_⟩
  · unfold cL
    exact Nat.lt_of_lt_of_le h1 (Nat.le_trans (Nat.pow_le_pow_right (by decide) (by omega)) h3)
  · unfold cL
    show x.den < _
    exact Nat.lt_of_lt_of_le h2 (Nat.le_trans (Nat.pow_le_pow_right (by decide) (by omega)) h3)
section
variable {u z rk jf ln ng cg tb rn P st wa we : Nat} {c ro fx : Nat → Nat} {M : rg_M} {y : Nat → Rat}
/-- what a round makes of a way: its regret, its sum -/
def nR (y : Nat → Rat) (fr w : Nat) : Rat := y (fr + w) + (y (200 + (fr + w)) - y 241)
def nS (y : Nat → Rat) (gx : Nat → Nat) (fr w : Nat) : Rat := y (40 + (fr + w)) + y (gx (fr + w))
def fitW (y : Nat → Rat) (gx : Nat → Nat) (fr w : Nat) : Prop := qB (nR y fr w) ≤ 256 ∧ qB (nS y gx fr w) ≤ 256
theorem cL_la92 {row fr n kw ka kq : Nat} {gx : Nat → Nat} (hfr : fr + n ≤ 40) (hrow : ∀ (M : rg_M) (y : Nat → Rat) (s : Nat), cE u z rk c jf ln ng cg tb rn ro fx M y → s < 40 → rg_K M row = 12 ∧ rg_L M row = 40 ∧ rg_Q M row s = some (fx (gx s)) ∧ rg_K M (fx (gx s)) = 2) (hgx : ∀ s, s < 40 → vx (gx s) ∧ 160 ≤ gx s ∧ gx s ≠ 242) (hk : kw + ka ≤ 424) (hkq : kq ≤ 425) (hR : ∀ w, w < n → qL (y (fr + w)) 9) (hSm : ∀ w, w < n → qL (y (40 + (fr + w))) 9) (hW : ∀ w, w < n → qL (y (200 + (fr + w))) kw) (hA : qL (y 241) ka) (hQ : ∀ w, w < n → qL (y (gx (fr + w))) kq) : ∀ d j : Nat, n - j = d → j ≤ n → ∀ (M : rg_M) (y' : Nat → Rat), cE u z rk c jf ln ng cg tb rn ro fx M y' → (∀ i, i ≠ 242 → (i < 80 + fr ∨ 80 + fr + n ≤ i) → (i < 120 + fr ∨ 120 + fr + n ≤ i) → y' i = y i) → (∀ w, w < j → y' (80 + (fr + w)) = nR y fr w ∧ y' (120 + (fr + w)) = nS y gx fr w ∧ fitW y gx fr w) →
    ∃ M' y'' r, rL_learnAt_92 ln row (nI (fr + n)) (nI (fr + j)) M = some (some (.int r), M') ∧ cE u z rk c jf ln ng cg tb rn ro fx M' y'' ∧ (∀ i, i ≠ 242 → (i < 80 + fr ∨ 80 + fr + n ≤ i) → (i < 120 + fr ∨ 120 + fr + n ≤ i) → y'' i = y i) ∧ cG M M' ∧ ((r = 1 ∧ ∀ w, w < n → y'' (80 + (fr + w)) = nR y fr w ∧ y'' (120 + (fr + w)) = nS y gx fr w ∧ fitW y gx fr w) ∨ (r = 0 ∧ ∃ w, w < n ∧ ¬ fitW y gx fr w)) := by
  intro d
  induction d with
  | zero =>
    intro j hd hj M y' hE h1 h2
    have e : j = n := by omega
    subst e
    rw [rL_learnAt_92_e, if_pos (Int32.le_refl _)]
    exact ⟨M, y', 1, rfl, hE, h1, cG.rf M, Or.inl ⟨rfl, h2⟩⟩
  | succ d ih =>
    intro j hd hj M y' hE h1 h2
    have hjn : j < n := by omega
    have A := hE.1.all
    have k1 := nI_clamp (n := fr + j) (by omega)
    have k2 := rm_i0 (a := fr + j) (by omega)
    have k3 : fr + j < 40 := by omega
    have p : ¬ nI (fr + n) ≤ nI (fr + j) := by rw [nI_leI (by omega) (by omega)]; omega
    have v0 : vx (40 * 0 + (fr + j)) := Or.inl (by omega)
    have v1 : vx (40 * 1 + (fr + j)) := Or.inl (by omega)
    have v2 : vx (40 * 2 + (fr + j)) := Or.inl (by omega)
    have v3 : vx (40 * 3 + (fr + j)) := Or.inl (by omega)
    have v5 : vx (40 * 5 + (fr + j)) := Or.inl (by omega)
    have v241 : vx 241 := Or.inl (by decide)
    have v242 : vx 242 := Or.inl (by decide)
    obtain ⟨g1, g2, g3⟩ := hgx (fr + j) k3
    -- change = worth - average
    have q5 := hE.1.q (k := 5) (i := fr + j) (by omega) (by omega)
    have e5 : y' (40 * 5 + (fr + j)) = y (200 + (fr + j)) := h1 _ (by omega) (by omega) (by omega)
    obtain ⟨M1, a1, a2, a3⟩ := cE_copy hE (i := 242) (j := 40 * 5 + (fr + j)) (k := kw) v242 v5 (by omega) (by omega) (by rw [e5]; exact hW j hjn)
    rw [e5] at a2
    have A1 := a2.1.all
    have e241 : va_up y' 242 (y (200 + (fr + j))) 241 = y 241 := by rw [rg_up_ne (by decide)]; exact h1 _ (by decide) (by omega) (by omega)
    obtain ⟨M2, b1, b2, b3⟩ := cE_add a2 (i := 242) (j := 241) (k := 424) v242 v241 (by decide) (-1) (by decide) (by rw [rg_up_eq]; exact (hW j hjn).mono (by omega)) (by rw [e241]; exact hA.mono (by omega))
    rw [rg_up_eq, e241, rg_up_up] at b2
    have hch : y (200 + (fr + j)) + y 241 * (((-1 : Int32).toInt : Int) : Rat) = y (200 + (fr + j)) - y 241 := by
      show _ + _ * (((-1 : Int)) : Rat) = _
      rw [Rat.intCast_neg, Rat.intCast_one, Rat.mul_neg, Rat.mul_one, Rat.sub_eq_add_neg]
    rw [hch] at b2
    have A2 := b2.1.all
    have q2 := b2.1.q (k := 2) (i := fr + j) (by omega) (by omega)
    have q0 := b2.1.q (k := 0) (i := fr + j) (by omega) (by omega)
    -- the next regret
    have e0 : va_up y' 242 (y (200 + (fr + j)) - y 241) (40 * 0 + (fr + j)) = y (fr + j) := by rw [rg_up_ne (by omega), show 40 * 0 + (fr + j) = fr + j by omega]; exact h1 _ (by omega) (by omega) (by omega)
    obtain ⟨M3, c1, c2, c3⟩ := cE_copy b2 (i := 40 * 2 + (fr + j)) (j := 40 * 0 + (fr + j)) (k := 9) v2 v0 (by omega) (by decide) (by rw [e0]; exact hR j hjn)
    rw [e0] at c2
    have A3 := c2.1.all
    have q23 := c2.1.q (k := 2) (i := fr + j) (by omega) (by omega)
    have f242 : va_up (va_up y' 242 (y (200 + (fr + j)) - y 241)) (40 * 2 + (fr + j)) (y (fr + j)) 242 = y (200 + (fr + j)) - y 241 := by rw [rg_up_ne (by omega), rg_up_eq]
    have lch : qL (y (200 + (fr + j)) - y 241) (kw + ka + 1) := by rw [Rat.sub_eq_add_neg]; exact qL_add (hW j hjn) (qL_neg hA)
    obtain ⟨M4, d1, d2, d3⟩ := cE_add c2 (i := 40 * 2 + (fr + j)) (j := 242) (k := 425) v2 v242 (by omega) 1 (by decide) (by rw [rg_up_eq]; exact (hR j hjn).mono (by decide)) (by rw [f242]; exact lch.mono (by omega))
    rw [rg_up_eq, f242, rg_up_up] at d2
    have hn1 : y (fr + j) + (y (200 + (fr + j)) - y 241) * (((1 : Int32).toInt : Int) : Rat) = nR y fr j := by
      show _ + _ * ((1 : Int) : Rat) = _
      rw [Rat.intCast_one, Rat.mul_one]; rfl
    rw [hn1] at d2
    obtain ⟨y4, hy4⟩ : ∃ y4, y4 = va_up (va_up y' 242 (y (200 + (fr + j)) - y 241)) (40 * 2 + (fr + j)) (nR y fr j) := ⟨_, rfl⟩
    rw [← hy4] at d2
    have A4 := d2.1.all
    have q3 := d2.1.q (k := 3) (i := fr + j) (by omega) (by omega)
    have q1 := d2.1.q (k := 1) (i := fr + j) (by omega) (by omega)
    -- the next sum
    have e1 : y4 (40 * 1 + (fr + j)) = y (40 + (fr + j)) := by rw [hy4, rg_up_ne (by omega), rg_up_ne (by omega), show 40 * 1 + (fr + j) = 40 + (fr + j) by omega]; exact h1 _ (by omega) (by omega) (by omega)
    obtain ⟨M5, i1, i2, i3⟩ := cE_copy d2 (i := 40 * 3 + (fr + j)) (j := 40 * 1 + (fr + j)) (k := 9) v3 v1 (by omega) (by decide) (by rw [e1]; exact hSm j hjn)
    rw [e1] at i2
    have A5 := i2.1.all
    have q35 := i2.1.q (k := 3) (i := fr + j) (by omega) (by omega)
    obtain ⟨w1, w2, w3, w4⟩ := hrow M5 _ (fr + j) i2 k3
    have eg : va_up y4 (40 * 3 + (fr + j)) (y (40 + (fr + j))) (gx (fr + j)) = y (gx (fr + j)) := by rw [rg_up_ne (by omega), hy4, rg_up_ne (by omega), rg_up_ne g3]; exact h1 _ g3 (by omega) (by omega)
    obtain ⟨M6, l1, l2, l3⟩ := cE_add i2 (i := 40 * 3 + (fr + j)) (j := gx (fr + j)) (k := 425) v3 g1 (by omega) 1 (by decide) (by rw [rg_up_eq]; exact (hSm j hjn).mono (by decide)) (by rw [eg]; exact (hQ j hjn).mono hkq)
    rw [rg_up_eq, eg, rg_up_up] at l2
    have hn2 : y (40 + (fr + j)) + y (gx (fr + j)) * (((1 : Int32).toInt : Int) : Rat) = nS y gx fr j := by
      show _ + _ * ((1 : Int) : Rat) = _
      rw [Rat.intCast_one, Rat.mul_one]; rfl
    rw [hn2] at l2
    obtain ⟨y6, hy6⟩ : ∃ y6, y6 = va_up y4 (40 * 3 + (fr + j)) (nS y gx fr j) := ⟨_, rfl⟩
    rw [← hy6] at l2
    have A6 := l2.1.all
    have q26 := l2.1.q (k := 2) (i := fr + j) (by omega) (by omega)
    have q36 := l2.1.q (k := 3) (i := fr + j) (by omega) (by omega)
    have r2 : y6 (40 * 2 + (fr + j)) = nR y fr j := by rw [hy6, rg_up_ne (by omega), hy4, rg_up_eq]
    have r3 : y6 (40 * 3 + (fr + j)) = nS y gx fr j := by rw [hy6, rg_up_eq]
    obtain ⟨m1, m2⟩ := cE_longest l2 (i := 40 * 2 + (fr + j)) v2
    obtain ⟨m3, m4⟩ := cE_longest l2 (i := 40 * 3 + (fr + j)) v3
    rw [r2] at m1 m2
    rw [r3] at m3 m4
    have G6 : cG M M6 := a3.tr (b3.tr (c3.tr (d3.tr (i3.tr l3))))
    have h16 : ∀ i, i ≠ 242 → (i < 80 + fr ∨ 80 + fr + n ≤ i) → (i < 120 + fr ∨ 120 + fr + n ≤ i) → y6 i = y i := fun i x1 x2 x3 => by
      rw [hy6, rg_up_ne (by omega), hy4, rg_up_ne (by omega), rg_up_ne x1]; exact h1 i x1 x2 x3
    rw [rL_learnAt_92_e, if_neg p]
    simp only [A, if_true, Option.bind_some, k1, k2, k3, and_self, q5, a1, A1, b1, A2, q2, q0, c1, A3, q23, d1, A4, q3, q1, i1, A5, q35, w1, w2, w3, l1, A6, q26, m1]
    by_cases f1 : qB (nR y fr j) ≤ 256
    · rw [if_neg (by rw [show (256 : Int32) = nI 256 from rfl, nI_ltI (by omega) (by omega)]; omega)]
      simp only [A6, if_true, Option.bind_some, k1, k2, k3, and_self, q36, m3]
      by_cases f2 : qB (nS y gx fr j) ≤ 256
      · rw [if_pos (by rw [show (256 : Int32) = nI 256 from rfl, nI_leI (by omega) (by omega)]; exact f2), nI_1]
        obtain ⟨M', y'', r, s1, s2, s3, s4, s5⟩ := ih (j + 1) (by omega) (by omega) M6 y6 l2 h16 (fun w hw => by
          by_cases e : w = j
          · rw [e]; exact ⟨r2, r3, f1, f2⟩
          · obtain ⟨t1, t2, t3⟩ := h2 w (by omega)
            refine ⟨?_, ?_, t3⟩
            · rw [hy6, rg_up_ne (by omega), hy4, rg_up_ne (by omega), rg_up_ne (by omega)]; exact t1
            · rw [hy6, rg_up_ne (by omega), hy4, rg_up_ne (by omega), rg_up_ne (by omega)]; exact t2)
        exact ⟨M', y'', r, s1, s2, s3, G6.tr s4, s5⟩
      · rw [if_neg (by rw [show (256 : Int32) = nI 256 from rfl, nI_leI (by omega) (by omega)]; exact f2), rL_learnAt_233_e]
        exact ⟨M6, y6, 0, rfl, l2, h16, G6, Or.inr ⟨rfl, j, hjn, fun h => f2 h.2⟩⟩
    · rw [if_pos (by rw [show (256 : Int32) = nI 256 from rfl, nI_ltI (by omega) (by omega)]; omega), rL_learnAt_233_e]
      exact ⟨M6, y6, 0, rfl, l2, h16, G6, Or.inr ⟨rfl, j, hjn, fun h => f1 h.1⟩⟩
/-- what a round makes of place p, the average being av -/
theorem cL_learnAt (hE : cE u z rk c jf ln ng cg tb rn ro fx M y) (hI : cLi ln P st wa we M) {row p kp kw ka kq : Nat} {gx : Nat → Nat} (hp : p < 20) (hst : p * st + wyc wa we p ≤ 40) (hrow : ∀ (M : rg_M) (y : Nat → Rat) (s : Nat), cE u z rk c jf ln ng cg tb rn ro fx M y → s < 40 → rg_K M row = 12 ∧ rg_L M row = 40 ∧ rg_Q M row s = some (fx (gx s)) ∧ rg_K M (fx (gx s)) = 2) (hgx : ∀ s, s < 40 → vx (gx s) ∧ 160 ≤ gx s ∧ gx s ≠ 242 ∧ gx s ≠ 241) (hkp : kp ≤ 200) (hkw : kw ≤ 200) (hka : ka ≤ 400) (hk : kw + ka ≤ 424) (hkq : kq ≤ 425) (hR : ∀ w, w < wyc wa we p → qL (y (p * st + w)) 9) (hSm : ∀ w, w < wyc wa we p → qL (y (40 + (p * st + w))) 9) (hP : ∀ w, w < wyc wa we p → qL (y (160 + (p * st + w))) kp) (hW : ∀ w, w < wyc wa we p → qL (y (200 + (p * st + w))) kw) (hA : ∀ j, j ≤ wyc wa we p → qL (qs (fun w => y (160 + (p * st + w)) * y (200 + (p * st + w))) j) ka) (hQ : ∀ w, w < wyc wa we p → qL (y (gx (p * st + w))) kq) :
    ∃ M' y' r, rL_learnAt ln (nI p) row M = some (r, M') ∧ cE u z rk c jf ln ng cg tb rn ro fx M' y' ∧ (∀ i, i ≠ 241 → i ≠ 242 → (i < 80 + p * st ∨ 80 + p * st + wyc wa we p ≤ i) → (i < 120 + p * st ∨ 120 + p * st + wyc wa we p ≤ i) → y' i = y i) ∧ cG M M' ∧ ((r = 1 ∧ ∀ w, w < wyc wa we p → y' (80 + (p * st + w)) = nR (va_up y 241 (qs (fun w => y (160 + (p * st + w)) * y (200 + (p * st + w))) (wyc wa we p))) (p * st) w ∧ y' (120 + (p * st + w)) = nS y gx (p * st) w ∧ fitW (va_up y 241 (qs (fun w => y (160 + (p * st + w)) * y (200 + (p * st + w))) (wyc wa we p))) gx (p * st) w) ∨ (r = 0 ∧ ∃ w, w < wyc wa we p ∧ ¬ fitW (va_up y 241 (qs (fun w => y (160 + (p * st + w)) * y (200 + (p * st + w))) (wyc wa we p))) gx (p * st) w)) := by
  have A := hE.1.all
  have w1 := cL_ways (p := p) A.1.1 hI (by omega)
  have w2 := cL_slot A.1.1 hI p 0
  have w2 : rL_slot ln (nI p) 0 M = some (nI (p * st), M) := w2
  obtain ⟨n, hnd⟩ : ∃ n, n = wyc wa we p := ⟨_, rfl⟩
  obtain ⟨fr, hfr⟩ : ∃ fr, fr = p * st := ⟨_, rfl⟩
  rw [← hnd] at hst hR hSm hP hW hA hQ w1 ⊢
  rw [← hfr] at hst hR hSm hP hW hA hQ w2 ⊢
  obtain ⟨M1, a1, a2, a3⟩ := cE_zero hE (i := 241) (Or.inl (by decide))
  obtain ⟨M2, y2, b1, b2, b3, b4, b5⟩ := cL_la28 (u := u) (z := z) (rk := rk) (jf := jf) (ln := ln) (ng := ng) (cg := cg) (tb := tb) (rn := rn) (c := c) (ro := ro) (fx := fx) (y := y) (row := row) (fr := fr) (n := n) hst hkp hkw hka hP hW hA n 0 rfl (Nat.zero_le _) M1 _ a2 (fun i hi _ => rg_up_ne hi) rg_up_eq
  obtain ⟨Y, hY⟩ : ∃ Y, Y = va_up y 241 (qs (fun w => y (160 + (fr + w)) * y (200 + (fr + w))) n) := ⟨_, rfl⟩
  have Y241 : Y 241 = qs (fun w => y (160 + (fr + w)) * y (200 + (fr + w))) n := by rw [hY, rg_up_eq]
  have Yn : ∀ i, i ≠ 241 → Y i = y i := fun i hi => by rw [hY, rg_up_ne hi]
  have hgx3 : ∀ s, s < 40 → vx (gx s) ∧ 160 ≤ gx s ∧ gx s ≠ 242 := fun s hs => ⟨(hgx s hs).1, (hgx s hs).2.1, (hgx s hs).2.2.1⟩
  obtain ⟨M3, y3, r, c1, c2, c3, c4, c5⟩ := cL_la92 (u := u) (z := z) (rk := rk) (jf := jf) (ln := ln) (ng := ng) (cg := cg) (tb := tb) (rn := rn) (c := c) (ro := ro) (fx := fx) (y := Y) (row := row) (fr := fr) (n := n) (kw := kw) (ka := ka) (kq := kq) (gx := gx) hst hrow hgx3 hk hkq (fun w hw => by rw [Yn _ (by omega)]; exact hR w hw) (fun w hw => by rw [Yn _ (by omega)]; exact hSm w hw) (fun w hw => by rw [Yn _ (by omega)]; exact hW w hw) (by rw [Y241]; exact hA n (Nat.le_refl _)) (fun w hw => by rw [Yn _ (hgx _ (by omega)).2.2.2]; exact hQ w hw) n 0 rfl (Nat.zero_le _) M2 y2 b2 (fun i hi _ _ => by
    by_cases e : i = 241
    · rw [e, b4, Y241]
    · rw [b3 i e hi, Yn i e]) (fun w hw => by omega)
  have c1 : rL_learnAt_92 ln row (nI (fr + n)) (nI fr) M2 = _ := c1
  have b1 : rL_learnAt_28 ln row (nI fr) (nI (fr + n)) (nI fr) M1 = _ := b1
  have hnS : ∀ w, w < n → nS Y gx fr w = nS y gx fr w := fun w hw => by
    unfold nS; rw [Yn _ (by omega), Yn _ (hgx _ (by omega)).2.2.2]
  refine ⟨M3, y3, r, ?_, c2, fun i x1 x2 x3 x4 => by rw [c3 i x2 x3 x4, Yn i x1], a3.tr (b5.tr c4), ?_⟩
  · rw [rL_learnAt_u, rL_learnAt_e]
    simp only [A, if_true, w1, w2, Option.bind_some, a1, nI_add, b1, c1]
    rfl
  · rw [← hY]
    rcases c5 with ⟨e, h⟩ | h
    · exact Or.inl ⟨e, fun w hw => ⟨(h w hw).1, by rw [(h w hw).2.1, hnS w hw], (h w hw).2.2⟩⟩
    · exact Or.inr h
end

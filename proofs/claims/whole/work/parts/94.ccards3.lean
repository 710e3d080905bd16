/-! the cards: going on by parts; the best answers -/
section
variable {u z rk jf ln ng cg tb rn d : Nat} {c ro fx : Nat → Nat} {M : rg_M} {y : Nat → Rat}
/-- behind B's bet: ways 6 and 7, each by its part -/
def gW (y : Nat → Rat) (k : Nat) : Nat → Rat
  | 0 => y (200 + 8 * k)
  | n + 1 => gW y k n + y (200 + (8 * k + (6 + n))) * y (160 + (8 * k + (6 + n)))
theorem cC_go20 {k : Nat} (hk : k < d) (hd : d ≤ 5) (hW : ∀ i, i < 40 → qL (y (200 + i)) 200) (hP : ∀ i, i < 8 * d → qL (y (160 + i)) 200) (hS : ∀ n, n ≤ 2 → qL (gW y k n) 425) : ∀ e n : Nat, 2 - n = e → n ≤ 2 → ∀ (M : rg_M) (y' : Nat → Rat), cE u z rk c jf ln ng cg tb rn ro fx M y' → (∀ i, i ≠ 245 → i ≠ 200 + 8 * k → y' i = y i) → y' (200 + 8 * k) = gW y k n →
    ∃ M' y'', rC_goOnByParts_20 cg (nI k) (nI (8 * k)) (nI (8 * k + (6 + n))) M = rC_goOnByParts_2 cg (nI (k + 1)) M' ∧ cE u z rk c jf ln ng cg tb rn ro fx M' y'' ∧ (∀ i, i ≠ 245 → i ≠ 200 + 8 * k → y'' i = y i) ∧ y'' (200 + 8 * k) = gW y k 2 ∧ cG M M' := by
  intro e
  induction e with
  | zero =>
    intro n he hn M y' hE h1 h2
    have e : n = 2 := by omega
    subst e
    rw [rC_goOnByParts_20_e, show (7 : Int32) = nI 7 from rfl, nI_add, if_pos (by rw [nI_ltI (by omega) (by omega)]; omega), nI_1]
    exact ⟨M, y', rfl, hE, h1, h2, cG.rf M⟩
  | succ e ih =>
    intro n he hn M y' hE h1 h2
    have hn2 : n < 2 := by omega
    have A := hE.1.all
    have k1 := nI_clamp (n := 8 * k + (6 + n)) (by omega)
    have k2 := rm_i0 (a := 8 * k + (6 + n)) (by omega)
    have k3 : 8 * k + (6 + n) < 40 := by omega
    have e0 : nI (8 * k) + (0 : Int32) = nI (8 * k) := by rw [show (0 : Int32) = nI 0 from rfl, nI_add, Nat.add_zero]
    have l1 := nI_clamp (n := 8 * k) (by omega)
    have l2 := rm_i0 (a := 8 * k) (by omega)
    have l3 : 8 * k < 40 := by omega
    have q5 := hE.1.q (k := 5) (i := 8 * k + (6 + n)) (by omega) k3
    rw [show 40 * 5 + (8 * k + (6 + n)) = 200 + (8 * k + (6 + n)) by omega] at q5
    have v5 : vx (200 + (8 * k + (6 + n))) := Or.inl (by omega)
    have v4 : vx (160 + (8 * k + (6 + n))) := Or.inl (by omega)
    have v0 : vx (200 + 8 * k) := Or.inl (by omega)
    have vo : vx 245 := Or.inl (by decide)
    have e5 : y' (200 + (8 * k + (6 + n))) = y (200 + (8 * k + (6 + n))) := h1 _ (by omega) (by omega)
    obtain ⟨M1, a1, a2, a3⟩ := cE_copy hE (i := 245) (j := 200 + (8 * k + (6 + n))) (k := 200) vo v5 (by omega) (by decide) (by rw [e5]; exact hW _ k3)
    rw [e5] at a2
    have A1 := a2.1.all
    have q4 := a2.1.q (k := 4) (i := 8 * k + (6 + n)) (by omega) k3
    rw [show 40 * 4 + (8 * k + (6 + n)) = 160 + (8 * k + (6 + n)) by omega] at q4
    have e4 : va_up y' 245 (y (200 + (8 * k + (6 + n)))) (160 + (8 * k + (6 + n))) = y (160 + (8 * k + (6 + n))) := by rw [rg_up_ne (by omega)]; exact h1 _ (by omega) (by omega)
    obtain ⟨M2, b1, b2, b3⟩ := cE_mul a2 (i := 245) (j := 160 + (8 * k + (6 + n))) (k := 200) vo v4 (by omega) (by decide) (by rw [rg_up_eq]; exact hW _ k3) (by rw [e4]; exact hP _ (by omega))
    rw [rg_up_eq, e4, rg_up_up] at b2
    have A2 := b2.1.all
    have q50 := b2.1.q (k := 5) (i := 8 * k) (by omega) l3
    rw [show 40 * 5 + 8 * k = 200 + 8 * k by omega] at q50
    have ew : va_up y' 245 (y (200 + (8 * k + (6 + n))) * y (160 + (8 * k + (6 + n)))) (200 + 8 * k) = gW y k n := by rw [rg_up_ne (by omega)]; exact h2
    obtain ⟨M3, c1, c2, c3⟩ := cE_add b2 (i := 200 + 8 * k) (j := 245) (k := 425) v0 vo (by omega) 1 (by decide) (by rw [ew]; exact hS n (by omega)) (by rw [rg_up_eq]; exact (qL_mul (hW _ k3) (hP _ (by omega))).mono (by decide))
    rw [ew, rg_up_eq] at c2
    rw [rC_goOnByParts_20_e, show (7 : Int32) = nI 7 from rfl, nI_add, if_neg (by rw [nI_ltI (by omega) (by omega)]; omega)]
    simp only [A, if_true, Option.bind_some, k1, k2, k3, and_self, q5, a1, A1, q4, b1, A2, e0, l1, l2, l3, q50, c1]
    rw [nI_1, show 8 * k + (6 + n) + 1 = 8 * k + (6 + (n + 1)) by omega]
    obtain ⟨M', y'', d1, d2, d3, d4, d5⟩ := ih (n + 1) (by omega) (by omega) M3 _ c2 (fun i hi hi2 => by rw [rg_up_ne hi2, rg_up_ne hi]; exact h1 i hi hi2) (by
      rw [rg_up_eq]
      show _ + _ * ((1 : Int) : Rat) = _
      rw [Rat.intCast_one, Rat.mul_one]; rfl)
    exact ⟨M', y'', d1, d2, d3, d4, a3.tr (b3.tr (c3.tr d5))⟩
/-- the greater of two -/
def qx (a b : Rat) : Rat := if a < b then b else a
theorem qL_qx {a b : Rat} {k : Nat} (h1 : qL a k) (h2 : qL b k) : qL (qx a b) k := by unfold qx; split; exact h2; exact h1
theorem cC_findGreater (hE : cE u z rk c jf ln ng cg tb rn ro fx M y) {s k : Nat} (hs : s + 1 < 40) (hk : k ≤ 425) (l1 : qL (y (200 + s)) k) (l2 : qL (y (200 + (s + 1))) k) : ∃ M', rC_findGreater cg (nI s) M = some M' ∧ cE u z rk c jf ln ng cg tb rn ro fx M' (va_up y 246 (qx (y (200 + s)) (y (200 + (s + 1))))) ∧ cG M M' := by
  have A := hE.1.all
  have k1 := nI_clamp (n := s) (by omega)
  have k2 := rm_i0 (a := s) (by omega)
  have k3 : s < 40 := by omega
  have m1 := nI_clamp (n := s + 1) (by omega)
  have m2 := rm_i0 (a := s + 1) (by omega)
  have q5 := hE.1.q (k := 5) (i := s) (by omega) k3
  rw [show 40 * 5 + s = 200 + s by omega] at q5
  obtain ⟨M1, a1, a2, a3⟩ := cE_copy hE (i := 246) (j := 200 + s) (k := k) (Or.inl (by decide)) (Or.inl (by omega)) (by omega) (by omega) l1
  have A1 := a2.1.all
  have q51 := a2.1.q (k := 5) (i := s + 1) (by omega) hs
  rw [show 40 * 5 + (s + 1) = 200 + (s + 1) by omega] at q51
  have e1 : va_up y 246 (y (200 + s)) (200 + (s + 1)) = y (200 + (s + 1)) := rg_up_ne (by omega)
  obtain ⟨M2, b1, b2, b3⟩ := cE_keepG a2 (i := 246) (j := 200 + (s + 1)) (k := k) (Or.inl (by decide)) (Or.inl (by omega)) (by omega) hk (by rw [rg_up_eq]; exact l1) (by rw [e1]; exact l2)
  rw [rg_up_eq, e1, rg_up_up] at b2
  refine ⟨M2, ?_, b2, a3.tr b3⟩
  rw [rC_findGreater_u, rC_findGreater_e]
  simp only [A, if_true, Option.bind_some, k1, k2, k3, and_self, q5, a1, A1, nI_1, m1, m2, hs, q51, b1]
  rfl
theorem q_one (x : Rat) : x * (((1 : Int32).toInt : Int) : Rat) = x := by
  show x * ((1 : Int) : Rat) = x
  rw [Rat.intCast_one, Rat.mul_one]
/-- B's best: at each card, behind a pass and behind a bet -/
def bB (y : Nat → Rat) (k : Nat) : Rat := qx (y (200 + (8 * k + 2))) (y (200 + (8 * k + 3)))
def bB2 (y : Nat → Rat) (k : Nat) : Rat := qx (y (200 + (8 * k + 4))) (y (200 + (8 * k + 5)))
theorem cC_bestB {bi : Nat} {B : Rat} (hbi : bi = 247 ∨ bi = 248) (hd : d ≤ 5) (hW : ∀ i, i < 40 → 2 ≤ i % 8 → i % 8 < 6 → qL (y (200 + i)) 425) (hS : ∀ j, j ≤ d → qL (B + qs (fun k => bB y k + bB2 y k) j) 425) (hS2 : ∀ j, j < d → qL (B + qs (fun k => bB y k + bB2 y k) j + bB y j) 425) : ∀ e j : Nat, d - j = e → j ≤ d → ∀ (M : rg_M) (y' : Nat → Rat), cE u z rk c jf ln ng cg tb rn ro fx M y' → cDk cg d M → (∀ i, i ≠ 246 → i ≠ bi → y' i = y i) → y' bi = B + qs (fun k => bB y k + bB2 y k) j →
    ∃ M' y'', rC_addBestOfB_2 cg (fx bi) (nI j) M = some (none, M') ∧ cE u z rk c jf ln ng cg tb rn ro fx M' y'' ∧ (∀ i, i ≠ 246 → i ≠ bi → y'' i = y i) ∧ y'' bi = B + qs (fun k => bB y k + bB2 y k) d ∧ cG M M' := by
  have vb : vx bi := Or.inl (by omega)
  intro e
  induction e with
  | zero =>
    intro j he hj M y' hE hK h1 h2
    have e : j = d := by omega
    subst e
    rw [rC_addBestOfB_2_e, if_pos hE.1.all.1.2.2.1, hK, if_pos (Int32.le_refl _)]
    exact ⟨M, y', rfl, hE, h1, h2, cG.rf M⟩
  | succ e ih =>
    intro j he hj M y' hE hK h1 h2
    have hjd : j < d := by omega
    have A := hE.1.all
    have w2 : y' (200 + (8 * j + 2)) = y (200 + (8 * j + 2)) := h1 _ (by omega) (by omega)
    have w3 : y' (200 + (8 * j + 2 + 1)) = y (200 + (8 * j + 3)) := h1 _ (by omega) (by omega)
    obtain ⟨M1, a1, a2, a3⟩ := cC_findGreater hE (s := 8 * j + 2) (k := 425) (by omega) (by decide) (by rw [w2]; exact hW _ (by omega) (by omega) (by omega)) (by rw [w3]; exact hW _ (by omega) (by omega) (by omega))
    rw [w2, w3] at a2
    have A1 := a2.1.all
    have eb : va_up y' 246 (qx (y (200 + (8 * j + 2))) (y (200 + (8 * j + 3)))) bi = B + qs (fun k => bB y k + bB2 y k) j := by rw [rg_up_ne (by omega)]; exact h2
    obtain ⟨M2, b1, b2, b3⟩ := cE_add a2 (i := bi) (j := 246) (k := 425) vb (Or.inl (by decide)) (by omega) 1 (by decide) (by rw [eb]; exact hS j (by omega)) (by rw [rg_up_eq]; exact qL_qx (hW _ (by omega) (by omega) (by omega)) (hW _ (by omega) (by omega) (by omega)))
    rw [eb, rg_up_eq, q_one] at b2
    have A2 := b2.1.all
    have w4 : ∀ t, t < 40 → va_up (va_up y' 246 (qx (y (200 + (8 * j + 2))) (y (200 + (8 * j + 3))))) bi (B + qs (fun k => bB y k + bB2 y k) j + qx (y (200 + (8 * j + 2))) (y (200 + (8 * j + 3)))) (200 + t) = y (200 + t) := fun t ht => by rw [rg_up_ne (by omega), rg_up_ne (by omega)]; exact h1 _ (by omega) (by omega)
    obtain ⟨M3, c1, c2, c3⟩ := cC_findGreater b2 (s := 8 * j + 4) (k := 425) (by omega) (by decide) (by rw [w4 _ (by omega)]; exact hW _ (by omega) (by omega) (by omega)) (by rw [w4 _ (by omega)]; exact hW _ (by omega) (by omega) (by omega))
    rw [w4 _ (by omega), w4 _ (by omega)] at c2
    have A3 := c2.1.all
    obtain ⟨Y, hY⟩ : ∃ Y, Y = va_up (va_up (va_up y' 246 (qx (y (200 + (8 * j + 2))) (y (200 + (8 * j + 3))))) bi (B + qs (fun k => bB y k + bB2 y k) j + qx (y (200 + (8 * j + 2))) (y (200 + (8 * j + 3))))) 246 (qx (y (200 + (8 * j + 4))) (y (200 + (8 * j + 4 + 1)))) := ⟨_, rfl⟩
    rw [← hY] at c2
    have Yb : Y bi = B + qs (fun k => bB y k + bB2 y k) j + bB y j := by rw [hY, rg_up_ne (by omega), rg_up_eq]; rfl
    have Y6 : Y 246 = bB2 y j := by rw [hY, rg_up_eq]; rfl
    obtain ⟨M4, d1, d2, d3⟩ := cE_add c2 (i := bi) (j := 246) (k := 425) vb (Or.inl (by decide)) (by omega) 1 (by decide) (by rw [Yb]; exact hS2 j hjd) (by rw [Y6]; exact qL_qx (hW _ (by omega) (by omega) (by omega)) (hW _ (by omega) (by omega) (by omega)))
    rw [Yb, Y6, q_one] at d2
    rw [rC_addBestOfB_2_e, if_pos A.1.2.2.1, hK, if_neg (by rw [nI_leI (by omega) (by omega)]; omega)]
    simp only [A, if_true, show (8 : Int32) = nI 8 from rfl, show (2 : Int32) = nI 2 from rfl, show (4 : Int32) = nI 4 from rfl, pk_mul, nI_add, a1, Option.bind_some, A1, b1, A2, c1, A3, d1]
    rw [nI_1]
    have G4 := a3.tr (b3.tr (c3.tr d3))
    obtain ⟨M', y'', g1, g2, g3, g4, g5⟩ := ih (j + 1) (by omega) (by omega) M4 _ d2 (hK.G G4) (fun i hi hi2 => by rw [rg_up_ne hi2, hY, rg_up_ne hi, rg_up_ne hi2, rg_up_ne hi]; exact h1 i hi hi2) (by rw [rg_up_eq, qs_s]; grind)
    exact ⟨M', y'', g1, g2, g3, g4, G4.tr g5⟩
end

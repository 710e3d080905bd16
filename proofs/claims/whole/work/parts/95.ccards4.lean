/-! the cards: going on by parts, A's best answers, begin -/
section
variable {u z rk jf ln ng cg tb rn d : Nat} {c ro fx : Nat → Nat} {M : rg_M} {y : Nat → Rat}
theorem gW_cong {y y2 : Nat → Rat} {k : Nat} (h : ∀ i, i < 40 → y (200 + i) = y2 (200 + i)) (h2 : ∀ i, i < 40 → y (160 + i) = y2 (160 + i)) (hk : k < 5) : ∀ n, n ≤ 2 → gW y k n = gW y2 k n
  | 0, _ => h (8 * k) (by omega)
  | n + 1, hn => by
    show gW y k n + _ * _ = gW y2 k n + _ * _
    rw [gW_cong h h2 hk n (by omega), h _ (by omega), h2 _ (by omega)]
theorem gW_part {y y2 : Nat → Rat} {k : Nat} (hk : k < 5) (h0 : y (200 + 8 * k) = y2 (200 + 8 * k)) (h6 : ∀ n, n < 2 → y (200 + (8 * k + (6 + n))) = y2 (200 + (8 * k + (6 + n)))) (h2 : ∀ i, i < 40 → y (160 + i) = y2 (160 + i)) : ∀ n, n ≤ 2 → gW y k n = gW y2 k n
  | 0, _ => h0
  | n + 1, hn => by
    show gW y k n + _ * _ = gW y2 k n + _ * _
    rw [gW_part hk h0 h6 h2 n (by omega), h6 n (by omega), h2 _ (by omega)]
theorem cC_goOn (hE : cE u z rk c jf ln ng cg tb rn ro fx M y) (hK : cDk cg d M) (hd : d ≤ 5) (hW : ∀ i, i < 40 → qL (y (200 + i)) 200) (hP : ∀ i, i < 8 * d → qL (y (160 + i)) 200) (hS : ∀ k n, k < d → n ≤ 2 → qL (gW y k n) 200) : ∃ M' y', rC_goOnByParts cg M = some M' ∧ cE u z rk c jf ln ng cg tb rn ro fx M' y' ∧ (∀ k, k < d → y' (200 + 8 * k) = gW y k 2) ∧ (∀ i, i ≠ 245 → (∀ k, k < d → i ≠ 200 + 8 * k) → y' i = y i) ∧ cG M M' := by
  have go : ∀ e j : Nat, d - j = e → j ≤ d → ∀ (M : rg_M) (y2 : Nat → Rat), cE u z rk c jf ln ng cg tb rn ro fx M y2 → cDk cg d M → (∀ k, k < j → y2 (200 + 8 * k) = gW y k 2) → (∀ i, i ≠ 245 → (∀ k, k < j → i ≠ 200 + 8 * k) → y2 i = y i) → ∃ M' y', rC_goOnByParts_2 cg (nI j) M = some (none, M') ∧ cE u z rk c jf ln ng cg tb rn ro fx M' y' ∧ (∀ k, k < d → y' (200 + 8 * k) = gW y k 2) ∧ (∀ i, i ≠ 245 → (∀ k, k < d → i ≠ 200 + 8 * k) → y' i = y i) ∧ cG M M' := by
    intro e
    induction e with
    | zero =>
      intro j he hj M y2 hE hK h1 h2
      have e : j = d := by omega
      subst e
      rw [rC_goOnByParts_2_e, if_pos hE.1.all.1.2.2.1, hK, if_pos (Int32.le_refl _)]
      exact ⟨M, y2, rfl, hE, h1, h2, cG.rf M⟩
    | succ e ih =>
      intro j he hj M y2 hE hK h1 h2
      have hjd : j < d := by omega
      have hg : ∀ n, n ≤ 2 → gW y2 j n = gW y j n := gW_part (by omega) (h2 _ (by omega) (fun k hk => by omega)) (fun n hn => h2 _ (by omega) (fun k hk => by omega)) (fun i hi => h2 _ (by omega) (fun k hk => by omega))
      have hw2 : ∀ i, i < 40 → qL (y2 (200 + i)) 200 := fun i hi => by
        by_cases cc : ∃ k, k < j ∧ 200 + i = 200 + 8 * k
        · obtain ⟨k, k1, k2⟩ := cc
          rw [k2, h1 k k1]; exact hS k 2 (by omega) (Nat.le_refl _)
        · rw [h2 _ (by omega) (fun k hk e => cc ⟨k, hk, e⟩)]; exact hW i hi
      obtain ⟨M1, y1, a1, a2, a3, a4, a5⟩ := cC_go20 (u := u) (z := z) (rk := rk) (jf := jf) (ln := ln) (ng := ng) (cg := cg) (tb := tb) (rn := rn) (d := d) (c := c) (ro := ro) (fx := fx) (y := y2) (k := j) hjd hd hw2 (fun i hi => by rw [h2 _ (by omega) (fun k hk => by omega)]; exact hP i hi) (fun n hn => by rw [hg n hn]; exact (hS j n hjd hn).mono (by decide)) 2 0 rfl (by decide) M y2 hE (fun _ _ _ => rfl) rfl
      have a1 : rC_goOnByParts_20 cg (nI j) (nI (8 * j)) (nI (8 * j + 6)) M = _ := a1
      rw [rC_goOnByParts_2_e, if_pos hE.1.all.1.2.2.1, hK, if_neg (by rw [nI_leI (by omega) (by omega)]; omega), show (8 : Int32) = nI 8 from rfl, pk_mul, show (6 : Int32) = nI 6 from rfl, nI_add, a1]
      obtain ⟨M', y', b1, b2, b3, b4, b5⟩ := ih (j + 1) (by omega) (by omega) M1 y1 a2 (hK.G a5) (fun k hk => by
        by_cases e : k = j
        · subst e; rw [a4, hg 2 (Nat.le_refl _)]
        · rw [a3 _ (by omega) (by omega)]; exact h1 k (by omega)) (fun i hi hi2 => by
        rw [a3 i hi (hi2 j (by omega))]; exact h2 i hi (fun k hk => hi2 k (by omega)))
      exact ⟨M', y', b1, b2, b3, b4, a5.tr b5⟩
  obtain ⟨M', y', b1, b2, b3, b4, b5⟩ := go d 0 rfl (Nat.zero_le _) M y hE hK (fun k hk => by omega) (fun _ _ _ => rfl)
  have b1 : rC_goOnByParts_2 cg 0 M = _ := b1
  refine ⟨M', y', ?_, b2, b3, b4, b5⟩
  rw [rC_goOnByParts_u, rC_goOnByParts_e, b1]; rfl
theorem cC_addBestB (hE : cE u z rk c jf ln ng cg tb rn ro fx M y) (hK : cDk cg d M) {bi : Nat} (hbi : bi = 247 ∨ bi = 248) (hd : d ≤ 5) (hW : ∀ i, i < 40 → 2 ≤ i % 8 → i % 8 < 6 → qL (y (200 + i)) 425) (hS : ∀ j, j ≤ d → qL (y bi + qs (fun k => bB y k + bB2 y k) j) 425) (hS2 : ∀ j, j < d → qL (y bi + qs (fun k => bB y k + bB2 y k) j + bB y j) 425) : ∃ M' y', rC_addBestOfB cg (fx bi) M = some M' ∧ cE u z rk c jf ln ng cg tb rn ro fx M' y' ∧ (∀ i, i ≠ 246 → i ≠ bi → y' i = y i) ∧ y' bi = y bi + qs (fun k => bB y k + bB2 y k) d ∧ cG M M' := by
  obtain ⟨M', y', b1, b2, b3, b4, b5⟩ := cC_bestB (u := u) (z := z) (rk := rk) (jf := jf) (ln := ln) (ng := ng) (cg := cg) (tb := tb) (rn := rn) (d := d) (c := c) (ro := ro) (fx := fx) (y := y) (B := y bi) hbi hd hW hS hS2 d 0 rfl (Nat.zero_le _) M y hE hK (fun _ _ _ => rfl) (by show _ = _ + 0; rw [Rat.add_zero])
  have b1 : rC_addBestOfB_2 cg (fx bi) 0 M = _ := b1
  refine ⟨M', y', ?_, b2, b3, b4, b5⟩
  rw [rC_addBestOfB_u, rC_addBestOfB_e, b1]; rfl
/-- A's best at a card: pass and go on best, or bet -/
def bA6 (y : Nat → Rat) (k : Nat) : Rat := qx (y (200 + (8 * k + 6))) (y (200 + (8 * k + 7)))
def bA (y : Nat → Rat) (k : Nat) : Rat := qx (y (200 + 8 * k) + bA6 y k) (y (200 + (8 * k + 1)))
theorem cC_bestA {bi : Nat} {B : Rat} (hbi : bi = 247 ∨ bi = 248) (hd : d ≤ 5) (hW : ∀ i, i < 40 → qL (y (200 + i)) 425) (hA : ∀ k, k < d → qL (y (200 + 8 * k) + bA6 y k) 425) (hS : ∀ j, j ≤ d → qL (B + qs (bA y) j) 425) : ∀ e j : Nat, d - j = e → j ≤ d → ∀ (M : rg_M) (y' : Nat → Rat), cE u z rk c jf ln ng cg tb rn ro fx M y' → cDk cg d M → (∀ i, i ≠ 246 → i ≠ bi → (∀ k, k < j → i ≠ 200 + 8 * k) → y' i = y i) → y' bi = B + qs (bA y) j →
    ∃ M' y'', rC_addBestOfA_2 cg (fx bi) (nI j) M = some (none, M') ∧ cE u z rk c jf ln ng cg tb rn ro fx M' y'' ∧ (∀ i, i ≠ 246 → i ≠ bi → (∀ k, k < d → i ≠ 200 + 8 * k) → y'' i = y i) ∧ y'' bi = B + qs (bA y) d ∧ cG M M' := by
  have vb : vx bi := Or.inl (by omega)
  intro e
  induction e with
  | zero =>
    intro j he hj M y' hE hK h1 h2
    have e : j = d := by omega
    subst e
    rw [rC_addBestOfA_2_e, if_pos hE.1.all.1.2.2.1, hK, if_pos (Int32.le_refl _)]
    exact ⟨M, y', rfl, hE, h1, h2, cG.rf M⟩
  | succ e ih =>
    intro j he hj M y' hE hK h1 h2
    have hjd : j < d := by omega
    have A := hE.1.all
    have w6 : y' (200 + (8 * j + 6)) = y (200 + (8 * j + 6)) := h1 _ (by omega) (by omega) (fun k hk => by omega)
    have w7 : y' (200 + (8 * j + 6 + 1)) = y (200 + (8 * j + 7)) := h1 _ (by omega) (by omega) (fun k hk => by omega)
    have w0 : y' (200 + 8 * j) = y (200 + 8 * j) := h1 _ (by omega) (by omega) (fun k hk => by omega)
    have w1 : y' (200 + (8 * j + 1)) = y (200 + (8 * j + 1)) := h1 _ (by omega) (by omega) (fun k hk => by omega)
    obtain ⟨M1, a1, a2, a3⟩ := cC_findGreater hE (s := 8 * j + 6) (k := 425) (by omega) (by decide) (by rw [w6]; exact hW _ (by omega)) (by rw [w7]; exact hW _ (by omega))
    rw [w6, w7] at a2
    have A1 := a2.1.all
    have l1 := nI_clamp (n := 8 * j) (by omega)
    have l2 := rm_i0 (a := 8 * j) (by omega)
    have l3 : 8 * j < 40 := by omega
    have e0 : nI (8 * j) + (0 : Int32) = nI (8 * j) := by rw [show (0 : Int32) = nI 0 from rfl, nI_add, Nat.add_zero]
    have q50 := a2.1.q (k := 5) (i := 8 * j) (by omega) l3
    rw [show 40 * 5 + 8 * j = 200 + 8 * j by omega] at q50
    obtain ⟨Y1, hY1⟩ : ∃ Y1, Y1 = va_up y' 246 (qx (y (200 + (8 * j + 6))) (y (200 + (8 * j + 7)))) := ⟨_, rfl⟩
    rw [← hY1] at a2
    have x0 : Y1 (200 + 8 * j) = y (200 + 8 * j) := by rw [hY1, rg_up_ne (by omega)]; exact w0
    have x6 : Y1 246 = bA6 y j := by rw [hY1, rg_up_eq]; rfl
    obtain ⟨M2, b1, b2, b3⟩ := cE_add a2 (i := 200 + 8 * j) (j := 246) (k := 425) (Or.inl (by omega)) (Or.inl (by decide)) (by omega) 1 (by decide) (by rw [x0]; exact hW _ l3) (by rw [x6]; exact qL_qx (hW _ (by omega)) (hW _ (by omega)))
    rw [x0, x6, q_one] at b2
    have A2 := b2.1.all
    have z1 : va_up Y1 (200 + 8 * j) (y (200 + 8 * j) + bA6 y j) (200 + (8 * j + 1)) = y (200 + (8 * j + 1)) := by rw [rg_up_ne (by omega), hY1, rg_up_ne (by omega)]; exact w1
    obtain ⟨M3, c1, c2, c3⟩ := cC_findGreater b2 (s := 8 * j) (k := 425) (by omega) (by decide) (by rw [rg_up_eq]; exact hA j hjd) (by rw [z1]; exact hW _ (by omega))
    rw [rg_up_eq, z1] at c2
    have A3 := c2.1.all
    obtain ⟨Y3, hY3⟩ : ∃ Y3, Y3 = va_up (va_up Y1 (200 + 8 * j) (y (200 + 8 * j) + bA6 y j)) 246 (qx (y (200 + 8 * j) + bA6 y j) (y (200 + (8 * j + 1)))) := ⟨_, rfl⟩
    rw [← hY3] at c2
    have x3 : Y3 bi = B + qs (bA y) j := by rw [hY3, rg_up_ne (by omega), rg_up_ne (by omega), hY1, rg_up_ne (by omega)]; exact h2
    have x4 : Y3 246 = bA y j := by rw [hY3, rg_up_eq]; rfl
    obtain ⟨M4, d1, d2, d3⟩ := cE_add c2 (i := bi) (j := 246) (k := 425) vb (Or.inl (by decide)) (by omega) 1 (by decide) (by rw [x3]; exact hS j (by omega)) (by rw [x4]; exact qL_qx (hA j hjd) (hW _ (by omega)))
    rw [x3, x4, q_one] at d2
    rw [rC_addBestOfA_2_e, if_pos A.1.2.2.1, hK, if_neg (by rw [nI_leI (by omega) (by omega)]; omega)]
    simp only [A, if_true, show (8 : Int32) = nI 8 from rfl, show (6 : Int32) = nI 6 from rfl, pk_mul, nI_add, e0, a1, Option.bind_some, A1, l1, l2, l3, and_self, q50, b1, A2, c1, A3, d1]
    rw [nI_1]
    have G4 := a3.tr (b3.tr (c3.tr d3))
    obtain ⟨M', y'', g1, g2, g3, g4, g5⟩ := ih (j + 1) (by omega) (by omega) M4 _ d2 (hK.G G4) (fun i hi hi2 hi3 => by
      rw [rg_up_ne hi2, hY3, rg_up_ne hi, rg_up_ne (hi3 j (by omega)), hY1, rg_up_ne hi]; exact h1 i hi hi2 (fun k hk => hi3 k (by omega))) (by rw [rg_up_eq, qs_s, Rat.add_assoc])
    exact ⟨M', y'', g1, g2, g3, g4, G4.tr g5⟩
theorem cC_addBestA (hE : cE u z rk c jf ln ng cg tb rn ro fx M y) (hK : cDk cg d M) {bi : Nat} (hbi : bi = 247 ∨ bi = 248) (hd : d ≤ 5) (hW : ∀ i, i < 40 → qL (y (200 + i)) 425) (hA : ∀ k, k < d → qL (y (200 + 8 * k) + bA6 y k) 425) (hS : ∀ j, j ≤ d → qL (y bi + qs (bA y) j) 425) : ∃ M' y', rC_addBestOfA cg (fx bi) M = some M' ∧ cE u z rk c jf ln ng cg tb rn ro fx M' y' ∧ (∀ i, i ≠ 246 → i ≠ bi → (∀ k, k < d → i ≠ 200 + 8 * k) → y' i = y i) ∧ y' bi = y bi + qs (bA y) d ∧ cG M M' := by
  obtain ⟨M', y', b1, b2, b3, b4, b5⟩ := cC_bestA (u := u) (z := z) (rk := rk) (jf := jf) (ln := ln) (ng := ng) (cg := cg) (tb := tb) (rn := rn) (d := d) (c := c) (ro := ro) (fx := fx) (y := y) (B := y bi) hbi hd hW hA hS d 0 rfl (Nat.zero_le _) M y hE hK (fun _ _ _ _ => rfl) (by show _ = _ + 0; rw [Rat.add_zero])
  have b1 : rC_addBestOfA_2 cg (fx bi) 0 M = _ := b1
  refine ⟨M', y', ?_, b2, b3, b4, b5⟩
  rw [rC_addBestOfA_u, rC_addBestOfA_e, b1]; rfl
end

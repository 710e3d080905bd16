/-! the cards: what is played, worths -/
section
variable {u z rk jf ln ng cg tb rn d : Nat} {c ro fx : Nat → Nat} {M : rg_M} {y : Nat → Rat}
def cDk (cg d : Nat) (M : rg_M) : Prop := rg_I M 6 cg = nI d
theorem cDk.G {M' : rg_M} (h : cDk cg d M) (hG : cG M M') : cDk cg d M' := by
  unfold cDk; rw [hG.2.2.2.1 _ _ (by decide) (by decide)]; exact h
theorem plx_lo {k s : Nat} (hs : s < 6) : plx (8 * k + s) = 160 + (8 * k + s) := by unfold plx; rw [if_pos (by omega)]
theorem plx_hi {k s : Nat} (hs : 6 ≤ s) (hs2 : s < 8) : plx (8 * k + s) = 250 + (8 * k + s) := by unfold plx; rw [if_neg (by omega)]
theorem vx_hi {k s : Nat} (hk : k < 5) (hs : 6 ≤ s) (hs2 : s < 8) : vx (250 + (8 * k + s)) := by
  rw [← plx_hi (k := k) hs hs2]; exact plx_v (by omega)
/-- one of the two products of a card -/
theorem cC_fp20 {k : Nat} (hk : k < d) (hd : d ≤ 5) {kp : Nat} (hkp : kp ≤ 200) : ∀ e s : Nat, 8 - s = e → 6 ≤ s → s ≤ 8 → ∀ (M : rg_M) (y : Nat → Rat), cE u z rk c jf ln ng cg tb rn ro fx M y → (∀ i, i < 8 * d → qL (y (160 + i)) kp) →
    ∃ M' y', rC_findPlayed_20 cg (nI k) (nI (8 * k)) (nI (8 * k + s)) M = rC_findPlayed_2 cg (nI (k + 1)) M' ∧ cE u z rk c jf ln ng cg tb rn ro fx M' y' ∧ (∀ t, s ≤ t → t < 8 → y' (250 + (8 * k + t)) = y (160 + (8 * k + t)) * y (160 + 8 * k)) ∧ (∀ i, (i < 250 + (8 * k + s) ∨ 250 + (8 * k + 8) ≤ i) → y' i = y i) ∧ cG M M' := by
  intro e
  induction e with
  | zero =>
    intro s he h6 h8 M y hE hL
    have e : s = 8 := by omega
    subst e
    rw [rC_findPlayed_20_e, show (7 : Int32) = nI 7 from rfl, nI_add, if_pos (by rw [nI_ltI (by omega) (by omega)]; omega), nI_1]
    exact ⟨M, y, rfl, hE, fun t h1 h2 => by omega, fun _ _ => rfl, cG.rf M⟩
  | succ e ih =>
    intro s he h6 h8 M y hE hL
    have hs8 : s < 8 := by omega
    have A := hE.1.all
    have k1 := nI_clamp (n := 8 * k + s) (by omega)
    have k2 := rm_i0 (a := 8 * k + s) (by omega)
    have k3 : 8 * k + s < 40 := by omega
    have e0 : nI (8 * k) + (0 : Int32) = nI (8 * k) := by rw [show (0 : Int32) = nI 0 from rfl, nI_add, Nat.add_zero]
    have l1 := nI_clamp (n := 8 * k) (by omega)
    have l2 := rm_i0 (a := 8 * k) (by omega)
    have l3 : 8 * k < 40 := by omega
    have q6 := hE.1.q6 (i := 8 * k + s) k3
    rw [plx_hi h6 hs8] at q6
    have q4 := hE.1.q (k := 4) (i := 8 * k + s) (by omega) k3
    rw [show 40 * 4 + (8 * k + s) = 160 + (8 * k + s) by omega] at q4
    have v6 := vx_hi (k := k) (s := s) (by omega) h6 hs8
    have v4 : vx (160 + (8 * k + s)) := Or.inl (by omega)
    have v0 : vx (160 + 8 * k) := Or.inl (by omega)
    obtain ⟨M1, a1, a2, a3⟩ := cE_copy hE (i := 250 + (8 * k + s)) (j := 160 + (8 * k + s)) (k := kp) v6 v4 (by omega) (by omega) (hL _ (by omega))
    have A1 := a2.1.all
    have q61 := a2.1.q6 (i := 8 * k + s) k3
    rw [plx_hi h6 hs8] at q61
    have q40 := a2.1.q (k := 4) (i := 8 * k) (by omega) l3
    rw [show 40 * 4 + 8 * k = 160 + 8 * k by omega] at q40
    have ez : va_up y (250 + (8 * k + s)) (y (160 + (8 * k + s))) (160 + 8 * k) = y (160 + 8 * k) := rg_up_ne (by omega)
    obtain ⟨M2, b1, b2, b3⟩ := cE_mul a2 (i := 250 + (8 * k + s)) (j := 160 + 8 * k) (k := kp) v6 v0 (by omega) (by omega) (by rw [rg_up_eq]; exact hL _ (by omega)) (by rw [ez]; exact hL _ (by omega))
    rw [rg_up_eq, ez, rg_up_up] at b2
    rw [rC_findPlayed_20_e, show (7 : Int32) = nI 7 from rfl, nI_add, if_neg (by rw [nI_ltI (by omega) (by omega)]; omega)]
    simp only [A, if_true, Option.bind_some, k1, k2, k3, and_self, q6, q4, a1, A1, q61, e0, l1, l2, l3, q40, b1]
    rw [nI_1]
    obtain ⟨M', y', c1, c2, c3, c4, c5⟩ := ih (s + 1) (by omega) (by omega) (by omega) M2 _ b2 (fun i hi => by rw [rg_up_ne (by omega)]; exact hL i hi)
    refine ⟨M', y', c1, c2, fun t h1 h2 => ?_, fun i hi => by rw [c4 i (by omega), rg_up_ne (by omega)], a3.tr (b3.tr c5)⟩
    by_cases ht : t = s
    · rw [ht, c4 _ (by omega), rg_up_eq]
    · rw [c3 t (by omega) h2, rg_up_ne (by omega), rg_up_ne (by omega)]
theorem cC_findPlayed (hE : cE u z rk c jf ln ng cg tb rn ro fx M y) (hd : d ≤ 5) (hK : cDk cg d M) {kp : Nat} (hkp : kp ≤ 200) (hL : ∀ i, i < 8 * d → qL (y (160 + i)) kp) : ∃ M' y', rC_findPlayed cg M = some M' ∧ cE u z rk c jf ln ng cg tb rn ro fx M' y' ∧ (∀ k s, k < d → 6 ≤ s → s < 8 → y' (250 + (8 * k + s)) = y (160 + (8 * k + s)) * y (160 + 8 * k)) ∧ (∀ i, i < 250 → y' i = y i) ∧ cG M M' := by
  have go : ∀ e j : Nat, d - j = e → j ≤ d → ∀ (M : rg_M) (y' : Nat → Rat), cE u z rk c jf ln ng cg tb rn ro fx M y' → cDk cg d M → (∀ i, i < 250 → y' i = y i) → (∀ k s, k < j → 6 ≤ s → s < 8 → y' (250 + (8 * k + s)) = y (160 + (8 * k + s)) * y (160 + 8 * k)) → ∃ M' y'', rC_findPlayed_2 cg (nI j) M = some (none, M') ∧ cE u z rk c jf ln ng cg tb rn ro fx M' y'' ∧ (∀ k s, k < d → 6 ≤ s → s < 8 → y'' (250 + (8 * k + s)) = y (160 + (8 * k + s)) * y (160 + 8 * k)) ∧ (∀ i, i < 250 → y'' i = y i) ∧ cG M M' := by
    intro e
    induction e with
    | zero =>
      intro j he hj M y' hE hK h1 h2
      have e : j = d := by omega
      subst e
      rw [rC_findPlayed_2_e, if_pos hE.1.all.1.2.2.1, hK, if_pos (Int32.le_refl _)]
      exact ⟨M, y', rfl, hE, h2, h1, cG.rf M⟩
    | succ e ih =>
      intro j he hj M y' hE hK h1 h2
      have hjd : j < d := by omega
      obtain ⟨M1, y1, a1, a2, a3, a4, a5⟩ := cC_fp20 (u := u) (z := z) (rk := rk) (jf := jf) (ln := ln) (ng := ng) (cg := cg) (tb := tb) (rn := rn) (d := d) (c := c) (ro := ro) (fx := fx) (k := j) hjd hd hkp 2 6 rfl (by decide) (by decide) M y' hE (fun i hi => by rw [h1 _ (by omega)]; exact hL i hi)
      rw [rC_findPlayed_2_e, if_pos hE.1.all.1.2.2.1, hK, if_neg (by rw [nI_leI (by omega) (by omega)]; omega), show (8 : Int32) = nI 8 from rfl, pk_mul, show (6 : Int32) = nI 6 from rfl, nI_add, a1]
      obtain ⟨M', y'', b1, b2, b3, b4, b5⟩ := ih (j + 1) (by omega) (by omega) M1 y1 a2 (hK.G a5) (fun i hi => by rw [a4 i (by omega)]; exact h1 i hi) (fun k s hk h6 h8 => by
        by_cases e : k = j
        · subst e; rw [a3 s h6 h8, h1 _ (by omega), h1 _ (by omega)]
        · rw [a4 _ (by omega)]; exact h2 k s (by omega) h6 h8)
      exact ⟨M', y'', b1, b2, b3, b4, a5.tr b5⟩
  obtain ⟨M', y', b1, b2, b3, b4, b5⟩ := go d 0 rfl (Nat.zero_le _) M y hE hK (fun _ _ => rfl) (fun k s hk => by omega)
  have b1 : rC_findPlayed_2 cg 0 M = _ := b1
  refine ⟨M', y', ?_, b2, b3, b4, b5⟩
  rw [rC_findPlayed_u, rC_findPlayed_e, b1]; rfl
/-- what is added to a worth over the other cards -/
def aw (y : Nat → Rat) (k t : Nat) (a b : Int) (n : Nat) : Rat := qs (fun j => if j = k then 0 else y (plx (8 * j + t)) * (((if j < k then a else b : Int)) : Rat)) n
theorem cC_aw19 {k s t kp kw : Nat} {won lost : Int32} (hk : k < d) (hd : d ≤ 5) (hs : s < 8) (ht : t < 8) (hkp : kp ≤ 425) (hkw : kw ≤ 425) {W : Rat} (hP : ∀ j, j < d → qL (y (plx (8 * j + t))) kp) (hW : ∀ j, j ≤ d → qL (W + aw y k t won.toInt lost.toInt j) kw) : ∀ e j : Nat, d - j = e → j ≤ d → ∀ (M : rg_M) (y' : Nat → Rat), cE u z rk c jf ln ng cg tb rn ro fx M y' → cDk cg d M → (∀ i, i ≠ 200 + (8 * k + s) → y' i = y i) → y' (200 + (8 * k + s)) = W + aw y k t won.toInt lost.toInt j →
    ∃ M' y'', rC_addWorth_19 cg (nI k) (nI t) won lost (fx (200 + (8 * k + s))) (nI j) M = some (none, M') ∧ cE u z rk c jf ln ng cg tb rn ro fx M' y'' ∧ (∀ i, i ≠ 200 + (8 * k + s) → y'' i = y i) ∧ y'' (200 + (8 * k + s)) = W + aw y k t won.toInt lost.toInt d ∧ cG M M' := by
  intro e
  induction e with
  | zero =>
    intro j he hj M y' hE hK h1 h2
    have e : j = d := by omega
    subst e
    rw [rC_addWorth_19_e, if_pos hE.1.all.1.2.2.1, hK, if_pos (Int32.le_refl _)]
    exact ⟨M, y', rfl, hE, h1, h2, cG.rf M⟩
  | succ e ih =>
    intro j he hj M y' hE hK h1 h2
    have hjd : j < d := by omega
    have A := hE.1.all
    have pp : ¬ nI d ≤ nI j := by rw [nI_leI (by omega) (by omega)]; omega
    have hS : aw y k t won.toInt lost.toInt (j + 1) = aw y k t won.toInt lost.toInt j + (if j = k then 0 else y (plx (8 * j + t)) * (((if j < k then won.toInt else lost.toInt : Int)) : Rat)) := rfl
    rw [rC_addWorth_19_e, if_pos A.1.2.2.1, hK, if_neg pp]
    by_cases c1 : j = k
    · rw [if_pos (by rw [c1]), rC_addWorth_72_e, nI_1]
      exact ih (j + 1) (by omega) (by omega) M y' hE hK h1 (by rw [h2, hS, if_pos c1, Rat.add_zero])
    · rw [if_neg (by rw [nI_eq (by omega) (by omega)]; exact c1)]
      have k1 := nI_clamp (n := 8 * j + t) (by omega)
      have k2 := rm_i0 (a := 8 * j + t) (by omega)
      have k3 : 8 * j + t < 40 := by omega
      have q6 := hE.1.q6 (i := 8 * j + t) k3
      have vp := plx_v k3
      have hpl : plx (8 * j + t) ≠ 200 + (8 * k + s) := by unfold plx; split <;> omega
      simp only [A, if_true, Option.bind_some, show (8 : Int32) = nI 8 from rfl, pk_mul, nI_add, k1, k2, k3, and_self, q6]
      have go : ∀ x : Int32, x.toInt = (if j < k then won.toInt else lost.toInt) → ∃ M' y'', rC_addWorth_69 cg (nI k) (nI t) won lost (fx (200 + (8 * k + s))) (nI j) x (fx (plx (8 * j + t))) (fx (200 + (8 * k + s))) rk M = some (none, M') ∧ cE u z rk c jf ln ng cg tb rn ro fx M' y'' ∧ (∀ i, i ≠ 200 + (8 * k + s) → y'' i = y i) ∧ y'' (200 + (8 * k + s)) = W + aw y k t won.toInt lost.toInt d ∧ cG M M' := by
        intro x hx
        obtain ⟨M1, a1, a2, a3⟩ := cE_add hE (i := 200 + (8 * k + s)) (j := plx (8 * j + t)) (k := 425) (Or.inl (by omega)) vp (Ne.symm hpl) x (by decide) (by rw [h2]; exact (hW j (by omega)).mono hkw) (by rw [h1 _ hpl]; exact (hP j hjd).mono hkp)
        rw [h2, h1 _ hpl, hx] at a2
        rw [rC_addWorth_69_e, if_pos A.1.2.2.2.2.2.1, a1]
        simp only [Option.bind_some]
        rw [rC_addWorth_72_e, nI_1]
        obtain ⟨M', y'', b1, b2, b3, b4, b5⟩ := ih (j + 1) (by omega) (by omega) M1 _ a2 (hK.G a3) (fun i hi => by rw [rg_up_ne hi]; exact h1 i hi) (by rw [rg_up_eq, hS, if_neg c1, Rat.add_assoc])
        exact ⟨M', y'', b1, b2, b3, b4, a3.tr b5⟩
      by_cases c2 : k ≤ j
      · rw [if_pos (by rw [nI_leI (by omega) (by omega)]; exact c2)]
        exact go lost (by rw [if_neg (by omega)])
      · rw [if_neg (by rw [nI_leI (by omega) (by omega)]; exact c2)]
        exact go won (by rw [if_pos (by omega)])
theorem cC_addWorth (hE : cE u z rk c jf ln ng cg tb rn ro fx M y) (hK : cDk cg d M) {k s t kp kw : Nat} (won lost : Int32) (hk : k < d) (hd : d ≤ 5) (hs : s < 8) (ht : t < 8) (hkp : kp ≤ 425) (hkw : kw ≤ 425) (hP : ∀ j, j < d → qL (y (plx (8 * j + t))) kp) (hW : ∀ j, j ≤ d → qL (y (200 + (8 * k + s)) + aw y k t won.toInt lost.toInt j) kw) : ∃ M' y', rC_addWorth cg (nI k) (nI s) (nI t) won lost M = some M' ∧ cE u z rk c jf ln ng cg tb rn ro fx M' y' ∧ (∀ i, i ≠ 200 + (8 * k + s) → y' i = y i) ∧ y' (200 + (8 * k + s)) = y (200 + (8 * k + s)) + aw y k t won.toInt lost.toInt d ∧ cG M M' := by
  have A := hE.1.all
  have k1 := nI_clamp (n := 8 * k + s) (by omega)
  have k2 := rm_i0 (a := 8 * k + s) (by omega)
  have k3 : 8 * k + s < 40 := by omega
  have q5 := hE.1.q (k := 5) (i := 8 * k + s) (by omega) k3
  rw [show 40 * 5 + (8 * k + s) = 200 + (8 * k + s) by omega] at q5
  obtain ⟨M', y', b1, b2, b3, b4, b5⟩ := cC_aw19 (u := u) (z := z) (rk := rk) (jf := jf) (ln := ln) (ng := ng) (cg := cg) (tb := tb) (rn := rn) (d := d) (c := c) (ro := ro) (fx := fx) (y := y) (k := k) (s := s) (t := t) (won := won) (lost := lost) (W := y (200 + (8 * k + s))) hk hd hs ht hkp hkw hP hW d 0 rfl (Nat.zero_le _) M y hE hK (fun _ _ => rfl) (by show _ = _ + 0; rw [Rat.add_zero])
  have b1 : rC_addWorth_19 cg (nI k) (nI t) won lost (fx (200 + (8 * k + s))) 0 M = _ := b1
  refine ⟨M', y', ?_, b2, b3, b4, b5⟩
  rw [rC_addWorth_u, rC_addWorth_e]
  simp only [A, if_true, Option.bind_some, show (8 : Int32) = nI 8 from rfl, pk_mul, nI_add, k1, k2, k3, and_self, q5, b1]
  rfl
end

/-! the cards: the chance of a pair, what a round makes of all places -/
section
variable {u z rk jf ln ng cg tb rn d : Nat} {c ro fx : Nat → Nat} {M : rg_M} {y : Nat → Rat}
theorem cC_learn39 (hd : d ≤ 5) (hW : ∀ i, i < 40 → qL (y (200 + i)) 400) (hC : qL (y 244) 400) : ∀ e j : Nat, 8 * d - j = e → j ≤ 8 * d → ∀ (M : rg_M) (y' : Nat → Rat), cE u z rk c jf ln ng cg tb rn ro fx M y' → cDk cg d M → (∀ s, s < j → y' (200 + s) = y (200 + s) * y 244) → (∀ i, (i < 200 ∨ 200 + j ≤ i) → y' i = y i) →
    ∃ M' y'', rC_learn_39 cg (nI j) M = rC_learn_78 cg 0 M' ∧ cE u z rk c jf ln ng cg tb rn ro fx M' y'' ∧ (∀ s, s < 8 * d → y'' (200 + s) = y (200 + s) * y 244) ∧ (∀ i, (i < 200 ∨ 200 + 8 * d ≤ i) → y'' i = y i) ∧ cG M M' := by
  intro e
  induction e with
  | zero =>
    intro j he hj M y' hE hK h1 h2
    have e : j = 8 * d := by omega
    subst e
    rw [rC_learn_39_e, if_pos hE.1.all.1.2.2.1, hK, show (8 : Int32) = nI 8 from rfl, pk_mul, if_pos (Int32.le_refl _)]
    exact ⟨M, y', rfl, hE, h1, h2, cG.rf M⟩
  | succ e ih =>
    intro j he hj M y' hE hK h1 h2
    have hjd : j < 8 * d := by omega
    have A := hE.1.all
    have k1 := nI_clamp (n := j) (by omega)
    have k2 := rm_i0 (a := j) (by omega)
    have k3 : j < 40 := by omega
    have q5 := hE.1.q (k := 5) (i := j) (by omega) k3
    rw [show 40 * 5 + j = 200 + j by omega] at q5
    have ej : y' (200 + j) = y (200 + j) := h2 _ (by omega)
    have ec : y' 244 = y 244 := h2 _ (by omega)
    obtain ⟨M1, a1, a2, a3⟩ := cE_mul hE (i := 200 + j) (j := 244) (k := 400) (Or.inl (by omega)) (Or.inl (by decide)) (by omega) (by decide) (by rw [ej]; exact hW j k3) (by rw [ec]; exact hC)
    rw [ej, ec] at a2
    rw [rC_learn_39_e, if_pos A.1.2.2.1, hK, show (8 : Int32) = nI 8 from rfl, pk_mul, if_neg (by rw [nI_leI (by omega) (by omega)]; omega)]
    simp only [A, if_true, Option.bind_some, k1, k2, k3, and_self, q5, a1]
    rw [nI_1]
    obtain ⟨M', y'', b1, b2, b3, b4, b5⟩ := ih (j + 1) (by omega) (by omega) M1 _ a2 (hK.G a3) (fun s hs => by
      by_cases e : s = j
      · rw [e, rg_up_eq]
      · rw [rg_up_ne (by omega)]; exact h1 s (by omega)) (fun i hi => by rw [rg_up_ne (by omega)]; exact h2 i (by omega))
    exact ⟨M', y'', b1, b2, b3, b4, a3.tr b5⟩
/-- what a round makes of a place of the cards -/
def cav (y : Nat → Rat) (p : Nat) : Rat := qs (fun w => y (160 + (p * 2 + w)) * y (200 + (p * 2 + w))) 2
def cRn (y : Nat → Rat) (p w : Nat) : Rat := y (p * 2 + w) + (y (200 + (p * 2 + w)) - cav y p)
def cSn (y : Nat → Rat) (p w : Nat) : Rat := y (40 + (p * 2 + w)) + y (plx (p * 2 + w))
def cFit (y : Nat → Rat) (p w : Nat) : Prop := qB (cRn y p w) ≤ 256 ∧ qB (cSn y p w) ≤ 256
/-- the sizes at a place -/
def cSz (y : Nat → Rat) (p : Nat) : Prop := ∃ kw ka : Nat, kw ≤ 200 ∧ ka ≤ 400 ∧ kw + ka ≤ 424 ∧ (∀ w, w < 2 → qL (y (p * 2 + w)) 9 ∧ qL (y (40 + (p * 2 + w))) 9 ∧ qL (y (160 + (p * 2 + w))) 20 ∧ qL (y (200 + (p * 2 + w))) kw ∧ qL (y (plx (p * 2 + w))) 100) ∧ ∀ j, j ≤ 2 → qL (qs (fun w => y (160 + (p * 2 + w)) * y (200 + (p * 2 + w))) j) ka
theorem row6 : ∀ (M : rg_M) (y : Nat → Rat) (s : Nat), cE u z rk c jf ln ng cg tb rn ro fx M y → s < 40 → rg_K M (ro 6) = 12 ∧ rg_L M (ro 6) = 40 ∧ rg_Q M (ro 6) s = some (fx (plx s)) ∧ rg_K M (fx (plx s)) = 2 := by
  intro M y s hE hs
  have A := hE.1.2.2.2.2.2.2.1 6 (by decide)
  have q := hE.1.q6 hs
  exact ⟨A.2.1, A.2.2, q⟩
theorem plx_far {s : Nat} (hs : s < 40) : vx (plx s) ∧ 160 ≤ plx s ∧ plx s ≠ 242 ∧ plx s ≠ 241 := by
  refine ⟨plx_v hs, ?_⟩
  unfold plx; split <;> omega
theorem cC_learn78 (hd : d ≤ 5) (hz : ∀ p, p < 4 * d → cSz y p) : ∀ e j : Nat, 4 * d - j = e → j ≤ 4 * d → ∀ (M : rg_M) (y' : Nat → Rat), cE u z rk c jf ln ng cg tb rn ro fx M y' → cLi ln (4 * d) 2 2 2 M → (∀ i, i ≠ 241 → i ≠ 242 → (i < 80 ∨ 160 ≤ i) → y' i = y i) → (∀ p w, p < j → w < 2 → y' (80 + (p * 2 + w)) = cRn y p w ∧ y' (120 + (p * 2 + w)) = cSn y p w ∧ cFit y p w) →
    ∃ M' y'' r, rC_learn_78 cg (nI j) M = some (some (.int r), M') ∧ cE u z rk c jf ln ng cg tb rn ro fx M' y'' ∧ (∀ i, i ≠ 241 → i ≠ 242 → (i < 80 ∨ 160 ≤ i) → y'' i = y i) ∧ cG M M' ∧ ((r = 1 ∧ ∀ p w, p < 4 * d → w < 2 → y'' (80 + (p * 2 + w)) = cRn y p w ∧ y'' (120 + (p * 2 + w)) = cSn y p w ∧ cFit y p w) ∨ (r = 0 ∧ ∃ p w, p < 4 * d ∧ w < 2 ∧ ¬ cFit y p w)) := by
  intro e
  induction e with
  | zero =>
    intro j he hj M y' hE hI h1 h2
    have e : j = 4 * d := by omega
    subst e
    have A := hE.1.all
    rw [rC_learn_78_e]
    simp only [A, if_true, Option.bind_some, hI.1, Int32.le_refl]
    exact ⟨M, y', 1, rfl, hE, h1, cG.rf M, Or.inl ⟨rfl, h2⟩⟩
  | succ e ih =>
    intro j he hj M y' hE hI h1 h2
    have hjd : j < 4 * d := by omega
    have A := hE.1.all
    have w2 : wyc 2 2 j = 2 := by unfold wyc; split <;> rfl
    obtain ⟨kw, ka, z1, z2, z3, s1, s2⟩ := hz j hjd
    have py : ∀ s, s < 40 → y' (plx s) = y (plx s) := fun s hs => h1 _ (plx_far hs).2.2.2 (plx_far hs).2.2.1 (by have := (plx_far hs).2.1; omega)
    have hcav : ∀ n, n ≤ 2 → qs (fun w => y' (160 + (j * 2 + w)) * y' (200 + (j * 2 + w))) n = qs (fun w => y (160 + (j * 2 + w)) * y (200 + (j * 2 + w))) n := fun n hn => qs_cong (fun w hw => by rw [h1 _ (by omega) (by omega) (by omega), h1 _ (by omega) (by omega) (by omega)])
    obtain ⟨M1, y1, r, a1, a2, a3, a4, a5⟩ := cL_learnAt hE hI (row := ro 6) (p := j) (kp := 20) (kw := kw) (ka := ka) (kq := 100) (gx := plx) (by omega) (by rw [w2]; omega) row6 (fun s hs => plx_far hs) (by omega) (by omega) (by omega) (by omega) (by omega) (fun w hw => by rw [w2] at hw; rw [h1 _ (by omega) (by omega) (by omega)]; exact (s1 w hw).1) (fun w hw => by rw [w2] at hw; rw [h1 _ (by omega) (by omega) (by omega)]; exact (s1 w hw).2.1) (fun w hw => by rw [w2] at hw; rw [h1 _ (by omega) (by omega) (by omega)]; exact (s1 w hw).2.2.1) (fun w hw => by rw [w2] at hw; rw [h1 _ (by omega) (by omega) (by omega)]; exact (s1 w hw).2.2.2.1) (fun n hn => by rw [w2] at hn; rw [hcav n hn]; exact s2 n hn) (fun w hw => by rw [w2] at hw; rw [py _ (by omega)]; exact (s1 w hw).2.2.2.2)
    rw [w2] at a3 a5
    rw [hcav 2 (Nat.le_refl _)] at a5
    have e1 : ∀ w, w < 2 → nR (va_up y' 241 (qs (fun w => y (160 + (j * 2 + w)) * y (200 + (j * 2 + w))) 2)) (j * 2) w = cRn y j w := fun w hw => by
      unfold nR cRn
      rw [rg_up_eq, rg_up_ne (by omega), rg_up_ne (by omega), h1 _ (by omega) (by omega) (by omega), h1 _ (by omega) (by omega) (by omega)]; rfl
    have e2 : ∀ w, w < 2 → nS y' plx (j * 2) w = cSn y j w := fun w hw => by
      unfold nS cSn
      rw [h1 _ (by omega) (by omega) (by omega), py _ (by omega)]
    have e3 : ∀ w, w < 2 → nS (va_up y' 241 (qs (fun w => y (160 + (j * 2 + w)) * y (200 + (j * 2 + w))) 2)) plx (j * 2) w = cSn y j w := fun w hw => by
      rw [← e2 w hw]
      unfold nS
      rw [rg_up_ne (by omega), rg_up_ne (plx_far (by omega)).2.2.2]
    have e4 : ∀ w, w < 2 → (fitW (va_up y' 241 (qs (fun w => y (160 + (j * 2 + w)) * y (200 + (j * 2 + w))) 2)) plx (j * 2) w ↔ cFit y j w) := fun w hw => by
      unfold fitW cFit; rw [e1 w hw, e3 w hw]
    have h11 : ∀ i, i ≠ 241 → i ≠ 242 → (i < 80 ∨ 160 ≤ i) → y1 i = y i := fun i i1 i2 i3 => by rw [a3 i i1 i2 (by omega) (by omega)]; exact h1 i i1 i2 i3
    rw [rC_learn_78_e]
    simp only [A, if_true, Option.bind_some, hI.1, show ¬ nI (4 * d) ≤ nI j by rw [nI_leI (by omega) (by omega)]; omega, if_false, a1]
    rcases a5 with ⟨r1, v1⟩ | ⟨r0, w, hw, v0⟩
    · rw [if_neg (by rw [r1]; decide), nI_1]
      obtain ⟨M', y'', r', b1, b2, b3, b4, b5⟩ := ih (j + 1) (by omega) (by omega) M1 y1 a2 (hI.G a4) h11 (fun p w hp hw => by
        by_cases e : p = j
        · subst e
          obtain ⟨t1, t2, t3⟩ := v1 w hw
          exact ⟨by rw [t1, e1 w hw], by rw [t2, e2 w hw], (e4 w hw).mp t3⟩
        · obtain ⟨t1, t2, t3⟩ := h2 p w (by omega) hw
          exact ⟨by rw [a3 _ (by omega) (by omega) (by omega) (by omega)]; exact t1, by rw [a3 _ (by omega) (by omega) (by omega) (by omega)]; exact t2, t3⟩)
      exact ⟨M', y'', r', b1, b2, b3, a4.tr b4, b5⟩
    · rw [if_pos r0]
      exact ⟨M1, y1, 0, rfl, a2, h11, a4, Or.inr ⟨rfl, j, w, hjd, hw, fun h => v0 ((e4 w hw).mpr h)⟩⟩
/-- a new deck -/
theorem q_1nn {n : Nat} (hn : 0 < n) : (((1 : Int) : Rat) / ((n : Nat) : Rat)).num = 1 ∧ (((((1 : Int) : Rat) / ((n : Nat) : Rat)).den : Nat) : Int) = (n : Int) := q_1n hn
theorem cC_begin (hE : cE u z rk c jf ln ng cg tb rn ro fx M y) {n : Nat} (h3 : 3 ≤ n) (h5 : n ≤ 5) : ∃ M1 M2 M3 M' y', rC_begin cg (nI n) M = some M' ∧ cE u z rk c jf ln ng cg tb rn ro fx M' y' ∧ (∀ i, 80 ≤ i → i ≠ 244 → y' i = y i) ∧ (∀ s, s < 80 → y' s = 0) ∧ y' 244 = ((1 : Int) : Rat) / ((n * (n - 1) : Nat) : Rat) ∧ cLi ln (4 * n) 2 2 2 M' ∧ cDk cg n M' ∧ M1 = rg_wI M 6 cg (nI n) ∧ xM M M1 ∧ cG M1 M2 ∧ M3 = rg_wI (rg_wI (rg_wI (rg_wI M2 42 ln (nI (4 * n))) 43 ln (nI 2)) 44 ln (nI 2)) 45 ln (nI 2) ∧ xM M2 M3 ∧ cG M3 M' := by
  have A := hE.1.all
  have hx1 : xM M (rg_wI M 6 cg (nI n)) := xM_wI M _ (by decide) (by decide)
  have hE1 := hx1.E hE
  have hpos : 0 < n * (n - 1) := Nat.mul_pos (by omega) (by omega)
  have hle : n * (n - 1) ≤ 5 * 5 := Nat.mul_le_mul h5 (by omega)
  obtain ⟨g1, g2⟩ := q_1n hpos
  have em : nI n * (nI n - (1 : Int32)) = nI (n * (n - 1)) := by rw [show nI n - (1 : Int32) = nI (n - 1) from pk_sub (a := n) (b := 1) (by omega), pk_mul]
  obtain ⟨M2, a1, a2, a3⟩ := cE_become hE1 (i := 244) (Or.inl (by decide)) 1 (nI (n * (n - 1))) (x := ((1 : Int) : Rat) / ((n * (n - 1) : Nat) : Rat)) g1 (by rw [g2, nI_toInt (by omega)])
  have A2 := a2.1.all
  obtain ⟨M3, M', y', b1, b2, b3, b4, b5, b6, b7, b8⟩ := cL_begin a2 (4 * n) 2 2 2
  have b1 : rL_begin ln (nI (4 * n)) 2 2 2 M2 = some M' := b1
  have hK1 : rg_K (rg_wI M 6 cg (nI n)) cg = 1 := A.1.2.2.1
  refine ⟨_, M2, M3, M', y', ?_, b2, fun i hi hi2 => by rw [b3 i hi, rg_up_ne hi2], b4, by rw [b3 244 (by decide), rg_up_eq], b5, ?_, rfl, hx1, a3, b6, b7, b8⟩
  · rw [rC_begin_u, rC_begin_e]
    simp only [A, if_true, Option.bind_some, em, a1, A2, show (4 : Int32) = nI 4 from rfl, pk_mul, b1]
    rfl
  · unfold cDk
    rw [b8.2.2.2.1 _ _ (by decide) (by decide), b6, cw_IIn (Or.inl (by decide)), cw_IIn (Or.inl (by decide)), cw_IIn (Or.inl (by decide)), cw_IIn (Or.inl (by decide)), a3.2.2.2.1 _ _ (by decide) (by decide), cw_II]
end

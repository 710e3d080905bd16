/-! the cards: sizes of worths from the mixes -/
def Ecd (D : Nat → Int) (t j : Nat) : Int := if t < 6 then D (4 * j + t / 2) else D (4 * j + 3) * D (4 * j)
/-- what lies in parts and played, by the mixes mu -/
def cPl (d : Nat) (mu : Nat → Nat → Rat) (y : Nat → Rat) : Prop := (∀ p w, p < 4 * d → w < 2 → y (160 + (p * 2 + w)) = mu p w) ∧ ∀ k s, k < d → 6 ≤ s → s < 8 → y (250 + (8 * k + s)) = mu (4 * k + 3) (s - 6) * mu (4 * k) 0
/-- the mixes' denominators -/
def cMu (d : Nat) (mu : Nat → Nat → Rat) (D : Nat → Int) : Prop := ∀ p, p < 4 * d → 0 < D p ∧ cL (D p) 19 ∧ ∀ w, w < 2 → qD (mu p w) (D p) ∧ 0 ≤ mu p w ∧ mu p w ≤ ((1 : Nat) : Rat)
theorem cPl_v {d : Nat} {mu : Nat → Nat → Rat} {y : Nat → Rat} (h : cPl d mu y) {j t : Nat} (hj : j < d) (ht : t < 8) : y (plx (8 * j + t)) = if t < 6 then mu (4 * j + t / 2) (t % 2) else mu (4 * j + 3) (t - 6) * mu (4 * j) 0 := by
  by_cases c : t < 6
  · rw [if_pos c, plx_lo c, ← h.1 (4 * j + t / 2) (t % 2) (by omega) (by omega)]
    congr 1
    omega
  · rw [if_neg c, plx_hi (by omega) ht]
    exact h.2 j t hj (by omega) ht
theorem pN_of {d : Nat} {mu : Nat → Nat → Rat} {y : Nat → Rat} {D : Nat → Int} (hM : cMu d mu D) (h : cPl d mu y) {t : Nat} (ht : t < 8) : pN y t d 38 (Ecd D t) := by
  intro j hj
  rw [cPl_v h hj ht]
  unfold Ecd
  by_cases c : t < 6
  · obtain ⟨h1, h2, h3⟩ := hM (4 * j + t / 2) (by omega)
    obtain ⟨h4, h5, h6⟩ := h3 (t % 2) (by omega)
    rw [if_pos c, if_pos c]
    exact ⟨h1, h2.mono (by decide), h4, h5, h6⟩
  · obtain ⟨h1, h2, h3⟩ := hM (4 * j + 3) (by omega)
    obtain ⟨g1, g2, g3⟩ := hM (4 * j) (by omega)
    obtain ⟨h4, h5, h6⟩ := h3 (t - 6) (by omega)
    obtain ⟨g4, g5, g6⟩ := g3 0 (by decide)
    rw [if_neg c, if_neg c]
    have h7 : (-((1 : Nat) : Rat)) ≤ mu (4 * j) 0 := Rat.le_trans (by decide) g5
    exact ⟨Int.mul_pos h1 g1, h2.mul g2, h4.mul g4, Rat.mul_nonneg h5 g5, (q_mul_abs h5 h6 h7 g6).2⟩
theorem Ecd_45 (D : Nat → Int) : Ecd D 5 = Ecd D 4 := by funext j; unfold Ecd; rw [if_pos (by decide), if_pos (by decide)]
theorem Ecd_67 (D : Nat → Int) : Ecd D 7 = Ecd D 6 := by funext j; unfold Ecd; rw [if_neg (by decide), if_neg (by decide)]
theorem awL_of {d : Nat} {mu : Nat → Nat → Rat} {y : Nat → Rat} {D : Nat → Int} (hd : d ≤ 5) (hM : cMu d mu D) (h : cPl d mu y) : awL d y := by
  refine ⟨fun j t hj ht => ?_, fun k t n a b hk ht hn ha hb => ?_, fun k t n hk ht hn => ?_⟩
  · obtain ⟨h1, h2, h3, h4, h5⟩ := pN_of hM h ht j hj
    exact (h3.L (b := 1) h1 h2 (by decide) (Rat.le_trans (by decide) h4) h5).mono (by decide)
  · rw [Rat.zero_add]
    exact (aw_L (pN_of hM h ht) hd hn ha hb).mono (by omega)
  · rw [Rat.zero_add]
    rcases ht with e | e
    · subst e
      have p5 := pN_of hM h (t := 5) (by decide)
      rw [Ecd_45] at p5
      exact (aw_L2 (pN_of hM h (t := 4) (by decide)) p5 hd (Nat.le_refl _) hn (by decide) (by decide) (by decide) (by decide)).2.mono (by omega)
    · subst e
      have p7 := pN_of hM h (t := 7) (by decide)
      rw [Ecd_67] at p7
      exact (aw_L2 (pN_of hM h (t := 6) (by decide)) p7 hd (Nat.le_refl _) hn (by decide) (by decide) (by decide) (by decide)).2.mono (by omega)

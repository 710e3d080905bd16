/-! the cards: parts, what is played, worths at 0 -/
section
variable {u z rk jf ln ng cg tb rn d : Nat} {c ro fx : Nat → Nat} {M : rg_M} {y : Nat → Rat}
theorem cLo4 (hd : d ≤ 5) : cLo (4 * d) 2 2 2 := ⟨by omega, fun p hp => by
  have w : wyc 2 2 p = 2 := by unfold wyc; split <;> rfl
  rw [w]; omega⟩
theorem cC_prep (hE : cE u z rk c jf ln ng cg tb rn ro fx M y) (hI : cLi ln (4 * d) 2 2 2 M) (hK : cDk cg d M) (hd : d ≤ 5) (hok : ∀ s, s < 80 → qL (y s) 9) {kk : Nat} (hkk : kk < 2) : ∃ (M1 M2 M3 : rg_M) (y3 : Nat → Rat) (D : Nat → Int), rL_findAllParts ln (ro kk) M = some M1 ∧ rC_findPlayed cg M1 = some M2 ∧ rL_clearWorths ln M2 = some M3 ∧ cEn rk ln ng cg tb rn ro fx M1 ∧ cEn rk ln ng cg tb rn ro fx M2 ∧ cE u z rk c jf ln ng cg tb rn ro fx M3 y3 ∧ cG M M3 ∧ cPl d (cmu y (40 * kk)) y3 ∧ cMu d (cmu y (40 * kk)) D ∧ (∀ s, s < 40 → y3 (200 + s) = 0) ∧ ∀ i, i ≠ 240 → (i < 160 ∨ (240 ≤ i ∧ i < 250)) → y3 i = y i := by
  have w2 : ∀ p, wyc 2 2 p = 2 := fun p => by unfold wyc; split <;> rfl
  obtain ⟨D, hD⟩ := cmu_D (y := y) (o := 40 * kk) (P := 4 * d) (by omega) (by omega) hok
  obtain ⟨M1, y1, a1, a2, a3, a4, a5⟩ := cL_findAllParts hE hI hkk (cLo4 hd) (fun p w hp hw => by rw [w2] at hw; exact hok _ (by omega))
  have hm1 : ∀ p w, p < 4 * d → w < 2 → y1 (160 + (p * 2 + w)) = cmu y (40 * kk) p w := fun p w hp hw => by
    have := a4 p w hp (by rw [w2]; exact hw)
    rw [show 160 + (p * 2 + w) = 160 + p * 2 + w by omega, this, w2]; rfl
  obtain ⟨M2, y2, b1, b2, b3, b4, b5⟩ := cC_findPlayed a2 hd (hK.G a5) (kp := 20) (by decide) (fun i hi => by
    rw [show 160 + i = 160 + (i / 2 * 2 + i % 2) by omega, hm1 _ _ (by omega) (by omega)]
    obtain ⟨h1, h2, h3⟩ := hD (i / 2) (by omega)
    obtain ⟨h4, h5, h6⟩ := h3 (i % 2) (by omega)
    exact h4.L (b := 1) h1 h2 (by decide) (Rat.le_trans (by decide) h5) h6)
  obtain ⟨M3, y3, c1, c2, c3, c4, c5⟩ := cL_clearWorths b2
  refine ⟨M1, M2, M3, y3, D, a1, b1, c1, a2.1, b2.1, c2, a5.tr (b5.tr c5), ⟨fun p w hp hw => ?_, fun k s hk h6 h8 => ?_⟩, hD, c4, fun i hi hi2 => ?_⟩
  · rw [c3 _ (by omega), b4 _ (by omega)]; exact hm1 p w hp hw
  · rw [c3 _ (by omega), b3 k s hk h6 h8, show 160 + (8 * k + s) = 160 + ((4 * k + 3) * 2 + (s - 6)) by omega, hm1 _ _ (by omega) (by omega), show 160 + 8 * k = 160 + (4 * k * 2 + 0) by omega, hm1 _ _ (by omega) (by omega)]
  · rw [c3 i (by omega), b4 i (by omega), a3 i hi (by omega)]
end

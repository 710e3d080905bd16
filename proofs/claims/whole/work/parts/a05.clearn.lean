/-! the cards: a round -/
section
variable {u z rk jf ln ng cg tb rn d : Nat} {c ro fx : Nat → Nat} {M : rg_M} {y : Nat → Rat}
/-- from the worths at 0 to the places: the worths by going on, then by the chance -/
theorem cC_toplaces (hE : cE u z rk c jf ln ng cg tb rn ro fx M y) (hK : cDk cg d M) (hd : d ≤ 5) {mu : Nat → Nat → Rat} {D : Nat → Int} (hM : cMu d mu D) (hP : cPl d mu y) (h0 : ∀ s, s < 40 → y (200 + s) = 0) (hC : qL (y 244) 400) : ∃ (M1 M2 M3 M4 : rg_M) (y3 y4 : Nat → Rat), rC_reckonWorthsOfA cg M = some M1 ∧ rC_reckonWorthsOfB cg M1 = some M2 ∧ rC_goOnByParts cg M2 = some M3 ∧ rC_learn_39 cg 0 M3 = rC_learn_78 cg 0 M4 ∧ cEn rk ln ng cg tb rn ro fx M1 ∧ cEn rk ln ng cg tb rn ro fx M2 ∧ cE u z rk c jf ln ng cg tb rn ro fx M4 y4 ∧ cG M M4 ∧ (∀ k, k < d → y3 (200 + 8 * k) = cw0 y d k 0 + cw0 y d k 6 * mu (4 * k + 3) 0 + cw0 y d k 7 * mu (4 * k + 3) 1) ∧ (∀ k s, k < d → 0 < s → s < 8 → y3 (200 + (8 * k + s)) = cw0 y d k s) ∧ (∀ s, s < 8 * d → y4 (200 + s) = y3 (200 + s) * y 244) ∧ (∀ i, i ≠ 245 → (i < 200 ∨ 200 + 8 * d ≤ i) → y4 i = y i) := by
  have hz := awL_of hd hM hP
  obtain ⟨M1, M2, y2, a1, a2, a3, a4, a5, a6, a7⟩ := cC_worths hE hK hd hz h0
  have hm : ∀ k n, k < d → n < 2 → y2 (160 + (8 * k + (6 + n))) = mu (4 * k + 3) n := fun k n hk hn => by
    rw [a7 _ (by omega), show 160 + (8 * k + (6 + n)) = 160 + ((4 * k + 3) * 2 + n) by omega]; exact hP.1 _ _ (by omega) hn
  have hwL : ∀ i, i < 40 → qL (y2 (200 + i)) 200 := fun i hi => by
    by_cases cc : i < 8 * d
    · obtain ⟨h1, h2, h3⟩ := cw0_facts (k := i / 8) (s := i % 8) hd hM hP (by omega)
      rw [show 200 + i = 200 + (8 * (i / 8) + i % 8) by omega, a6 _ _ (by omega) (by omega)]
      have ht : tws (i % 8) < 8 := by unfold tws; split; decide; split; decide; split; decide; split; decide; split; decide; split; decide; decide
      exact (h1.L (b := 20) (Ecd_ip hM ht) (ip_cL (fun j hj => (pN_of hM hP ht j hj).2.1)) (by decide) h2 h3).mono (by omega)
    · rw [a7 _ (by omega), h0 i hi]; exact qL_0 (by decide)
  have hpL : ∀ i, i < 8 * d → qL (y2 (160 + i)) 200 := fun i hi => by
    obtain ⟨h1, h2, h3⟩ := hM (i / 2) (by omega)
    obtain ⟨h4, h5, h6⟩ := h3 (i % 2) (by omega)
    rw [a7 _ (by omega), show 160 + i = 160 + (i / 2 * 2 + i % 2) by omega, hP.1 _ _ (by omega) (by omega)]
    exact (h4.L (b := 1) h1 h2 (by decide) (Rat.le_trans (by decide) h5) h6).mono (by decide)
  obtain ⟨M3, y3, b1, b2, b3, b4, b5⟩ := cC_goOn a4 (hK.G a5) hd hwL hpL (fun k n hk hn => (gW_L hd hM hP hk (fun s hs => a6 k s hk hs) (fun n hn => hm k n hk hn) hn).mono (by decide))
  have hw3 : ∀ i, i < 40 → qL (y3 (200 + i)) 400 := fun i hi => by
    by_cases cc : ∃ k, k < d ∧ 200 + i = 200 + 8 * k
    · obtain ⟨k, k1, k2⟩ := cc
      rw [k2, b3 k k1]
      exact (gW_L hd hM hP k1 (fun s hs => a6 k s k1 hs) (fun n hn => hm k n k1 hn) (Nat.le_refl 2)).mono (by decide)
    · rw [b4 _ (by omega) (fun k hk e => cc ⟨k, hk, e⟩)]; exact (hwL i hi).mono (by decide)
  have e244 : y3 244 = y 244 := by rw [b4 _ (by decide) (fun k hk => by omega), a7 _ (by omega)]
  obtain ⟨M4, y4, c1, c2, c3, c4, c5⟩ := cC_learn39 (u := u) (z := z) (rk := rk) (jf := jf) (ln := ln) (ng := ng) (cg := cg) (tb := tb) (rn := rn) (d := d) (c := c) (ro := ro) (fx := fx) (y := y3) hd hw3 (by rw [e244]; exact hC) _ 0 rfl (Nat.zero_le _) M3 y3 b2 ((hK.G a5).G b5) (fun s hs => by omega) (fun _ _ => rfl)
  have c1 : rC_learn_39 cg 0 M3 = _ := c1
  refine ⟨M1, M2, M3, M4, y3, y4, a1, a2, b1, c1, a3, a4.1, c2, a5.tr (b5.tr c5), fun k hk => ?_, fun k s hk h1 h8 => ?_, fun s hs => by rw [c3 s hs, e244], fun i hi hi2 => ?_⟩
  · rw [b3 k hk]
    show gW y2 k 0 + _ * _ + _ * _ = _
    rw [show gW y2 k 0 = cw0 y d k 0 from a6 k 0 hk (by decide), a6 k (6 + 0) hk (by decide), a6 k (6 + 1) hk (by decide), hm k 0 hk (by decide), hm k 1 hk (by decide)]
  · rw [b4 _ (by omega) (fun q hq => by omega)]; exact a6 k s hk h8
  · rw [c4 i (by omega), b4 i hi (fun k hk => by omega), a7 i (by omega)]
end

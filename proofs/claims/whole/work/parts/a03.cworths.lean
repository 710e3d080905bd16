/-! the cards: all worths of both, behind the worths at 0 -/
section
variable {u z rk jf ln ng cg tb rn d : Nat} {c ro fx : Nat → Nat} {M : rg_M} {y : Nat → Rat}
theorem cC_worths (hE : cE u z rk c jf ln ng cg tb rn ro fx M y) (hK : cDk cg d M) (hd : d ≤ 5) (hz : awL d y) (h0 : ∀ s, s < 40 → y (200 + s) = 0) : ∃ (M1 M2 : rg_M) (y2 : Nat → Rat), rC_reckonWorthsOfA cg M = some M1 ∧ rC_reckonWorthsOfB cg M1 = some M2 ∧ cEn rk ln ng cg tb rn ro fx M1 ∧ cE u z rk c jf ln ng cg tb rn ro fx M2 y2 ∧ cG M M2 ∧ (∀ k s, k < d → s < 8 → y2 (200 + (8 * k + s)) = cw0 y d k s) ∧ (∀ i, (i < 200 ∨ 200 + 8 * d ≤ i) → y2 i = y i) := by
  obtain ⟨M1, y1, a1, a2, a3, a4, a5⟩ := cC_reckonA hE hK hd hz (fun k hk => ⟨h0 _ (by omega), h0 _ (by omega), h0 _ (by omega), h0 _ (by omega)⟩)
  have py : ∀ q t, q < d → t < 8 → y1 (plx (8 * q + t)) = y (plx (8 * q + t)) := fun q t hq ht => a4 _ (fun k hk => by have := plx_out (i := 8 * q + t) (by omega); omega)
  have haw : ∀ k t (a b : Int) n, t < 8 → n ≤ d → aw y1 k t a b n = aw y k t a b n := fun k t a b n ht hn => aw_cong (fun q hq => py q t (by omega) ht)
  have hz1 : awL d y1 := ⟨fun q t hq ht => by rw [py q t hq ht]; exact hz.1 q t hq ht, fun k t n a b hk ht hn ha hb => by rw [haw k t a b n ht hn]; exact hz.2.1 k t n a b hk ht hn ha hb, fun k t n hk ht hn => by rw [haw k t 1 1 d (by omega) (Nat.le_refl _), haw k (t + 1) 2 (-2) n (by omega) hn]; exact hz.2.2 k t n hk ht hn⟩
  obtain ⟨M2, y2, b1, b2, b3, b4, b5⟩ := cC_reckonB a2 (hK.G a5) hd hz1 (fun k hk => by
    refine ⟨?_, ?_, ?_, ?_⟩
    · rw [a4 _ (fun q hq => by omega)]; exact h0 _ (by omega)
    · rw [a4 _ (fun q hq => by omega)]; exact h0 _ (by omega)
    · rw [a4 _ (fun q hq => by omega)]; exact h0 _ (by omega)
    · rw [a4 _ (fun q hq => by omega)]; exact h0 _ (by omega))
  refine ⟨M1, M2, y2, a1, b1, a2.1, b2, a5.tr b5, fun k s hk hs => ?_, fun i hi => ?_⟩
  · obtain ⟨p0, p1, p2, p3⟩ := a3 k hk
    obtain ⟨r0, r1, r2, r3⟩ := b3 k hk
    rw [haw k 0 _ _ _ (by decide) (Nat.le_refl _)] at r0
    rw [haw k 6 _ _ _ (by decide) (Nat.le_refl _), haw k (6 + 1) _ _ _ (by decide) (Nat.le_refl _)] at r1
    rw [haw k 1 _ _ _ (by decide) (Nat.le_refl _)] at r2
    rw [haw k 1 _ _ _ (by decide) (Nat.le_refl _)] at r3
    rcases (show s = 0 ∨ s = 1 ∨ s = 2 ∨ s = 3 ∨ s = 4 ∨ s = 5 ∨ s = 6 ∨ s = 7 by omega) with e | e | e | e | e | e | e | e <;> subst e
    · rw [b4 _ (fun q hq => by omega)]; exact p0
    · rw [b4 _ (fun q hq => by omega)]; exact p1
    · exact r0
    · exact r1
    · exact r2
    · exact r3
    · rw [b4 _ (fun q hq => by omega)]; exact p2
    · rw [b4 _ (fun q hq => by omega)]; exact p3
  · rw [b4 i (fun k hk => by omega), a4 i (fun k hk => by omega)]
end

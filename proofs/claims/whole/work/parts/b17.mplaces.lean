/-! the reference: places -/
section
variable {m aS aL aG aN aB : Nat} {M : rg_M}
/-- places, ways and slots, both ways of counting -/
theorem ts_rm {s : sS} {n : Nat} (hok : ts_ok n s) (hg : ts_g s ≠ 0) : rm_pl (ts_g s) (ts_d s) = ts_P s ∧ (∀ p, rm_wy (ts_g s) (ts_a s) (ts_e s) p = ts_w s p) ∧ (∀ p w, rm_sl (ts_g s) p w = p * ts_st s + w) ∧ ts_P s ≤ 20 ∧ 0 < ts_st s ∧ ∀ p, p < ts_P s → p * ts_st s + ts_st s ≤ 40 ∧ ts_w s p ≤ ts_st s ∧ ts_w s p ≤ 5 ∧ 0 < ts_w s p := by
  unfold rm_pl rm_wy rm_sl ts_P ts_w ts_st wyc
  by_cases cg2 : ts_g s = 2
  · obtain ⟨d1, d2⟩ := hok.2.2.2.1 cg2
    rw [cg2]
    refine ⟨rfl, fun p => rfl, fun p w => by show 2 * p + w = p * 2 + w; omega, by show 4 * ts_d s ≤ 20; omega, by decide, fun p hp => ?_⟩
    have hp : p < 4 * ts_d s := hp
    exact ⟨by show p * 2 + 2 ≤ 40; omega, by show 2 ≤ 2; decide, by show 2 ≤ 5; decide, by show 0 < 2; decide⟩
  · have cg1 : ts_g s = 1 := by have := hok.1; omega
    obtain ⟨w1, w2, w3, w4⟩ := hok.2.1 cg1
    rw [cg1]
    refine ⟨rfl, fun p => rfl, fun p w => by show 5 * p + w = p * 5 + w; omega, by show 2 ≤ 20; decide, by show 0 < 5; decide, fun p hp => ?_⟩
    have hp : p < 2 := hp
    have hw : 0 < (if p = 0 then ts_a s else ts_e s) ∧ (if p = 0 then ts_a s else ts_e s) ≤ 5 := by split <;> omega
    exact ⟨by show p * 5 + 5 ≤ 40; omega, hw.2, hw.2, hw.1⟩
end

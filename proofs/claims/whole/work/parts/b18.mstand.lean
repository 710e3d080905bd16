/-! the reference: all stand -/
section
variable {m aS aL aG aN aB : Nat} {M : rg_M}
/-- all places stand, one after the other -/
theorem rm_r56 (H : rm_F m aS aL aG aN aB M) {s : sS} {n : Nat} (hok : ts_ok n s) (hg : ts_g s ≠ 0) (hI : mInt m s M) (hF : ts_bF s) {V0 : Nat → Int} : ∀ e j : Nat, ts_P s - j = e → j ≤ ts_P s → ∀ (S L G : Nat → Int32) (V : Nat → Int), rm_V S L G V → (∀ p w, p < ts_P s → w < ts_w s p → V (160 + (p * ts_st s + w)) = (ts_bR s p w).num ∧ V (200 + (p * ts_st s + w)) = ((ts_bR s p w).den : Int) ∧ V (240 + (p * ts_st s + w)) = (ts_bS s p w).num ∧ V (280 + (p * ts_st s + w)) = ((ts_bS s p w).den : Int)) → (∀ p w, p < j → w < ts_w s p → V (p * ts_st s + w) = (ts_bR s p w).num ∧ V (40 + (p * ts_st s + w)) = ((ts_bR s p w).den : Int) ∧ V (80 + (p * ts_st s + w)) = (ts_bS s p w).num ∧ V (120 + (p * ts_st s + w)) = ((ts_bS s p w).den : Int)) → (∀ q, (160 ≤ q ∨ ∀ p w, p < j → w < ts_w s p → q ≠ p * ts_st s + w ∧ q ≠ 40 + (p * ts_st s + w) ∧ q ≠ 80 + (p * ts_st s + w) ∧ q ≠ 120 + (p * ts_st s + w)) → V q = V0 q) → ∃ (S' L' G' : Nat → Int32) (V' : Nat → Int), rM_round_56 m (nI j) (rm_w aS aL aG M S L G) = rM_round_56 m (nI (ts_P s)) (rm_w aS aL aG M S' L' G') ∧ rm_V S' L' G' V' ∧ (∀ p w, p < ts_P s → w < ts_w s p → V' (p * ts_st s + w) = (ts_bR s p w).num ∧ V' (40 + (p * ts_st s + w)) = ((ts_bR s p w).den : Int) ∧ V' (80 + (p * ts_st s + w)) = (ts_bS s p w).num ∧ V' (120 + (p * ts_st s + w)) = ((ts_bS s p w).den : Int)) ∧ (∀ q, (160 ≤ q ∨ ∀ p w, p < ts_P s → w < ts_w s p → q ≠ p * ts_st s + w ∧ q ≠ 40 + (p * ts_st s + w) ∧ q ≠ 80 + (p * ts_st s + w) ∧ q ≠ 120 + (p * ts_st s + w)) → V' q = V0 q) := by
  have hK := H.1
  obtain ⟨i1, i2, i3, i4, i5, i6, i7⟩ := hI
  obtain ⟨e1, e2, e3, hP, hst0, hst⟩ := ts_rm hok hg
  have g3 : ts_g s < 3 := by have := hok.1; omega
  intro e
  induction e with
  | zero =>
    intro j he hj S L G V hV h1 h2 h3
    have e : j = ts_P s := by omega
    subst e
    exact ⟨S, L, G, V, rfl, hV, h2, h3⟩
  | succ e ih =>
    intro j he hj S L G V hV h1 h2 h3
    have hjP : j < ts_P s := by omega
    obtain ⟨q1, q2, q3, q4⟩ := hst j hjP
    have pl := rm_places (m := m) (M := (rm_w aS aL aG M S L G)) hK i1 i4 g3
    rw [e1] at pl
    have pd : ¬ nI (ts_P s) ≤ nI j := by rw [nI_leI (by omega) (by omega)]; omega
    obtain ⟨S2, L2, G2, V2, c1, c2, c3, c4⟩ := rm_standsM H (p := j) i1 i2 i3 g3 (by omega) (by rw [e2]; omega) (fun w hw => by rw [e2] at hw; rw [e3]; omega) (x := fun w => ts_bR s j w) (y := fun w => ts_bS s j w) (fun w hw2 => by rw [e2] at hw2; exact hF j hjP w hw2) hV (fun w hw2 => by rw [e2] at hw2; rw [e3]; exact h1 j w hjP hw2)
    rw [e2] at c3 c4
    have far : ∀ p w, p < ts_P s → w < ts_w s p → p ≠ j → (p * ts_st s + w < j * ts_st s ∨ j * ts_st s + ts_st s ≤ p * ts_st s + w) := fun p w hp hw hpj => by
      have := (hst p hp).2.1
      rcases (show p < j ∨ j < p by omega) with q | q
      · left
        have h5 := Nat.mul_le_mul_right (ts_st s) (show p + 1 ≤ j by omega)
        rw [Nat.add_mul, Nat.one_mul] at h5
        omega
      · right
        have h5 := Nat.mul_le_mul_right (ts_st s) (show j + 1 ≤ p by omega)
        rw [Nat.add_mul, Nat.one_mul] at h5
        omega
    have f2 : ∀ q, (∀ w, w < ts_w s j → q ≠ j * ts_st s + w ∧ q ≠ 40 + (j * ts_st s + w) ∧ q ≠ 80 + (j * ts_st s + w) ∧ q ≠ 120 + (j * ts_st s + w)) → V2 q = V q := fun q hq => c4 q (fun w hw2 => by rw [e3]; exact hq w hw2)
    rw [rM_round_56_e]
    simp only [rm_wK, hK, if_true, pl, Option.bind_some, pd, if_false, c1, nI_1]
    refine ih (j + 1) (by omega) (by omega) S2 L2 G2 V2 c2 (fun p w hp hw => ?_) (fun p w hp hw => ?_) (fun q hq => ?_)
    · have := hst p hp
      rw [f2 _ (fun v hv => by omega), f2 _ (fun v hv => by omega), f2 _ (fun v hv => by omega), f2 _ (fun v hv => by omega)]
      exact h1 p w hp hw
    · by_cases c : p = j
      · subst c
        have := c3 w hw
        rw [e3] at this
        exact this
      · have hf := far p w (by omega) hw c
        have := hst p (by omega)
        rw [f2 _ (fun v hv => by omega), f2 _ (fun v hv => by omega), f2 _ (fun v hv => by omega), f2 _ (fun v hv => by omega)]
        exact h2 p w (by omega) hw
    · rcases hq with k | k
      · rw [f2 q (fun v hv => by omega)]; exact h3 q (Or.inl k)
      · rw [f2 q (fun v hv => k j v (by omega) hv)]; exact h3 q (Or.inr (fun p w hp hw => k p w (by omega) hw))
end

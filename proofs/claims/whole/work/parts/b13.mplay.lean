/-! the reference: column, row, round -/
theorem mV_nw {s s' : sS} {V V' : Nat → Int} {lo hi st : Nat} {wf : Nat → Nat} {fR fS : Nat → Nat → Rat} (hs : mV s V) (hgg : ts_g s' = ts_g s) (hst : 0 < st) (hy : ts_y s' = nwY (ts_y s) lo hi st wf fR fS) (hv : ts_v s' = ts_v s) (hin : ∀ p w, lo ≤ p → p < hi → w < wf p → w < st ∧ p * st + w < 40) (h1 : ∀ p w, lo ≤ p → p < hi → w < wf p → V' (p * st + w) = (fR p w).num ∧ V' (40 + (p * st + w)) = ((fR p w).den : Int) ∧ V' (80 + (p * st + w)) = (fS p w).num ∧ V' (120 + (p * st + w)) = ((fS p w).den : Int)) (h2 : ∀ q, q < 160 → (∀ p w, lo ≤ p → p < hi → w < wf p → q ≠ p * st + w ∧ q ≠ 40 + (p * st + w) ∧ q ≠ 80 + (p * st + w) ∧ q ≠ 120 + (p * st + w)) → V' q = V q) (h3 : V' 380 = V 380 ∧ V' 381 = V 381 ∧ V' 413 = V 413) : mV s' V' := by
  obtain ⟨a1, a2, a3, a4⟩ := hs
  refine ⟨fun hg i hi4 => ?_, by rw [h3.1, hv]; exact a2, by rw [h3.2.1, hv]; exact a3, by rw [h3.2.2]; exact a4⟩
  have hdm : i = i / st * st + i % st := by rw [Nat.mul_comm]; exact (Nat.div_add_mod i st).symm
  have hmd : ∀ p w, w < st → (p * st + w) / st = p ∧ (p * st + w) % st = w := fun p w hw => ⟨by rw [Nat.mul_comm, Nat.mul_add_div hst, Nat.div_eq_of_lt hw, Nat.add_zero], by rw [Nat.mul_comm, Nat.mul_add_mod, Nat.mod_eq_of_lt hw]⟩
  rw [hy]
  unfold nwY
  rw [if_pos hi4, if_neg (show ¬ 40 + i < 40 by omega), if_pos (show 40 + i < 80 by omega), show 40 + i - 40 = i by omega]
  by_cases c : lo ≤ i / st ∧ i / st < hi ∧ i % st < wf (i / st)
  · rw [if_pos c, if_pos c]
    have := h1 (i / st) (i % st) c.1 c.2.1 c.2.2
    rw [← hdm] at this
    exact this
  · rw [if_neg c, if_neg c]
    have hne : ∀ p w, lo ≤ p → p < hi → w < wf p → i ≠ p * st + w := fun p w p1 p2 p3 e => c (by
      obtain ⟨q1, -⟩ := hin p w p1 p2 p3
      obtain ⟨q2, q3⟩ := hmd p w q1
      rw [e, q2, q3]; exact ⟨p1, p2, p3⟩)
    have e : ∀ k, (k = 0 ∨ k = 40 ∨ k = 80 ∨ k = 120) → V' (k + i) = V (k + i) := fun k hk => h2 _ (by omega) (fun p w p1 p2 p3 => by
      have q1 := hne p w p1 p2 p3
      have q2 := (hin p w p1 p2 p3).2
      omega)
    have e0 := e 0 (by omega)
    rw [Nat.zero_add] at e0
    rw [e0, e 40 (by omega), e 80 (by omega), e 120 (by omega)]
    exact a1 (by rw [← hgg]; exact hg) i hi4
section
variable {m aS aL aG aN aB : Nat} {M : rg_M}
/-- a flag is put -/
theorem mI_flag {s : sS} (h : mI m aS aL aG aN aB s M) {k : Nat} (hb : mBad s k) : mI m aS aL aG aN aB s (rg_wA M aB k 1) ∧ mX aS aL aG aN aB M (rg_wA M aB k 1) := by
  obtain ⟨H, hI, ⟨V, hV, hs⟩, hN, hB⟩ := h
  have ecr : rg_wA M aB k 1 = cr M aB (upd (rg_A M aB) k 1) := by
    have := cr_w M aB (rg_A M aB) k 1
    rw [cr_id] at this; exact this
  obtain ⟨⟨q1, q2, q3, q4, q5⟩, -⟩ := cr_rows H (upd (rg_A M aB) k 1)
  rw [ecr]
  refine ⟨⟨H, hI, ⟨V, by rw [q1, q2, q3]; exact hV, hs⟩, fun q i hi => by rw [q4]; exact hN q i hi, fun j hj => ?_⟩, mX_cr _ _ (Or.inr rfl)⟩
  rw [q5]
  unfold upd
  by_cases e : j = k
  · rw [if_pos e, e]; exact Or.inr ⟨rfl, hb⟩
  · rw [if_neg e]; exact hB j hj
/-- all flags down -/
theorem mI_down {s : sS} (H : rm_F m aS aL aG aN aB M) (hI : mInt m s M) {V : Nat → Int} (hV : rm_V (rg_A M aS) (rg_A M aL) (rg_A M aG) V) (hs : mV s V) (hN : ts_g s = 1 → ∀ i, i < 25 → rg_A M aN i = ts_num s i) : ∃ M', rM_changed m M = some M' ∧ mI m aS aL aG aN aB s M' ∧ mX aS aL aG aN aB M M' ∧ rg_I M' = rg_I M := by
  obtain ⟨f, a1, a2⟩ := rm_changedM H
  obtain ⟨⟨q1, q2, q3, q4, q5⟩, -⟩ := cr_rows H f
  exact ⟨_, a1, ⟨H, hI, ⟨V, by rw [q1, q2, q3]; exact hV, hs⟩, fun q i hi => by rw [q4]; exact hN q i hi, fun k hk => Or.inl (by rw [q5]; exact a2 k hk)⟩, mX_cr _ _ (Or.inr rfl), rfl⟩
end

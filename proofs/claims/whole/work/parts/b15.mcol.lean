/-! the reference: column -/
section
variable {m aS aL aG aN aB : Nat} {M : rg_M}
theorem mM_column {s : sS} {n : Nat} (h : mI m aS aL aG aN aB s M) (hok : ts_ok n s) (x : Int32) : ∃ M', rM_column m x M = some ((ts_play s 0 x).1, M') ∧ mI m aS aL aG aN aB (ts_play s 0 x).2 M' ∧ mX aS aL aG aN aB M M' := by
  have hK := h.1.1
  have hI := h.2.1
  have gi1 : (nI (ts_g s) = (1 : Int32)) ↔ ts_g s = 1 := nI_eq (b := 1) (by have := hok.1; omega) (by omega)
  have no : ¬ (ts_g s = 1 ∧ (0 ≤ x ∧ x.toNatClampNeg < wyc (ts_a s) (ts_e s) (1 - 0)) ∧ ts_aF s 0 x.toNatClampNeg) → ts_play s 0 x = (0, s) := fun q => if_neg q
  rw [rM_column_u, rM_column_e, if_pos hK, hI.1]
  by_cases cg : ts_g s = 1
  · obtain ⟨w1, w2, w3, w4⟩ := hok.2.1 cg
    rw [if_pos (gi1.mpr cg)]
    by_cases c1 : x < 0
    · rw [if_pos c1, rM_column_30_e, no (fun q => by have := q.2.1.1; rw [← Int32.not_lt] at this; exact this c1)]
      exact ⟨M, rfl, h, mX.rf M⟩
    · rw [if_neg c1, if_pos hK, hI.2.2.1]
      obtain ⟨k, k1, k2⟩ := nI_of c1
      subst k2
      have ew : wyc (ts_a s) (ts_e s) (1 - 0) = ts_e s := rfl
      by_cases c2 : nI (ts_e s) ≤ nI k
      · rw [if_pos c2, rM_column_30_e, no (fun q => by have := q.2.1.2; rw [nI_clamp k1, ew] at this; rw [nI_leI (by omega) k1] at c2; omega)]
        exact ⟨M, rfl, h, mX.rf M⟩
      · rw [if_neg c2, if_pos hK]
        rw [nI_leI (by omega) k1] at c2
        obtain ⟨M1, r, a1, a2, a3⟩ := mM_alone h hok cg (p := 0) (k := k) (by decide) (by rw [ew]; omega) (mk := k) rfl
        have a1 : rM_alone m 0 (nI k) (nI k) M = _ := a1
        rw [a1]
        simp only [Option.bind_some]
        rcases a3 with ⟨r0, v0, v1⟩ | ⟨r1, v0, v1⟩
        · rw [if_pos r0, rM_column_30_e, no (fun q => v0 (by have := q.2.2; rw [nI_clamp k1] at this; exact this))]
          exact ⟨M1, rfl, v1, a2⟩
        · rw [if_neg (by rw [r1]; decide)]
          have hk1 := v1.1.1
          rw [if_pos hk1, if_pos hk1, v1.2.1.2.2.2.2.2.1]
          rw [show ts_play s 0 (nI k) = (1, (s.1, (ts_n s + 1, ts_na s + 1, ts_nb s + 0), ts_num s, ts_aY s 0 (nI k).toNatClampNeg, ts_v s)) from if_pos ⟨cg, ⟨nI_pos' k1, by rw [nI_clamp k1, ew]; omega⟩, by rw [nI_clamp k1]; exact v0⟩]
          rw [nI_clamp k1, show ts_na (ts_pa s 0 k) = ts_na s from rfl, nI_1]
          obtain ⟨H, ⟨i1, i2, i3, i4, i5, i6, i7⟩, ⟨V, hV, hs⟩, hN, hB⟩ := v1
          refine ⟨_, rfl, ⟨H, ⟨?_, ?_, ?_, ?_, ?_, cw_II _ _ _ _, ?_⟩, ⟨V, hV, hs⟩, hN, hB⟩, a2.tr (mX_wI _ _ (by decide))⟩
          · rw [cw_IIn (Or.inl (by decide))]; exact i1
          · rw [cw_IIn (Or.inl (by decide))]; exact i2
          · rw [cw_IIn (Or.inl (by decide))]; exact i3
          · rw [cw_IIn (Or.inl (by decide))]; exact i4
          · rw [cw_IIn (Or.inl (by decide))]; exact i5
          · rw [cw_IIn (Or.inl (by decide))]; exact i7
  · rw [if_neg (fun q => cg (gi1.mp q)), rM_column_30_e, no (fun q => cg q.1)]
    exact ⟨M, rfl, h, mX.rf M⟩
end

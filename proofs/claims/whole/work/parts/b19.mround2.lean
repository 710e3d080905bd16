/-! the reference: round -/
section
variable {m aS aL aG aN aB : Nat} {M : rg_M}
theorem mM_round {s : sS} {n : Nat} (h : mI m aS aL aG aN aB s M) (hok : ts_ok n s) : ∃ M', rM_round m M = some ((ts_round s).1, M') ∧ mI m aS aL aG aN aB (ts_round s).2 M' ∧ mX aS aL aG aN aB M M' := by
  have h0 := h
  obtain ⟨H, hI, ⟨V, hV, hs⟩, hN, hB⟩ := h
  have H0 := H
  have hI0 := hI
  obtain ⟨hK, -, -, -, -, hB', -, -, -, -, kB, -, -, -, -, lB, -⟩ := H
  obtain ⟨i1, i2, i3, i4, i5, i6, i7⟩ := hI
  have gi : ∀ k : Nat, k < 3 → (nI (ts_g s) = nI k ↔ ts_g s = k) := fun k hk => nI_eq (by have := hok.1; omega) (by omega)
  have gi0 : (nI (ts_g s) = (0 : Int32)) ↔ ts_g s = 0 := gi 0 (by decide)
  have gi1 : (nI (ts_g s) = (1 : Int32)) ↔ ts_g s = 1 := gi 1 (by decide)
  have no : ¬ (ts_g s ≠ 0 ∧ ts_bF s) → ts_round s = (-1, s) := fun q => if_neg q
  have c10 : (10 : Int32).toNatClampNeg = 10 := by decide
  have i10 : (0 : Int32) ≤ 10 := by decide
  have ebad : mBad s 10 ↔ ¬ ts_bF s := by unfold mBad; rw [if_pos rfl]
  rw [rM_round_u, rM_round_e, if_pos hK, i1]
  by_cases cg0 : ts_g s = 0
  · rw [if_pos (gi0.mpr cg0), rM_round_17_e, no (fun q => q.1 cg0)]
    exact ⟨M, rfl, h0, mX.rf M⟩
  · rw [if_neg (fun q => cg0 (gi0.mp q))]
    simp only [hK, hB', kB, lB, if_true, Option.bind_some, c10, i10, show (10 : Nat) < 11 by decide, and_self]
    obtain ⟨e1, e2, e3, hP, hst0, hst⟩ := ts_rm hok cg0
    have g3 : ts_g s < 3 := by have := hok.1; omega
    -- refused: the flag
    have bad : ∀ (S' L' G' : Nat → Int32) (V' : Nat → Int), rm_V S' L' G' V' → mV s V' → ¬ ts_bF s → ∃ M', rg_ui (rM_round_44 m (rm_w aS aL aG M S' L' G')) = some ((ts_round s).1, M') ∧ mI m aS aL aG aN aB (ts_round s).2 M' ∧ mX aS aL aG aN aB M M' := by
      intro S' L' G' V' a2 a3 v0
      have b1 : mI m aS aL aG aN aB s (rm_w aS aL aG M S' L' G') := mI_w h0 a2 a3 rfl rfl rfl (fun _ q => q)
      obtain ⟨b2, b3⟩ := mI_flag b1 (k := 10) (ebad.mpr v0)
      rw [rM_round_44_e, no (fun q => v0 q.2)]
      simp only [rm_wK, rm_wR, rm_wL, hK, hB', kB, lB, if_true, Option.bind_some, c10, i10, show (10 : Nat) < 11 by decide, true_and, or_true]
      exact ⟨_, rfl, b2, (mX_w _ _ _ _).tr b3⟩
    -- it stands
    have good : ∀ (S' L' G' : Nat → Int32) (V' : Nat → Int), rm_V S' L' G' V' → mV s V' → ts_bF s → (∀ p w, p < ts_P s → w < ts_w s p → V' (160 + (p * ts_st s + w)) = (ts_bR s p w).num ∧ V' (200 + (p * ts_st s + w)) = ((ts_bR s p w).den : Int) ∧ V' (240 + (p * ts_st s + w)) = (ts_bS s p w).num ∧ V' (280 + (p * ts_st s + w)) = ((ts_bS s p w).den : Int)) → ∃ M', rg_ui (rM_round_54 m (rm_w aS aL aG M S' L' G')) = some ((ts_round s).1, M') ∧ mI m aS aL aG aN aB (ts_round s).2 M' ∧ mX aS aL aG aN aB M M' := by
      intro S' L' G' V' a2 a3 hF v
      obtain ⟨S2, L2, G2, V2, b1, b2, b3, b4⟩ := rm_r56 H0 hok cg0 hI0 hF (V0 := V') _ 0 rfl (Nat.zero_le _) S' L' G' V' a2 v (fun p w hp _ => by omega) (fun _ _ => rfl)
      have b1 : rM_round_56 m 0 (rm_w aS aL aG M S' L' G') = _ := b1
      rw [show ts_round s = (nI (ts_n s + 1), (s.1, (ts_n s + 1, ts_na s, ts_nb s), ts_num s, ts_bY s, ts_v s)) from if_pos ⟨cg0, hF⟩]
      have m2 : mV ((s.1, (ts_n s + 1, ts_na s, ts_nb s), ts_num s, ts_bY s, ts_v s) : sS) V2 := mV_nw a3 (lo := 0) (hi := ts_P s) (st := ts_st s) (wf := ts_w s) (fR := ts_bR s) (fS := ts_bS s) rfl hst0 rfl rfl (fun p w _ hp hw => by have := hst p hp; omega) (fun p w _ hp hw => b3 p w hp hw) (fun q hq hh => b4 q (Or.inr (fun p w hp hw => hh p w (Nat.zero_le _) hp hw))) ⟨b4 _ (Or.inl (by decide)), b4 _ (Or.inl (by decide)), b4 _ (Or.inl (by decide))⟩
      obtain ⟨r1', r2', r3', r4', r5'⟩ := rm_wrows H0 S2 L2 G2
      obtain ⟨f2, x1, x2⟩ := rm_changedM (M := rm_w aS aL aG M S2 L2 G2) H0
      obtain ⟨⟨t1, t2, t3, t4, t5⟩, -⟩ := cr_rows (M := rm_w aS aL aG M S2 L2 G2) H0 f2
      have i5' : rg_I (cr (rm_w aS aL aG M S2 L2 G2) aB f2) 119 m = nI (ts_n s) := i5
      have hK2 : rg_K (cr (rm_w aS aL aG M S2 L2 G2) aB f2) m = 8 := hK
      have pl := rm_places (m := m) (M := (rm_w aS aL aG M S2 L2 G2)) hK i1 i4 g3
      rw [e1] at pl
      rw [rM_round_54_e, b1, rM_round_56_e]
      simp only [rm_wK, hK, if_true, pl, Option.bind_some, Int32.le_refl, x1, hK2, i5', cw_II]
      rw [nI_1]
      refine ⟨_, rfl, ⟨H0, ⟨?_, ?_, ?_, ?_, cw_II _ _ _ _, ?_, ?_⟩, ⟨V2, ?_, m2⟩, fun q i hi => ?_, fun j hj => Or.inl ?_⟩, (mX_w _ _ _ _).tr ((mX_cr _ _ (Or.inr rfl)).tr (mX_wI _ _ (by decide)))⟩
      · rw [cw_IIn (Or.inl (by decide))]; exact i1
      · rw [cw_IIn (Or.inl (by decide))]; exact i2
      · rw [cw_IIn (Or.inl (by decide))]; exact i3
      · rw [cw_IIn (Or.inl (by decide))]; exact i4
      · rw [cw_IIn (Or.inl (by decide))]; exact i6
      · rw [cw_IIn (Or.inl (by decide))]; exact i7
      · show rm_V (rg_A (cr (rm_w aS aL aG M S2 L2 G2) aB f2) aS) (rg_A (cr (rm_w aS aL aG M S2 L2 G2) aB f2) aL) (rg_A (cr (rm_w aS aL aG M S2 L2 G2) aB f2) aG) V2
        rw [t1, t2, t3, r1', r2', r3']; exact b2
      · show rg_A (cr (rm_w aS aL aG M S2 L2 G2) aB f2) aN i = ts_num s i
        rw [t4, r4']; exact hN q i hi
      · show rg_A (cr (rm_w aS aL aG M S2 L2 G2) aB f2) aB j = 0
        rw [t5]; exact x2 j hj
    rcases hB 10 (by decide) with q0 | ⟨q1, q2⟩
    · rw [if_pos q0]
      by_cases cg1 : ts_g s = 1
      · rw [if_pos (gi1.mpr cg1)]
        obtain ⟨S', L', G', V', f, a1, a2, a3, a4⟩ := rm_bothM H0 hok cg1 (by rw [i1, cg1]) i2 i3 (hN cg1) hV hs
        rw [rm_wid] at a1
        simp only [a1, Option.bind_some]
        have cg2 : ts_g s ≠ 2 := by omega
        have eP : ts_P s = 2 := by unfold ts_P; rw [if_neg cg2, if_pos cg1]
        have eW : ∀ p, ts_w s p = wyc (ts_a s) (ts_e s) p := fun p => by unfold ts_w; rw [if_neg cg2]
        have eS : ts_st s = 5 := by unfold ts_st; rw [if_neg cg2]
        rcases a4 with ⟨r1, v1, v2⟩ | ⟨r0, v0⟩
        · rw [if_neg (by rw [r1]; decide)]
          refine good S' L' G' V' a2 a3 v1 (fun p w hp hw => ?_)
          rw [eP] at hp
          rw [eW] at hw
          have := v2 p w hp hw
          rw [show rm_sl 1 p w = p * ts_st s + w by rw [eS]; show 5 * p + w = _; omega] at this
          exact this
        · rw [if_pos r0]
          exact bad S' L' G' V' a2 a3 v0
      · have cg2 : ts_g s = 2 := by have := hok.1; omega
        rw [if_neg (fun q => cg1 (gi1.mp q))]
        obtain ⟨S', L', G', V', f, a1, a2, a3, a4⟩ := rm_allM H0 hok cg2 (by rw [i1, cg2]) i2 i3 i4 hV hs
        rw [rm_wid] at a1
        simp only [a1, Option.bind_some]
        have eP : ts_P s = 4 * ts_d s := by unfold ts_P; rw [if_pos cg2]
        have eW : ∀ p, ts_w s p = 2 := fun p => by unfold ts_w; rw [if_pos cg2]
        have eS : ts_st s = 2 := by unfold ts_st; rw [if_pos cg2]
        rcases a4 with ⟨r1, v1, v2⟩ | ⟨r0, v0⟩
        · rw [if_neg (by rw [r1]; decide)]
          refine good S' L' G' V' a2 a3 v1 (fun p w hp hw => ?_)
          rw [eP] at hp
          rw [eW] at hw
          have := v2 p w hp hw
          rw [show 2 * p + w = p * ts_st s + w by rw [eS]; omega] at this
          exact this
        · rw [if_pos r0]
          exact bad S' L' G' V' a2 a3 v0
    · rw [if_neg (by rw [q1]; decide), rM_round_17_e, no (fun q => (ebad.mp q2) q.2)]
      exact ⟨M, rfl, h0, mX.rf M⟩
end

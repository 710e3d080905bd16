/-! the reference: alone -/
section
variable {m aS aL aG aN aB : Nat} {M : rg_M}
/-- a round against a told move -/
theorem mM_alone {s : sS} {n p k : Nat} (h : mI m aS aL aG aN aB s M) (hok : ts_ok n s) (hg : ts_g s = 1) (hp : p < 2) (hk : k < wyc (ts_a s) (ts_e s) (1 - p)) {mk : Nat} (hmk : mk = if p = 0 then k else 5 + k) : ∃ M' r, rM_alone m (nI p) (nI k) (nI mk) M = some (r, M') ∧ mX aS aL aG aN aB M M' ∧ ((r = 0 ∧ ¬ ts_aF s p k ∧ mI m aS aL aG aN aB s M') ∨ (r = 1 ∧ ts_aF s p k ∧ mI m aS aL aG aN aB (ts_pa s p k) M')) := by
  have h0 := h
  obtain ⟨H, hI, ⟨V, hV, hs⟩, hN, hB⟩ := h
  have H0 := H
  have hw := hok.w hg p
  have hw' := hok.w hg (1 - p)
  obtain ⟨hK, -, -, -, -, hB', -, -, -, -, kB, -, -, -, -, lB, -⟩ := H
  have hm11 : mk < 11 := by rw [hmk]; split <;> omega
  have k1 := nI_clamp (n := mk) (by omega)
  have k2 := rm_i0 (a := mk) (by omega)
  have ebad : mBad s mk ↔ ¬ ts_aF s p k := by
    unfold mBad
    rw [hmk]
    rcases (show p = 0 ∨ p = 1 by omega) with e | e
    · subst e
      have e2 : (if (0 : Nat) = 0 then k else 5 + k) = k := rfl
      rw [e2, if_neg (show ¬ k = 10 by omega), if_pos (show k < 5 by omega)]
    · subst e
      have e2 : (if (1 : Nat) = 0 then k else 5 + k) = 5 + k := rfl
      rw [e2, if_neg (show ¬ 5 + k = 10 by omega), if_neg (show ¬ 5 + k < 5 by omega), Nat.add_sub_cancel_left]
  rw [rM_alone_u, rM_alone_e]
  simp only [hK, hB', kB, lB, if_true, Option.bind_some, k1, k2, hm11, and_self]
  rcases hB mk hm11 with q0 | ⟨q1, q2⟩
  · rw [if_pos q0]
    obtain ⟨i1, i2, i3, i4, i5, i6, i7⟩ := hI
    obtain ⟨S', L', G', V', f, a1, a2, a3, a4⟩ := rm_againstM H0 (s := s) (p := p) (k := k) hok hg (by rw [i1, hg]) i2 i3 hp hk (hN hg) hV hs
    rw [rm_wid] at a1
    simp only [a1, Option.bind_some]
    have hx1 : mX aS aL aG aN aB M (rm_w aS aL aG M S' L' G') := mX_w _ _ _ _
    have b1 : mI m aS aL aG aN aB s (rm_w aS aL aG M S' L' G') := mI_w h0 a2 a3 rfl rfl rfl (fun _ q => q)
    rcases a4 with ⟨r1, v1, v2⟩ | ⟨r0, v0⟩
    · rw [if_neg (by rw [r1]; decide)]
      have hwy : rm_wy 1 (ts_a s) (ts_e s) p = wyc (ts_a s) (ts_e s) p := rfl
      have esl : ∀ w, rm_sl 1 p w = 5 * p + w := fun w => rfl
      obtain ⟨S2, L2, G2, V2, c1, c2, c3, c4⟩ := rm_standsM H0 (p := p) (g := 1) (by rw [i1, hg]) i2 i3 (by decide) (by omega) (by rw [hwy]; omega) (fun w hw => by rw [hwy] at hw; rw [esl]; omega) (x := fun w => ts_aR s p k w) (y := fun w => ts_aS s p w) (fun w hw2 => v1 w hw2) a2 (fun w hw2 => v2 w hw2)
      rw [hwy] at c3 c4
      have m2 : mV (ts_pa s p k) V2 := by
        refine mV_nw (s' := ts_pa s p k) a3 (lo := p) (hi := p + 1) (st := 5) (wf := wyc (ts_a s) (ts_e s)) (fR := fun q w => ts_aR s q k w) (fS := ts_aS s) rfl (by decide) rfl rfl (fun q w q1 q2 q3 => ?_) (fun q w q1 q2 q3 => ?_) (fun q hq hh => c4 q (fun w hw2 => ?_)) ⟨c4 _ (fun w hw2 => by rw [esl]; omega), c4 _ (fun w hw2 => by rw [esl]; omega), c4 _ (fun w hw2 => by rw [esl]; omega)⟩
        · have e : q = p := by omega
          subst e
          omega
        · have e : q = p := by omega
          subst e
          have := c3 w q3
          rw [esl, show 5 * q + w = q * 5 + w by omega] at this
          exact this
        · have := hh p w (Nat.le_refl _) (by omega) hw2
          rw [esl, show 5 * p + w = p * 5 + w by omega]; exact this
      obtain ⟨r1', r2', r3', r4', r5'⟩ := rm_wrows H0 S2 L2 G2
      -- flags down, one more round
      obtain ⟨f2, e1, e2⟩ := rm_changedM (M := rm_w aS aL aG M S2 L2 G2) H0
      obtain ⟨⟨t1, t2, t3, t4, t5⟩, -⟩ := cr_rows (M := rm_w aS aL aG M S2 L2 G2) H0 f2
      have i5' : rg_I (cr (rm_w aS aL aG M S2 L2 G2) aB f2) 119 m = nI (ts_n s) := i5
      have hK2 : rg_K (cr (rm_w aS aL aG M S2 L2 G2) aB f2) m = 8 := hK
      simp only [rm_wK, hK, if_true, c1, Option.bind_some, e1, hK2, i5']
      rw [nI_1]
      refine ⟨_, 1, rfl, (mX_w _ _ _ _).tr ((mX_cr _ _ (Or.inr rfl)).tr (mX_wI _ _ (by decide))), Or.inr ⟨rfl, v1, H0, ⟨?_, ?_, ?_, ?_, cw_II _ _ _ _, ?_, ?_⟩, ⟨V2, ?_, m2⟩, fun q i hi => ?_, fun j hj => Or.inl ?_⟩⟩
      · rw [cw_IIn (Or.inl (by decide))]; exact i1
      · rw [cw_IIn (Or.inl (by decide))]; exact i2
      · rw [cw_IIn (Or.inl (by decide))]; exact i3
      · rw [cw_IIn (Or.inl (by decide))]; exact i4
      · rw [cw_IIn (Or.inl (by decide))]; exact i6
      · rw [cw_IIn (Or.inl (by decide))]; exact i7
      · show rm_V (rg_A (cr (rm_w aS aL aG M S2 L2 G2) aB f2) aS) (rg_A (cr (rm_w aS aL aG M S2 L2 G2) aB f2) aL) (rg_A (cr (rm_w aS aL aG M S2 L2 G2) aB f2) aG) V2
        rw [t1, t2, t3, r1', r2', r3']; exact c2
      · show rg_A (cr (rm_w aS aL aG M S2 L2 G2) aB f2) aN i = ts_num s i
        rw [t4, r4']; exact hN hg i hi
      · show rg_A (cr (rm_w aS aL aG M S2 L2 G2) aB f2) aB j = 0
        rw [t5]; exact e2 j hj
    · rw [if_pos r0]
      obtain ⟨b2, b3⟩ := mI_flag b1 (k := mk) (ebad.mpr v0)
      simp only [rm_wK, rm_wR, rm_wL, hK, hB', kB, lB, if_true, Option.bind_some, k2, hm11, true_and, or_true]
      exact ⟨_, 0, rfl, hx1.tr b3, Or.inl ⟨rfl, v0, b2⟩⟩
  · rw [if_neg (by rw [q1]; decide)]
    exact ⟨M, 0, rfl, mX.rf M, Or.inl ⟨rfl, ebad.mp q2, h0⟩⟩
end

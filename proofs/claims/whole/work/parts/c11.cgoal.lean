/-! THE GOAL -/
theorem bH_0 (sz b L : Nat) (xs : Nat → Int32) : bH 0 (2 * sz) 0 (fun _ => 0) (rg_M0 sz b L xs) ∧ ∀ f, rg_K (rg_M0 sz b L xs) f ≠ 2 := by
  have hk : ∀ w k, k ≠ 0 → k ≠ 13 → rg_K (rg_M0 sz b L xs) w ≠ k := fun w k h1 h2 e => by
    have e : (if w = b then 13 else 0) = k := e
    by_cases c : w = b
    · rw [if_pos c] at e; omega
    · rw [if_neg c] at e; omega
  have k6 : ∀ w, rg_K (rg_M0 sz b L xs) w ≠ 6 := fun w => hk w 6 (by decide) (by decide)
  exact ⟨⟨⟨fun w hw => absurd hw (k6 w), fun w w' b' h1 => absurd h1 (k6 w), Nat.zero_le _, Nat.le_add_right _ _⟩, fun w hw => absurd hw (k6 w), fun _ => 0, fun w hw => absurd hw (k6 w)⟩, fun f => hk f 2 (by decide) (by decide)⟩
theorem rg_goal : rg_Goal := by
  intro sz b L xs hb hL
  obtain ⟨h0, h2⟩ := bH_0 sz b L xs
  obtain ⟨M, hM⟩ : ∃ M, M = rg_M0 sz b L xs := ⟨_, rfl⟩
  have sM : rg_sz M = sz := by rw [hM]; rfl
  have kb : rg_K M b = 13 := by rw [hM]; exact if_pos rfl
  have lb : rg_L M b = L := by rw [hM]; rfl
  have ab : rg_A M b = xs := by rw [hM]; rfl
  rw [← hM] at h0 h2 ⊢
  have nob : ¬ cO M b := fun ⟨w, w1, _⟩ => by
    have w1 : rg_K M w = 6 := w1
    rw [hM] at w1
    have e : (if w = b then 13 else 0) = 6 := w1
    by_cases c : w = b
    · rw [if_pos c] at e; exact absurd e (by decide)
    · rw [if_neg c] at e; exact absurd e (by decide)
  obtain ⟨M1, rk, jf, ln, ng, cg, rn, c, ro, fx, a1, a2, a3, a4, a5, a6, a7⟩ := bT_init h0 h2
  obtain ⟨P, M2, aS, aL, aG, aN, aB, b1, b2, b3, b4, b5, c1, ⟨c2, c3, c4, c5, c6⟩, ⟨d2, d3, d4, d5, d6⟩, o2, o3, o4, o5, o6⟩ := bM_init a2
  obtain ⟨tb, htb⟩ : ∃ tb, tb = rg_sz M := ⟨_, rfl⟩
  obtain ⟨m, hm⟩ : ∃ m, m = rg_sz M1 := ⟨_, rfl⟩
  have a4 : cEn rk ln ng cg tb rn ro fx M1 := by rw [htb]; exact a4
  have tb1 : tb < rg_sz M1 := a4.1.2.2.2.1
  have rn1 : rn < rg_sz M1 := a4.1.2.2.2.2.1
  have EnP : cEn rk ln ng cg tb rn ro fx P := a4.N b3
  have RkP : cRk rk c jf P := a3.M (b3.M (tb := rk + 1)) (by omega) a2.2.2
  have xm : xM P M2 := b4.xM o2 o3 o4 o5 o6
  obtain ⟨⟨V, ⟨hH, hV, g, hg⟩, hQ⟩, hF, -⟩ := b2
  have EP : cE (0 + 875 + 267688) (2 * sz + 546 + 12) rk c jf ln ng cg tb rn ro fx P (fun _ => 0) := ⟨EnP, fun _ => 0, ⟨hH, RkP, hF, V, hV, hQ⟩, fun _ _ => rfl⟩
  have iT : ∀ f, f < 112 → f ≠ 81 → f ≠ 82 → rg_I M2 f tb = 0 := fun f h1 h2 h3 => by
    rw [b4.2.1 f tb h1, b3.2.2.1 f tb tb1 h2 h3, htb]; exact a7 f h2 h3
  have I2 : cI (0 + 875 + 267688) (2 * sz + 546 + 12) rk c jf ln ng cg tb rn ro fx s0 M2 := ⟨fun _ => 0, 0, xm.E EP, fun _ _ => rfl, rfl, fun h => absurd (show (0 : Nat) = 1 from h) (by decide), fun h => absurd (show (0 : Nat) = 2 from h) (by decide), ⟨iT 102 (by decide) (by decide) (by decide), iT 103 (by decide) (by decide) (by decide), iT 104 (by decide) (by decide) (by decide), iT 105 (by decide) (by decide) (by decide), iT 106 (by decide) (by decide) (by decide)⟩, Or.inl rfl⟩
  have b5 : mI m aS aL aG aN aB s0 M2 := by rw [hm]; exact b5
  have HF : rm_F m aS aL aG aN aB P := by
    have := b5.1
    unfold rm_F at this ⊢
    rw [b4.1.1, b4.1.2.1, b4.1.2.2.1] at this; exact this
  have NP : cN M P := a5.tr b3
  have hbM : b < rg_sz M := by omega
  have XP : jX b L xs rn m aS aL aG aN aB g P := ⟨⟨by have := NP.1; omega, by omega, c2, c3, c4, c5, c6⟩, ⟨(NP.2.2.2.2.2 b hbM nob).2, o2, o3, o4, o5, o6⟩, ⟨by rw [(NP.2.1 b hbM).1]; exact kb, by rw [(NP.2.1 b hbM).2]; exact lb, by rw [(NP.2.2.2.2.2 b hbM nob).1]; exact ab⟩, ⟨by omega, by omega, by omega, by omega, by omega, by omega⟩, fun w hw => by
    obtain ⟨i, i1, i2⟩ := hg w hw
    exact ⟨i, by omega, i2⟩⟩
  have J0 : jI (0 + 875 + 267688) (2 * sz + 546 + 12) rk c jf ln ng cg tb rn ro fx b L xs m aS aL aG aN aB g 0 s0 M2 := ⟨I2, b5, ok_s0, XP.X HF b4⟩
  obtain ⟨M', n', s', e1, e2⟩ := law_loop hL _ 0 rfl (Nat.zero_le _) s0 M2 J0
  have e1 : rZ_law_18 b tb m 0 M2 = some (some (.int 1), M') := e1
  obtain ⟨⟨y, r, ⟨-, q, ⟨hH', -⟩, -⟩, -⟩, -, -, hX'⟩ := e2
  obtain ⟨r1, r2⟩ := cH_room hH' hX'.2.2.2.2
  refine ⟨M', ?_, by omega, by omega⟩
  rw [rZ_law_u, rZ_law_e, a1]
  simp only [Option.bind_some, b1]
  rw [← htb, ← hm, e1]; rfl

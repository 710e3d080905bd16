/-! the constructors: the table -/
theorem bS_wI {u z n f a : Nat} {v : Int32} {c : Nat → Nat} {M : rg_M} (h : bS u z n c M) (h1 : f ≠ 81) (h2 : f ≠ 82) : bS u z n c (rg_wI M f a v) := by
  obtain ⟨⟨V, ⟨hH, hV, hg⟩, hQ⟩, hF, hc'⟩ := h
  refine ⟨⟨V, ⟨hH, fun w hw => ?_, hg⟩, hQ⟩, hF, hc'⟩
  obtain ⟨b, n, c1, c2, c3, c4⟩ := hV w hw
  refine ⟨b, n, c1, c2, c3, ?_⟩
  rw [cw_IIn (Or.inl (fun e => h1 e.symm)), cw_IIn (Or.inl (fun e => h2 e.symm))]; exact c4
theorem cM_wI {tb f a : Nat} {v : Int32} (M : rg_M) : cM tb M (rg_wI M f a v) := ⟨Nat.le_refl _, fun _ _ => ⟨rfl, rfl⟩, fun _ _ _ _ _ => rfl, fun _ _ _ => rfl, fun _ _ ho => ho⟩
theorem bT_init {u z n : Nat} {V : Nat → Int} {M : rg_M} (h : bH u z n V M) (h2 : ∀ f, rg_K M f ≠ 2) : ∃ (M' : rg_M) (rk jf ln ng cg rn : Nat) (c ro fx : Nat → Nat), rT_init (rg_sz M) (rg_nO M 6) = some M' ∧ bS (u + 875) (z + 546) (n + 529) c M' ∧ cRk rk c jf M' ∧ cEn rk ln ng cg (rg_sz M) rn ro fx M' ∧ cN M M' ∧ rg_sz M ≤ rn ∧ ∀ f, f ≠ 81 → f ≠ 82 → rg_I M' f (rg_sz M) = 0 := by
  obtain ⟨tb, htb⟩ : ∃ tb, tb = rg_sz M := ⟨_, rfl⟩
  obtain ⟨b1, b2⟩ := bH_nO (ci := 6) h (by decide)
  rw [← htb]
  obtain ⟨N, hN⟩ : ∃ N, N = rg_nO M 6 := ⟨_, rfl⟩
  rw [← hN] at b1 b2 ⊢
  have sN : rg_sz N = tb + 1 := by rw [hN, htb]; rfl
  have kN : rg_K N tb = 7 := by rw [hN, htb, nO_Ks]
  have iN : ∀ f, rg_I N f tb = 0 := fun f => by rw [hN, htb, nO_Is]
  have n2 : ∀ f, rg_K N f ≠ 2 := fun f hf => by
    by_cases e : f = rg_sz M
    · rw [hN, e, nO_Ks] at hf; exact absurd hf (by decide)
    · rw [hN, nO_K e] at hf; exact h2 f hf
  -- the reckoner
  obtain ⟨M1, c, jf, a1, a2, a3, a4, a5⟩ := bK_init b1 n2
  obtain ⟨rk, hrk⟩ : ∃ rk, rk = rg_sz N := ⟨_, rfl⟩
  rw [← hrk] at a1 a3
  have k1 : rg_K M1 tb = 7 := by rw [(a4.2.1 tb (by omega)).1]; exact kN
  have i1 : ∀ f, f ≠ 81 → f ≠ 82 → rg_I M1 f tb = 0 := fun f h1 h2 => by rw [a4.2.2.1 f tb (by omega) h1 h2]; exact iN f
  obtain ⟨M1', hM1⟩ : ∃ X, X = rg_wR M1 96 tb rk := ⟨_, rfl⟩
  have s1 : rg_sz M1' = rg_sz M1 := by rw [hM1]; rfl
  have S1 : bS (u + 11 + 12 + 4) (z + 2 + 2 + 2) (n + 11) c M1' := by rw [hM1]; exact bS_wR a2 (by decide) (by decide) (by decide)
  have k1' : rg_K M1' tb = 7 := by rw [hM1]; exact k1
  have r1 : rg_R M1' 96 tb = some rk := by rw [hM1, wR_Rs]
  -- the learning
  obtain ⟨M3, ro, fx, d1, d2, d3, d4, d5⟩ := bL_init (rk := rk) S1
  obtain ⟨ln, hln⟩ : ∃ ln, ln = rg_sz M1 := ⟨_, rfl⟩
  have d3 : cLn rk ln ro fx M3 := by rw [hln, ← s1]; exact d3
  have z3 : rg_sz M1 < rg_sz M3 := by have := d3.1.1; omega
  have k3 : rg_K M3 tb = 7 := by rw [(d5.2.1 tb (by omega)).1]; exact k1'
  have i3 : ∀ f, f ≠ 81 → f ≠ 82 → rg_I M3 f tb = 0 := fun f h1 h2 => by rw [d5.2.2.1 f tb (by omega) h1 h2, hM1]; exact i1 f h1 h2
  have t3 : ∀ f, f ≠ 80 → rg_R M3 f tb = rg_R M1' f tb := fun f hf => d5.2.2.2.1 f tb (by omega) hf
  obtain ⟨M3', hM3⟩ : ∃ X, X = rg_wR M3 97 tb ln := ⟨_, rfl⟩
  have s3 : rg_sz M3' = rg_sz M3 := by rw [hM3]; rfl
  have S3 : bS (u + 11 + 12 + 4 + 740) (z + 2 + 2 + 2 + 500) (n + 11 + 486) c M3' := by rw [hM3]; exact bS_wR d2 (by decide) (by decide) (by decide)
  have X3 : bX (fun i => i < 243) fx M3' := by rw [hM3]; exact d4
  have k3' : rg_K M3' tb = 7 := by rw [hM3]; exact k3
  have t3' : ∀ f, f ≠ 80 → f ≠ 97 → rg_R M3' f tb = rg_R M1' f tb := fun f h1 h2 => by rw [hM3, wR_R (Or.inl h2)]; exact t3 f h1
  have r3 : rg_R M3' 97 tb = some ln := by rw [hM3, wR_Rs]
  have r3a : rg_R M3' 96 tb = some rk := by rw [t3' _ (by decide) (by decide)]; exact r1
  -- the game of numbers
  obtain ⟨M6, rn, f, e1, e2, ⟨e3, e4, e5, e6, e7, e8, e12⟩, e9, e10, e11⟩ := bN_init (rk := rk) (ln := ln) S3 X3
  obtain ⟨ng, hng⟩ : ∃ ng, ng = rg_sz M3 := ⟨_, rfl⟩
  have e9 : rg_R M6 48 ng = some rk ∧ rg_R M6 49 ng = some ln ∧ rg_R M6 50 ng = some rn ∧ rg_R M6 51 ng = some f := by rw [hng, ← s3]; exact e9
  have e6 : rg_K M6 ng = 4 := by rw [hng, ← s3]; exact e6
  have k6 : rg_K M6 tb = 7 := by rw [(e11.2.1 tb (by omega)).1]; exact k3'
  have i6 : ∀ f, f ≠ 81 → f ≠ 82 → rg_I M6 f tb = 0 := fun f h1 h2 => by rw [e11.2.2.1 f tb (by omega) h1 h2, hM3]; exact i3 f h1 h2
  have t6 : ∀ f, f ≠ 80 → rg_R M6 f tb = rg_R M3' f tb := fun f hf => e11.2.2.2.1 f tb (by omega) hf
  obtain ⟨M6', hM6⟩ : ∃ X, X = rg_wR M6 98 tb ng := ⟨_, rfl⟩
  have s6 : rg_sz M6' = rg_sz M6 := by rw [hM6]; rfl
  have S6 : bS (u + 11 + 12 + 4 + 740 + 31) (z + 2 + 2 + 2 + 500 + 6) (n + 11 + 486 + 2) c M6' := by rw [hM6]; exact bS_wR e2 (by decide) (by decide) (by decide)
  have X6 : bX (fun i => i < 244) (va_up fx 243 f) M6' := by rw [hM6]; exact e10
  have k6' : rg_K M6' tb = 7 := by rw [hM6]; exact k6
  have t6' : ∀ f, f ≠ 80 → f ≠ 98 → rg_R M6' f tb = rg_R M3' f tb := fun f h1 h2 => by rw [hM6, wR_R (Or.inl h2)]; exact t6 f h1
  have r6a : rg_R M6' 96 tb = some rk := by rw [t6' _ (by decide) (by decide)]; exact r3a
  have r6b : rg_R M6' 97 tb = some ln := by rw [t6' _ (by decide) (by decide)]; exact r3
  have r6c : rg_R M6' 98 tb = some ng := by rw [hM6, wR_Rs]
  have m36 : cM tb M3 M6' := by
    have x1 : cM tb M3 M3' := by rw [hM3]; exact cM_wR _ (by decide)
    have x2 : cM tb M6 M6' := by rw [hM6]; exact cM_wR _ (by decide)
    exact x1.tr (e11.M.tr x2)
  have L6 : cLn rk ln ro (va_up fx 243 f) M6' := (d3.M m36 (by omega)).fx (fun i hi => rg_up_ne (by omega)) (fun _ _ => rfl)
  -- the game of cards
  obtain ⟨M9, r6, fx', g1, g2, ⟨g3, g4, g5, g6, g7⟩, g8, g9, g10, g11, g12⟩ := bC_init S6 L6 X6
  obtain ⟨cg, hcg⟩ : ∃ cg, cg = rg_sz M6 := ⟨_, rfl⟩
  have g8 : rg_R M9 0 cg = some rk ∧ rg_R M9 1 cg = some ln ∧ rg_R M9 2 cg = some r6 ∧ rg_R M9 3 cg = some (fx' 244) ∧ rg_R M9 4 cg = some (fx' 245) ∧ rg_R M9 5 cg = some (fx' 246) := by rw [hcg, ← s6]; exact g8
  have g5 : rg_K M9 cg = 1 := by rw [hcg, ← s6]; exact g5
  have k9 : rg_K M9 tb = 7 := by rw [(g12.2.1 tb (by omega)).1]; exact k6'
  have i9 : ∀ f, f ≠ 81 → f ≠ 82 → rg_I M9 f tb = 0 := fun f h1 h2 => by rw [g12.2.2.1 f tb (by omega) h1 h2, hM6]; exact i6 f h1 h2
  have t9 : ∀ f, f ≠ 80 → rg_R M9 f tb = rg_R M6' f tb := fun f hf => g12.2.2.2.1 f tb (by omega) hf
  obtain ⟨M9', hM9⟩ : ∃ X, X = rg_wR M9 99 tb cg := ⟨_, rfl⟩
  have s9 : rg_sz M9' = rg_sz M9 := by rw [hM9]; rfl
  have S9 : bS (u + 11 + 12 + 4 + 740 + 31 + 73) (z + 2 + 2 + 2 + 500 + 6 + 30) (n + 11 + 486 + 2 + 26) c M9' := by rw [hM9]; exact bS_wR g2 (by decide) (by decide) (by decide)
  have X9 : bX (PC 40) fx' M9' := by rw [hM9]; exact g10
  have k9' : rg_K M9' tb = 7 := by rw [hM9]; exact k9
  have t9' : ∀ f, f ≠ 80 → f ≠ 99 → rg_R M9' f tb = rg_R M6' f tb := fun f h1 h2 => by rw [hM9, wR_R (Or.inl h2)]; exact t9 f h1
  have r9 : rg_R M9' 99 tb = some cg := by rw [hM9, wR_Rs]
  -- two fractions
  obtain ⟨M10, p1, p2, p3, p4, p5⟩ := bS_nF S9
  have k10 : rg_K M10 tb = 7 := by rw [(p3.2.1 tb (by omega)).1]; exact k9'
  have i10 : ∀ f, f ≠ 81 → f ≠ 82 → rg_I M10 f tb = 0 := fun f h1 h2 => by rw [p3.2.2.1 f tb (by omega) h1 h2, hM9]; exact i9 f h1 h2
  obtain ⟨M10', hM10⟩ : ∃ X, X = rg_wR M10 100 tb (rg_sz M9) := ⟨_, rfl⟩
  have s10 : rg_sz M10' = rg_sz M10 := by rw [hM10]; rfl
  have S10 : bS (u + 11 + 12 + 4 + 740 + 31 + 73 + 2) (z + 2 + 2 + 2 + 500 + 6 + 30 + 2) (n + 11 + 486 + 2 + 26 + 2) c M10' := by rw [hM10]; exact bS_wR p2 (by decide) (by decide) (by decide)
  have X10 : bX (fun i => PC 40 i ∨ i = 247) (va_up fx' 247 (rg_sz M9')) M10' := by
    have := X9.new p3 p4 p5 (P' := fun i => PC 40 i ∨ i = 247) (k := 247) (fun i hi => hi)
    rw [hM10]; exact this
  have k10' : rg_K M10' tb = 7 := by rw [hM10]; exact k10
  have t10' : ∀ f, f ≠ 80 → f ≠ 100 → rg_R M10' f tb = rg_R M9' f tb := fun f h1 h2 => by rw [hM10, wR_R (Or.inl h2)]; exact p3.2.2.2.1 f tb (by omega) h1
  have r10 : rg_R M10' 100 tb = some (rg_sz M9) := by rw [hM10, wR_Rs]
  obtain ⟨M11, q1, q2, q3, q4, q5⟩ := bS_nF S10
  have k11 : rg_K M11 tb = 7 := by rw [(q3.2.1 tb (by omega)).1]; exact k10'
  have i11 : ∀ f, f ≠ 81 → f ≠ 82 → rg_I M11 f tb = 0 := fun f h1 h2 => by rw [q3.2.2.1 f tb (by omega) h1 h2, hM10]; exact i10 f h1 h2
  obtain ⟨F, hF⟩ : ∃ X, X = rg_wI (rg_wR M11 101 tb (rg_sz M10)) 102 tb 0 := ⟨_, rfl⟩
  have sF : rg_sz F = rg_sz M11 := by rw [hF]; rfl
  have SF : bS (u + 875) (z + 546) (n + 529) c F := by rw [hF]; exact bS_wI (bS_wR q2 (by decide) (by decide) (by decide)) (by decide) (by decide)
  have XF : bX vx (va_up (va_up fx' 247 (rg_sz M9')) 248 (rg_sz M10')) F := by
    have := X10.new q3 q4 q5 (P' := vx) (k := 248) (fun i hi => by unfold vx at hi; show (PC 40 i ∨ i = 247) ∨ i = 248; unfold PC; omega)
    rw [hF]; exact this
  have kF : rg_K F tb = 7 := by rw [hF]; exact k11
  have tF : ∀ f, f ≠ 80 → f ≠ 101 → rg_R F f tb = rg_R M10' f tb := fun f h1 h2 => by
    rw [hF]
    show rg_R (rg_wR M11 101 tb (rg_sz M10)) f tb = _
    rw [wR_R (Or.inl h2)]; exact q3.2.2.2.1 f tb (by omega) h1
  have rF : rg_R F 101 tb = some (rg_sz M10) := by
    rw [hF]
    show rg_R (rg_wR M11 101 tb (rg_sz M10)) 101 tb = _
    rw [wR_Rs]
  -- frames
  have m11F : cM tb M11 F := by rw [hF]; exact (cM_wR _ (by decide)).tr (cM_wI _)
  have m10F : cM tb M10' F := q3.M.tr m11F
  have m9F : cM tb M9 F := by
    have x1 : cM tb M9 M9' := by rw [hM9]; exact cM_wR _ (by decide)
    have x2 : cM tb M10 M10' := by rw [hM10]; exact cM_wR _ (by decide)
    exact x1.tr (p3.M.tr (x2.tr m10F))
  have m6F' : cM tb M6' F := g12.M.tr m9F
  have m6F : cM tb M6 F := by
    have x1 : cM tb M6 M6' := by rw [hM6]; exact cM_wR _ (by decide)
    exact x1.tr m6F'
  have m3F' : cM tb M3' F := e11.M.tr m6F
  have m1F : cM tb M1 F := by
    have x1 : cM tb M1 M1' := by rw [hM1]; exact cM_wR _ (by decide)
    have x2 : cM tb M3 M3' := by rw [hM3]; exact cM_wR _ (by decide)
    exact x1.tr (d5.M.tr (x2.tr m3F'))
  obtain ⟨fF, hfF⟩ : ∃ X, X = va_up (va_up fx' 247 (rg_sz M9')) 248 (rg_sz M10') := ⟨_, rfl⟩
  rw [← hfF] at XF
  have w : ∀ i, i ≠ 247 → i ≠ 248 → fF i = fx' i := fun i h1 h2 => by rw [hfF, rg_up_ne h2, rg_up_ne h1]
  have w247 : fF 247 = rg_sz M9 := by rw [hfF, rg_up_ne (by decide), rg_up_eq, s9]
  have w248 : fF 248 = rg_sz M10 := by rw [hfF, rg_up_eq, s10]
  have w243 : fF 243 = f := by rw [w _ (by decide) (by decide), g11 _ (by decide), rg_up_eq]
  have LF : cLn rk ln (va_up ro 6 r6) fF F := (L6.M m6F' (by omega)).fx (fun i hi => by rw [w _ (by omega) (by omega)]; exact g11 i (by omega)) (fun k hk => rg_up_ne (by omega))
  have RkF : cRk rk c jf F := a3.M m1F (by omega) a2.2.2
  obtain ⟨⟨l1, l2⟩, l3, l4, l5⟩ := LF
  have ngM : ng < rg_sz M6 := by omega
  have cgM : cg < rg_sz M9 := by omega
  have szF1 := m6F.1
  have szF2 := m9F.1
  have Rng : ∀ f, f ≠ 80 → rg_R F f ng = rg_R M6 f ng := fun f hf => m6F.2.2.1 f ng ngM (by omega) hf
  have Rcg : ∀ f, f ≠ 80 → rg_R F f cg = rg_R M9 f cg := fun f hf => m9F.2.2.1 f cg cgM (by omega) hf
  have kr6 := (m9F.2.1 r6 g4)
  have rnb : tb ≤ rn := by omega
  have FN : cN M F := by
    have y1 : cN M M1' := by rw [hM1]; exact (b2.tr a4).wR (by omega) (by decide)
    have y3 : cN M M3' := by rw [hM3]; exact (y1.tr d5).wR (by omega) (by decide)
    have y6 : cN M M6' := by rw [hM6]; exact (y3.tr e11).wR (by omega) (by decide)
    have y9 : cN M M9' := by rw [hM9]; exact (y6.tr g12).wR (by omega) (by decide)
    have y10 : cN M M10' := by rw [hM10]; exact (y9.tr p3).wR (by omega) (by decide)
    rw [hF]; exact ((y10.tr q3).wR (by omega) (by decide)).wI (by omega)
  refine ⟨F, rk, jf, ln, ng, cg, rn, c, va_up ro 6 r6, fF, ?_, SF, RkF, ⟨⟨l1, by omega, by omega, by omega, by omega, RkF.1, m6F.2.2.2.2 rn e4 e5⟩, ⟨l2, by rw [(m6F.2.1 ng ngM).1]; exact e6, by rw [(m9F.2.1 cg cgM).1]; exact g5, kF, by rw [(m6F.2.1 rn e4).1]; exact e7, RkF.2.1, by rw [(m6F.2.1 rn e4).2]; exact e8⟩, l3, ?_, ?_, ?_, fun k hk => ?_, fun k i hk hi => l5 k i hk hi, fun i hi => ?_, XF.1, XF.2⟩, FN, rnb, fun f h1 h2 => ?_⟩
  · have c1 : rg_K (rg_nO M1 2) tb = 7 := by rw [nO_K (by omega)]; exact k1
    have c2 : rg_R (rg_nO (rg_wR M1 96 tb rk) 2) 96 tb = some rk := by rw [nO_R (by show tb ≠ rg_sz M1; omega), wR_Rs]
    have c3 : rL_init (rg_sz M1) rk (rg_nO (rg_wR M1 96 tb rk) 2) = some M3 := by rw [← hM1, ← s1]; exact d1
    have c4 : rg_K (rg_nO M3 3) tb = 7 := by rw [nO_K (by omega)]; exact k3
    have c5 : rg_R (rg_nO (rg_wR M3 97 tb (rg_sz M1)) 3) 96 tb = some rk := by rw [← hln, ← hM3, nO_R (by omega)]; exact r3a
    have c6 : rg_R (rg_nO (rg_wR M3 97 tb (rg_sz M1)) 3) 97 tb = some ln := by rw [← hln, ← hM3, nO_R (by omega)]; exact r3
    have c7 : rN_init (rg_sz M3) rk ln (rg_nO (rg_wR M3 97 tb (rg_sz M1)) 3) = some M6 := by rw [← hln, ← hM3, ← s3]; exact e1
    have c8 : rg_K (rg_nO M6 0) tb = 7 := by rw [nO_K (by omega)]; exact k6
    have c9 : rg_R (rg_nO (rg_wR M6 98 tb (rg_sz M3)) 0) 96 tb = some rk := by rw [← hng, ← hM6, nO_R (by omega)]; exact r6a
    have c10 : rg_R (rg_nO (rg_wR M6 98 tb (rg_sz M3)) 0) 97 tb = some ln := by rw [← hng, ← hM6, nO_R (by omega)]; exact r6b
    have c11 : rC_init (rg_sz M6) rk ln (rg_nO (rg_wR M6 98 tb (rg_sz M3)) 0) = some M9 := by rw [← hng, ← hM6, ← s6]; exact g1
    have c12 : rF_init (rg_sz M9) (rg_nO (rg_wR M9 99 tb (rg_sz M6)) 1) = some M10 := by rw [← hcg, ← hM9, ← s9]; exact p1
    have c13 : rF_init (rg_sz M10) (rg_nO (rg_wR M10 100 tb (rg_sz M9)) 1) = some M11 := by rw [← hM10, ← s10]; exact q1
    rw [rT_init_u, rT_init_e, ← hrk]
    simp only [a1, Option.bind_some, k1, if_true, c1, c2, c3, k3, c4, c5, c6, c7, k6, c8, c9, c10, c11, k9, c12, k10, c13, k11]
    rw [hF]; rfl
  · rw [Rng 48 (by decide), Rng 49 (by decide), Rng 50 (by decide), Rng 51 (by decide), w243]; exact e9
  · rw [Rcg 0 (by decide), Rcg 1 (by decide), Rcg 2 (by decide), Rcg 3 (by decide), Rcg 4 (by decide), Rcg 5 (by decide), rg_up_eq, w 244 (by decide) (by decide), w 245 (by decide) (by decide), w 246 (by decide) (by decide)]; exact g8
  · rw [tF 96 (by decide) (by decide), tF 97 (by decide) (by decide), tF 98 (by decide) (by decide), tF 99 (by decide) (by decide), tF 100 (by decide) (by decide), rF, r10, t10' 96 (by decide) (by decide), t10' 97 (by decide) (by decide), t10' 98 (by decide) (by decide), t10' 99 (by decide) (by decide), r9, t9' 96 (by decide) (by decide), t9' 97 (by decide) (by decide), t9' 98 (by decide) (by decide), r6a, r6b, r6c, w247, w248]
    exact ⟨rfl, rfl, rfl, rfl, rfl, rfl⟩
  · by_cases e : k = 6
    · rw [e, rg_up_eq]; exact ⟨by omega, by rw [kr6.1]; exact g6, by rw [kr6.2]; exact g7⟩
    · exact l4 k (by omega)
  · rw [rg_up_eq, m9F.2.2.2.1 _ _ g4, w _ (by unfold plx; split <;> omega) (by unfold plx; split <;> omega)]; exact g9 i hi
  · rw [hF]
    by_cases e : f = 102
    · rw [e, cw_II]
    · rw [cw_IIn (Or.inl e)]; exact i11 f h1 h2

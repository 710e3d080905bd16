/-! the constructors: the learning's constructor -/
theorem bL_init {u z n rk : Nat} {c : Nat → Nat} {M : rg_M} (h : bS u z n c M) : ∃ M' ro fx, rL_init (rg_sz M) rk (rg_nO M 2) = some M' ∧ bS (u + 740) (z + 500) (n + 486) c M' ∧ cLn rk (rg_sz M) ro fx M' ∧ bX (fun i => i < 243) fx M' ∧ cN M M' := by
  obtain ⟨b1, b2⟩ := bS_nO (ci := 2) h (by decide) (by decide)
  obtain ⟨ln, hln⟩ : ∃ ln, ln = rg_sz M := ⟨_, rfl⟩
  rw [← hln]
  obtain ⟨N, hN⟩ : ∃ N, N = rg_nO M 2 := ⟨_, rfl⟩
  rw [← hN] at b1 b2 ⊢
  have sN : rg_sz N = ln + 1 := by rw [hN, hln]; rfl
  have s0 : bL (u + 14) (z + 2) n c M ln 0 (fun _ => 0) N := ⟨b1, b2, ⟨by omega, by omega, by rw [hN, hln, nO_Ks]⟩, fun j hj => by omega, fun j l hj => by omega⟩
  have s1 := bL_step s0 (by decide)
  have s2 := bL_step s1 (by decide)
  have s3 := bL_step s2 (by decide)
  have s4 := bL_step s3 (by decide)
  have s5 := bL_step s4 (by decide)
  have s6 := bL_step s5 (by decide)
  obtain ⟨P6, hP6⟩ : ∃ P6, P6 = (rg_wR (rg_nA (rg_wR (rg_nA (rg_wR (rg_nA (rg_wR (rg_nA (rg_wR (rg_nA (rg_wR (rg_nA N 12 40) 33 ln (rg_sz N)) 12 40) 34 ln (rg_sz (rg_nA N 12 40))) 12 40) 35 ln (rg_sz (rg_nA (rg_nA N 12 40) 12 40))) 12 40) 36 ln (rg_sz (rg_nA (rg_nA (rg_nA N 12 40) 12 40) 12 40))) 12 40) 37 ln (rg_sz (rg_nA (rg_nA (rg_nA (rg_nA N 12 40) 12 40) 12 40) 12 40))) 12 40) 38 ln (rg_sz (rg_nA (rg_nA (rg_nA (rg_nA (rg_nA N 12 40) 12 40) 12 40) 12 40) 12 40))) := ⟨_, rfl⟩
  obtain ⟨ro, hro⟩ : ∃ ro, bL (u + 14) (z + 2) n c M ln 6 ro P6 := ⟨_, by rw [hP6]; exact s6⟩
  have esz : rg_sz (rg_nA (rg_nA (rg_nA (rg_nA (rg_nA (rg_nA N 12 40) 12 40) 12 40) 12 40) 12 40) 12 40) = rg_sz P6 := by rw [hP6]; rfl
  have k1 : rg_K (rg_nA N 12 40) ln = 3 := s1.2.2.1.2.2
  have k2 : rg_K (rg_nA (rg_nA N 12 40) 12 40) ln = 3 := s2.2.2.1.2.2
  have k3 : rg_K (rg_nA (rg_nA (rg_nA N 12 40) 12 40) 12 40) ln = 3 := s3.2.2.1.2.2
  have k4 : rg_K (rg_nA (rg_nA (rg_nA (rg_nA N 12 40) 12 40) 12 40) 12 40) ln = 3 := s4.2.2.1.2.2
  have k5 : rg_K (rg_nA (rg_nA (rg_nA (rg_nA (rg_nA N 12 40) 12 40) 12 40) 12 40) 12 40) ln = 3 := s5.2.2.1.2.2
  have k6 : rg_K (rg_nA (rg_nA (rg_nA (rg_nA (rg_nA (rg_nA N 12 40) 12 40) 12 40) 12 40) 12 40) 12 40) ln = 3 := s6.2.2.1.2.2
  obtain ⟨hS6, hN6, ⟨l1, l2, l3⟩, hr6, hi6⟩ := hro
  have hc40 : (40 : Int32).toNatClampNeg = 40 := by decide
  have p40 : ((0 : Int32) ≤ 40 ∧ 40 ≤ 60000000) = True := by simp
  -- three fractions
  obtain ⟨N1, a1, a2, a3, a4, a5⟩ := bS_nF hS6
  have kn1 : rg_K N1 ln = 3 := by rw [(a3.2.1 ln l2).1]; exact l3
  obtain ⟨N1', hN1⟩ : ∃ X, X = rg_wR N1 39 ln (rg_sz P6) := ⟨_, rfl⟩
  have a2' : bS (u + 14 + 40 * 6 + 2) (z + 2 + 2 * 6 + 2) (n + 2) c N1' := by rw [hN1]; exact bS_wR a2 (by decide) (by decide) (by decide)
  obtain ⟨N2, c1, c2, c3, c4, c5⟩ := bS_nF a2'
  have z1 : rg_sz N1' = rg_sz N1 := by rw [hN1]; rfl
  have kn1' : rg_K N1' ln = 3 := by rw [hN1]; exact kn1
  have kn2 : rg_K N2 ln = 3 := by rw [(c3.2.1 ln (by omega)).1]; exact kn1'
  obtain ⟨N2', hN2⟩ : ∃ X, X = rg_wR N2 40 ln (rg_sz N1) := ⟨_, rfl⟩
  have c2' : bS (u + 14 + 40 * 6 + 2 + 2) (z + 2 + 2 * 6 + 2 + 2) (n + 2 + 2) c N2' := by rw [hN2]; exact bS_wR c2 (by decide) (by decide) (by decide)
  obtain ⟨N3, d1, d2, d3, d4, d5⟩ := bS_nF c2'
  have z2 : rg_sz N2' = rg_sz N2 := by rw [hN2]; rfl
  have kn2' : rg_K N2' ln = 3 := by rw [hN2]; exact kn2
  have kn3 : rg_K N3 ln = 3 := by rw [(d3.2.1 ln (by omega)).1]; exact kn2'
  obtain ⟨L0, hL0⟩ : ∃ X, X = rg_wR (rg_wR N3 41 ln (rg_sz N2)) 32 ln rk := ⟨_, rfl⟩
  have z3 : rg_sz L0 = rg_sz N3 := by rw [hL0]; rfl
  have e2 : bS (u + 14 + 40 * 6 + 2 + 2 + 2) (z + 2 + 2 * 6 + 2 + 2 + 2) (n + 2 + 2 + 2) c L0 := by rw [hL0]; exact bS_wR (bS_wR d2 (by decide) (by decide) (by decide)) (by decide) (by decide) (by decide)
  -- frames
  have f1 : cN M N1' := by rw [hN1]; exact (hN6.tr a3).wR l1 (by decide)
  have f2 : cN M N2' := by rw [hN2]; exact (f1.tr c3).wR l1 (by decide)
  have f3 : cN M L0 := by rw [hL0]; exact ((f2.tr d3).wR l1 (by decide)).wR l1 (by decide)
  -- references
  have R1 : ∀ f, f ≠ 39 → f ≠ 80 → rg_R N1' f ln = rg_R P6 f ln := fun f h1 h2 => by rw [hN1, wR_R (Or.inl h1)]; exact a3.2.2.2.1 f ln l2 h2
  have R2 : ∀ f, f ≠ 40 → f ≠ 80 → rg_R N2' f ln = rg_R N1' f ln := fun f h1 h2 => by rw [hN2, wR_R (Or.inl h1)]; exact c3.2.2.2.1 f ln (by omega) h2
  have R3 : ∀ f, f ≠ 41 → f ≠ 32 → f ≠ 80 → rg_R L0 f ln = rg_R N2' f ln := fun f h1 h2 h3 => by rw [hL0, wR_R (Or.inl h2), wR_R (Or.inl h1)]; exact d3.2.2.2.1 f ln (by omega) h3
  have v39 : rg_R L0 39 ln = some (rg_sz P6) := by rw [R3 _ (by decide) (by decide) (by decide), R2 _ (by decide) (by decide), hN1, wR_Rs]
  have v40 : rg_R L0 40 ln = some (rg_sz N1) := by rw [R3 _ (by decide) (by decide) (by decide), hN2, wR_Rs]
  have v41 : rg_R L0 41 ln = some (rg_sz N2) := by rw [hL0, wR_R (Or.inl (by decide)), wR_Rs]
  have v32 : rg_R L0 32 ln = some rk := by rw [hL0, wR_Rs]
  have v33 : ∀ k, k < 6 → rg_R L0 (33 + k) ln = some (ro k) := fun k hk => by rw [R3 _ (by omega) (by omega) (by omega), R2 _ (by omega) (by omega), R1 _ (by omega) (by omega)]; exact (hr6 k hk).1
  have KL : ∀ a, a < rg_sz P6 → rg_K L0 a = rg_K P6 a ∧ rg_L L0 a = rg_L P6 a := fun a ha => by
    have x1 : rg_K L0 a = rg_K N3 a ∧ rg_L L0 a = rg_L N3 a := by rw [hL0]; exact ⟨rfl, rfl⟩
    have x2 := d3.2.1 a (by omega)
    have x3 : rg_K N2' a = rg_K N2 a ∧ rg_L N2' a = rg_L N2 a := by rw [hN2]; exact ⟨rfl, rfl⟩
    have x4 := c3.2.1 a (by omega)
    have x5 : rg_K N1' a = rg_K N1 a ∧ rg_L N1' a = rg_L N1 a := by rw [hN1]; exact ⟨rfl, rfl⟩
    have x6 := a3.2.1 a ha
    exact ⟨(x1.1.trans x2.1).trans ((x3.1.trans x4.1).trans (x5.1.trans x6.1)), (x1.2.trans x2.2).trans ((x3.2.trans x4.2).trans (x5.2.trans x6.2))⟩
  -- fractions by index
  have X0 : bX (fun _ => False) (fun _ => 0) P6 := ⟨fun i hi => absurd hi id, fun i j hi => absurd hi id⟩
  have X1 : bX (fun i => i = 240) (va_up (fun _ => 0) 240 (rg_sz P6)) N1' := by
    have := X0.new a3 a4 a5 (P' := fun i => i = 240) (k := 240) (fun i hi => Or.inr hi)
    rw [hN1]; exact this
  have X2 : bX (fun i => i = 240 ∨ i = 241) (va_up (va_up (fun _ => 0) 240 (rg_sz P6)) 241 (rg_sz N1')) N2' := by
    have := X1.new c3 c4 c5 (P' := fun i => i = 240 ∨ i = 241) (k := 241) (fun i hi => hi)
    rw [hN2]; exact this
  have X3 : bX (PL 0 0) (va_up (va_up (va_up (fun _ => 0) 240 (rg_sz P6)) 241 (rg_sz N1')) 242 (rg_sz N2')) L0 := by
    have := X2.new d3 d4 d5 (P' := PL 0 0) (k := 242) (fun i hi => by unfold PL at hi; omega)
    rw [hL0]; exact this
  obtain ⟨f0, hf0⟩ : ∃ f0, f0 = va_up (va_up (va_up (fun _ => 0) 240 (rg_sz P6)) 241 (rg_sz N1')) 242 (rg_sz N2') := ⟨_, rfl⟩
  rw [← hf0] at X3
  have w40 : f0 240 = rg_sz P6 := by rw [hf0, rg_up_ne (by decide), rg_up_ne (by decide), rg_up_eq]
  have w41 : f0 241 = rg_sz N1 := by rw [hf0, rg_up_ne (by decide), rg_up_eq, z1]
  have w42 : f0 242 = rg_sz N2 := by rw [hf0, rg_up_eq, z2]
  have kL0 : rg_K L0 ln = 3 := by rw [(KL ln l2).1]; exact l3
  have I0 : bI (u + 260) (z + 20) (n + 6) c ro f0 M L0 ln 0 0 f0 L0 := ⟨e2, f3, fun _ _ => rfl, ⟨l1, by omega, kL0⟩, fun k hk => ⟨v33 k hk, (hr6 k hk).2.1, by have := (hr6 k hk).2.2.1; omega, by rw [(KL _ (hr6 k hk).2.2.1).1]; exact (hr6 k hk).2.2.2.1, by rw [(KL _ (hr6 k hk).2.2.1).2]; exact (hr6 k hk).2.2.2.2⟩, fun k i _ _ hd => by omega, X3, fun _ _ => rfl, hi6⟩
  obtain ⟨fx, M', g1, g2⟩ := bI_loop _ 0 rfl (Nat.zero_le _) f0 L0 I0
  have g1 : rL_init_98 ln 0 L0 = _ := g1
  obtain ⟨hS, hN', hR, ⟨y1, y2, y3⟩, hr, hQ, hX, h0, hi⟩ := g2
  have v : ∀ f, f ≠ 80 → rg_R M' f ln = rg_R L0 f ln := hR
  refine ⟨M', ro, fx, ?_, hS, ⟨⟨y2, y3⟩, ⟨(v 32 (by decide)).trans v32, (v 33 (by decide)).trans (v33 0 (by decide)), (v 34 (by decide)).trans (v33 1 (by decide)), (v 35 (by decide)).trans (v33 2 (by decide)), (v 36 (by decide)).trans (v33 3 (by decide)), (v 37 (by decide)).trans (v33 4 (by decide)), (v 38 (by decide)).trans (v33 5 (by decide)), ?_, ?_, ?_⟩, fun k hk => (hr k hk).2.2, fun k i hk hi' => hQ k i hk hi' (Or.inl hi')⟩, ⟨fun i hi' => hX.1 i ?_, fun i j hi' hj' e => hX.2 i j ?_ ?_ e⟩, hN'⟩
  · have c1 : rF_init (rg_sz N1) (rg_nO (rg_wR N1 39 ln (rg_sz P6)) 1) = some N2 := by rw [← hN1, ← z1]; exact c1
    have d1 : rF_init (rg_sz N2) (rg_nO (rg_wR N2 40 ln (rg_sz N1)) 1) = some N3 := by rw [← hN2, ← z2]; exact d1
    rw [rL_init_u, rL_init_e]
    simp only [hc40, p40, if_true, k1, k2, k3, k4, k5, k6]
    rw [← hP6, esz]
    simp only [a1, c1, d1, Option.bind_some, kn1, kn2, kn3, if_true]
    rw [← hL0, g1]; rfl
  · rw [v 39 (by decide), v39, h0 _ (by decide), w40]
  · rw [v 40 (by decide), v40, h0 _ (by decide), w41]
  · rw [v 41 (by decide), v41, h0 _ (by decide), w42]
  · have hi' : i < 243 := hi'
    unfold PL; omega
  · have hi' : i < 243 := hi'
    unfold PL; omega
  · have hj' : j < 243 := hj'
    unfold PL; omega

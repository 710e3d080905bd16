/-! the constructors: the reference's constructor -/
theorem bM_init {u z n : Nat} {c : Nat → Nat} {M : rg_M} (h : bS u z n c M) : ∃ (P M' : rg_M) (aS aL aG aN aB : Nat), rM_init (rg_sz M) (rg_nO M 7) = some M' ∧ bS (u + 267688) (z + 12) n c P ∧ cN M P ∧ mX aS aL aG aN aB P M' ∧ mI (rg_sz M) aS aL aG aN aB s0 M' ∧ (rg_sz M < rg_sz P ∧ (aS < rg_sz P ∧ aL < rg_sz P ∧ aG < rg_sz P ∧ aN < rg_sz P ∧ aB < rg_sz P) ∧ (rg_sz M ≤ aS ∧ rg_sz M ≤ aL ∧ rg_sz M ≤ aG ∧ rg_sz M ≤ aN ∧ rg_sz M ≤ aB) ∧ ¬ cO P aS ∧ ¬ cO P aL ∧ ¬ cO P aG ∧ ¬ cO P aN ∧ ¬ cO P aB) := by
  obtain ⟨m, hm⟩ : ∃ m, m = rg_sz M := ⟨_, rfl⟩
  obtain ⟨b1, b2⟩ := bS_nO (ci := 7) h (by decide) (by decide)
  rw [← hm]
  obtain ⟨N, hN⟩ : ∃ N, N = rg_nO M 7 := ⟨_, rfl⟩
  rw [← hN] at b1 b2 ⊢
  have sN : rg_sz N = m + 1 := by rw [hN, hm]; rfl
  have kN : rg_K N m = 8 := by rw [hN, hm, nO_Ks]
  have s0' : bM (u + 12) (z + 2) n c M m N := ⟨b1, b2, ⟨by omega, by omega, kN⟩, fun f => by rw [hN, hm, nO_Is]⟩
  obtain ⟨x1, r1, o1, ⟨k1, l1, z1, c1⟩, w1⟩ := bM_step s0' 112 9 266800 (by decide) (by decide)
  obtain ⟨P1, hP1⟩ : ∃ X, X = rg_wR (rg_nA N 9 266800) 112 m (rg_sz N) := ⟨_, rfl⟩
  rw [← hP1] at x1 r1 o1 k1 l1 z1 c1 w1
  have t1 : rg_sz P1 = m + 2 := by rw [hP1]; show rg_sz N + 1 = _; omega
  obtain ⟨x2, r2, o2, ⟨k2, l2, z2, c2⟩, w2⟩ := bM_step x1 113 9 420 (by decide) (by decide)
  obtain ⟨P2, hP2⟩ : ∃ X, X = rg_wR (rg_nA P1 9 420) 113 m (rg_sz P1) := ⟨_, rfl⟩
  rw [← hP2] at x2 r2 o2 k2 l2 z2 c2 w2
  have t2 : rg_sz P2 = m + 3 := by rw [hP2]; show rg_sz P1 + 1 = _; omega
  obtain ⟨x3, r3, o3, ⟨k3, l3, z3, c3⟩, w3⟩ := bM_step x2 114 9 420 (by decide) (by decide)
  obtain ⟨P3, hP3⟩ : ∃ X, X = rg_wR (rg_nA P2 9 420) 114 m (rg_sz P2) := ⟨_, rfl⟩
  rw [← hP3] at x3 r3 o3 k3 l3 z3 c3 w3
  have t3 : rg_sz P3 = m + 4 := by rw [hP3]; show rg_sz P2 + 1 = _; omega
  obtain ⟨x4, r4, o4, ⟨k4, l4, z4, c4⟩, w4⟩ := bM_step x3 122 9 25 (by decide) (by decide)
  obtain ⟨P4, hP4⟩ : ∃ X, X = rg_wR (rg_nA P3 9 25) 122 m (rg_sz P3) := ⟨_, rfl⟩
  rw [← hP4] at x4 r4 o4 k4 l4 z4 c4 w4
  have t4 : rg_sz P4 = m + 5 := by rw [hP4]; show rg_sz P3 + 1 = _; omega
  obtain ⟨x5, r5, o5, ⟨k5, l5, z5, c5⟩, w5⟩ := bM_step x4 123 11 11 (by decide) (by decide)
  obtain ⟨P5, hP5⟩ : ∃ X, X = rg_wR (rg_nA P4 11 11) 123 m (rg_sz P4) := ⟨_, rfl⟩
  rw [← hP5] at x5 r5 o5 k5 l5 z5 c5 w5
  have t5 : rg_sz P5 = m + 6 := by rw [hP5]; show rg_sz P4 + 1 = _; omega
  have y1 : rg_K (rg_nA N 9 266800) m = 8 := by
    have := x1.2.2.1.2.2
    rw [hP1] at this; exact this
  have y2 : rg_K (rg_nA (rg_nA N 9 266800) 9 420) m = 8 := by
    have := x2.2.2.1.2.2
    rw [hP2, hP1] at this; exact this
  have y3 : rg_K (rg_nA (rg_nA (rg_nA N 9 266800) 9 420) 9 420) m = 8 := by
    have := x3.2.2.1.2.2
    rw [hP3, hP2, hP1] at this; exact this
  have y4 : rg_K (rg_nA (rg_nA (rg_nA (rg_nA N 9 266800) 9 420) 9 420) 9 25) m = 8 := by
    have := x4.2.2.1.2.2
    rw [hP4, hP3, hP2, hP1] at this; exact this
  have y5 : rg_K (rg_nA (rg_nA (rg_nA (rg_nA (rg_nA N 9 266800) 9 420) 9 420) 9 25) 11 11) m = 8 := by
    have := x5.2.2.1.2.2
    rw [hP5, hP4, hP3, hP2, hP1] at this; exact this
  have e5 : (rg_wR (rg_nA (rg_wR (rg_nA (rg_wR (rg_nA (rg_wR (rg_nA (rg_wR (rg_nA N 9 266800) 112 m (rg_sz N)) 9 420) 113 m (rg_sz (rg_nA N 9 266800))) 9 420) 114 m (rg_sz (rg_nA (rg_nA N 9 266800) 9 420))) 9 25) 122 m (rg_sz (rg_nA (rg_nA (rg_nA N 9 266800) 9 420) 9 420))) 11 11) 123 m (rg_sz (rg_nA (rg_nA (rg_nA (rg_nA N 9 266800) 9 420) 9 420) 9 25))) = P5 := by rw [hP5, hP4, hP3, hP2, hP1]; rfl
  have K1 : rg_K P5 (rg_sz N) = 9 := by rw [(w5 (rg_sz N) (by omega)).1, (w4 (rg_sz N) (by omega)).1, (w3 (rg_sz N) (by omega)).1, (w2 (rg_sz N) (by omega)).1]; exact k1
  have L1 : rg_L P5 (rg_sz N) = 266800 := by rw [(w5 (rg_sz N) (by omega)).2.1, (w4 (rg_sz N) (by omega)).2.1, (w3 (rg_sz N) (by omega)).2.1, (w2 (rg_sz N) (by omega)).2.1]; exact l1
  have Z1 : ∀ i, rg_A P5 (rg_sz N) i = 0 := fun i => by rw [(w5 (rg_sz N) (by omega)).2.2.1, (w4 (rg_sz N) (by omega)).2.2.1, (w3 (rg_sz N) (by omega)).2.2.1, (w2 (rg_sz N) (by omega)).2.2.1]; exact z1 i
  have C1 : ¬ cO P5 (rg_sz N) := ((w5 (rg_sz N) (by omega)).2.2.2 ((w4 (rg_sz N) (by omega)).2.2.2 ((w3 (rg_sz N) (by omega)).2.2.2 ((w2 (rg_sz N) (by omega)).2.2.2 c1))))
  have R1 : rg_R P5 112 m = some (rg_sz N) := by rw [o5 112 (by decide), o4 112 (by decide), o3 112 (by decide), o2 112 (by decide)]; exact r1
  have K2 : rg_K P5 (rg_sz P1) = 9 := by rw [(w5 (rg_sz P1) (by omega)).1, (w4 (rg_sz P1) (by omega)).1, (w3 (rg_sz P1) (by omega)).1]; exact k2
  have L2 : rg_L P5 (rg_sz P1) = 420 := by rw [(w5 (rg_sz P1) (by omega)).2.1, (w4 (rg_sz P1) (by omega)).2.1, (w3 (rg_sz P1) (by omega)).2.1]; exact l2
  have Z2 : ∀ i, rg_A P5 (rg_sz P1) i = 0 := fun i => by rw [(w5 (rg_sz P1) (by omega)).2.2.1, (w4 (rg_sz P1) (by omega)).2.2.1, (w3 (rg_sz P1) (by omega)).2.2.1]; exact z2 i
  have C2 : ¬ cO P5 (rg_sz P1) := ((w5 (rg_sz P1) (by omega)).2.2.2 ((w4 (rg_sz P1) (by omega)).2.2.2 ((w3 (rg_sz P1) (by omega)).2.2.2 c2)))
  have R2 : rg_R P5 113 m = some (rg_sz P1) := by rw [o5 113 (by decide), o4 113 (by decide), o3 113 (by decide)]; exact r2
  have K3 : rg_K P5 (rg_sz P2) = 9 := by rw [(w5 (rg_sz P2) (by omega)).1, (w4 (rg_sz P2) (by omega)).1]; exact k3
  have L3 : rg_L P5 (rg_sz P2) = 420 := by rw [(w5 (rg_sz P2) (by omega)).2.1, (w4 (rg_sz P2) (by omega)).2.1]; exact l3
  have Z3 : ∀ i, rg_A P5 (rg_sz P2) i = 0 := fun i => by rw [(w5 (rg_sz P2) (by omega)).2.2.1, (w4 (rg_sz P2) (by omega)).2.2.1]; exact z3 i
  have C3 : ¬ cO P5 (rg_sz P2) := ((w5 (rg_sz P2) (by omega)).2.2.2 ((w4 (rg_sz P2) (by omega)).2.2.2 c3))
  have R3 : rg_R P5 114 m = some (rg_sz P2) := by rw [o5 114 (by decide), o4 114 (by decide)]; exact r3
  have K4 : rg_K P5 (rg_sz P3) = 9 := by rw [(w5 (rg_sz P3) (by omega)).1]; exact k4
  have L4 : rg_L P5 (rg_sz P3) = 25 := by rw [(w5 (rg_sz P3) (by omega)).2.1]; exact l4
  have Z4 : ∀ i, rg_A P5 (rg_sz P3) i = 0 := fun i => by rw [(w5 (rg_sz P3) (by omega)).2.2.1]; exact z4 i
  have C4 : ¬ cO P5 (rg_sz P3) := ((w5 (rg_sz P3) (by omega)).2.2.2 c4)
  have R4 : rg_R P5 122 m = some (rg_sz P3) := by rw [o5 122 (by decide)]; exact r4
  have K5 : rg_K P5 (rg_sz P4) = 11 := by exact k5
  have L5 : rg_L P5 (rg_sz P4) = 11 := by exact l5
  have Z5 : ∀ i, rg_A P5 (rg_sz P4) i = 0 := fun i => by exact z5 i
  have C5 : ¬ cO P5 (rg_sz P4) := c5
  have R5 : rg_R P5 123 m = some (rg_sz P4) := by exact r5
  have H : rm_F m (rg_sz N) (rg_sz P1) (rg_sz P2) (rg_sz P3) (rg_sz P4) P5 := ⟨x5.2.2.1.2.2, R1, R2, R3, R4, R5, K1, K2, K3, K4, K5, L1, L2, L3, L4, L5, by omega, by omega, by omega, by omega, by omega, by omega⟩
  have V0 : rm_V (rg_A P5 (rg_sz N)) (rg_A P5 (rg_sz P1)) (rg_A P5 (rg_sz P2)) (fun _ => 0) := fun a _ _ => ⟨0, Nat.zero_le _, Z2 a, Or.inl rfl, Z3 a, rfl⟩
  obtain ⟨S1, U1, G1, p1, p2⟩ := rm_isV H (c := 413) (by decide) V0 1
  have p1 : rM_is m 413 1 (rm_w (rg_sz N) (rg_sz P1) (rg_sz P2) P5 (rg_A P5 (rg_sz N)) (rg_A P5 (rg_sz P1)) (rg_A P5 (rg_sz P2))) = _ := p1
  rw [rm_wid] at p1
  obtain ⟨S2, U2, G2, p3, p4⟩ := rm_isV H (c := 380) (by decide) p2 0
  have p3 : rM_is m 380 0 (rm_w (rg_sz N) (rg_sz P1) (rg_sz P2) P5 S1 U1 G1) = _ := p3
  obtain ⟨S3, U3, G3, p5, p6⟩ := rm_isV H (c := 381) (by decide) p4 1
  have p5 : rM_is m 381 1 (rm_w (rg_sz N) (rg_sz P1) (rg_sz P2) P5 S2 U2 G2) = _ := p5
  obtain ⟨q1, q2, q3, q4, q5⟩ := rm_wrows H S3 U3 G3
  have eu : u + 267688 = u + 12 + 266800 + 420 + 420 + 25 + 11 := by omega
  have x51 : bS (u + 267688) (z + 12) n c P5 := by rw [eu]; exact x5.1
  refine ⟨P5, rm_w (rg_sz N) (rg_sz P1) (rg_sz P2) P5 S3 U3 G3, rg_sz N, rg_sz P1, rg_sz P2, rg_sz P3, rg_sz P4, ?_, x51, x5.2.1, mX_w _ _ _ _, ⟨H, ⟨x5.2.2.2 115, x5.2.2.2 116, x5.2.2.2 117, x5.2.2.2 118, x5.2.2.2 119, x5.2.2.2 120, x5.2.2.2 121⟩, ⟨_, by rw [q1, q2, q3]; exact p6, fun h => absurd rfl h, ?_, ?_, ?_⟩, fun h => absurd (show (0 : Nat) = 1 from h) (by decide), fun k _ => Or.inl (by rw [q5]; exact Z5 k)⟩, by omega, ⟨by omega, by omega, by omega, by omega, by omega⟩, ⟨by omega, by omega, by omega, by omega, by omega⟩, C1, C2, C3, C4, C5⟩
  · have d1 : (266800 : Int32).toNatClampNeg = 266800 := by decide
    have d2 : (420 : Int32).toNatClampNeg = 420 := by decide
    have d3 : (25 : Int32).toNatClampNeg = 25 := by decide
    have d4 : (11 : Int32).toNatClampNeg = 11 := by decide
    have f1 : ((0 : Int32) ≤ 266800 ∧ 266800 ≤ 60000000) = True := eq_true ⟨by decide, by decide⟩
    have f2 : ((0 : Int32) ≤ 420 ∧ 420 ≤ 60000000) = True := eq_true ⟨by decide, by decide⟩
    have f3 : ((0 : Int32) ≤ 25 ∧ 25 ≤ 60000000) = True := eq_true ⟨by decide, by decide⟩
    have f4 : ((0 : Int32) ≤ 11 ∧ 11 ≤ 60000000) = True := eq_true ⟨by decide, by decide⟩
    have km : rg_K P5 m = 8 := H.1
    rw [rM_init_u, rM_init_e]
    simp only [d1, d2, d3, d4, f1, f2, f3, f4, if_true, y1, y2, y3, y4, y5]
    rw [e5]
    simp only [p1, p3, p5, Option.bind_some, rm_wK, km, if_true]
    rfl
  · rw [rg_up_ne (by decide), rg_up_eq]; rfl
  · rw [rg_up_eq]; rfl
  · rw [rg_up_ne (by decide), rg_up_ne (by decide), rg_up_eq]; rfl

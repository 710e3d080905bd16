/-! the constructors: the game of numbers, the game of cards -/
theorem bS_own {u z n : Nat} {c : Nat → Nat} {M : rg_M} (h : bS u z n c M) {b : Nat} (ho : cO M b) : b < rg_sz M := by
  obtain ⟨⟨V, hB, -⟩, -⟩ := h
  obtain ⟨w, w1, w2⟩ := ho
  obtain ⟨-, b', q1, q2, -⟩ := hB.1.1 w w1
  rw [q1] at w2
  have := Option.some.inj w2
  omega
theorem bN_init {u z n rk ln : Nat} {c fx : Nat → Nat} {M : rg_M} (h : bS u z n c M) (hX : bX (fun i => i < 243) fx M) : ∃ M' rn f, rN_init (rg_sz M) rk ln (rg_nO M 3) = some M' ∧ bS (u + 31) (z + 6) (n + 2) c M' ∧ (rg_sz M < rg_sz M' ∧ rn < rg_sz M' ∧ ¬ cO M' rn ∧ rg_K M' (rg_sz M) = 4 ∧ rg_K M' rn = 9 ∧ rg_L M' rn = 25 ∧ rg_sz M ≤ rn) ∧ (rg_R M' 48 (rg_sz M) = some rk ∧ rg_R M' 49 (rg_sz M) = some ln ∧ rg_R M' 50 (rg_sz M) = some rn ∧ rg_R M' 51 (rg_sz M) = some f) ∧ bX (fun i => i < 244) (va_up fx 243 f) M' ∧ cN M M' := by
  obtain ⟨ng, hng⟩ : ∃ ng, ng = rg_sz M := ⟨_, rfl⟩
  obtain ⟨b1, b2⟩ := bS_nO (ci := 3) h (by decide) (by decide)
  rw [← hng]
  obtain ⟨N, hN⟩ : ∃ N, N = rg_nO M 3 := ⟨_, rfl⟩
  rw [← hN] at b1 b2 ⊢
  have sN : rg_sz N = ng + 1 := by rw [hN, hng]; rfl
  have kN : rg_K N ng = 4 := by rw [hN, hng, nO_Ks]
  obtain ⟨c1, c2⟩ := bS_nA (kd := 9) (l := 25) b1 (by decide) (by decide)
  obtain ⟨A, hA⟩ : ∃ A, A = rg_nA N 9 25 := ⟨_, rfl⟩
  have sA : rg_sz A = ng + 2 := by rw [hA]; show rg_sz N + 1 = _; omega
  have noA : ¬ cO A (rg_sz N) := fun q => by
    have q' : cO N (rg_sz N) := by
      obtain ⟨w, w1, w2⟩ := q
      have e : w ≠ rg_sz N := fun e => by rw [hA, e, nA_Ks] at w1; exact absurd w1 (by decide)
      rw [hA, nA_K e] at w1
      rw [hA] at w2
      exact ⟨w, w1, w2⟩
    have := bS_own b1 q'
    omega
  have kA : rg_K A (rg_sz N) = 9 := by rw [hA, nA_Ks]
  have lA : rg_L A (rg_sz N) = 25 := by rw [hA, nA_Ls]
  rw [← hA] at c1 c2
  have kA' : rg_K A ng = 4 := by rw [(c2.2.1 ng (by omega)).1]; exact kN
  obtain ⟨A', hA'⟩ : ∃ A', A' = rg_wR A 50 ng (rg_sz N) := ⟨_, rfl⟩
  have c1' : bS (u + 4 + 25) (z + 2 + 2) n c A' := by rw [hA']; exact bS_wR c1 (by decide) (by decide) (by decide)
  have sA' : rg_sz A' = ng + 2 := by rw [hA']; exact sA
  have noA' : ¬ cO A' (rg_sz N) := fun ⟨w, w1, w2⟩ => noA ⟨w, by rw [hA'] at w1; exact w1, by rw [hA', wR_R (Or.inl (by decide))] at w2; exact w2⟩
  obtain ⟨M1, d1, d2, d3, d4, d5⟩ := bS_nF c1'
  have k1 : rg_K M1 ng = 4 := by rw [(d3.2.1 ng (by omega)).1, hA']; exact kA'
  have fN : cN M A' := by rw [hA']; exact (b2.tr c2).wR (by omega) (by decide)
  have r50 : rg_R M1 50 ng = some (rg_sz N) := by rw [d3.2.2.2.1 _ _ (by omega) (by decide), hA', wR_Rs]
  have X1 := hX.N fN
  have X2 := X1.new d3 d4 d5 (P' := fun i => i < 244) (k := 243) (fun i hi => by have hi : i < 244 := hi; show i < 243 ∨ i = 243; omega)
  have hc25 : (25 : Int32).toNatClampNeg = 25 := by decide
  have p25 : ((0 : Int32) ≤ 25 ∧ 25 ≤ 60000000) = True := by simp
  have eA : rg_sz (rg_nA N 9 25) = rg_sz A' := by rw [hA', hA]; rfl
  have kN9 : rg_K (rg_nA N 9 25) ng = 4 := by rw [← hA]; exact kA'
  refine ⟨rg_wR (rg_wR (rg_wR M1 51 ng (rg_sz A')) 48 ng rk) 49 ng ln, rg_sz N, rg_sz A', ?_, bS_wR (bS_wR (bS_wR d2 (by decide) (by decide) (by decide)) (by decide) (by decide) (by decide)) (by decide) (by decide) (by decide), ⟨by show ng < rg_sz M1; omega, by show rg_sz N < rg_sz M1; omega, ?_, k1, ?_, ?_, by omega⟩, ⟨?_, wR_Rs _ _ _ _, ?_, ?_⟩, X2, (((fN.tr d3).wR (by omega) (by decide)).wR (by omega) (by decide)).wR (by omega) (by decide)⟩
  · rw [rN_init_u, rN_init_e]
    simp only [hc25, p25, if_true, kN9]
    rw [eA]
    have : rF_init (rg_sz A') (rg_nO (rg_wR (rg_nA N 9 25) 50 ng (rg_sz N)) 1) = some M1 := by rw [← hA, ← hA']; exact d1
    simp only [this, Option.bind_some, k1, if_true]
    rfl
  · intro ⟨w, w1, w2⟩
    rw [wR_R (Or.inl (by decide)), wR_R (Or.inl (by decide)), wR_R (Or.inl (by decide))] at w2
    exact (d3.2.2.2.2.2 (rg_sz N) (by omega) noA').2 ⟨w, w1, w2⟩
  · show rg_K M1 (rg_sz N) = 9
    rw [(d3.2.1 _ (by omega)).1, hA']; exact kA
  · show rg_L M1 (rg_sz N) = 25
    rw [(d3.2.1 _ (by omega)).2, hA']; exact lA
  · rw [wR_R (Or.inl (by decide)), wR_Rs]
  · rw [wR_R (Or.inl (by decide)), wR_R (Or.inl (by decide)), wR_R (Or.inl (by decide))]; exact r50
  · rw [wR_R (Or.inl (by decide)), wR_R (Or.inl (by decide)), wR_Rs]
/-- the played fractions that are their own -/
def cn8 (j : Nat) : Nat := 2 * (j / 8) + (j % 8 - 6)
theorem md8 : ∀ j, j < 40 → nI j - nI j / 8 * 8 = nI (j % 8) := by decide +kernel
def PC (j : Nat) (i : Nat) : Prop := i < 247 ∨ (250 ≤ i ∧ i < 250 + j ∧ 6 ≤ (i - 250) % 8)
def bJ (u z n : Nat) (c f0 : Nat → Nat) (Mb C0 : rg_M) (cg r6 j : Nat) (fx : Nat → Nat) (M : rg_M) : Prop := bS (u + 2 * cn8 j) (z + 2 * cn8 j) (n + 2 * cn8 j) c M ∧ cN Mb M ∧ (∀ f, f ≠ 80 → rg_R M f cg = rg_R C0 f cg) ∧ (rg_sz Mb ≤ cg ∧ cg < rg_sz M ∧ rg_K M cg = 1) ∧ (rg_R C0 2 cg = some r6 ∧ rg_sz Mb ≤ r6 ∧ r6 < rg_sz M ∧ rg_K M r6 = 12 ∧ rg_L M r6 = 40) ∧ (∀ i, i < j → rg_Q M r6 i = some (fx (plx i))) ∧ bX (PC j) fx M ∧ ∀ i, i < 247 → fx i = f0 i
theorem bJ_loop {u z n rk ln cg r6 : Nat} {c ro fb f0 : Nat → Nat} {Mb C0 : rg_M} (hL : cLn rk ln ro fb Mb) (hb : ∀ i, i < 244 → f0 i = fb i) : ∀ e j : Nat, 40 - j = e → j ≤ 40 → ∀ (fx : Nat → Nat) (M : rg_M), bJ u z n c f0 Mb C0 cg r6 j fx M → ∃ fx' M', rC_init_58 cg ln (nI j) M = some (none, M') ∧ bJ u z n c f0 Mb C0 cg r6 40 fx' M' := by
  intro e
  induction e with
  | zero =>
    intro j he hj fx M h
    have e : j = 40 := by omega
    subst e
    rw [rC_init_58_e, if_pos (show (40 : Int32) ≤ nI 40 from Int32.le_refl _)]
    exact ⟨fx, M, rfl, h⟩
  | succ e ih =>
    intro j he hj fx M h
    have hj4 : j < 40 := by omega
    have pp : ¬ (40 : Int32) ≤ nI j := by rw [show (40 : Int32) = nI 40 from rfl, nI_leI (by omega) (by omega)]; omega
    have k1 := nI_clamp (n := j) (by omega)
    have k2 := rm_i0 (a := j) (by omega)
    obtain ⟨hS, hN, hR, ⟨l1, l2, l3⟩, ⟨g1, g2, g3, g4, g5⟩, hQ, hX, h0⟩ := h
    obtain ⟨⟨n1, n2⟩, ⟨-, -, -, -, -, n37, -⟩, nr, nq⟩ := hL
    have r2 : rg_R M 2 cg = some r6 := (hR 2 (by decide)).trans g1
    have n8 : ¬ (8 : Int32) = 0 := by decide
    rw [rC_init_58_e, if_neg pp, if_pos l3, r2]
    simp only [Option.bind_some, n8, if_false]
    rw [md8 j hj4]
    by_cases c6 : 6 ≤ j % 8
    · have p6 : (6 : Int32) ≤ nI (j % 8) := by rw [show (6 : Int32) = nI 6 from rfl, nI_leI (by omega) (by omega)]; exact c6
      rw [if_pos p6]
      obtain ⟨M2, a1, a2, a3, a4, a5⟩ := bS_nF hS
      have e1 : rg_K M2 r6 = 12 := by rw [(a3.2.1 _ g3).1]; exact g4
      have e2 : rg_L M2 r6 = 40 := by rw [(a3.2.1 _ g3).2]; exact g5
      have ec : 2 * cn8 (j + 1) = 2 * cn8 j + 2 := by unfold cn8; omega
      simp only [a1, Option.bind_some, rC_init_94_e, e1, e2, k1, k2, hj4, a4, and_self, if_true, nI_1]
      refine ih (j + 1) (by omega) (by omega) (va_up fx (250 + j) (rg_sz M)) _ ⟨?_, (hN.tr a3).wQ g2, fun f hf => (a3.2.2.2.1 f cg l2 hf).trans (hR f hf), ⟨l1, by show cg < rg_sz M2; omega, by show rg_K M2 cg = 1; rw [(a3.2.1 cg l2).1]; exact l3⟩, ⟨g1, g2, by show r6 < rg_sz M2; omega, e1, e2⟩, fun i hi => ?_, ?_, fun i hi => by rw [rg_up_ne (by omega)]; exact h0 i hi⟩
      · rw [ec, ← Nat.add_assoc, ← Nat.add_assoc, ← Nat.add_assoc]; exact a2
      · by_cases ei : i = j
        · have ep : plx j = 250 + j := by unfold plx; rw [if_neg (by omega)]
          rw [ei, wQ_Qs, ep, rg_up_eq]
        · have ep : plx i ≠ 250 + j := by unfold plx; split <;> omega
          rw [wQ_Q (Or.inr ei), a3.2.2.2.2.1 _ _ g3, rg_up_ne ep]
          exact hQ i (by omega)
      · have x : bX (PC (j + 1)) (va_up fx (250 + j) (rg_sz M)) M2 := hX.new a3 a4 a5 (P' := PC (j + 1)) (k := 250 + j) (fun i hi => by unfold PC at hi ⊢; omega)
        exact x
    · have p6 : ¬ (6 : Int32) ≤ nI (j % 8) := by rw [show (6 : Int32) = nI 6 from rfl, nI_leI (by omega) (by omega)]; exact c6
      rw [if_neg p6]
      have kl : rg_K M ln = 3 := by rw [(hN.2.1 ln n1).1]; exact n2
      have r37 : rg_R M 37 ln = some (ro 4) := (hN.2.2.2.1 37 ln n1 (by decide)).trans n37
      obtain ⟨y1, y2, y3⟩ := nr 4 (by decide)
      have e1 : rg_K M (ro 4) = 12 := by rw [(hN.2.1 _ y1).1]; exact y2
      have e2 : rg_L M (ro 4) = 40 := by rw [(hN.2.1 _ y1).2]; exact y3
      have q4 : rg_Q M (ro 4) j = some (fb (160 + j)) := by rw [hN.2.2.2.2.1 _ _ y1]; exact nq 4 j (by decide) hj4
      have ef : fx (160 + j) = fb (160 + j) := (h0 _ (by omega)).trans (hb _ (by omega))
      have kf : rg_K M (fb (160 + j)) = 2 := by rw [← ef]; exact (hX.1 _ (by unfold PC; omega)).2
      have ec : 2 * cn8 (j + 1) = 2 * cn8 j := by unfold cn8; omega
      simp only [kl, r37, e1, e2, k1, k2, hj4, and_self, if_true, Option.bind_some, q4, rC_init_94_e, g4, g5, kf, nI_1]
      refine ih (j + 1) (by omega) (by omega) fx _ ⟨?_, hN.wQ g2, hR, ⟨l1, l2, l3⟩, ⟨g1, g2, g3, g4, g5⟩, fun i hi => ?_, ⟨fun i hi => hX.1 i ?_, fun i i' hi hi' ee => hX.2 i i' ?_ ?_ ee⟩, h0⟩
      · rw [ec]; exact hS
      · by_cases ei : i = j
        · have ep : plx j = 160 + j := by unfold plx; rw [if_pos (by omega)]
          rw [ei, wQ_Qs, ep, ef]
        · rw [wQ_Q (Or.inr ei)]; exact hQ i (by omega)
      · unfold PC at hi ⊢; omega
      · unfold PC at hi ⊢; omega
      · unfold PC at hi' ⊢; omega
theorem bC_init {u z n rk ln : Nat} {c ro fx : Nat → Nat} {M : rg_M} (h : bS u z n c M) (hL : cLn rk ln ro fx M) (hX : bX (fun i => i < 244) fx M) : ∃ M' r6 fx', rC_init (rg_sz M) rk ln (rg_nO M 0) = some M' ∧ bS (u + 73) (z + 30) (n + 26) c M' ∧ (rg_sz M < rg_sz M' ∧ r6 < rg_sz M' ∧ rg_K M' (rg_sz M) = 1 ∧ rg_K M' r6 = 12 ∧ rg_L M' r6 = 40) ∧ (rg_R M' 0 (rg_sz M) = some rk ∧ rg_R M' 1 (rg_sz M) = some ln ∧ rg_R M' 2 (rg_sz M) = some r6 ∧ rg_R M' 3 (rg_sz M) = some (fx' 244) ∧ rg_R M' 4 (rg_sz M) = some (fx' 245) ∧ rg_R M' 5 (rg_sz M) = some (fx' 246)) ∧ (∀ i, i < 40 → rg_Q M' r6 i = some (fx' (plx i))) ∧ bX (PC 40) fx' M' ∧ (∀ i, i < 244 → fx' i = fx i) ∧ cN M M' := by
  obtain ⟨cg, hcg⟩ : ∃ cg, cg = rg_sz M := ⟨_, rfl⟩
  obtain ⟨b1, b2⟩ := bS_nO (ci := 0) h (by decide) (by decide)
  rw [← hcg]
  obtain ⟨N, hN⟩ : ∃ N, N = rg_nO M 0 := ⟨_, rfl⟩
  rw [← hN] at b1 b2 ⊢
  have sN : rg_sz N = cg + 1 := by rw [hN, hcg]; rfl
  have kN : rg_K N cg = 1 := by rw [hN, hcg, nO_Ks]
  obtain ⟨c1, c2⟩ := bS_nA (kd := 12) (l := 40) b1 (by decide) (by decide)
  obtain ⟨A, hA⟩ : ∃ A, A = rg_nA N 12 40 := ⟨_, rfl⟩
  have sA : rg_sz A = cg + 2 := by rw [hA]; show rg_sz N + 1 = _; omega
  have kA : rg_K A (rg_sz N) = 12 := by rw [hA, nA_Ks]
  have lA : rg_L A (rg_sz N) = 40 := by rw [hA, nA_Ls]
  rw [← hA] at c1 c2
  have kA' : rg_K A cg = 1 := by rw [(c2.2.1 cg (by omega)).1]; exact kN
  obtain ⟨A', hA'⟩ : ∃ A', A' = rg_wR A 2 cg (rg_sz N) := ⟨_, rfl⟩
  have c1' : bS (u + 7 + 40) (z + 2 + 2) n c A' := by rw [hA']; exact bS_wR c1 (by decide) (by decide) (by decide)
  have sA' : rg_sz A' = cg + 2 := by rw [hA']; exact sA
  have kA1 : rg_K A' cg = 1 := by rw [hA']; exact kA'
  obtain ⟨N1, a1, a2, a3, a4, a5⟩ := bS_nF c1'
  have kn1 : rg_K N1 cg = 1 := by rw [(a3.2.1 cg (by omega)).1]; exact kA1
  obtain ⟨N1', hN1⟩ : ∃ X, X = rg_wR N1 3 cg (rg_sz A') := ⟨_, rfl⟩
  have a2' : bS (u + 7 + 40 + 2) (z + 2 + 2 + 2) (n + 2) c N1' := by rw [hN1]; exact bS_wR a2 (by decide) (by decide) (by decide)
  obtain ⟨N2, d1, d2, d3, d4, d5⟩ := bS_nF a2'
  have z1 : rg_sz N1' = rg_sz N1 := by rw [hN1]; rfl
  have kn1' : rg_K N1' cg = 1 := by rw [hN1]; exact kn1
  have kn2 : rg_K N2 cg = 1 := by rw [(d3.2.1 cg (by omega)).1]; exact kn1'
  obtain ⟨N2', hN2⟩ : ∃ X, X = rg_wR N2 4 cg (rg_sz N1) := ⟨_, rfl⟩
  have d2' : bS (u + 7 + 40 + 2 + 2) (z + 2 + 2 + 2 + 2) (n + 2 + 2) c N2' := by rw [hN2]; exact bS_wR d2 (by decide) (by decide) (by decide)
  obtain ⟨N3, e1, e2, e3, e4, e5⟩ := bS_nF d2'
  have z2 : rg_sz N2' = rg_sz N2 := by rw [hN2]; rfl
  have kn2' : rg_K N2' cg = 1 := by rw [hN2]; exact kn2
  have kn3 : rg_K N3 cg = 1 := by rw [(e3.2.1 cg (by omega)).1]; exact kn2'
  obtain ⟨C0, hC0⟩ : ∃ X, X = rg_wR (rg_wR (rg_wR N3 5 cg (rg_sz N2)) 0 cg rk) 1 cg ln := ⟨_, rfl⟩
  have z3 : rg_sz C0 = rg_sz N3 := by rw [hC0]; rfl
  have S0 : bS (u + 7 + 40 + 2 + 2 + 2) (z + 2 + 2 + 2 + 2 + 2) (n + 2 + 2 + 2) c C0 := by rw [hC0]; exact bS_wR (bS_wR (bS_wR e2 (by decide) (by decide) (by decide)) (by decide) (by decide) (by decide)) (by decide) (by decide) (by decide)
  have f0 : cN M A' := by rw [hA']; exact (b2.tr c2).wR (by omega) (by decide)
  have f1 : cN M N1' := by rw [hN1]; exact (f0.tr a3).wR (by omega) (by decide)
  have f2 : cN M N2' := by rw [hN2]; exact (f1.tr d3).wR (by omega) (by decide)
  have f3 : cN M C0 := by rw [hC0]; exact (((f2.tr e3).wR (by omega) (by decide)).wR (by omega) (by decide)).wR (by omega) (by decide)
  have R1 : ∀ f, f ≠ 3 → f ≠ 80 → rg_R N1' f cg = rg_R A' f cg := fun f h1 h2 => by rw [hN1, wR_R (Or.inl h1)]; exact a3.2.2.2.1 f cg (by omega) h2
  have R2 : ∀ f, f ≠ 4 → f ≠ 80 → rg_R N2' f cg = rg_R N1' f cg := fun f h1 h2 => by rw [hN2, wR_R (Or.inl h1)]; exact d3.2.2.2.1 f cg (by omega) h2
  have R3 : ∀ f, f ≠ 5 → f ≠ 0 → f ≠ 1 → f ≠ 80 → rg_R C0 f cg = rg_R N2' f cg := fun f h1 h2 h3 h4 => by rw [hC0, wR_R (Or.inl h3), wR_R (Or.inl h2), wR_R (Or.inl h1)]; exact e3.2.2.2.1 f cg (by omega) h4
  have v0 : rg_R C0 0 cg = some rk := by rw [hC0, wR_R (Or.inl (by decide)), wR_Rs]
  have v1 : rg_R C0 1 cg = some ln := by rw [hC0, wR_Rs]
  have v2 : rg_R C0 2 cg = some (rg_sz N) := by rw [R3 _ (by decide) (by decide) (by decide) (by decide), R2 _ (by decide) (by decide), R1 _ (by decide) (by decide), hA', wR_Rs]
  have v3 : rg_R C0 3 cg = some (rg_sz A') := by rw [R3 _ (by decide) (by decide) (by decide) (by decide), R2 _ (by decide) (by decide), hN1, wR_Rs]
  have v4 : rg_R C0 4 cg = some (rg_sz N1) := by rw [R3 _ (by decide) (by decide) (by decide) (by decide), hN2, wR_Rs]
  have v5 : rg_R C0 5 cg = some (rg_sz N2) := by rw [hC0, wR_R (Or.inl (by decide)), wR_R (Or.inl (by decide)), wR_Rs]
  have KL : ∀ a, a < rg_sz A' → rg_K C0 a = rg_K A' a ∧ rg_L C0 a = rg_L A' a := fun a ha => by
    have x1 : rg_K C0 a = rg_K N3 a ∧ rg_L C0 a = rg_L N3 a := by rw [hC0]; exact ⟨rfl, rfl⟩
    have x2 := e3.2.1 a (by omega)
    have x3 : rg_K N2' a = rg_K N2 a ∧ rg_L N2' a = rg_L N2 a := by rw [hN2]; exact ⟨rfl, rfl⟩
    have x4 := d3.2.1 a (by omega)
    have x5 : rg_K N1' a = rg_K N1 a ∧ rg_L N1' a = rg_L N1 a := by rw [hN1]; exact ⟨rfl, rfl⟩
    have x6 := a3.2.1 a ha
    exact ⟨(x1.1.trans x2.1).trans ((x3.1.trans x4.1).trans (x5.1.trans x6.1)), (x1.2.trans x2.2).trans ((x3.2.trans x4.2).trans (x5.2.trans x6.2))⟩
  have X0 := hX.N f0
  have X1 : bX (fun i => i < 245) (va_up fx 244 (rg_sz A')) N1' := by
    have := X0.new a3 a4 a5 (P' := fun i => i < 245) (k := 244) (fun i hi => by have hi : i < 245 := hi; show i < 244 ∨ i = 244; omega)
    rw [hN1]; exact this
  have X2 : bX (fun i => i < 246) (va_up (va_up fx 244 (rg_sz A')) 245 (rg_sz N1')) N2' := by
    have := X1.new d3 d4 d5 (P' := fun i => i < 246) (k := 245) (fun i hi => by have hi : i < 246 := hi; show i < 245 ∨ i = 245; omega)
    rw [hN2]; exact this
  have X3 : bX (PC 0) (va_up (va_up (va_up fx 244 (rg_sz A')) 245 (rg_sz N1')) 246 (rg_sz N2')) C0 := by
    have := X2.new e3 e4 e5 (P' := PC 0) (k := 246) (fun i hi => by unfold PC at hi; show i < 246 ∨ i = 246; omega)
    rw [hC0]; exact this
  obtain ⟨g0, hg0⟩ : ∃ g0, g0 = va_up (va_up (va_up fx 244 (rg_sz A')) 245 (rg_sz N1')) 246 (rg_sz N2') := ⟨_, rfl⟩
  rw [← hg0] at X3
  have w44 : g0 244 = rg_sz A' := by rw [hg0, rg_up_ne (by decide), rg_up_ne (by decide), rg_up_eq]
  have w45 : g0 245 = rg_sz N1 := by rw [hg0, rg_up_ne (by decide), rg_up_eq, z1]
  have w46 : g0 246 = rg_sz N2 := by rw [hg0, rg_up_eq, z2]
  have w0 : ∀ i, i < 244 → g0 i = fx i := fun i hi => by rw [hg0, rg_up_ne (by omega), rg_up_ne (by omega), rg_up_ne (by omega)]
  have kC0 : rg_K C0 cg = 1 := by rw [(KL cg (by omega)).1]; exact kA1
  have I0 : bJ (u + 53) (z + 10) (n + 6) c g0 M C0 cg (rg_sz N) 0 g0 C0 := ⟨S0, f3, fun _ _ => rfl, ⟨by omega, by omega, kC0⟩, ⟨v2, by omega, by omega, by rw [(KL _ (by omega)).1, hA']; exact kA, by rw [(KL _ (by omega)).2, hA']; exact lA⟩, fun i hi => by omega, X3, fun _ _ => rfl⟩
  obtain ⟨fx', M', y1, y2⟩ := bJ_loop hL w0 _ 0 rfl (Nat.zero_le _) g0 C0 I0
  have y1 : rC_init_58 cg ln 0 C0 = _ := y1
  obtain ⟨hS, hN', hR, ⟨l1, l2, l3⟩, ⟨t1, t2, t3, t4, t5⟩, hQ, hX', h0⟩ := y2
  refine ⟨M', rg_sz N, fx', ?_, hS, ⟨l2, t3, l3, t4, t5⟩, ⟨(hR 0 (by decide)).trans v0, (hR 1 (by decide)).trans v1, (hR 2 (by decide)).trans v2, ?_, ?_, ?_⟩, hQ, hX', fun i hi => (h0 i (by omega)).trans (w0 i hi), hN'⟩
  · have hc40 : (40 : Int32).toNatClampNeg = 40 := by decide
    have p40 : ((0 : Int32) ≤ 40 ∧ 40 ≤ 60000000) = True := by simp
    have esz : rg_sz (rg_nA N 12 40) = rg_sz A' := by rw [hA', hA]; rfl
    have k12 : rg_K (rg_nA N 12 40) cg = 1 := by rw [← hA]; exact kA'
    have a1 : rF_init (rg_sz A') (rg_nO (rg_wR (rg_nA N 12 40) 2 cg (rg_sz N)) 1) = some N1 := by rw [← hA, ← hA']; exact a1
    have d1 : rF_init (rg_sz N1) (rg_nO (rg_wR N1 3 cg (rg_sz A')) 1) = some N2 := by rw [← hN1, ← z1]; exact d1
    have e1 : rF_init (rg_sz N2) (rg_nO (rg_wR N2 4 cg (rg_sz N1)) 1) = some N3 := by rw [← hN2, ← z2]; exact e1
    rw [rC_init_u, rC_init_e]
    simp only [hc40, p40, if_true, k12]
    rw [esz]
    simp only [a1, d1, e1, Option.bind_some, kn1, kn2, kn3, if_true]
    rw [← hC0, y1]; rfl
  · rw [hR 3 (by decide), v3, h0 _ (by decide), w44]
  · rw [hR 4 (by decide), v4, h0 _ (by decide), w45]
  · rw [hR 5 (by decide), v5, h0 _ (by decide), w46]

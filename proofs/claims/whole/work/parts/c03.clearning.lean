/-! the constructors: the learning -/
/-- fractions by index -/
def bX (P : Nat → Prop) (fx : Nat → Nat) (M : rg_M) : Prop := (∀ i, P i → fx i < rg_sz M ∧ rg_K M (fx i) = 2) ∧ ∀ i j, P i → P j → fx i = fx j → i = j
theorem bX.N {P : Nat → Prop} {fx : Nat → Nat} {M M' : rg_M} (h : bX P fx M) (hN : cN M M') : bX P fx M' := ⟨fun i hi => ⟨by have := (h.1 i hi).1; have := hN.1; omega, by rw [(hN.2.1 _ (h.1 i hi).1).1]; exact (h.1 i hi).2⟩, h.2⟩
theorem bX.new {P P' : Nat → Prop} {fx : Nat → Nat} {M M' : rg_M} {k : Nat} (h : bX P fx M) (hN : cN M M') (hK : rg_K M' (rg_sz M) = 2) (hs : rg_sz M < rg_sz M') (hP : ∀ i, P' i → P i ∨ i = k) : bX P' (va_up fx k (rg_sz M)) M' := by
  refine ⟨fun i hi => ?_, fun i j hi hj e => ?_⟩
  · by_cases c : i = k
    · rw [c, rg_up_eq]; exact ⟨hs, hK⟩
    · rw [rg_up_ne c]
      have hp : P i := by rcases hP i hi with q | q; exact q; exact absurd q c
      exact ⟨by have := (h.1 i hp).1; omega, by rw [(hN.2.1 _ (h.1 i hp).1).1]; exact (h.1 i hp).2⟩
  · by_cases c : i = k
    · by_cases d : j = k
      · rw [c, d]
      · have hp : P j := by rcases hP j hj with q | q; exact q; exact absurd q d
        rw [c, rg_up_eq, rg_up_ne d] at e
        have := (h.1 j hp).1
        omega
    · have hp : P i := by rcases hP i hi with q | q; exact q; exact absurd q c
      by_cases d : j = k
      · rw [d, rg_up_eq, rg_up_ne c] at e
        have := (h.1 i hp).1
        omega
      · have hq : P j := by rcases hP j hj with q | q; exact q; exact absurd q d
        rw [rg_up_ne c, rg_up_ne d] at e
        exact h.2 i j hp hq e
def r1 (a f : Nat) (M : rg_M) : rg_M := rg_wR (rg_nA M 12 40) f a (rg_sz M)
/-- the learning as it is built: k rows -/
def bL (u z n : Nat) (c : Nat → Nat) (Mb : rg_M) (ln k : Nat) (ro : Nat → Nat) (M : rg_M) : Prop := bS (u + 40 * k) (z + 2 * k) n c M ∧ cN Mb M ∧ (rg_sz Mb ≤ ln ∧ ln < rg_sz M ∧ rg_K M ln = 3) ∧ (∀ j, j < k → rg_R M (33 + j) ln = some (ro j) ∧ rg_sz Mb ≤ ro j ∧ ro j < rg_sz M ∧ rg_K M (ro j) = 12 ∧ rg_L M (ro j) = 40) ∧ ∀ j l, j < k → l < k → ro j = ro l → j = l
theorem bL_step {u z n ln k : Nat} {c ro : Nat → Nat} {Mb M : rg_M} (h : bL u z n c Mb ln k ro M) (hk : k < 6) : bL u z n c Mb ln (k + 1) (va_up ro k (rg_sz M)) (r1 ln (33 + k) M) := by
  obtain ⟨hS, hN, ⟨l1, l2, l3⟩, hr, hi⟩ := h
  obtain ⟨a1, a2⟩ := bS_nA (kd := 12) (l := 40) hS (by decide) (by decide)
  have kl : rg_K (rg_nA M 12 40) ln = 3 := by rw [(a2.2.1 ln l2).1]; exact l3
  have eu : u + 40 * (k + 1) = u + 40 * k + 40 := by omega
  have ez : z + 2 * (k + 1) = z + 2 * k + 2 := by omega
  refine ⟨?_, (hN.tr a2).wR l1 (by omega), ⟨l1, by show ln < rg_sz M + 1; omega, kl⟩, fun j hj => ?_, fun j l hj hl e => ?_⟩
  · rw [eu, ez]; exact bS_wR a1 (by omega) (by omega) (by omega)
  · by_cases ej : j = k
    · subst ej
      rw [rg_up_eq]
      exact ⟨wR_Rs _ _ _ _, hN.1, by show rg_sz M < rg_sz M + 1; omega, nA_Ks M 12 40, nA_Ls M 12 40⟩
    · obtain ⟨p1, p2, p3, p4, p5⟩ := hr j (by omega)
      rw [rg_up_ne ej]
      refine ⟨?_, p2, by show ro j < rg_sz M + 1; omega, ?_, ?_⟩
      · show rg_R (rg_wR (rg_nA M 12 40) (33 + k) ln (rg_sz M)) (33 + j) ln = _
        rw [wR_R (Or.inl (by omega)), a2.2.2.2.1 _ _ l2 (by omega)]; exact p1
      · show rg_K (rg_nA M 12 40) (ro j) = 12
        rw [(a2.2.1 _ p3).1]; exact p4
      · show rg_L (rg_nA M 12 40) (ro j) = 40
        rw [(a2.2.1 _ p3).2]; exact p5
  · by_cases ej : j = k
    · by_cases el : l = k
      · omega
      · rw [ej, rg_up_eq, rg_up_ne el] at e
        have := (hr l (by omega)).2.2.1
        omega
    · by_cases el : l = k
      · rw [el, rg_up_eq, rg_up_ne ej] at e
        have := (hr j (by omega)).2.2.1
        omega
      · rw [rg_up_ne ej, rg_up_ne el] at e
        exact hi j l (by omega) (by omega) e
/-- the slots as they are filled -/
def PL (j k0 : Nat) (i : Nat) : Prop := (240 ≤ i ∧ i < 243) ∨ (i < 240 ∧ (i % 40 < j ∨ (i % 40 = j ∧ i / 40 < k0)))
def bI (u z n : Nat) (c ro f0 : Nat → Nat) (Mb L0 : rg_M) (ln j k0 : Nat) (fx : Nat → Nat) (M : rg_M) : Prop := bS (u + 2 * (6 * j + k0)) (z + 2 * (6 * j + k0)) (n + 2 * (6 * j + k0)) c M ∧ cN Mb M ∧ (∀ f, f ≠ 80 → rg_R M f ln = rg_R L0 f ln) ∧ (rg_sz Mb ≤ ln ∧ ln < rg_sz M ∧ rg_K M ln = 3) ∧ (∀ k, k < 6 → rg_R L0 (33 + k) ln = some (ro k) ∧ rg_sz Mb ≤ ro k ∧ ro k < rg_sz M ∧ rg_K M (ro k) = 12 ∧ rg_L M (ro k) = 40) ∧ (∀ k i, k < 6 → i < 40 → (i < j ∨ (i = j ∧ k < k0)) → rg_Q M (ro k) i = some (fx (40 * k + i))) ∧ bX (PL j k0) fx M ∧ (∀ i, 240 ≤ i → fx i = f0 i) ∧ ∀ k l, k < 6 → l < 6 → ro k = ro l → k = l
theorem bI_step {u z n ln j k0 : Nat} {c ro f0 fx : Nat → Nat} {Mb L0 M : rg_M} (h : bI u z n c ro f0 Mb L0 ln j k0 fx M) (hj : j < 40) (hk : k0 < 6) : ∃ M1, rF_init (rg_sz M) (rg_nO M 1) = some M1 ∧ rg_K M1 ln = 3 ∧ rg_K M1 (ro k0) = 12 ∧ rg_L M1 (ro k0) = 40 ∧ rg_K M1 (rg_sz M) = 2 ∧ (∀ f, f ≠ 80 → rg_R M1 f ln = rg_R L0 f ln) ∧ bI u z n c ro f0 Mb L0 ln j (k0 + 1) (va_up fx (40 * k0 + j) (rg_sz M)) (rg_wQ M1 (ro k0) j (rg_sz M)) := by
  obtain ⟨hS, hN, hR, ⟨l1, l2, l3⟩, hr, hQ, hX, h0, hi⟩ := h
  obtain ⟨M1, a1, a2, a3, a4, a5⟩ := bS_nF hS
  have kl : rg_K M1 ln = 3 := by rw [(a3.2.1 ln l2).1]; exact l3
  have kr : ∀ k, k < 6 → rg_K M1 (ro k) = 12 ∧ rg_L M1 (ro k) = 40 := fun k hk => ⟨by rw [(a3.2.1 _ (hr k hk).2.2.1).1]; exact (hr k hk).2.2.2.1, by rw [(a3.2.1 _ (hr k hk).2.2.1).2]; exact (hr k hk).2.2.2.2⟩
  have hR1 : ∀ f, f ≠ 80 → rg_R M1 f ln = rg_R L0 f ln := fun f hf => (a3.2.2.2.1 f ln l2 hf).trans (hR f hf)
  have e2 : 2 * (6 * j + (k0 + 1)) = 2 * (6 * j + k0) + 2 := by omega
  refine ⟨M1, a1, kl, (kr k0 hk).1, (kr k0 hk).2, a4, hR1, ?_, (hN.tr a3).wQ (hr k0 hk).2.1, hR1, ⟨l1, by show ln < rg_sz M1; omega, kl⟩, fun k hk' => ⟨(hr k hk').1, (hr k hk').2.1, by have := (hr k hk').2.2.1; show ro k < rg_sz M1; omega, kr k hk'⟩, fun k i hk' hi' hd => ?_, ?_, fun i hi' => by rw [rg_up_ne (by omega)]; exact h0 i hi', hi⟩
  · rw [e2, ← Nat.add_assoc, ← Nat.add_assoc, ← Nat.add_assoc]; exact a2
  · by_cases e : k = k0 ∧ i = j
    · rw [e.1, e.2, rg_up_eq, wQ_Qs]
    · have hne : ro k ≠ ro k0 ∨ i ≠ j := by
        by_cases e1 : i = j
        · exact Or.inl (fun q => e ⟨hi k k0 hk' hk q, e1⟩)
        · exact Or.inr e1
      rw [rg_up_ne (by omega), wQ_Q hne, a3.2.2.2.2.1 _ _ (hr k hk').2.2.1]
      exact hQ k i hk' hi' (by omega)
  · have x : bX (PL j (k0 + 1)) (va_up fx (40 * k0 + j) (rg_sz M)) M1 := hX.new a3 a4 a5 (P' := PL j (k0 + 1)) (k := 40 * k0 + j) (fun i hi' => by unfold PL at hi' ⊢; omega)
    exact x
theorem bI_next {u z n ln j : Nat} {c ro f0 fx : Nat → Nat} {Mb L0 M : rg_M} (h : bI u z n c ro f0 Mb L0 ln j 6 fx M) : bI u z n c ro f0 Mb L0 ln (j + 1) 0 fx M := by
  obtain ⟨hS, hN, hR, hl, hr, hQ, hX, h0, hi⟩ := h
  have e2 : 2 * (6 * (j + 1) + 0) = 2 * (6 * j + 6) := by omega
  refine ⟨by rw [e2]; exact hS, hN, hR, hl, hr, fun k i hk hi' hd => hQ k i hk hi' (by omega), ⟨fun i hp => hX.1 i ?_, fun i i' hp hp' e => hX.2 i i' ?_ ?_ e⟩, h0, hi⟩
  · unfold PL at hp ⊢; omega
  · unfold PL at hp ⊢; omega
  · unfold PL at hp' ⊢; omega
theorem bI_loop {u z n ln : Nat} {c ro f0 : Nat → Nat} {Mb L0 : rg_M} : ∀ e j : Nat, 40 - j = e → j ≤ 40 → ∀ (fx : Nat → Nat) (M : rg_M), bI u z n c ro f0 Mb L0 ln j 0 fx M → ∃ fx' M', rL_init_98 ln (nI j) M = some (none, M') ∧ bI u z n c ro f0 Mb L0 ln 40 0 fx' M' := by
  intro e
  induction e with
  | zero =>
    intro j he hj fx M h
    have e : j = 40 := by omega
    subst e
    rw [rL_init_98_e, if_pos (show (40 : Int32) ≤ nI 40 from Int32.le_refl _)]
    exact ⟨fx, M, rfl, h⟩
  | succ e ih =>
    intro j he hj fx M h
    have hj4 : j < 40 := by omega
    have pp : ¬ (40 : Int32) ≤ nI j := by rw [show (40 : Int32) = nI 40 from rfl, nI_leI (by omega) (by omega)]; omega
    have k1 := nI_clamp (n := j) (by omega)
    have k2 := rm_i0 (a := j) (by omega)
    have rr : ∀ k, k < 6 → rg_R L0 (33 + k) ln = some (ro k) := fun k hk => (h.2.2.2.2.1 k hk).1
    have r0 : rg_R M 33 ln = some (ro 0) := (h.2.2.1 33 (by decide)).trans (rr 0 (by decide))
    have q0 := h.2.2.2.1.2.2
    obtain ⟨M2, a0, b0, c0, d0, e0, f0, h0⟩ := bI_step h hj4 (show 0 < 6 by decide)
    have rA1 : rg_R M2 34 ln = some (ro 1) := (f0 34 (by decide)).trans (rr 1 (by decide))
    obtain ⟨M4, a1, b1, c1, d1, e1, f1, h1⟩ := bI_step h0 hj4 (show 1 < 6 by decide)
    have a1 : rF_init (rg_sz M2) (rg_nO (rg_wQ M2 (ro 0) j (rg_sz M)) 1) = some M4 := a1
    have e1 : rg_K M4 (rg_sz M2) = 2 := e1
    have rA2 : rg_R M4 35 ln = some (ro 2) := (f1 35 (by decide)).trans (rr 2 (by decide))
    obtain ⟨M6, a2, b2, c2, d2, e2, f2, h2⟩ := bI_step h1 hj4 (show 2 < 6 by decide)
    have a2 : rF_init (rg_sz M4) (rg_nO (rg_wQ M4 (ro 1) j (rg_sz M2)) 1) = some M6 := a2
    have e2 : rg_K M6 (rg_sz M4) = 2 := e2
    have rA3 : rg_R M6 36 ln = some (ro 3) := (f2 36 (by decide)).trans (rr 3 (by decide))
    obtain ⟨M8, a3, b3, c3, d3, e3, f3, h3⟩ := bI_step h2 hj4 (show 3 < 6 by decide)
    have a3 : rF_init (rg_sz M6) (rg_nO (rg_wQ M6 (ro 2) j (rg_sz M4)) 1) = some M8 := a3
    have e3 : rg_K M8 (rg_sz M6) = 2 := e3
    have rA4 : rg_R M8 37 ln = some (ro 4) := (f3 37 (by decide)).trans (rr 4 (by decide))
    obtain ⟨M10, a4, b4, c4, d4, e4, f4, h4⟩ := bI_step h3 hj4 (show 4 < 6 by decide)
    have a4 : rF_init (rg_sz M8) (rg_nO (rg_wQ M8 (ro 3) j (rg_sz M6)) 1) = some M10 := a4
    have e4 : rg_K M10 (rg_sz M8) = 2 := e4
    have rA5 : rg_R M10 38 ln = some (ro 5) := (f4 38 (by decide)).trans (rr 5 (by decide))
    obtain ⟨M12, a5, b5, c5, d5, e5, f5, h5⟩ := bI_step h4 hj4 (show 5 < 6 by decide)
    have a5 : rF_init (rg_sz M10) (rg_nO (rg_wQ M10 (ro 4) j (rg_sz M8)) 1) = some M12 := a5
    have e5 : rg_K M12 (rg_sz M10) = 2 := e5
    rw [rL_init_98_e, if_neg pp]
    simp only [q0, r0, rA1, rA2, rA3, rA4, rA5, a0, a1, a2, a3, a4, a5, b0, b1, b2, b3, b4, b5, c0, c1, c2, c3, c4, c5, d0, d1, d2, d3, d4, d5, e0, e1, e2, e3, e4, e5, if_true, Option.bind_some, k1, k2, hj4, and_self, nI_1]
    exact ih (j + 1) (by omega) (by omega) _ _ (bI_next h5)
/-- the learning -/
def cLn (rk ln : Nat) (ro fx : Nat → Nat) (M : rg_M) : Prop := (ln < rg_sz M ∧ rg_K M ln = 3) ∧ (rg_R M 32 ln = some rk ∧ rg_R M 33 ln = some (ro 0) ∧ rg_R M 34 ln = some (ro 1) ∧ rg_R M 35 ln = some (ro 2) ∧ rg_R M 36 ln = some (ro 3) ∧ rg_R M 37 ln = some (ro 4) ∧ rg_R M 38 ln = some (ro 5) ∧ rg_R M 39 ln = some (fx 240) ∧ rg_R M 40 ln = some (fx 241) ∧ rg_R M 41 ln = some (fx 242)) ∧ (∀ k, k < 6 → ro k < rg_sz M ∧ rg_K M (ro k) = 12 ∧ rg_L M (ro k) = 40) ∧ ∀ k i, k < 6 → i < 40 → rg_Q M (ro k) i = some (fx (40 * k + i))
theorem cLn.M {tb rk ln : Nat} {ro fx : Nat → Nat} {M M' : rg_M} (h : cLn rk ln ro fx M) (hM : cM tb M M') (ht : ln ≠ tb) : cLn rk ln ro fx M' := by
  obtain ⟨⟨a1, a2⟩, hb, hc, hd⟩ := h
  obtain ⟨m1, m2, m3, m4, m5⟩ := hM
  have R : ∀ f, f ≠ 80 → rg_R M' f ln = rg_R M f ln := fun f hf => m3 f ln a1 ht hf
  refine ⟨⟨by omega, by rw [(m2 ln a1).1]; exact a2⟩, ?_, fun k hk => ⟨by have := (hc k hk).1; omega, by rw [(m2 _ (hc k hk).1).1]; exact (hc k hk).2.1, by rw [(m2 _ (hc k hk).1).2]; exact (hc k hk).2.2⟩, fun k i hk hi => by rw [m4 _ _ (hc k hk).1]; exact hd k i hk hi⟩
  rw [R 32 (by decide), R 33 (by decide), R 34 (by decide), R 35 (by decide), R 36 (by decide), R 37 (by decide), R 38 (by decide), R 39 (by decide), R 40 (by decide), R 41 (by decide)]
  exact hb
theorem cLn.fx {rk ln : Nat} {ro fx fx' ro' : Nat → Nat} {M : rg_M} (h : cLn rk ln ro fx M) (hf : ∀ i, i < 243 → fx' i = fx i) (hr : ∀ k, k < 6 → ro' k = ro k) : cLn rk ln ro' fx' M := by
  obtain ⟨ha, hb, hc, hd⟩ := h
  refine ⟨ha, ?_, fun k hk => by rw [hr k hk]; exact hc k hk, fun k i hk hi => by rw [hr k hk, hf _ (by omega)]; exact hd k i hk hi⟩
  rw [hf 240 (by decide), hf 241 (by decide), hf 242 (by decide), hr 0 (by decide), hr 1 (by decide), hr 2 (by decide), hr 3 (by decide), hr 4 (by decide), hr 5 (by decide)]
  exact hb

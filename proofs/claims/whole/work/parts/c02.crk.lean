/-! the constructors: writes above the base; the reckoner -/
theorem cN.wR {M M1 : rg_M} (h : cN M M1) {f a v : Nat} (ha : rg_sz M ≤ a) (hf : f ≠ 80) : cN M (rg_wR M1 f a v) := by
  obtain ⟨q1, q2, q3, q4, q5, q6⟩ := h
  have o : ∀ b, cO (rg_wR M1 f a v) b → cO M1 b := fun b ⟨w, w1, w2⟩ => ⟨w, w1, by rw [wR_R (Or.inl (fun e => hf e.symm))] at w2; exact w2⟩
  exact ⟨q1, q2, q3, fun g b hb h1 => by rw [wR_R (Or.inr (by omega))]; exact q4 g b hb h1, q5, fun b hb ho => ⟨(q6 b hb ho).1, fun q => (q6 b hb ho).2 (o b q)⟩⟩
theorem wQ_Q {M : rg_M} {b i v b' i' : Nat} (h : b' ≠ b ∨ i' ≠ i) : rg_Q (rg_wQ M b i v) b' i' = rg_Q M b' i' := by
  show rg_u2 (rg_Q M) b i (some v) b' i' = _
  unfold rg_u2
  by_cases h1 : b' = b
  · rw [if_pos h1, if_neg (by rcases h with q | q; exact absurd h1 q; exact q)]
  · rw [if_neg h1]
theorem wQ_Qs (M : rg_M) (b i v : Nat) : rg_Q (rg_wQ M b i v) b i = some v := by
  show rg_u2 (rg_Q M) b i (some v) b i = _
  unfold rg_u2
  rw [if_pos rfl, if_pos rfl]
theorem cN.wQ {M M1 : rg_M} (h : cN M M1) {b i v : Nat} (hb : rg_sz M ≤ b) : cN M (rg_wQ M1 b i v) := by
  obtain ⟨q1, q2, q3, q4, q5, q6⟩ := h
  exact ⟨q1, q2, q3, q4, fun b' i' hb' => by rw [wQ_Q (Or.inl (by omega))]; exact q5 b' i' hb', q6⟩
theorem cN.wI {M M1 : rg_M} (h : cN M M1) {f a : Nat} {v : Int32} (ha : rg_sz M ≤ a) : cN M (rg_wI M1 f a v) := by
  obtain ⟨q1, q2, q3, q4, q5, q6⟩ := h
  exact ⟨q1, q2, fun g b hb h1 h2 => by rw [cw_IIn (Or.inr (by omega))]; exact q3 g b hb h1 h2, q4, q5, q6⟩
/-- what stays of all but one object's references -/
def cM (tb : Nat) (M M' : rg_M) : Prop := rg_sz M ≤ rg_sz M' ∧ (∀ a, a < rg_sz M → rg_K M' a = rg_K M a ∧ rg_L M' a = rg_L M a) ∧ (∀ f a, a < rg_sz M → a ≠ tb → f ≠ 80 → rg_R M' f a = rg_R M f a) ∧ (∀ b i, b < rg_sz M → rg_Q M' b i = rg_Q M b i) ∧ ∀ b, b < rg_sz M → ¬ cO M b → ¬ cO M' b
theorem cN.M {tb : Nat} {M M' : rg_M} (h : cN M M') : cM tb M M' := by
  obtain ⟨q1, q2, q3, q4, q5, q6⟩ := h
  exact ⟨q1, q2, fun f a ha _ h1 => q4 f a ha h1, q5, fun b hb ho => (q6 b hb ho).2⟩
theorem cM.tr {tb : Nat} {M M1 M2 : rg_M} (h : cM tb M M1) (h2 : cM tb M1 M2) : cM tb M M2 := by
  obtain ⟨a1, a2, a4, a5, a6⟩ := h
  obtain ⟨b1, b2, b4, b5, b6⟩ := h2
  exact ⟨by omega, fun a ha => ⟨(b2 a (by omega)).1.trans (a2 a ha).1, (b2 a (by omega)).2.trans (a2 a ha).2⟩, fun f a ha ht h1 => (b4 f a (by omega) ht h1).trans (a4 f a ha ht h1), fun b i hb => (b5 b i (by omega)).trans (a5 b i hb), fun b hb ho => b6 b (by omega) (a6 b hb ho)⟩
theorem cM_wR {tb f v : Nat} (M : rg_M) (hf : f ≠ 80) : cM tb M (rg_wR M f tb v) := by
  have o : ∀ b, cO (rg_wR M f tb v) b → cO M b := fun b ⟨w, w1, w2⟩ => ⟨w, w1, by rw [wR_R (Or.inl (fun e => hf e.symm))] at w2; exact w2⟩
  exact ⟨Nat.le_refl _, fun _ _ => ⟨rfl, rfl⟩, fun g a _ ht _ => wR_R (Or.inr ht), fun _ _ _ => rfl, fun b _ ho q => ho (o b q)⟩
/-- the reckoner as it is built: i whole numbers -/
def bK (u z n : Nat) (Mb : rg_M) (rk i : Nat) (c : Nat → Nat) (M : rg_M) : Prop := (∃ V, bH u z (n + i) V M) ∧ (∀ f, rg_K M f ≠ 2) ∧ cN Mb M ∧ (rg_sz Mb ≤ rk ∧ rk < rg_sz M ∧ rg_K M rk = 5) ∧ (∀ j, j < i → rg_R M (64 + j) rk = some (c j) ∧ c j < rg_sz M ∧ rg_K M (c j) = 6) ∧ ∀ j l, j < i → l < i → c j = c l → j = l
theorem bK_step {u z n rk i : Nat} {Mb M : rg_M} {c : Nat → Nat} (h : bK u z n Mb rk i c M) (hi : i < 11) : ∃ M1, rW_init (rg_sz M) (rg_nO M 5) = some M1 ∧ rg_K M1 rk = 5 ∧ bK u z n Mb rk (i + 1) (va_up c i (rg_sz M)) (rg_wR M1 (64 + i) rk (rg_sz M)) := by
  obtain ⟨⟨V, hB⟩, h2, hN, ⟨r1, r2, r3⟩, hc, hi'⟩ := h
  obtain ⟨M1, a1, a2, a3, a4, a5, a6⟩ := bH_nW hB
  have kr : rg_K M1 rk = 5 := by rw [(a3.2.1 rk r2).1]; exact r3
  refine ⟨M1, a1, kr, ⟨_, bH_wR a2 (by omega)⟩, fun f hf => h2 f (a6 f hf), (hN.tr a3).wR r1 (by omega), ⟨r1, by have := a3.1; show rk < rg_sz M1; omega, kr⟩, fun j hj => ?_, fun j l hj hl e => ?_⟩
  · by_cases ej : j = i
    · subst ej
      rw [rg_up_eq, wR_Rs]
      exact ⟨rfl, by show rg_sz M < rg_sz M1; omega, a4⟩
    · obtain ⟨p1, p2, p3⟩ := hc j (by omega)
      rw [rg_up_ne ej, wR_R (Or.inl (by omega)), a3.2.2.2.1 _ _ r2 (by omega)]
      exact ⟨p1, by show c j < rg_sz M1; omega, by show rg_K M1 (c j) = 6; rw [(a3.2.1 _ p2).1]; exact p3⟩
  · by_cases ej : j = i
    · by_cases el : l = i
      · omega
      · rw [ej, rg_up_eq, rg_up_ne el] at e
        have := (hc l (by omega)).2.1
        omega
    · by_cases el : l = i
      · rw [el, rg_up_eq, rg_up_ne ej] at e
        have := (hc j (by omega)).2.1
        omega
      · rw [rg_up_ne ej, rg_up_ne el] at e
        exact hi' j l (by omega) (by omega) e
theorem bK_init {u z n : Nat} {V : Nat → Int} {M : rg_M} (h : bH u z n V M) (h2 : ∀ f, rg_K M f ≠ 2) : ∃ M' c jf, rK_init (rg_sz M) (rg_nO M 4) = some M' ∧ bS (u + 12 + 4) (z + 2 + 2) (n + 11) c M' ∧ cRk (rg_sz M) c jf M' ∧ cN M M' ∧ rg_sz M < rg_sz M' := by
  obtain ⟨b1, b2⟩ := bH_nO (ci := 4) h (by decide)
  obtain ⟨rk, hrk⟩ : ∃ rk, rk = rg_sz M := ⟨_, rfl⟩
  rw [← hrk]
  obtain ⟨N, hN⟩ : ∃ N, N = rg_nO M 4 := ⟨_, rfl⟩
  rw [← hN] at b1 b2 ⊢
  have sN : rg_sz N = rk + 1 := by rw [hN, hrk]; rfl
  have s0 : bK (u + 12) (z + 2) n M rk 0 (fun _ => 0) N := ⟨⟨V, b1⟩, fun f hf => by
    by_cases e : f = rg_sz M
    · rw [hN, e, nO_Ks] at hf; exact absurd hf (by decide)
    · rw [hN, nO_K e] at hf; exact h2 f hf, b2, ⟨by omega, by omega, by rw [hN, hrk, nO_Ks]⟩, fun j hj => by omega, fun j l hj => by omega⟩
  obtain ⟨M1, a1, k1, s1⟩ := bK_step s0 (by decide)
  obtain ⟨M2, a2, k2, s2⟩ := bK_step s1 (by decide)
  have a2 : rW_init (rg_sz M1) (rg_nO (rg_wR M1 64 rk (rg_sz N)) 5) = some M2 := a2
  obtain ⟨M3, a3, k3, s3⟩ := bK_step s2 (by decide)
  have a3 : rW_init (rg_sz M2) (rg_nO (rg_wR M2 65 rk (rg_sz M1)) 5) = some M3 := a3
  obtain ⟨M4, a4, k4, s4⟩ := bK_step s3 (by decide)
  have a4 : rW_init (rg_sz M3) (rg_nO (rg_wR M3 66 rk (rg_sz M2)) 5) = some M4 := a4
  obtain ⟨M5, a5, k5, s5⟩ := bK_step s4 (by decide)
  have a5 : rW_init (rg_sz M4) (rg_nO (rg_wR M4 67 rk (rg_sz M3)) 5) = some M5 := a5
  obtain ⟨M6, a6, k6, s6⟩ := bK_step s5 (by decide)
  have a6 : rW_init (rg_sz M5) (rg_nO (rg_wR M5 68 rk (rg_sz M4)) 5) = some M6 := a6
  obtain ⟨M7, a7, k7, s7⟩ := bK_step s6 (by decide)
  have a7 : rW_init (rg_sz M6) (rg_nO (rg_wR M6 69 rk (rg_sz M5)) 5) = some M7 := a7
  obtain ⟨M8, a8, k8, s8⟩ := bK_step s7 (by decide)
  have a8 : rW_init (rg_sz M7) (rg_nO (rg_wR M7 70 rk (rg_sz M6)) 5) = some M8 := a8
  obtain ⟨M9, a9, k9, s9⟩ := bK_step s8 (by decide)
  have a9 : rW_init (rg_sz M8) (rg_nO (rg_wR M8 71 rk (rg_sz M7)) 5) = some M9 := a9
  obtain ⟨M10, a10, k10, s10⟩ := bK_step s9 (by decide)
  have a10 : rW_init (rg_sz M9) (rg_nO (rg_wR M9 72 rk (rg_sz M8)) 5) = some M10 := a10
  obtain ⟨M11, a11, k11, s11⟩ := bK_step s10 (by decide)
  have a11 : rW_init (rg_sz M10) (rg_nO (rg_wR M10 73 rk (rg_sz M9)) 5) = some M11 := a11
  obtain ⟨c, hc⟩ : ∃ c, c = va_up (va_up (va_up (va_up (va_up (va_up (va_up (va_up (va_up (va_up (va_up (fun _ => 0) 0 (rg_sz N)) 1 (rg_sz (rg_wR M1 (64 + 0) rk (rg_sz N)))) 2 (rg_sz (rg_wR M2 (64 + 1) rk (rg_sz M1)))) 3 (rg_sz (rg_wR M3 (64 + 2) rk (rg_sz M2)))) 4 (rg_sz (rg_wR M4 (64 + 3) rk (rg_sz M3)))) 5 (rg_sz (rg_wR M5 (64 + 4) rk (rg_sz M4)))) 6 (rg_sz (rg_wR M6 (64 + 5) rk (rg_sz M5)))) 7 (rg_sz (rg_wR M7 (64 + 6) rk (rg_sz M6)))) 8 (rg_sz (rg_wR M8 (64 + 7) rk (rg_sz M7)))) 9 (rg_sz (rg_wR M9 (64 + 8) rk (rg_sz M8)))) 10 (rg_sz (rg_wR M10 (64 + 9) rk (rg_sz M9))) := ⟨_, rfl⟩
  have s11 : bK (u + 12) (z + 2) n M rk 11 c (rg_wR M11 74 rk (rg_sz M10)) := by rw [hc]; exact s11
  obtain ⟨P, hP⟩ : ∃ P, P = rg_wR M11 74 rk (rg_sz M10) := ⟨_, rfl⟩
  rw [← hP] at s11
  obtain ⟨⟨V', p1⟩, p2, p3, ⟨p4, p5, p6⟩, p7, p8⟩ := s11
  obtain ⟨q1, q2⟩ := bH_nA (kd := 10) (l := 4) p1 (by decide)
  have c4 : (4 : Int32).toNatClampNeg = 4 := by decide
  have kP : rg_K (rg_nA P 10 4) rk = 5 := by rw [(q2.2.1 rk p5).1]; exact p6
  have kk2 : ∀ f, rg_K (rg_nA P 10 4) f ≠ 2 := fun f hf => by
    by_cases e : f = rg_sz P
    · rw [e, nA_Ks] at hf; exact absurd hf (by decide)
    · rw [nA_K e] at hf; exact p2 f hf
  refine ⟨rg_wR (rg_nA P 10 4) 75 rk (rg_sz P), c, rg_sz P, ?_, ⟨⟨V', bH_wR q1 (by decide), fun f t b hf => absurd hf (kk2 f)⟩, ⟨fun f hf => absurd hf (kk2 f), fun f f' i j w hf => absurd hf (kk2 f)⟩, fun i hi => by have := (p7 i hi).2.1; show c i < rg_sz P + 1; omega⟩, ⟨by show rk < rg_sz P + 1; omega, kP, fun i hi => ?_, fun i j hi hj e => p8 i j hi hj e, wR_Rs _ _ _ _, by show rg_sz P < rg_sz P + 1; omega, nA_Ks P 10 4, by show 4 ≤ rg_L (rg_nA P 10 4) (rg_sz P); rw [nA_Ls]; exact Nat.le_refl _⟩, (p3.tr q2).wR (by omega) (by decide), by show rk < rg_sz P + 1; omega⟩
  · have kP' : rg_K (rg_nA M11 10 4) rk = 5 := by rw [hP] at kP; exact kP
    rw [rK_init_u, rK_init_e]
    simp only [a1, a2, a3, a4, a5, a6, a7, a8, a9, a10, a11, Option.bind_some, k1, k2, k3, k4, k5, k6, k7, k8, k9, k10, k11, if_true, c4, kP']
    rw [if_pos (by decide), hP]; rfl
  · obtain ⟨t1, t2, t3⟩ := p7 i hi
    rw [wR_R (Or.inl (by omega)), q2.2.2.2.1 _ _ p5 (by omega)]
    exact ⟨t1, by show rg_K (rg_nA P 10 4) (c i) = 6; rw [(q2.2.1 _ t2).1]; exact t3⟩
theorem cRk.M {tb rk jf : Nat} {c : Nat → Nat} {M M' : rg_M} (h : cRk rk c jf M) (hM : cM tb M M') (ht : rk ≠ tb) (hc : ∀ i, i < 11 → c i < rg_sz M) : cRk rk c jf M' := by
  obtain ⟨a1, a2, a3, a4, a5, a6, a7, a8⟩ := h
  obtain ⟨m1, m2, m3, m4, m5⟩ := hM
  exact ⟨by omega, by rw [(m2 rk a1).1]; exact a2, fun i hi => ⟨by rw [m3 _ _ a1 ht (by omega)]; exact (a3 i hi).1, by rw [(m2 _ (hc i hi)).1]; exact (a3 i hi).2⟩, a4, by rw [m3 _ _ a1 ht (by decide)]; exact a5, by omega, by rw [(m2 _ a6).1]; exact a7, by rw [(m2 _ a6).2]; exact a8⟩

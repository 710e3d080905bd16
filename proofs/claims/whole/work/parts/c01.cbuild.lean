/-! THE CONSTRUCTORS OF THE CLASS: the heap grows -/
/-- what stays when the heap grows -/
def cN (M M' : rg_M) : Prop := rg_sz M ≤ rg_sz M' ∧ (∀ a, a < rg_sz M → rg_K M' a = rg_K M a ∧ rg_L M' a = rg_L M a) ∧ (∀ f a, a < rg_sz M → f ≠ 81 → f ≠ 82 → rg_I M' f a = rg_I M f a) ∧ (∀ f a, a < rg_sz M → f ≠ 80 → rg_R M' f a = rg_R M f a) ∧ (∀ b i, b < rg_sz M → rg_Q M' b i = rg_Q M b i) ∧ (∀ b, b < rg_sz M → ¬ cO M b → rg_A M' b = rg_A M b ∧ ¬ cO M' b)
theorem cN.rf (M : rg_M) : cN M M := ⟨Nat.le_refl _, fun _ _ => ⟨rfl, rfl⟩, fun _ _ _ _ _ => rfl, fun _ _ _ _ => rfl, fun _ _ _ => rfl, fun _ _ h => ⟨rfl, h⟩⟩
theorem cN.tr {M M1 M2 : rg_M} (h : cN M M1) (h2 : cN M1 M2) : cN M M2 := by
  obtain ⟨a1, a2, a3, a4, a5, a6⟩ := h
  obtain ⟨b1, b2, b3, b4, b5, b6⟩ := h2
  refine ⟨by omega, fun a ha => ⟨(b2 a (by omega)).1.trans (a2 a ha).1, (b2 a (by omega)).2.trans (a2 a ha).2⟩, fun f a ha h1 h2 => (b3 f a (by omega) h1 h2).trans (a3 f a ha h1 h2), fun f a ha h1 => (b4 f a (by omega) h1).trans (a4 f a ha h1), fun b i hb => (b5 b i (by omega)).trans (a5 b i hb), fun b hb ho => ?_⟩
  obtain ⟨p1, p2⟩ := a6 b hb ho
  obtain ⟨q1, q2⟩ := b6 b (by omega) p2
  exact ⟨q1.trans p1, q2⟩
theorem cF.N {M M' : rg_M} (h : cF M M') : cN M M' := by
  obtain ⟨g1, g2, g3, g4, g5, g6, g7⟩ := h
  refine ⟨g1, fun a ha => ⟨?_, g3 a ha⟩, fun f a _ h1 h2 => g4 f a h1 h2, fun f a _ h1 => g5 f a h1, g6, g7⟩
  rcases g2 a with p | p
  · exact p
  · omega
theorem nO_K {M : rg_M} {ci a : Nat} (h : a ≠ rg_sz M) : rg_K (rg_nO M ci) a = rg_K M a := rg_up_ne h
theorem nO_Ks (M : rg_M) (ci : Nat) : rg_K (rg_nO M ci) (rg_sz M) = ci + 1 := rg_up_eq
theorem nO_I {M : rg_M} {ci f a : Nat} (h : a ≠ rg_sz M) : rg_I (rg_nO M ci) f a = rg_I M f a := if_neg h
theorem nO_Is (M : rg_M) (ci f : Nat) : rg_I (rg_nO M ci) f (rg_sz M) = 0 := if_pos rfl
theorem nO_R {M : rg_M} {ci f a : Nat} (h : a ≠ rg_sz M) : rg_R (rg_nO M ci) f a = rg_R M f a := if_neg h
theorem nO_Rs (M : rg_M) (ci f : Nat) : rg_R (rg_nO M ci) f (rg_sz M) = none := if_pos rfl
theorem nA_K {M : rg_M} {kd n a : Nat} (h : a ≠ rg_sz M) : rg_K (rg_nA M kd n) a = rg_K M a := rg_up_ne h
theorem nA_Ks (M : rg_M) (kd n : Nat) : rg_K (rg_nA M kd n) (rg_sz M) = kd := rg_up_eq
theorem nA_L {M : rg_M} {kd n a : Nat} (h : a ≠ rg_sz M) : rg_L (rg_nA M kd n) a = rg_L M a := rg_up_ne h
theorem nA_Ls (M : rg_M) (kd n : Nat) : rg_L (rg_nA M kd n) (rg_sz M) = n := rg_up_eq
theorem nA_A {M : rg_M} {kd n b : Nat} (h : b ≠ rg_sz M) : rg_A (rg_nA M kd n) b = rg_A M b := by
  funext i; exact if_neg h
theorem nA_As (M : rg_M) (kd n i : Nat) : rg_A (rg_nA M kd n) (rg_sz M) i = 0 := if_pos rfl
theorem nA_Q {M : rg_M} {kd n b i : Nat} (h : b ≠ rg_sz M) : rg_Q (rg_nA M kd n) b i = rg_Q M b i := if_neg h
theorem wR_R {M : rg_M} {f a v g b : Nat} (h : g ≠ f ∨ b ≠ a) : rg_R (rg_wR M f a v) g b = rg_R M g b := by
  show rg_u2 (rg_R M) f a (some v) g b = _
  unfold rg_u2
  by_cases h1 : g = f
  · rw [if_pos h1, if_neg (by rcases h with q | q; exact absurd h1 q; exact q)]
  · rw [if_neg h1]
theorem wR_Rs (M : rg_M) (f a v : Nat) : rg_R (rg_wR M f a v) f a = some v := by
  show rg_u2 (rg_R M) f a (some v) f a = _
  unfold rg_u2
  rw [if_pos rfl, if_pos rfl]
/-- the whole numbers on the heap: their values, their room, their list -/
def bH (u z n : Nat) (V : Nat → Int) (M : rg_M) : Prop := cH u z M ∧ cvV M V ∧ ∃ g : Nat → Nat, ∀ w, rg_K M w = 6 → ∃ i, i < n ∧ w = g i
theorem bH_nO {u z n ci : Nat} {V : Nat → Int} {M : rg_M} (h : bH u z n V M) (hc : ci + 1 ≠ 6) : bH (u + rg_n ci) (z + 2) n V (rg_nO M ci) ∧ cN M (rg_nO M ci) := by
  obtain ⟨hH, hV, g, hg⟩ := h
  have hk : ∀ w, rg_K (rg_nO M ci) w = 6 → rg_K M w = 6 ∧ w < rg_sz M := fun w hw => by
    by_cases e : w = rg_sz M
    · rw [e, nO_Ks] at hw; exact absurd hw hc
    · rw [nO_K e] at hw; exact ⟨hw, (hH.1 w hw).1⟩
  have hO : ∀ b, cO (rg_nO M ci) b → cO M b := fun b ⟨w, w1, w2⟩ => by
    obtain ⟨k1, k2⟩ := hk w w1
    rw [nO_R (by omega)] at w2
    exact ⟨w, k1, w2⟩
  have hcw : ∀ a, a < rg_sz M → cwc (rg_nO M ci) a = cwc M a := fun a ha => by
    unfold cwc
    rw [nO_K (by omega), nO_R (by omega)]; rfl
  have hsum : fb_sm (cwc (rg_nO M ci)) (rg_sz M + 1) = fb_sm (cwc M) (rg_sz M) := by
    rw [fb_sm_succ, fb_sm_cong hcw]
    have : cwc (rg_nO M ci) (rg_sz M) = 0 := by unfold cwc; rw [nO_Ks, if_neg hc]
    omega
  refine ⟨⟨⟨fun w hw => ?_, fun w w' b h1 h2 h3 h4 => ?_, ?_, ?_⟩, fun w hw => ?_, g, fun w hw => hg w (hk w hw).1⟩, by show rg_sz M ≤ rg_sz M + 1; omega, fun a ha => ⟨nO_K (by omega), rfl⟩, fun f a ha _ _ => nO_I (by omega), fun f a ha _ => nO_R (by omega), fun b i _ => rfl, fun b hb ho => ⟨rfl, fun q => ho (hO b q)⟩⟩
  · obtain ⟨k1, k2⟩ := hk w hw
    obtain ⟨s1, b, s2, s3, s4, s5, s6⟩ := hH.1 w k1
    exact ⟨by show w < rg_sz M + 1; omega, b, by rw [nO_R (by omega)]; exact s2, by show b < rg_sz M + 1; omega, by rw [nO_K (by omega)]; exact s4, s5, s6⟩
  · obtain ⟨k1, k2⟩ := hk w h1
    obtain ⟨k3, k4⟩ := hk w' h2
    rw [nO_R (by omega)] at h3 h4
    exact hH.2.1 w w' b k1 k3 h3 h4
  · show rg_us M + rg_n ci ≤ u + rg_n ci + 3 * fb_sm (cwc (rg_nO M ci)) (rg_sz M + 1)
    rw [hsum]; have := hH.2.2.1; omega
  · show 2 * (rg_sz M + 1) ≤ z + 2 + fb_sm (cwc (rg_nO M ci)) (rg_sz M + 1)
    rw [hsum]; have := hH.2.2.2; omega
  · obtain ⟨k1, k2⟩ := hk w hw
    obtain ⟨b, n, c1, c2, c3, c4⟩ := hV w k1
    have hb := hH.L k1 c2
    refine ⟨b, n, hw, by rw [nO_R (by omega)]; exact c2, by rw [nO_K (by omega)]; exact c3, ?_⟩
    rw [nO_I (by omega), nO_I (by omega)]; exact c4
theorem bH_nA {u z n kd l : Nat} {V : Nat → Int} {M : rg_M} (h : bH u z n V M) (hc : kd ≠ 6) : bH (u + l) (z + 2) n V (rg_nA M kd l) ∧ cN M (rg_nA M kd l) := by
  obtain ⟨hH, hV, g, hg⟩ := h
  have hk : ∀ w, rg_K (rg_nA M kd l) w = 6 → rg_K M w = 6 ∧ w < rg_sz M := fun w hw => by
    by_cases e : w = rg_sz M
    · rw [e, nA_Ks] at hw; exact absurd hw hc
    · rw [nA_K e] at hw; exact ⟨hw, (hH.1 w hw).1⟩
  have hO : ∀ b, cO (rg_nA M kd l) b → cO M b := fun b ⟨w, w1, w2⟩ => ⟨w, (hk w w1).1, w2⟩
  have hcw : ∀ a, a < rg_sz M → cwc (rg_nA M kd l) a = cwc M a := fun a ha => by
    unfold cwc
    rw [nA_K (by omega)]
    by_cases c : rg_K M a = 6
    · rw [if_pos c, if_pos c]
      obtain ⟨s1, b, s2, s3, s4⟩ := hH.1 a c
      show (rg_R M 80 a).elim 0 (rg_L (rg_nA M kd l)) = _
      rw [s2]
      show rg_L (rg_nA M kd l) b = rg_L M b
      exact nA_L (by omega)
    · rw [if_neg c, if_neg c]
  have hsum : fb_sm (cwc (rg_nA M kd l)) (rg_sz M + 1) = fb_sm (cwc M) (rg_sz M) := by
    rw [fb_sm_succ, fb_sm_cong hcw]
    have : cwc (rg_nA M kd l) (rg_sz M) = 0 := by unfold cwc; rw [nA_Ks, if_neg hc]
    omega
  refine ⟨⟨⟨fun w hw => ?_, fun w w' b h1 h2 h3 h4 => ?_, ?_, ?_⟩, fun w hw => ?_, g, fun w hw => hg w (hk w hw).1⟩, by show rg_sz M ≤ rg_sz M + 1; omega, fun a ha => ⟨nA_K (by omega), nA_L (by omega)⟩, fun f a ha _ _ => rfl, fun f a ha _ => rfl, fun b i hb => nA_Q (by omega), fun b hb ho => ⟨nA_A (by omega), fun q => ho (hO b q)⟩⟩
  · obtain ⟨k1, k2⟩ := hk w hw
    obtain ⟨s1, b, s2, s3, s4, s5, s6⟩ := hH.1 w k1
    exact ⟨by show w < rg_sz M + 1; omega, b, s2, by show b < rg_sz M + 1; omega, by rw [nA_K (by omega)]; exact s4, by rw [nA_L (by omega)]; exact s5, by rw [nA_L (by omega)]; exact s6⟩
  · exact hH.2.1 w w' b (hk w h1).1 (hk w' h2).1 h3 h4
  · show rg_us M + l ≤ u + l + 3 * fb_sm (cwc (rg_nA M kd l)) (rg_sz M + 1)
    rw [hsum]; have := hH.2.2.1; omega
  · show 2 * (rg_sz M + 1) ≤ z + 2 + fb_sm (cwc (rg_nA M kd l)) (rg_sz M + 1)
    rw [hsum]; have := hH.2.2.2; omega
  · obtain ⟨k1, k2⟩ := hk w hw
    obtain ⟨b, n, c1, c2, c3, c4, c5⟩ := hV w k1
    have hb := hH.L k1 c2
    refine ⟨b, n, hw, c2, by rw [nA_K (by omega)]; exact c3, by rw [nA_L (by omega)]; exact c4, ?_⟩
    rw [nA_A (by omega)]; exact c5
theorem bH_wR {u z n f a v : Nat} {V : Nat → Int} {M : rg_M} (h : bH u z n V M) (hf : f ≠ 80) : bH u z n V (rg_wR M f a v) := by
  obtain ⟨hH, hV, g, hg⟩ := h
  have r80 : ∀ w, rg_R (rg_wR M f a v) 80 w = rg_R M 80 w := fun w => wR_R (Or.inl (fun e => hf e.symm))
  have hcw : cwc (rg_wR M f a v) = cwc M := by funext x; unfold cwc; rw [r80]; rfl
  refine ⟨⟨fun w hw => ?_, fun w w' b h1 h2 h3 h4 => ?_, ?_, ?_⟩, fun w hw => ?_, g, hg⟩
  · rw [r80]; exact hH.1 w hw
  · rw [r80] at h3 h4; exact hH.2.1 w w' b h1 h2 h3 h4
  · rw [hcw]; exact hH.2.2.1
  · rw [hcw]; exact hH.2.2.2
  · obtain ⟨b, n, c1, c2, c3⟩ := hV w hw
    exact ⟨b, n, c1, by rw [r80]; exact c2, c3⟩
theorem bH_wQ {u z n b i v : Nat} {V : Nat → Int} {M : rg_M} (h : bH u z n V M) : bH u z n V (rg_wQ M b i v) := h
/-- a new whole number: 0 -/
theorem bH_nW {u z n : Nat} {V : Nat → Int} {M : rg_M} (h : bH u z n V M) : ∃ M', rW_init (rg_sz M) (rg_nO M 5) = some M' ∧ bH u z (n + 1) (va_up V (rg_sz M) 0) M' ∧ cN M M' ∧ rg_K M' (rg_sz M) = 6 ∧ rg_sz M' = rg_sz M + 2 ∧ ∀ f, rg_K M' f = 2 → rg_K M f = 2 := by
  obtain ⟨hH, hV, g, hg⟩ := h
  obtain ⟨M1, hM1⟩ : ∃ M1, M1 = rg_nO M 5 := ⟨_, rfl⟩
  obtain ⟨M2, hM2⟩ : ∃ M2, M2 = rg_nA M1 9 4 := ⟨_, rfl⟩
  obtain ⟨M3, hM3⟩ : ∃ M3, M3 = rg_wR M2 80 (rg_sz M) (rg_sz M1) := ⟨_, rfl⟩
  have s1 : rg_sz M1 = rg_sz M + 1 := by rw [hM1]; rfl
  have s2 : rg_sz M2 = rg_sz M + 2 := by rw [hM2]; show rg_sz M1 + 1 = _; omega
  have s3 : rg_sz M3 = rg_sz M + 2 := by rw [hM3]; exact s2
  have u3 : rg_us M3 = rg_us M + 7 := by rw [hM3]; show rg_us M2 = _; rw [hM2]; show rg_us M1 + 4 = _; rw [hM1]; rfl
  have K0 : ∀ a, a ≠ rg_sz M → a ≠ rg_sz M + 1 → rg_K M3 a = rg_K M a := fun a h1 h2 => by
    rw [hM3]; show rg_K M2 a = _; rw [hM2, nA_K (by omega), hM1, nO_K h1]
  have Kw : rg_K M3 (rg_sz M) = 6 := by rw [hM3]; show rg_K M2 _ = _; rw [hM2, nA_K (by omega), hM1, nO_Ks]
  have Kb : rg_K M3 (rg_sz M + 1) = 9 := by rw [hM3]; show rg_K M2 _ = _; rw [hM2, ← s1, nA_Ks]
  have R0 : ∀ f a, a ≠ rg_sz M → rg_R M3 f a = rg_R M f a := fun f a h1 => by
    rw [hM3, wR_R (Or.inr h1), hM2]; show rg_R M1 f a = _; rw [hM1, nO_R h1]
  have Rw : rg_R M3 80 (rg_sz M) = some (rg_sz M + 1) := by rw [hM3, wR_Rs, s1]
  have I0 : ∀ f a, a ≠ rg_sz M → rg_I M3 f a = rg_I M f a := fun f a h1 => by
    rw [hM3]; show rg_I M2 f a = _; rw [hM2]; show rg_I M1 f a = _; rw [hM1, nO_I h1]
  have Iw : ∀ f, rg_I M3 f (rg_sz M) = 0 := fun f => by
    rw [hM3]; show rg_I M2 f _ = _; rw [hM2]; show rg_I M1 f _ = _; rw [hM1, nO_Is]
  have L0 : ∀ a, a ≠ rg_sz M + 1 → rg_L M3 a = rg_L M a := fun a h1 => by
    rw [hM3]; show rg_L M2 a = _; rw [hM2, nA_L (by omega), hM1]; rfl
  have Lb : rg_L M3 (rg_sz M + 1) = 4 := by rw [hM3]; show rg_L M2 _ = _; rw [hM2, ← s1, nA_Ls]
  have A0 : ∀ b, b ≠ rg_sz M + 1 → rg_A M3 b = rg_A M b := fun b h1 => by
    rw [hM3]; show rg_A M2 b = _; rw [hM2, nA_A (by omega), hM1]; rfl
  have Q0 : ∀ b i, b ≠ rg_sz M + 1 → rg_Q M3 b i = rg_Q M b i := fun b i h1 => by
    rw [hM3]; show rg_Q M2 b i = _; rw [hM2, nA_Q (by omega), hM1]; rfl
  have hk : ∀ w, rg_K M3 w = 6 → w = rg_sz M ∨ (rg_K M w = 6 ∧ w < rg_sz M) := fun w hw => by
    by_cases e : w = rg_sz M
    · exact Or.inl e
    · by_cases e2 : w = rg_sz M + 1
      · rw [e2, Kb] at hw; exact absurd hw (by decide)
      · rw [K0 w e e2] at hw; exact Or.inr ⟨hw, (hH.1 w hw).1⟩
  have hcw : ∀ a, a < rg_sz M → cwc M3 a = cwc M a := fun a ha => by
    unfold cwc
    rw [K0 a (by omega) (by omega)]
    by_cases c : rg_K M a = 6
    · rw [if_pos c, if_pos c, R0 80 a (by omega)]
      obtain ⟨q1, b, q2, q3, q4⟩ := hH.1 a c
      rw [q2]
      show rg_L M3 b = rg_L M b
      exact L0 b (by omega)
    · rw [if_neg c, if_neg c]
  have hsum : fb_sm (cwc M3) (rg_sz M + 2) = fb_sm (cwc M) (rg_sz M) + 4 := by
    rw [fb_sm_succ, fb_sm_succ, fb_sm_cong hcw]
    have e1 : cwc M3 (rg_sz M) = 4 := by unfold cwc; rw [Kw, if_pos rfl, Rw]; exact Lb
    have e2 : cwc M3 (rg_sz M + 1) = 0 := by unfold cwc; rw [Kb, if_neg (by decide)]
    omega
  refine ⟨M3, ?_, ⟨⟨fun w hw => ?_, fun w w' b h1 h2 h3 h4 => ?_, ?_, ?_⟩, fun w hw => ?_, va_up g n (rg_sz M), fun w hw => ?_⟩, ⟨by omega, fun a ha => ⟨K0 a (by omega) (by omega), L0 a (by omega)⟩, fun f a ha _ _ => I0 f a (by omega), fun f a ha _ => R0 f a (by omega), fun b i hb => Q0 b i (by omega), fun b hb ho => ⟨A0 b (by omega), fun q => ?_⟩⟩, Kw, s3, fun f hf => ?_⟩
  · have c4 : (4 : Int32).toNatClampNeg = 4 := by decide
    rw [rW_init_u, rW_init_e, if_pos (by decide), c4]
    have k2 : rg_K (rg_nA (rg_nO M 5) 9 4) (rg_sz M) = 6 := by
      have : rg_K M2 (rg_sz M) = 6 := by have := Kw; rw [hM3] at this; exact this
      rw [hM2, hM1] at this; exact this
    rw [if_pos k2, hM3, hM2, hM1]; rfl
  · rcases hk w hw with e | ⟨k1, k2⟩
    · rw [e]; exact ⟨by omega, rg_sz M + 1, Rw, by omega, Kb, by rw [Lb]; exact Nat.le_refl _, by rw [Lb]; decide⟩
    · obtain ⟨q1, b, q2, q3, q4, q5, q6⟩ := hH.1 w k1
      exact ⟨by omega, b, by rw [R0 _ _ (by omega)]; exact q2, by omega, by rw [K0 b (by omega) (by omega)]; exact q4, by rw [L0 b (by omega)]; exact q5, by rw [L0 b (by omega)]; exact q6⟩
  · rcases hk w h1 with e | ⟨k1, k2⟩
    · rcases hk w' h2 with e' | ⟨k3, k4⟩
      · rw [e, e']
      · rw [e, Rw] at h3
        rw [R0 _ _ (by omega)] at h4
        have := (hH.L k3 h4).1
        have e3 := Option.some.inj h3
        omega
    · rcases hk w' h2 with e' | ⟨k3, k4⟩
      · rw [e', Rw] at h4
        rw [R0 _ _ (by omega)] at h3
        have := (hH.L k1 h3).1
        have e3 := Option.some.inj h4
        omega
      · rw [R0 _ _ (by omega)] at h3 h4
        exact hH.2.1 w w' b k1 k3 h3 h4
  · rw [s3, hsum, u3]; have := hH.2.2.1; omega
  · rw [s3, hsum]; have := hH.2.2.2; omega
  · rcases hk w hw with e | ⟨k1, k2⟩
    · rw [e, rg_up_eq]
      exact ⟨rg_sz M + 1, 0, Kw, Rw, Kb, Nat.zero_le _, Iw 81, ⟨Or.inl (Iw 82), fun q => absurd rfl q⟩, fun j hj => by omega, Or.inl rfl, rfl⟩
    · rw [rg_up_ne (by omega)]
      obtain ⟨b, nn, c1, c2, c3, c4, c5⟩ := hV w k1
      have hb := hH.L k1 c2
      refine ⟨b, nn, hw, by rw [R0 _ _ (by omega)]; exact c2, by rw [K0 b (by omega) (by omega)]; exact c3, by rw [L0 b (by omega)]; exact c4, ?_⟩
      rw [I0 _ _ (by omega), I0 _ _ (by omega), A0 b (by omega)]; exact c5
  · rcases hk w hw with e | ⟨k1, k2⟩
    · exact ⟨n, by omega, by rw [rg_up_eq]; exact e⟩
    · obtain ⟨i, i1, i2⟩ := hg w k1
      exact ⟨i, by omega, by rw [rg_up_ne (by omega)]; exact i2⟩
  · obtain ⟨w, w1, w2⟩ := q
    rcases hk w w1 with e | ⟨k1, k2⟩
    · rw [e, Rw] at w2
      have := Option.some.inj w2
      omega
    · rw [R0 _ _ (by omega)] at w2
      exact ho ⟨w, k1, w2⟩
  · by_cases e : f = rg_sz M
    · rw [e, Kw] at hf; exact absurd hf (by decide)
    · by_cases e2 : f = rg_sz M + 1
      · rw [e2, Kb] at hf; exact absurd hf (by decide)
      · rw [K0 f e e2] at hf; exact hf
/-- all fractions are 0 -/
def bS (u z n : Nat) (c : Nat → Nat) (M : rg_M) : Prop := (∃ V, bH u z n V M ∧ cvQ M V (fun _ => 0)) ∧ cFr c M ∧ ∀ i, i < 11 → c i < rg_sz M
theorem cN_fr {c : Nat → Nat} {M M' : rg_M} {u z : Nat} (hN : cN M M') (hH : cH u z M) (h2 : ∀ f, rg_K M' f = 2 → rg_K M f = 2) (h : cFr c M) (hR : ∀ f a, f = 16 ∨ f = 17 → a < rg_sz M → rg_R M' f a = rg_R M f a) : cFr c M' := by
  refine ⟨fun f hf => ?_, fun f f' i j w h1 h1' hi hj h3 h4 => ?_⟩
  · obtain ⟨f1, t, b, f2, f3, f4, f5, f6⟩ := h.1 f (h2 f hf)
    have ht := (hH.1 t f4).1
    have hb := (hH.1 b f5).1
    exact ⟨by have := hN.1; omega, t, b, by rw [hR 16 f (Or.inl rfl) f1]; exact f2, by rw [hR 17 f (Or.inr rfl) f1]; exact f3, by rw [(hN.2.1 t ht).1]; exact f4, by rw [(hN.2.1 b hb).1]; exact f5, f6⟩
  · have q1 := (h.1 f (h2 f h1)).1
    have q2 := (h.1 f' (h2 f' h1')).1
    rw [hR i f hi q1] at h3
    rw [hR j f' hj q2] at h4
    exact h.2 f f' i j w (h2 f h1) (h2 f' h1') hi hj h3 h4
theorem bS_nO {u z n ci : Nat} {c : Nat → Nat} {M : rg_M} (h : bS u z n c M) (hc : ci + 1 ≠ 6) (hc2 : ci + 1 ≠ 2) : bS (u + rg_n ci) (z + 2) n c (rg_nO M ci) ∧ cN M (rg_nO M ci) := by
  obtain ⟨⟨V, hB, hQ⟩, hF, hc'⟩ := h
  obtain ⟨b1, b2⟩ := bH_nO (ci := ci) hB hc
  have k2 : ∀ f, rg_K (rg_nO M ci) f = 2 → rg_K M f = 2 := fun f hf => by
    by_cases e : f = rg_sz M
    · rw [e, nO_Ks] at hf; exact absurd hf hc2
    · rw [nO_K e] at hf; exact hf
  refine ⟨⟨⟨V, b1, fun f t b h1 h2 h3 => ?_⟩, cN_fr b2 hB.1 k2 hF (fun f a _ ha => b2.2.2.2.1 f a ha (by omega)), fun i hi => by have := hc' i hi; show c i < rg_sz M + 1; omega⟩, b2⟩
  have q := (hF.1 f (k2 f h1)).1
  rw [nO_R (by omega)] at h2 h3
  exact hQ f t b (k2 f h1) h2 h3
theorem bS_nA {u z n kd l : Nat} {c : Nat → Nat} {M : rg_M} (h : bS u z n c M) (hc : kd ≠ 6) (hc2 : kd ≠ 2) : bS (u + l) (z + 2) n c (rg_nA M kd l) ∧ cN M (rg_nA M kd l) := by
  obtain ⟨⟨V, hB, hQ⟩, hF, hc'⟩ := h
  obtain ⟨b1, b2⟩ := bH_nA (kd := kd) (l := l) hB hc
  have k2 : ∀ f, rg_K (rg_nA M kd l) f = 2 → rg_K M f = 2 := fun f hf => by
    by_cases e : f = rg_sz M
    · rw [e, nA_Ks] at hf; exact absurd hf hc2
    · rw [nA_K e] at hf; exact hf
  exact ⟨⟨⟨V, b1, fun f t b h1 h2 h3 => hQ f t b (k2 f h1) h2 h3⟩, cN_fr b2 hB.1 k2 hF (fun _ _ _ _ => rfl), fun i hi => by have := hc' i hi; show c i < rg_sz M + 1; omega⟩, b2⟩
theorem bS_wR {u z n f a v : Nat} {c : Nat → Nat} {M : rg_M} (h : bS u z n c M) (h1 : f ≠ 80) (h2 : f ≠ 16) (h3 : f ≠ 17) : bS u z n c (rg_wR M f a v) := by
  obtain ⟨⟨V, hB, hQ⟩, hF, hc'⟩ := h
  have r : ∀ g b, g = 16 ∨ g = 17 → rg_R (rg_wR M f a v) g b = rg_R M g b := fun g b hg => wR_R (Or.inl (by omega))
  refine ⟨⟨V, bH_wR hB h1, fun x t b k1 k2 k3 => ?_⟩, ⟨fun x hx => ?_, fun x x' i j w k1 k2 hi hj k3 k4 => ?_⟩, hc'⟩
  · rw [r _ _ (Or.inl rfl)] at k2
    rw [r _ _ (Or.inr rfl)] at k3
    exact hQ x t b k1 k2 k3
  · rw [r _ _ (Or.inl rfl), r _ _ (Or.inr rfl)]; exact hF.1 x hx
  · rw [r _ _ hi] at k3
    rw [r _ _ hj] at k4
    exact hF.2 x x' i j w k1 k2 hi hj k3 k4
theorem bS_wQ {u z n b i v : Nat} {c : Nat → Nat} {M : rg_M} (h : bS u z n c M) : bS u z n c (rg_wQ M b i v) := h
/-- a new fraction: 0 -/
theorem bS_nF {u z n : Nat} {c : Nat → Nat} {M : rg_M} (h : bS u z n c M) : ∃ M', rF_init (rg_sz M) (rg_nO M 1) = some M' ∧ bS (u + 2) (z + 2) (n + 2) c M' ∧ cN M M' ∧ rg_K M' (rg_sz M) = 2 ∧ rg_sz M < rg_sz M' := by
  obtain ⟨⟨V, hB, hQ⟩, hF, hc'⟩ := h
  obtain ⟨a1, a2⟩ := bH_nO (ci := 1) hB (by decide)
  obtain ⟨M0, hM0⟩ : ∃ M0, M0 = rg_nO M 1 := ⟨_, rfl⟩
  rw [← hM0] at a1 a2
  have s0 : rg_sz M0 = rg_sz M + 1 := by rw [hM0]; rfl
  have k0 : rg_K M0 (rg_sz M) = 2 := by rw [hM0, nO_Ks]
  obtain ⟨M1, b1, b2, b3, b4, b5, b6⟩ := bH_nW a1
  have k1 : rg_K M1 (rg_sz M) = 2 := by rw [(b3.2.1 _ (by omega)).1]; exact k0
  obtain ⟨M1', hM1⟩ : ∃ M1', M1' = rg_wR M1 16 (rg_sz M) (rg_sz M0) := ⟨_, rfl⟩
  have b2' : bH (u + rg_n 1) (z + 2) (n + 1) (va_up V (rg_sz M0) 0) M1' := by rw [hM1]; exact bH_wR b2 (by decide)
  have s1 : rg_sz M1' = rg_sz M1 := by rw [hM1]; rfl
  obtain ⟨M2, c1, c2, c3, c4, c5, c6⟩ := bH_nW b2'
  have k1' : rg_K M1' (rg_sz M) = 2 := by rw [hM1]; exact k1
  have k2 : rg_K M2 (rg_sz M) = 2 := by rw [(c3.2.1 _ (by omega)).1]; exact k1'
  have r16 : rg_R M2 16 (rg_sz M) = some (rg_sz M0) := by rw [c3.2.2.2.1 _ _ (by omega) (by decide), hM1, wR_Rs]
  obtain ⟨M2', hM2⟩ : ∃ M2', M2' = rg_wR M2 17 (rg_sz M) (rg_sz M1) := ⟨_, rfl⟩
  have c2' : bH (u + rg_n 1) (z + 2) (n + 1 + 1) (va_up (va_up V (rg_sz M0) 0) (rg_sz M1') 0) M2' := by rw [hM2]; exact bH_wR c2 (by decide)
  rw [s1] at c2' c4
  have kb : rg_K M2' (rg_sz M1) = 6 := by rw [hM2]; exact c4
  obtain ⟨M3, d1, d2, d3, d4⟩ := cw_become c2'.1 c2'.2.1 kb 1
  rw [show (1 : Int64).toInt = 1 from rfl, rg_up_up] at d4
  have r17 : rg_R M2' 17 (rg_sz M) = some (rg_sz M1) := by rw [hM2, wR_Rs]
  have r16' : rg_R M2' 16 (rg_sz M) = some (rg_sz M0) := by rw [hM2, wR_R (Or.inl (by decide))]; exact r16
  -- frames
  have n1 : cN M M1 := a2.tr b3
  have n12 : ∀ f a, a < rg_sz M → f ≠ 80 → rg_R M1' f a = rg_R M1 f a := fun f a ha _ => by rw [hM1]; exact wR_R (Or.inr (by omega))
  have nM1' : cN M M1' := by
    obtain ⟨q1, q2, q3, q4, q5, q6⟩ := n1
    have o : ∀ b, cO M1' b → cO M1 b := fun b ⟨w, w1, w2⟩ => ⟨w, by rw [hM1] at w1; exact w1, by rw [hM1, wR_R (Or.inl (by decide))] at w2; exact w2⟩
    refine ⟨by rw [s1]; exact q1, fun a ha => by rw [hM1]; exact q2 a ha, fun f a ha h1 h2 => by rw [hM1]; exact q3 f a ha h1 h2, fun f a ha h1 => by rw [n12 f a ha h1]; exact q4 f a ha h1, fun b i hb => by rw [hM1]; exact q5 b i hb, fun b hb ho => ⟨by rw [hM1]; exact (q6 b hb ho).1, fun q => (q6 b hb ho).2 (o b q)⟩⟩
  have nM2 : cN M M2 := nM1'.tr c3
  have nM2' : cN M M2' := by
    obtain ⟨q1, q2, q3, q4, q5, q6⟩ := nM2
    have o : ∀ b, cO M2' b → cO M2 b := fun b ⟨w, w1, w2⟩ => ⟨w, by rw [hM2] at w1; exact w1, by rw [hM2, wR_R (Or.inl (by decide))] at w2; exact w2⟩
    refine ⟨by rw [hM2]; exact q1, fun a ha => by rw [hM2]; exact q2 a ha, fun f a ha h1 h2 => by rw [hM2]; exact q3 f a ha h1 h2, fun f a ha h1 => by rw [hM2, wR_R (Or.inr (by omega))]; exact q4 f a ha h1, fun b i hb => by rw [hM2]; exact q5 b i hb, fun b hb ho => ⟨by rw [hM2]; exact (q6 b hb ho).1, fun q => (q6 b hb ho).2 (o b q)⟩⟩
  have nM3 : cN M M3 := nM2'.tr d3.N
  have sz3 : rg_sz M + 5 ≤ rg_sz M3 := by
    have h1 := d3.1
    have h2 : rg_sz M2' = rg_sz M2 := by rw [hM2]; rfl
    omega
  have k2f : ∀ f, rg_K M3 f = 2 → rg_K M f = 2 ∨ f = rg_sz M := fun f hf => by
    by_cases e : f = rg_sz M
    · exact Or.inr e
    · left
      rcases d3.2.1 f with q | q
      · rw [q] at hf
        have hf2 : rg_K M2 f = 2 := by rw [hM2] at hf; exact hf
        have hf1 := c6 f hf2
        have hf1 : rg_K M1 f = 2 := by rw [hM1] at hf1; exact hf1
        have hf0 := b6 f hf1
        rw [hM0, nO_K e] at hf0; exact hf0
      · rw [q.2.2] at hf; exact absurd hf (by decide)
  have R3 : ∀ f a, f ≠ 80 → rg_R M3 f a = rg_R M2' f a := fun f a h1 => d3.2.2.2.2.1 f a h1
  have K3 : ∀ a, a < rg_sz M2' → rg_K M3 a = rg_K M2' a := fun a ha => (d3.N.2.1 a ha).1
  have sM2' : rg_sz M2' = rg_sz M + 5 := by
    have h2 : rg_sz M2' = rg_sz M2 := by rw [hM2]; rfl
    omega
  have kt : rg_K M2' (rg_sz M0) = 6 := by
    rw [hM2]
    show rg_K M2 _ = 6
    rw [(c3.2.1 _ (by omega)).1, hM1]; exact b4
  have k3f : rg_K M3 (rg_sz M) = 2 := by rw [K3 _ (by omega), hM2]; exact k2
  refine ⟨M3, ?_, ⟨⟨_, ⟨d2, d4, ?_⟩, fun f t b h1 h2 h3 => ?_⟩, ⟨fun f hf => ?_, fun f f' i j w h1 h1' hi hj h3 h4 => ?_⟩, fun i hi => by have := hc' i hi; omega⟩, nM3, k3f, by omega⟩
  · rw [rF_init_u, rF_init_e]
    rw [hM0] at b1
    rw [← s1] at r17
    simp only [← hM0] at b1 ⊢
    rw [b1]
    simp only [Option.bind_some, k1, if_true]
    rw [← hM1, ← s1, c1]
    simp only [Option.bind_some, k2, if_true]
    rw [s1, ← hM2] 
    rw [s1] at r17
    simp only [r17, Option.bind_some, c4, if_true, d1]
    rfl
  · obtain ⟨g, hg⟩ := c2'.2.2
    refine ⟨g, fun w hw => ?_⟩
    rcases d3.2.1 w with q | q
    · exact hg w (by rw [← q]; exact hw)
    · rw [q.2.2] at hw; exact absurd hw (by decide)
  · rw [R3 _ _ (by decide)] at h2 h3
    rcases k2f f h1 with q | q
    · obtain ⟨f1, t', b', f2, f3, f4, f5, f6⟩ := hF.1 f q
      have ht := (hB.1.1 t' f4).1
      have hb := (hB.1.1 b' f5).1
      rw [nM2'.2.2.2.1 16 f f1 (by decide), f2] at h2
      rw [nM2'.2.2.2.1 17 f f1 (by decide), f3] at h3
      have e1 := Option.some.inj h2
      have e2 := Option.some.inj h3
      subst e1 e2
      rw [rg_up_ne (by omega), rg_up_ne (by omega), rg_up_ne (by omega), rg_up_ne (by omega)]
      exact hQ f t' b' q f2 f3
    · rw [q, r16'] at h2
      rw [q, r17] at h3
      have e1 := Option.some.inj h2
      have e2 := Option.some.inj h3
      subst e1 e2
      refine ⟨?_, by rw [rg_up_eq]; rfl⟩
      rw [rg_up_ne (by omega), rg_up_eq]; rfl
  · rcases k2f f hf with q | q
    · obtain ⟨f1, t', b', f2, f3, f4, f5, f6⟩ := hF.1 f q
      have ht := (hB.1.1 t' f4).1
      have hb := (hB.1.1 b' f5).1
      exact ⟨by omega, t', b', by rw [R3 _ _ (by decide), nM2'.2.2.2.1 16 f f1 (by decide)]; exact f2, by rw [R3 _ _ (by decide), nM2'.2.2.2.1 17 f f1 (by decide)]; exact f3, by rw [(nM3.2.1 t' ht).1]; exact f4, by rw [(nM3.2.1 b' hb).1]; exact f5, f6⟩
    · rw [q]
      exact ⟨by omega, rg_sz M0, rg_sz M1, by rw [R3 _ _ (by decide)]; exact r16', by rw [R3 _ _ (by decide)]; exact r17, by rw [K3 _ (by omega)]; exact kt, by rw [K3 _ (by omega)]; exact kb, by omega, fun i hi => by have := hc' i hi; omega⟩
  · have old : ∀ f i w, rg_K M f = 2 → (i = 16 ∨ i = 17) → rg_R M3 i f = some w → rg_R M i f = some w ∧ w < rg_sz M := fun f i w q hi hr => by
      obtain ⟨f1, t', b', f2, f3, f4, f5, f6⟩ := hF.1 f q
      have ht := (hB.1.1 t' f4).1
      have hb := (hB.1.1 b' f5).1
      rw [R3 _ _ (by omega), nM2'.2.2.2.1 i f f1 (by omega)] at hr
      rcases hi with e | e
      · subst e; rw [f2] at hr; have := Option.some.inj hr; subst this; exact ⟨f2, ht⟩
      · subst e; rw [f3] at hr; have := Option.some.inj hr; subst this; exact ⟨f3, hb⟩
    have new : ∀ i w, (i = 16 ∨ i = 17) → rg_R M3 i (rg_sz M) = some w → rg_sz M < w := fun i w hi hr => by
      rw [R3 _ _ (by omega)] at hr
      rcases hi with e | e
      · subst e; rw [r16'] at hr; have := Option.some.inj hr; omega
      · subst e; rw [r17] at hr; have := Option.some.inj hr; omega
    rcases k2f f h1 with q | q
    · rcases k2f f' h1' with q' | q'
      · obtain ⟨o1, -⟩ := old f i w q hi h3
        obtain ⟨o2, -⟩ := old f' j w q' hj h4
        exact hF.2 f f' i j w q q' hi hj o1 o2
      · obtain ⟨-, o1⟩ := old f i w q hi h3
        rw [q'] at h4
        have := new j w hj h4
        omega
    · rcases k2f f' h1' with q' | q'
      · obtain ⟨-, o1⟩ := old f' j w q' hj h4
        rw [q] at h3
        have := new i w hi h3
        omega
      · rw [q, q']

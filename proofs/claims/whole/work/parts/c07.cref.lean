/-! the constructors: the reference -/
theorem cEn.N {rk ln ng cg tb rn : Nat} {ro fx : Nat → Nat} {M M' : rg_M} (h : cEn rk ln ng cg tb rn ro fx M) (hN : cN M M') : cEn rk ln ng cg tb rn ro fx M' := by
  obtain ⟨⟨a1, a2, a3, a4, a5, a6, a7⟩, ⟨b1, b2, b3, b4, b5, b6, b7⟩, hc, hd, he, hf, hg, hh, hi, hj, hk⟩ := h
  obtain ⟨g1, g2, g3, g4, g5, g6⟩ := hN
  have K : ∀ {a}, a < rg_sz M → rg_K M' a = rg_K M a := fun {a} ha => (g2 a ha).1
  refine ⟨⟨by omega, by omega, by omega, by omega, by omega, by omega, (g6 rn a5 a7).2⟩, ⟨by rw [K a1]; exact b1, by rw [K a2]; exact b2, by rw [K a3]; exact b3, by rw [K a4]; exact b4, by rw [K a5]; exact b5, by rw [K a6]; exact b6, by rw [(g2 _ a5).2]; exact b7⟩, ?_, ?_, ?_, ?_, fun k hk' => ?_, fun k i hk' hi' => ?_, fun i hi' => ?_, fun i hi' => ?_, hk⟩
  · rw [g4 32 _ a1 (by decide), g4 33 _ a1 (by decide), g4 34 _ a1 (by decide), g4 35 _ a1 (by decide), g4 36 _ a1 (by decide), g4 37 _ a1 (by decide), g4 38 _ a1 (by decide), g4 39 _ a1 (by decide), g4 40 _ a1 (by decide), g4 41 _ a1 (by decide)]; exact hc
  · rw [g4 48 _ a2 (by decide), g4 49 _ a2 (by decide), g4 50 _ a2 (by decide), g4 51 _ a2 (by decide)]; exact hd
  · rw [g4 0 _ a3 (by decide), g4 1 _ a3 (by decide), g4 2 _ a3 (by decide), g4 3 _ a3 (by decide), g4 4 _ a3 (by decide), g4 5 _ a3 (by decide)]; exact he
  · rw [g4 96 _ a4 (by decide), g4 97 _ a4 (by decide), g4 98 _ a4 (by decide), g4 99 _ a4 (by decide), g4 100 _ a4 (by decide), g4 101 _ a4 (by decide)]; exact hf
  · obtain ⟨q1, q2, q3⟩ := hg k hk'
    exact ⟨by omega, by rw [K q1]; exact q2, by rw [(g2 _ q1).2]; exact q3⟩
  · rw [g5 _ _ (hg k (by omega)).1]; exact hh k i hk' hi'
  · rw [g5 _ _ (hg 6 (by omega)).1]; exact hi i hi'
  · obtain ⟨q1, q2⟩ := hj i hi'
    exact ⟨by omega, by rw [K q1]; exact q2⟩
/-- the reference as it is built -/
def bM (u z n : Nat) (c : Nat → Nat) (Mb : rg_M) (m : Nat) (M : rg_M) : Prop := bS u z n c M ∧ cN Mb M ∧ (rg_sz Mb ≤ m ∧ m < rg_sz M ∧ rg_K M m = 8) ∧ ∀ f, rg_I M f m = 0
theorem bM_step {u z n m : Nat} {c : Nat → Nat} {Mb M : rg_M} (h : bM u z n c Mb m M) (f kd l : Nat) (hf : 100 ≤ f) (hk : 9 ≤ kd) : bM (u + l) (z + 2) n c Mb m (rg_wR (rg_nA M kd l) f m (rg_sz M)) ∧ rg_R (rg_wR (rg_nA M kd l) f m (rg_sz M)) f m = some (rg_sz M) ∧ (∀ g, g ≠ f → rg_R (rg_wR (rg_nA M kd l) f m (rg_sz M)) g m = rg_R M g m) ∧ (rg_K (rg_wR (rg_nA M kd l) f m (rg_sz M)) (rg_sz M) = kd ∧ rg_L (rg_wR (rg_nA M kd l) f m (rg_sz M)) (rg_sz M) = l ∧ (∀ i, rg_A (rg_wR (rg_nA M kd l) f m (rg_sz M)) (rg_sz M) i = 0) ∧ ¬ cO (rg_wR (rg_nA M kd l) f m (rg_sz M)) (rg_sz M)) ∧ ∀ a, a < rg_sz M → rg_K (rg_wR (rg_nA M kd l) f m (rg_sz M)) a = rg_K M a ∧ rg_L (rg_wR (rg_nA M kd l) f m (rg_sz M)) a = rg_L M a ∧ rg_A (rg_wR (rg_nA M kd l) f m (rg_sz M)) a = rg_A M a ∧ (¬ cO M a → ¬ cO (rg_wR (rg_nA M kd l) f m (rg_sz M)) a) := by
  obtain ⟨hS, hN, ⟨m1, m2, m3⟩, hI⟩ := h
  obtain ⟨a1, a2⟩ := bS_nA (kd := kd) (l := l) hS (by omega) (by omega)
  have o : ∀ b, cO (rg_wR (rg_nA M kd l) f m (rg_sz M)) b → cO M b := fun b ⟨w, w1, w2⟩ => by
    rw [wR_R (Or.inl (by omega))] at w2
    have w1 : rg_K (rg_nA M kd l) w = 6 := w1
    have e : w ≠ rg_sz M := fun e => by rw [e, nA_Ks] at w1; omega
    rw [nA_K e] at w1
    exact ⟨w, w1, w2⟩
  have km : rg_K (rg_nA M kd l) m = 8 := by rw [nA_K (by omega)]; exact m3
  refine ⟨⟨bS_wR a1 (by omega) (by omega) (by omega), (hN.tr a2).wR m1 (by omega), ⟨m1, by show m < rg_sz M + 1; omega, km⟩, hI⟩, wR_Rs _ _ _ _, fun g hg => wR_R (Or.inl hg), ⟨nA_Ks M kd l, nA_Ls M kd l, nA_As M kd l, fun q => by have := bS_own hS (o _ q); omega⟩, fun a ha => ⟨nA_K (kd := kd) (n := l) (by omega), nA_L (kd := kd) (n := l) (by omega), nA_A (kd := kd) (n := l) (by omega), fun h1 q => h1 (o a q)⟩⟩
/-- the start -/
def s0 : sS := ((0, 0, 0, 0), (0, 0, 0), (fun _ => 0), (fun _ => 0), 0)
theorem ok_s0 : ts_ok 0 s0 := ⟨Or.inl rfl, fun h => absurd (show (0 : Nat) = 1 from h) (by decide), fun _ => ⟨rfl, rfl⟩, fun h => absurd (show (0 : Nat) = 2 from h) (by decide), fun _ => rfl, fun i _ => by show ((0 : Int32)).toInt.natAbs ≤ 1000; decide, fun i _ => qB_0, ⟨by show (0 : Int).natAbs < wB ^ 425; exact Nat.pow_pos (by decide), by show (1 : Int).natAbs < wB ^ 425; exact Nat.lt_of_lt_of_le (show 1 < wB ^ 1 by decide) (Nat.pow_le_pow_right (by decide) (by decide))⟩, ⟨Nat.le_refl _, Nat.le_refl _, Nat.le_refl _⟩, fun _ i _ => rfl⟩
theorem mX.xM {aS aL aG aN aB : Nat} {M M' : rg_M} (h : mX aS aL aG aN aB M M') (o1 : ¬ cO M aS) (o2 : ¬ cO M aL) (o3 : ¬ cO M aG) (o4 : ¬ cO M aN) (o5 : ¬ cO M aB) : xM M M' := by
  obtain ⟨⟨a1, a2, a3, a4, a5, a6⟩, a7, a8⟩ := h
  refine ⟨a1, a2, a3, a4, a5, a6, fun f a hf => a7 f a (by omega), fun b hb => a8 b ?_ ?_ ?_ ?_ ?_⟩
  · intro e; rw [e] at hb; exact o1 hb
  · intro e; rw [e] at hb; exact o2 hb
  · intro e; rw [e] at hb; exact o3 hb
  · intro e; rw [e] at hb; exact o4 hb
  · intro e; rw [e] at hb; exact o5 hb

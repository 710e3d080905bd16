/-! Euclid on longs; Lehmer's factors -/
def fibp : Nat → Nat × Nat
  | 0 => (1, 1)
  | n + 1 => ((fibp n).2, (fibp n).1 + (fibp n).2)
def fib (n : Nat) : Nat := (fibp n).1
theorem fib_ss (n : Nat) : fib (n + 2) = fib n + fib (n + 1) := rfl
def efin : Nat → Nat → Nat → Prop
  | 0, _, b => b = 0
  | n + 1, a, b => b = 0 ∨ efin n b (a % b)
theorem efin_of : ∀ n a b, b < fib (n + 1) → efin n a b
  | 0, a, b, h => by
    have : b < 1 := h
    show b = 0; omega
  | 1, a, b, h => by
    have : b < 2 := h
    rcases (show b = 0 ∨ b = 1 by omega) with e | e
    · exact Or.inl e
    · right; show a % b = 0; rw [e, Nat.mod_one]
  | n + 2, a, b, h => by
    by_cases hb : b = 0
    · exact Or.inl hb
    · right
      have hr := Nat.mod_lt a (show 0 < b by omega)
      generalize a % b = r at hr ⊢
      by_cases c : r < fib (n + 2)
      · exact efin_of (n + 1) b r c
      · right
        refine efin_of n r (b % r) ?_
        have h0 : fib (n + 3) = fib (n + 1) + fib (n + 2) := fib_ss (n + 1)
        have h1 : b % r ≤ b - r := by
          rw [Nat.mod_eq_sub_mod (by omega)]; exact Nat.mod_le _ _
        have h : b < fib (n + 3) := h
        omega
section
variable {M : rg_M}
theorem cw_common9 : ∀ n i a b : Nat, n + i ≤ 100 → a < 4611686018427387904 → b < 4611686018427387904 → efin n a b → rK_commonOf_9 (lN a) (lN b) (nI i) M = some (some (.long (lN (Nat.gcd a b))), M)
  | 0, i, a, b, hi, ha, hb, h => by
    have h : b = 0 := h
    subst h
    rw [rK_commonOf_9_e, show lN 0 = (0 : Int64) from rfl, Nat.gcd_zero_right]
    by_cases c : (100 : Int32) ≤ nI i
    · rw [if_pos c, rK_commonOf_44_e]
    · rw [if_neg c, if_pos rfl, rK_commonOf_44_e]
  | n + 1, i, a, b, hi, ha, hb, h => by
    by_cases hb0 : b = 0
    · subst hb0
      rw [rK_commonOf_9_e, show lN 0 = (0 : Int64) from rfl, Nat.gcd_zero_right]
      by_cases c : (100 : Int32) ≤ nI i
      · rw [if_pos c, rK_commonOf_44_e]
      · rw [if_neg c, if_pos rfl, rK_commonOf_44_e]
    · have h2 : efin n b (a % b) := by
        rcases h with h | h
        · exact absurd h hb0
        · exact h
      have hz : ¬ lN b = (0 : Int64) := by rw [show (0 : Int64) = lN 0 from rfl, pk_lEQ (by omega) (by omega)]; exact hb0
      rw [rK_commonOf_9_e, if_neg (by rw [show (100 : Int32) = nI 100 from rfl, nI_leI (by omega) (by omega)]; omega), if_neg hz, if_neg hz, pk_lRem (by omega) (by omega) (by omega), nI_1, cw_common9 n (i + 1) b (a % b) (by omega) hb (Nat.lt_of_lt_of_le (Nat.mod_lt a (by omega)) (by omega)) h2]
      rw [Nat.gcd_comm a b, Nat.gcd_rec b a, Nat.gcd_comm]
theorem cw_commonOf {a b : Nat} (ha : a < 4611686018427387904) (hb : b < 4611686018427387904) : rK_commonOf (lN a) (lN b) M = some (lN (Nat.gcd a b), M) := by
  have hf : 4611686018427387904 ≤ fib 101 := by decide
  have := cw_common9 (M := M) 100 0 a b (by omega) ha hb (efin_of 100 a b (by show b < fib 101; omega))
  have this : rK_commonOf_9 (lN a) (lN b) 0 M = _ := this
  rw [rK_commonOf_u, rK_commonOf_e, this]; rfl
theorem iL_div {a b : Int} (h1 : -9223372036854775808 < a) (h2 : a < 9223372036854775808) (h3 : 0 < b) (h4 : b < 9223372036854775808) : iL a / iL b = iL (a.tdiv b) := by
  refine (Int64.ofInt_tdiv ?_ ?_ ?_ ?_).symm
  · show (-9223372036854775808 : Int) ≤ a; omega
  · show a ≤ (9223372036854775807 : Int); omega
  · show (-9223372036854775808 : Int) ≤ b; omega
  · show b ≤ (9223372036854775807 : Int); omega
end
/-- one step of Euclid, told from bounds of both numbers -/
theorem eu_q {U W Ul Uh Wl Wh q : Int} (hq : 0 ≤ q) (h1 : Ul ≤ U) (h2 : U ≤ Uh) (h3 : Wl ≤ W) (h4 : W ≤ Wh) (h5 : q * Wh ≤ Ul) (h6 : Uh < (q + 1) * Wl) : 0 ≤ U - q * W ∧ U - q * W < W := by
  have a1 : q * W ≤ q * Wh := Int.mul_le_mul_of_nonneg_left h4 hq
  have a2 : (q + 1) * Wl ≤ (q + 1) * W := Int.mul_le_mul_of_nonneg_left h3 (by omega)
  rw [Int.add_mul, Int.one_mul, Int.add_mul, Int.one_mul] at a2
  rw [Int.add_mul, Int.one_mul] at h6
  omega
/-- what holds of Lehmer's numbers: the true pair U, W stays within the bounds that the leading bits tell -/
def lhm (L S : Int) (E l s : Int) (x y a b c d : Int) : Prop :=
  0 < E ∧ 0 ≤ l ∧ l ≤ E ∧ 0 ≤ s ∧ s ≤ E ∧ a * L + b * S = x * E + a * l + b * s ∧ c * L + d * S = y * E + c * l + d * s ∧ 0 ≤ c * L + d * S ∧ c * L + d * S ≤ a * L + b * S ∧ a * L + b * S ≤ L ∧ ((0 ≤ a ∧ b ≤ 0 ∧ c ≤ 0 ∧ 0 ≤ d) ∨ (a ≤ 0 ∧ 0 ≤ b ∧ 0 ≤ c ∧ d ≤ 0)) ∧ Int.gcd (a * L + b * S) (c * L + d * S) = Int.gcd L S ∧ ((b = 0 ∧ a * L + b * S = L ∧ c * L + d * S = S) ∨ 2 * ((a * L + b * S) * (c * L + d * S)) ≤ L * S)
theorem lhm_bw {L S E l s x y a b c d : Int} (h : lhm L S E l s x y a b c d) : ((0 ≤ a ∧ b ≤ 0 ∧ c ≤ 0 ∧ 0 ≤ d) ∧ (x + b) * E ≤ a * L + b * S ∧ a * L + b * S ≤ (x + a) * E ∧ (y + c) * E ≤ c * L + d * S ∧ c * L + d * S ≤ (y + d) * E) ∨ ((a ≤ 0 ∧ 0 ≤ b ∧ 0 ≤ c ∧ d ≤ 0) ∧ (x + a) * E ≤ a * L + b * S ∧ a * L + b * S ≤ (x + b) * E ∧ (y + d) * E ≤ c * L + d * S ∧ c * L + d * S ≤ (y + c) * E) := by
  obtain ⟨e0, l0, l1, s0, s1, hU, hW, -, -, -, hs, -, -⟩ := h
  simp only [Int.add_mul]
  rw [hU, hW]
  rcases hs with ⟨p1, p2, p3, p4⟩ | ⟨p1, p2, p3, p4⟩
  · left
    have a1 := Int.mul_nonneg p1 l0
    have a2 : a * l ≤ a * E := Int.mul_le_mul_of_nonneg_left l1 p1
    have a3 : b * E ≤ b * s := Int.mul_le_mul_of_nonpos_left p2 s1
    have a4 : b * s ≤ b * 0 := Int.mul_le_mul_of_nonpos_left p2 s0
    have b1 : c * E ≤ c * l := Int.mul_le_mul_of_nonpos_left p3 l1
    have b2 : c * l ≤ c * 0 := Int.mul_le_mul_of_nonpos_left p3 l0
    have b3 := Int.mul_nonneg p4 s0
    have b4 : d * s ≤ d * E := Int.mul_le_mul_of_nonneg_left s1 p4
    refine ⟨⟨p1, p2, p3, p4⟩, ?_⟩
    omega
  · right
    have a1 := Int.mul_nonneg p2 s0
    have a2 : b * s ≤ b * E := Int.mul_le_mul_of_nonneg_left s1 p2
    have a3 : a * E ≤ a * l := Int.mul_le_mul_of_nonpos_left p1 l1
    have a4 : a * l ≤ a * 0 := Int.mul_le_mul_of_nonpos_left p1 l0
    have b1 : d * E ≤ d * s := Int.mul_le_mul_of_nonpos_left p4 s1
    have b2 : d * s ≤ d * 0 := Int.mul_le_mul_of_nonpos_left p4 s0
    have b3 := Int.mul_nonneg p3 l0
    have b4 : c * l ≤ c * E := Int.mul_le_mul_of_nonneg_left l1 p3
    refine ⟨⟨p1, p2, p3, p4⟩, ?_⟩
    omega
theorem lhm_mulE {E X Y : Int} (h : 0 < E) : X * E ≤ Y * E ↔ X ≤ Y := ⟨fun q => Int.le_of_mul_le_mul_right q h, fun q => Int.mul_le_mul_of_nonneg_right q (Int.le_of_lt h)⟩
/-- the quotient that both bounds tell is the true one -/
theorem lhm_q {L S E l s x y a b c d q : Int} (h : lhm L S E l s x y a b c d) (hc : 0 < y + c) (hd : 0 < y + d) (h1 : q = (x + a).tdiv (y + c)) (h2 : q = (x + b).tdiv (y + d)) : 0 ≤ q ∧ 0 ≤ (a * L + b * S) - q * (c * L + d * S) ∧ (a * L + b * S) - q * (c * L + d * S) < c * L + d * S := by
  have h0 := h
  obtain ⟨e0, -, -, -, -, -, -, w0, wu, -, -, -, -⟩ := h
  have td : ∀ X Y : Int, 0 ≤ X → 0 < Y → X.tdiv Y * Y ≤ X ∧ X < (X.tdiv Y + 1) * Y ∧ 0 ≤ X.tdiv Y := by
    intro X Y hX hY
    rw [Int.tdiv_eq_ediv_of_nonneg hX]
    refine ⟨Int.ediv_mul_le _ (by omega), ?_, Int.ediv_nonneg hX (by omega)⟩
    have := Int.lt_ediv_add_one_mul_self X hY
    exact this
  have tn : ∀ X Y : Int, X ≤ 0 → 0 < Y → X.tdiv Y ≤ 0 := by
    intro X Y hX hY
    have : (-X).tdiv Y = -(X.tdiv Y) := Int.neg_tdiv X Y
    have h5 := (td (-X) Y (by omega) hY).2.2
    omega
  -- the common end
  have fin : ∀ Ul Uh Wl Wh : Int, Ul * E ≤ a * L + b * S → a * L + b * S ≤ Uh * E → Wl * E ≤ c * L + d * S → c * L + d * S ≤ Wh * E → 0 < Wl → 0 < Wh → q = Ul.tdiv Wh → q = Uh.tdiv Wl → 0 ≤ q ∧ 0 ≤ (a * L + b * S) - q * (c * L + d * S) ∧ (a * L + b * S) - q * (c * L + d * S) < c * L + d * S := by
    intro Ul Uh Wl Wh g1 g2 g3 g4 g5 g6 g7 g8
    have hUh : 0 < Uh := by
      have h5 : Wl * E ≤ Uh * E := by omega
      have := (lhm_mulE e0).mp h5
      omega
    have t1 := td Uh Wl (by omega) g5
    rw [← g8] at t1
    have hUl : 0 ≤ Ul := by
      rcases (show Ul < 0 ∨ 0 ≤ Ul by omega) with e | e
      · exfalso
        have := tn Ul Wh (by omega) g6
        have hq0 : q = 0 := by omega
        rw [hq0] at t1
        have h5 : Wl * E ≤ Uh * E := by omega
        have := (lhm_mulE e0).mp h5
        omega
      · exact e
    have t2 := td Ul Wh hUl g6
    rw [← g7] at t2
    refine ⟨t2.2.2, eu_q (Ul := Ul * E) (Uh := Uh * E) (Wl := Wl * E) (Wh := Wh * E) t2.2.2 g1 g2 g3 g4 ?_ ?_⟩
    · rw [← Int.mul_assoc]; exact (lhm_mulE e0).mpr t2.1
    · rw [← Int.mul_assoc]; exact Int.mul_lt_mul_of_pos_right t1.2.1 e0
  rcases lhm_bw h0 with ⟨-, g1, g2, g3, g4⟩ | ⟨-, g1, g2, g3, g4⟩
  · exact fin (x + b) (x + a) (y + c) (y + d) g1 g2 g3 g4 hc hd h2 h1
  · exact fin (x + a) (x + b) (y + d) (y + c) g1 g2 g3 g4 hd hc h1 h2
theorem lhm_step {L S E l s x y a b c d q : Int} (h : lhm L S E l s x y a b c d) (hc : 0 < y + c) (hd : 0 < y + d) (h1 : q = (x + a).tdiv (y + c)) (h2 : q = (x + b).tdiv (y + d)) (hL : L * S ≥ 0) : lhm L S E l s y (x - q * y) c d (a - q * c) (b - q * d) := by
  obtain ⟨hq, r0, r1⟩ := lhm_q h hc hd h1 h2
  obtain ⟨e0, l0, l1, s0, s1, hU, hW, w0, wu, ul, hs, hg, hp⟩ := h
  have eU : (a - q * c) * L + (b - q * d) * S = (a * L + b * S) - q * (c * L + d * S) := by
    simp only [Int.sub_mul, Int.mul_add, Int.mul_assoc]; omega
  rw [← eU] at r0 r1
  refine ⟨e0, l0, l1, s0, s1, hW, ?_, r0, Int.le_of_lt r1, Int.le_trans wu ul, ?_, ?_, Or.inr ?_⟩
  · rw [eU, hU, hW]
    simp only [Int.sub_mul, Int.mul_add, Int.mul_assoc]; omega
  · rcases hs with ⟨p1, p2, p3, p4⟩ | ⟨p1, p2, p3, p4⟩
    · right
      have m1 : q * c ≤ q * 0 := Int.mul_le_mul_of_nonneg_left p3 hq
      have m2 := Int.mul_nonneg hq p4
      omega
    · left
      have m1 := Int.mul_nonneg hq p3
      have m2 : q * d ≤ q * 0 := Int.mul_le_mul_of_nonneg_left p4 hq
      omega
  · rw [eU, ← hg, Int.gcd_comm (c * L + d * S), Int.sub_eq_add_neg, ← Int.neg_mul, Int.mul_comm (-q)]
    exact Int.gcd_add_mul_left_left _ _ _
  · -- U W halves at least
    rw [eU]
    rw [eU] at r0 r1
    generalize a * L + b * S = U at *
    generalize c * L + d * S = W at *
    have hq1 : 1 ≤ q := by
      rcases (show q = 0 ∨ 1 ≤ q by omega) with e | e
      · rw [e] at r1; omega
      · exact e
    have k1 : W ≤ q * W := by
      have := Int.mul_le_mul_of_nonneg_right hq1 w0
      omega
    have k2 : 2 * (U - q * W) ≤ U := by omega
    have k3 : W * (2 * (U - q * W)) ≤ W * U := Int.mul_le_mul_of_nonneg_left k2 w0
    have k4 : W * (2 * (U - q * W)) = 2 * (W * (U - q * W)) := by rw [← Int.mul_assoc, Int.mul_comm W 2, Int.mul_assoc]
    have k5 : U * W ≤ L * S ∧ 0 ≤ U * W := by
      have h0 := Int.mul_nonneg (Int.le_trans w0 wu) w0
      rcases hp with ⟨-, e1, e2⟩ | e
      · rw [e1, e2]; exact ⟨Int.le_refl _, by rw [← e1, ← e2]; exact h0⟩
      · omega
    rw [Int.mul_comm W U] at k3
    omega

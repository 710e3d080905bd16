/-! sizes of rationals; the mix -/
theorem q_red {x : Rat} {D N : Int} (hD : 0 < D) (h : x * (D : Rat) = (N : Rat)) : ∃ t : Int, 0 < t ∧ D = (x.den : Int) * t ∧ N = x.num * t := by
  have hd := q_den x
  have e1 := q_ndI x
  -- num * D = N * den
  have e2 : x.num * D = N * (x.den : Int) := by
    have : ((x.num * D : Int) : Rat) = ((N * (x.den : Int) : Int) : Rat) := by
      rw [Rat.intCast_mul, Rat.intCast_mul, e1, ← h]
      grind
    exact Rat.intCast_inj.mp this
  have hdv : (x.den : Int) ∣ D := by
    have h1 : (x.den : Int) ∣ x.num * D := ⟨N, by rw [e2, Int.mul_comm]⟩
    have h2 : Int.gcd (x.den : Int) x.num = 1 := by rw [Int.gcd_comm]; exact q_cop x
    have h3 : Int.gcd (x.den : Int) (x.num * D) = Int.gcd (x.den : Int) D := Int.gcd_mul_right_right_of_gcd_eq_one h2
    have h4 : Int.gcd (x.den : Int) (x.num * D) = ((x.den : Int)).natAbs := Int.gcd_eq_natAbs_left h1
    rw [h3] at h4
    exact (Int.gcd_eq_natAbs_left_iff_dvd).mp h4
  obtain ⟨t, ht⟩ := hdv
  refine ⟨t, ?_, ht, ?_⟩
  · rcases (show t ≤ 0 ∨ 0 < t by omega) with q | q
    · have := Int.mul_le_mul_of_nonneg_left q (Int.le_of_lt hd)
      rw [Int.mul_zero] at this; omega
    · exact q
  · rw [ht, ← Int.mul_assoc, Int.mul_comm x.num, Int.mul_assoc, Int.mul_comm N] at e2
    exact (Int.eq_of_mul_eq_mul_left (by omega) e2).symm
theorem qL_of {x : Rat} {D N : Int} {k : Nat} (hD : 0 < D) (h : x * (D : Rat) = (N : Rat)) (lD : cL D k) (lN : cL N k) : qL x k := by
  obtain ⟨t, h1, h2, h3⟩ := q_red hD h
  have hd := q_den x
  unfold qL cL at *
  rw [h2, Int.natAbs_mul] at lD
  rw [h3, Int.natAbs_mul] at lN
  exact ⟨Nat.lt_of_le_of_lt (Nat.le_mul_of_pos_right _ (by omega)) lN, Nat.lt_of_le_of_lt (Nat.le_mul_of_pos_right _ (by omega)) lD⟩
theorem qL_add {x w : Rat} {a b : Nat} (h1 : qL x a) (h2 : qL w b) : qL (x + w) (a + b + 1) := by
  refine qL_of (D := (x.den : Int) * (w.den : Int)) (N := x.num * (w.den : Int) + w.num * (x.den : Int)) (Int.mul_pos (q_den x) (q_den w)) ?_ ((h1.2.mul h2.2).mono (by omega)) (cL.add (h1.1.mul h2.2) ((h2.1.mul h1.2).mono (by omega)))
  have e1 := q_ndI x
  have e2 := q_ndI w
  simp only [Rat.intCast_add, Rat.intCast_mul]
  rw [e1, e2]
  grind
theorem qL_mul {x w : Rat} {a b : Nat} (h1 : qL x a) (h2 : qL w b) : qL (x * w) (a + b) := by
  refine qL_of (D := (x.den : Int) * (w.den : Int)) (N := x.num * w.num) (Int.mul_pos (q_den x) (q_den w)) ?_ (h1.2.mul h2.2) (h1.1.mul h2.1)
  have e1 := q_ndI x
  have e2 := q_ndI w
  simp only [Rat.intCast_mul]
  rw [e1, e2]
  grind
theorem qL_inv {x : Rat} {a : Nat} (hp : 0 < x) (h : qL x a) : qL x⁻¹ a := by
  obtain ⟨k1, k2⟩ := q_inv hp
  unfold qL
  rw [k1, k2]
  exact ⟨h.2, h.1⟩
theorem qL_int {n : Int} {a : Nat} (h : cL n a) (ha : 0 < a) : qL (n : Rat) a := by
  refine ⟨by rw [Rat.num_intCast]; exact h, ?_⟩
  rw [Rat.den_intCast]
  unfold cL
  exact Nat.lt_of_lt_of_le (show 1 < wB by decide) (by rw [← Nat.pow_one wB]; exact Nat.pow_le_pow_right (by decide) ha)
theorem qL_0 {a : Nat} (ha : 0 < a) : qL 0 a := by
  have := qL_int (n := 0) (a := a) (by unfold cL; exact Nat.pow_pos (by decide)) ha
  rw [Rat.intCast_zero] at this; exact this
/-- x is a whole number of D-th parts -/
def qD (x : Rat) (D : Int) : Prop := ∃ n : Int, x * (D : Rat) = (n : Rat)
theorem qD.add {x w : Rat} {D : Int} (h : qD x D) (h2 : qD w D) : qD (x + w) D := by
  obtain ⟨n, h⟩ := h
  obtain ⟨m, h2⟩ := h2
  exact ⟨n + m, by rw [Rat.add_mul, h, h2, Rat.intCast_add]⟩
theorem qD.mulI {x : Rat} {D : Int} (h : qD x D) (f : Int) : qD (x * (f : Rat)) D := by
  obtain ⟨n, h⟩ := h
  exact ⟨n * f, by rw [Rat.intCast_mul, ← h]; grind⟩
theorem qD.neg {x : Rat} {D : Int} (h : qD x D) : qD (-x) D := by
  obtain ⟨n, h⟩ := h
  exact ⟨-n, by rw [Rat.neg_mul, h, Rat.intCast_neg]⟩
theorem qD.mul {x w : Rat} {D E : Int} (h : qD x D) (h2 : qD w E) : qD (x * w) (D * E) := by
  obtain ⟨n, h⟩ := h
  obtain ⟨m, h2⟩ := h2
  exact ⟨n * m, by rw [Rat.intCast_mul, Rat.intCast_mul, ← h, ← h2]; grind⟩
theorem qD.dvd {x : Rat} {D E : Int} (h : qD x D) (hd : D ∣ E) : qD x E := by
  obtain ⟨n, h⟩ := h
  obtain ⟨t, rfl⟩ := hd
  exact ⟨n * t, by rw [Rat.intCast_mul, Rat.intCast_mul, ← h]; grind⟩
theorem qD_0 (D : Int) : qD 0 D := ⟨0, by rw [Rat.zero_mul]; rfl⟩
theorem qD_den (x : Rat) : qD x (x.den : Int) := ⟨x.num, (q_ndI x).symm⟩
theorem qD.L {x : Rat} {D : Int} {k b : Nat} (h : qD x D) (hD : 0 < D) (lD : cL D k) (hb : b < 2147483648) (h1 : -((b : Nat) : Rat) ≤ x) (h2 : x ≤ ((b : Nat) : Rat)) : qL x (k + 1) := by
  obtain ⟨n, h⟩ := h
  have hDr : (0 : Rat) < (D : Rat) := Rat.intCast_pos.mpr hD
  have n1 : n ≤ (b : Int) * D := by
    have : (n : Rat) ≤ (((b : Int) * D : Int) : Rat) := by
      rw [← h, Rat.intCast_mul, Rat.intCast_natCast]
      exact Rat.mul_le_mul_of_nonneg_right h2 (Rat.le_of_lt hDr)
    exact Rat.intCast_le_intCast.mp this
  have n2 : -((b : Int) * D) ≤ n := by
    have : ((-((b : Int) * D) : Int) : Rat) ≤ (n : Rat) := by
      rw [← h, Rat.intCast_neg, Rat.intCast_mul, Rat.intCast_natCast, ← Rat.neg_mul]
      exact Rat.mul_le_mul_of_nonneg_right h1 (Rat.le_of_lt hDr)
    exact Rat.intCast_le_intCast.mp this
  refine qL_of hD h (lD.mono (by omega)) ?_
  unfold cL at *
  have hle : n.natAbs ≤ b * D.natAbs := by
    have : ((b * D.natAbs : Nat) : Int) = (b : Int) * D := by rw [Int.natCast_mul, Int.natAbs_of_nonneg (Int.le_of_lt hD)]
    omega
  refine Nat.lt_of_le_of_lt hle ?_
  rw [Nat.pow_succ, Nat.mul_comm (wB ^ k)]
  exact Nat.mul_lt_mul'' hb lD
/-- sums -/
def qs (f : Nat → Rat) : Nat → Rat
  | 0 => 0
  | n + 1 => qs f n + f n
theorem qs_s (f : Nat → Rat) (n : Nat) : qs f (n + 1) = qs f n + f n := rfl
theorem qs_cong {f g : Nat → Rat} : ∀ {n : Nat}, (∀ k, k < n → f k = g k) → qs f n = qs g n
  | 0, _ => rfl
  | n + 1, h => by rw [qs_s, qs_s, qs_cong (fun k hk => h k (by omega)), h n (by omega)]
theorem qs_add (f g : Nat → Rat) : ∀ n, qs (fun k => f k + g k) n = qs f n + qs g n
  | 0 => (Rat.add_zero 0).symm
  | n + 1 => by rw [qs_s, qs_s, qs_s, qs_add f g n]; grind
theorem qs_mul (a : Rat) (f : Nat → Rat) : ∀ n, qs (fun k => a * f k) n = a * qs f n
  | 0 => by simp [qs]
  | n + 1 => by rw [qs_s, qs_s, qs_mul a f n, Rat.mul_add]
theorem qs_nonneg {f : Nat → Rat} : ∀ {n : Nat}, (∀ k, k < n → 0 ≤ f k) → 0 ≤ qs f n
  | 0, _ => Rat.le_refl
  | n + 1, h => by rw [qs_s]; exact Rat.add_nonneg (qs_nonneg (fun k hk => h k (by omega))) (h n (by omega))
theorem qs_D {f : Nat → Rat} {D : Int} : ∀ {n : Nat}, (∀ k, k < n → qD (f k) D) → qD (qs f n) D
  | 0, _ => qD_0 D
  | n + 1, h => by rw [qs_s]; exact (qs_D (fun k hk => h k (by omega))).add (h n (by omega))
/-- what is above 0 of a number -/
def qp (x : Rat) : Rat := if 0 < x then x else 0
theorem qp_nonneg (x : Rat) : 0 ≤ qp x := by
  unfold qp
  by_cases h : 0 < x
  · rw [if_pos h]; exact Rat.le_of_lt h
  · rw [if_neg h]; exact Rat.le_refl
theorem qL_qp {x : Rat} {k : Nat} (h : qL x k) (hk : 0 < k) : qL (qp x) k := by
  unfold qp
  by_cases c : 0 < x
  · rw [if_pos c]; exact h
  · rw [if_neg c]; exact qL_0 hk
/-- THE MIX of n numbers -/
def mxT (f : Nat → Rat) (n : Nat) : Rat := qs (fun v => qp (f v)) n
def mx (f : Nat → Rat) (n w : Nat) : Rat := if 0 < mxT f n then (if 0 < f w then f w * (mxT f n)⁻¹ else 0) else ((1 : Int) : Rat) / ((n : Nat) : Rat)
theorem mxT_nonneg (f : Nat → Rat) (n : Nat) : 0 ≤ mxT f n := qs_nonneg (fun k _ => qp_nonneg _)
theorem mxT_cong {f g : Nat → Rat} {n : Nat} (h : ∀ k, k < n → f k = g k) : mxT f n = mxT g n := qs_cong (fun k hk => by rw [h k hk])
theorem mx_cong {f g : Nat → Rat} {n w : Nat} (h : ∀ k, k < n → f k = g k) (hw : w < n) : mx f n w = mx g n w := by
  unfold mx; rw [mxT_cong h, h w hw]
theorem mxT_L {f : Nat → Rat} {n : Nat} (h : ∀ v, v < n → qL (f v) 9) : qL (mxT f n) (10 * n + 1) := by
  unfold mxT
  induction n with
  | zero => exact qL_0 (by omega)
  | succ n ih =>
    rw [qs_s]
    exact (qL_add (ih (fun v hv => h v (by omega))) (qL_qp (h n (by omega)) (by omega))).mono (by omega)

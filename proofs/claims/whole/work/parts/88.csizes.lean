/-! the sizes of mixes, worths and averages -/
theorem q_le_add {a b c d : Rat} (h1 : a ≤ b) (h2 : c ≤ d) : a + c ≤ b + d := Rat.le_trans (Rat.add_le_add_right.mpr h1) (Rat.add_le_add_left.mpr h2)
theorem qs_abs {f : Nat → Rat} {B : Nat} : ∀ {n : Nat}, (∀ k, k < n → -((B : Nat) : Rat) ≤ f k ∧ f k ≤ ((B : Nat) : Rat)) → -((n * B : Nat) : Rat) ≤ qs f n ∧ qs f n ≤ ((n * B : Nat) : Rat)
  | 0, _ => by
    rw [Nat.zero_mul]
    exact ⟨by show -((0 : Nat) : Rat) ≤ 0; decide, by show (0 : Rat) ≤ ((0 : Nat) : Rat); decide⟩
  | n + 1, h => by
    obtain ⟨h1, h2⟩ := qs_abs (n := n) (fun k hk => h k (by omega))
    obtain ⟨h3, h4⟩ := h n (by omega)
    have e : (((n + 1) * B : Nat) : Rat) = ((n * B : Nat) : Rat) + ((B : Nat) : Rat) := by rw [Nat.add_mul, Nat.one_mul, Rat.natCast_add]
    rw [qs_s, e]
    exact ⟨by rw [Rat.neg_add]; exact q_le_add h1 h3, q_le_add h2 h4⟩
theorem mxT_int {f : Nat → Rat} : ∀ {n : Nat}, (∀ v, v < n → qL (f v) 9) → ∃ Y S : Int, 0 < Y ∧ Y.natAbs ≤ wB ^ (9 * n) ∧ 0 ≤ S ∧ S.natAbs ≤ n * wB ^ (9 * n) ∧ mxT f n * (Y : Rat) = (S : Rat) ∧ ∀ v, v < n → qD (qp (f v)) Y
  | 0, _ => ⟨1, 0, by decide, by decide, by decide, by decide, by show (0 : Rat) * _ = _; rw [Rat.zero_mul]; rfl, fun v hv => by omega⟩
  | n + 1, h => by
    obtain ⟨Y, S, h1, h2, h3, h4, h5, h6⟩ := mxT_int (n := n) (fun v hv => h v (by omega))
    obtain ⟨l1, l2⟩ := qL_qp (h n (by omega)) (by decide)
    have hd := q_den (qp (f n))
    have hnn : 0 ≤ (qp (f n)).num := Rat.num_nonneg.mpr (qp_nonneg _)
    have e := q_ndI (qp (f n))
    refine ⟨Y * ((qp (f n)).den : Int), S * ((qp (f n)).den : Int) + (qp (f n)).num * Y, Int.mul_pos h1 hd, (by rw [Int.natAbs_mul, show 9 * (n + 1) = 9 * n + 9 by omega, Nat.pow_add]; exact Nat.mul_le_mul h2 (Nat.le_of_lt l2)), ?_, ?_, ?_, fun v hv => ?_⟩
    · have a1 := Int.mul_nonneg h3 (Int.le_of_lt hd)
      have a2 := Int.mul_nonneg hnn (Int.le_of_lt h1)
      omega
    · have b1 : (S * ((qp (f n)).den : Int)).natAbs ≤ n * wB ^ (9 * n) * wB ^ 9 := by
        rw [Int.natAbs_mul]; exact Nat.mul_le_mul h4 (Nat.le_of_lt l2)
      have b2 : ((qp (f n)).num * Y).natAbs ≤ wB ^ 9 * wB ^ (9 * n) := by
        rw [Int.natAbs_mul]; exact Nat.mul_le_mul (Nat.le_of_lt l1) h2
      have e2 : wB ^ (9 * (n + 1)) = wB ^ (9 * n) * wB ^ 9 := by rw [← Nat.pow_add]; rfl
      rw [e2, Nat.add_mul, Nat.one_mul]
      rw [Nat.mul_assoc] at b1
      rw [Nat.mul_comm (wB ^ 9)] at b2
      omega
    · show (mxT f n + qp (f n)) * _ = _
      simp only [Rat.intCast_add, Rat.intCast_mul]
      rw [← h5, e]
      grind
    · by_cases c : v = n
      · rw [c]; exact (qD_den _).dvd ⟨Y, Int.mul_comm _ _⟩
      · exact (h6 v (by omega)).dvd ⟨_, rfl⟩
theorem qs_le_one {f : Nat → Rat} {w : Nat} : ∀ {n : Nat}, (∀ k, k < n → 0 ≤ f k) → w < n → f w ≤ qs f n
  | 0, _, h => by omega
  | n + 1, h, hw => by
    rw [qs_s]
    by_cases c : w = n
    · rw [c]
      have := qs_nonneg (n := n) (fun k hk => h k (by omega))
      have h2 : 0 + f n ≤ qs f n + f n := Rat.add_le_add_right.mpr this
      rw [Rat.zero_add] at h2; exact h2
    · have h1 := qs_le_one (w := w) (n := n) (fun k hk => h k (by omega)) (by omega)
      have h2 : f w + 0 ≤ qs f n + f n := q_le_add h1 (h n (by omega))
      rw [Rat.add_zero] at h2; exact h2
/-- a mix: between 0 and 1, over one denominator -/
theorem mx_facts {f : Nat → Rat} {n : Nat} (hn0 : 0 < n) (hn : n ≤ 5) (h : ∀ v, v < n → qL (f v) 9) : ∃ D : Int, 0 < D ∧ cL D (9 * n + 1) ∧ ∀ w, w < n → qD (mx f n w) D ∧ 0 ≤ mx f n w ∧ mx f n w ≤ ((1 : Nat) : Rat) := by
  obtain ⟨Y, S, h1, h2, h3, h4, h5, h6⟩ := mxT_int h
  by_cases hp : 0 < mxT f n
  · have hYr : (0 : Rat) < (Y : Rat) := Rat.intCast_pos.mpr h1
    have hS : 0 < S := by
      have : (0 : Rat) < (S : Rat) := by rw [← h5]; exact Rat.mul_pos hp hYr
      exact Rat.intCast_pos.mp this
    have hT0 : mxT f n ≠ 0 := fun e => by rw [e] at hp; exact absurd hp (by decide)
    have hinv : 0 < (mxT f n)⁻¹ := Rat.inv_pos.mpr hp
    refine ⟨S, hS, ?_, fun w hw => ?_⟩
    · unfold cL
      refine Nat.lt_of_le_of_lt h4 ?_
      rw [Nat.pow_succ, Nat.mul_comm]
      exact Nat.mul_lt_mul_of_pos_left (show n < 2147483648 by omega) (Nat.pow_pos (by decide))
    · unfold mx
      rw [if_pos hp]
      by_cases c : 0 < f w
      · rw [if_pos c]
        have hq : qp (f w) = f w := by unfold qp; rw [if_pos c]
        refine ⟨?_, Rat.le_of_lt (Rat.mul_pos c hinv), ?_⟩
        · obtain ⟨m, hm⟩ := h6 w hw
          rw [hq] at hm
          refine ⟨m, ?_⟩
          rw [← h5, ← hm]
          have : f w * (mxT f n)⁻¹ * (mxT f n * (Y : Rat)) = f w * (Y : Rat) * ((mxT f n)⁻¹ * mxT f n) := by grind
          rw [this, Rat.inv_mul_cancel _ hT0, Rat.mul_one]
        · have hle : f w ≤ mxT f n := by
            have := qs_le_one (f := fun v => qp (f v)) (w := w) (n := n) (fun k _ => qp_nonneg _) hw
            rw [hq] at this; exact this
          have h7 := Rat.mul_le_mul_of_nonneg_right hle (Rat.le_of_lt hinv)
          rw [Rat.mul_inv_cancel _ hT0] at h7
          exact h7
      · rw [if_neg c]
        exact ⟨qD_0 S, Rat.le_refl, by decide⟩
  · have hz : ((n : Nat) : Rat) ≠ 0 := fun e => by have := Rat.natCast_eq_zero_iff.mp e; omega
    have hnr : (0 : Rat) < ((n : Nat) : Rat) := Rat.natCast_pos.mpr hn0
    refine ⟨(n : Int), by omega, ?_, fun w hw => ?_⟩
    · unfold cL
      refine Nat.lt_of_lt_of_le (show n < wB ^ 1 by show n < 2147483648; omega) (Nat.pow_le_pow_right (by decide) (by omega))
    · unfold mx
      rw [if_neg hp]
      have hm : ((1 : Int) : Rat) / ((n : Nat) : Rat) * ((n : Nat) : Rat) = 1 := by rw [Rat.div_mul_cancel hz, Rat.intCast_one]
      refine ⟨⟨1, by rw [Rat.intCast_natCast, hm, Rat.intCast_one]⟩, ?_, ?_⟩
      · rw [Rat.div_def, Rat.intCast_one, Rat.one_mul]
        exact Rat.le_of_lt (Rat.inv_pos.mpr hnr)
      · refine Rat.le_of_mul_le_mul_right (c := ((n : Nat) : Rat)) ?_ hnr
        rw [hm, ← Rat.natCast_mul, Nat.one_mul]
        have h8 : ((1 : Nat) : Rat) ≤ ((n : Nat) : Rat) := Rat.natCast_le_natCast.mpr (by omega)
        exact h8
/-- numbers over one denominator, between 0 and 1 -/
def qN (mu : Nat → Rat) (n : Nat) (D : Int) : Prop := 0 < D ∧ ∀ w, w < n → qD (mu w) D ∧ 0 ≤ mu w ∧ mu w ≤ ((1 : Nat) : Rat)
theorem qN.L {mu : Nat → Rat} {n k w : Nat} {D : Int} (h : qN mu n D) (hD : cL D k) (hw : w < n) : qL (mu w) (k + 1) := by
  obtain ⟨h1, h2, h3⟩ := h.2 w hw
  refine h1.L (b := 1) h.1 hD (by decide) (Rat.le_trans ?_ h2) h3
  decide
theorem q_mul_abs {a x : Rat} {B : Nat} (h0 : 0 ≤ a) (h1 : a ≤ ((1 : Nat) : Rat)) (h2 : -((B : Nat) : Rat) ≤ x) (h3 : x ≤ ((B : Nat) : Rat)) : -((B : Nat) : Rat) ≤ a * x ∧ a * x ≤ ((B : Nat) : Rat) := by
  have hB : (0 : Rat) ≤ ((B : Nat) : Rat) := Rat.natCast_nonneg
  have e1 : a * ((B : Nat) : Rat) ≤ ((B : Nat) : Rat) := by
    have := Rat.mul_le_mul_of_nonneg_right h1 hB
    have e : ((1 : Nat) : Rat) * ((B : Nat) : Rat) = ((B : Nat) : Rat) := by rw [← Rat.natCast_mul, Nat.one_mul]
    rw [e] at this; exact this
  have e2 := Rat.mul_le_mul_of_nonneg_left h3 h0
  have e3 := Rat.mul_le_mul_of_nonneg_left h2 h0
  rw [Rat.mul_neg] at e3
  exact ⟨Rat.le_trans (Rat.neg_le_neg e1) e3, Rat.le_trans e2 e1⟩
/-- a sum of parts times numbers up to g -/
theorem qN.sum {mu : Nat → Rat} {n j k g : Nat} {D : Int} {a : Nat → Int} (h : qN mu n D) (hD : cL D k) (hj : j ≤ n) (ha : ∀ v, v < n → (a v).natAbs ≤ g) (hg : n * g < 2147483648) : qL (qs (fun v => mu v * ((a v : Int) : Rat)) j) (k + 1) ∧ qD (qs (fun v => mu v * ((a v : Int) : Rat)) j) D ∧ -((n * g : Nat) : Rat) ≤ qs (fun v => mu v * ((a v : Int) : Rat)) j ∧ qs (fun v => mu v * ((a v : Int) : Rat)) j ≤ ((n * g : Nat) : Rat) := by
  have hd : qD (qs (fun v => mu v * ((a v : Int) : Rat)) j) D := qs_D (fun v hv => (h.2 v (by omega)).1.mulI (a v))
  have hb := qs_abs (f := fun v => mu v * ((a v : Int) : Rat)) (B := g) (n := j) (fun v hv => by
    obtain ⟨-, h2, h3⟩ := h.2 v (by omega)
    have hav := ha v (by omega)
    refine q_mul_abs h2 h3 ?_ ?_
    · have : ((-((g : Nat) : Int) : Int) : Rat) ≤ ((a v : Int) : Rat) := Rat.intCast_le_intCast.mpr (by omega)
      rw [Rat.intCast_neg, Rat.intCast_natCast] at this; exact this
    · have : ((a v : Int) : Rat) ≤ (((g : Nat) : Int) : Rat) := Rat.intCast_le_intCast.mpr (by omega)
      rw [Rat.intCast_natCast] at this; exact this)
  have hm : ((j * g : Nat) : Rat) ≤ ((n * g : Nat) : Rat) := Rat.natCast_le_natCast.mpr (Nat.mul_le_mul_right _ hj)
  have b1 := Rat.le_trans (Rat.neg_le_neg hm) hb.1
  have b2 := Rat.le_trans hb.2 hm
  exact ⟨hd.L h.1 hD hg b1 b2, hd, b1, b2⟩
/-- a sum of parts times bounded numbers over another denominator -/
theorem qN.avg {mu x : Nat → Rat} {n j k l B : Nat} {D E : Int} (h : qN mu n D) (hD : cL D k) (hE : cL E l) (hE0 : 0 < E) (hj : j ≤ n) (hx : ∀ v, v < n → qD (x v) E ∧ -((B : Nat) : Rat) ≤ x v ∧ x v ≤ ((B : Nat) : Rat)) (hB : n * B < 2147483648) : qL (qs (fun v => mu v * x v) j) (k + l + 1) := by
  have hd : qD (qs (fun v => mu v * x v) j) (D * E) := qs_D (fun v hv => (h.2 v (by omega)).1.mul (hx v (by omega)).1)
  have hb := qs_abs (f := fun v => mu v * x v) (B := B) (n := j) (fun v hv => by
    obtain ⟨-, h2, h3⟩ := h.2 v (by omega)
    obtain ⟨-, x2, x3⟩ := hx v (by omega)
    exact q_mul_abs h2 h3 x2 x3)
  have hm : ((j * B : Nat) : Rat) ≤ ((n * B : Nat) : Rat) := Rat.natCast_le_natCast.mpr (Nat.mul_le_mul_right _ hj)
  exact hd.L (Int.mul_pos h.1 hE0) (hD.mul hE) hB (Rat.le_trans (Rat.neg_le_neg hm) hb.1) (Rat.le_trans hb.2 hm)

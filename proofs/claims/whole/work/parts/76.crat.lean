/-! fractions in lowest terms -/
theorem q_cancel {a b c : Rat} (h : a ≠ 0) (e : a * b = a * c) : b = c := by
  have h1 : ∀ x : Rat, a⁻¹ * (a * x) = x := fun x => by rw [← Rat.mul_assoc, Rat.inv_mul_cancel _ h, Rat.one_mul]
  rw [← h1 b, e, h1 c]
theorem q_nd (q : Rat) : (q.num : Rat) = q * (q.den : Rat) := by
  have h : (q.den : Rat) ≠ 0 := by
    intro e
    exact q.den_nz (Rat.natCast_eq_zero_iff.mp e)
  have e : (q.num : Rat) / (q.den : Rat) = q := by rw [← Rat.mkRat_eq_div, Rat.mkRat_self]
  calc (q.num : Rat) = (q.num : Rat) / (q.den : Rat) * (q.den : Rat) := (Rat.div_mul_cancel h).symm
    _ = q * (q.den : Rat) := by rw [e]
theorem q_ndI (q : Rat) : (q.num : Rat) = q * (((q.den : Nat) : Int) : Rat) := by rw [Rat.intCast_natCast]; exact q_nd q
theorem q_uni {q : Rat} {n d : Int} (hd : 0 < d) (hc : Int.gcd n d = 1) (h : (n : Rat) = q * (d : Rat)) : q.num = n ∧ ((q.den : Nat) : Int) = d := by
  obtain ⟨m, rfl⟩ := Int.eq_ofNat_of_zero_le (Int.le_of_lt hd)
  have hm : m ≠ 0 := by omega
  have hr : (m : Rat) ≠ 0 := fun e => hm (Rat.natCast_eq_zero_iff.mp e)
  rw [Rat.intCast_natCast] at h
  have hc' : n.natAbs.Coprime m := hc
  have e : q = Rat.mk' n m hm hc' := by
    rw [Rat.mk_eq_mkRat, Rat.mkRat_eq_div, h, Rat.mul_div_cancel hr]
  rw [e]
  exact ⟨rfl, rfl⟩
theorem q_cop (q : Rat) : Int.gcd q.num ((q.den : Nat) : Int) = 1 := q.reduced
theorem q_den (q : Rat) : 0 < ((q.den : Nat) : Int) := by have := q.den_nz; omega
theorem q_zero {q : Rat} (h : q.num = 0) : q = 0 := Rat.num_eq_zero.mp h
theorem q_add_gcd {n1 d1 n2 d2 f g l r e : Int} (hg : g = (Int.gcd d1 d2 : Int)) (h1 : d1 = g * l) (h2 : d2 = g * r) (hl : Int.gcd l r = 1) (c1 : Int.gcd n1 d1 = 1) (c2 : Int.gcd n2 d2 = 1) (he : e = (Int.gcd r f : Int)) : Int.gcd (n1 * r + n2 * f * l) (l * d2) = Int.gcd (n1 * r + n2 * f * l) (g * e) := by
  have cl1 : Int.gcd n1 l = 1 := by
    rw [h1, Int.gcd_comm] at c1
    have := Int.gcd_dvd_gcd_mul_left_left l n1 g
    rw [c1] at this
    rw [Int.gcd_comm]; exact Nat.dvd_one.mp this
  have cr2 : Int.gcd n2 r = 1 := by
    rw [h2, Int.gcd_comm] at c2
    have := Int.gcd_dvd_gcd_mul_left_left r n2 g
    rw [c2] at this
    rw [Int.gcd_comm]; exact Nat.dvd_one.mp this
  have hNl : Int.gcd (n1 * r + n2 * f * l) l = 1 := by
    rw [Int.gcd_add_mul_right_left, Int.gcd_mul_right_left_of_gcd_eq_one cl1, Int.gcd_comm, hl]
  have hNr : Int.gcd (n1 * r + n2 * f * l) r = Int.gcd r f := by
    rw [Int.add_comm, Int.gcd_add_mul_right_left, Int.mul_assoc, Int.gcd_mul_right_left_of_gcd_eq_one cr2, Int.gcd_mul_left_left_of_gcd_eq_one hl, Int.gcd_comm]
  rw [Int.gcd_mul_right_right_of_gcd_eq_one hNl, h2]
  generalize n1 * r + n2 * f * l = N at hNr ⊢
  refine Nat.dvd_antisymm ?_ ?_
  · refine Int.dvd_gcd (Int.gcd_dvd_left _ _) ?_
    have k1 : ((Int.gcd N (g * r) : Nat) : Int) ∣ g * N := Int.dvd_trans (Int.gcd_dvd_left _ _) (Int.dvd_mul_left _ _)
    have k2 : ((Int.gcd N (g * r) : Nat) : Int) ∣ g * r := Int.gcd_dvd_right _ _
    have k3 := Int.dvd_coe_gcd k1 k2
    rw [Int.gcd_mul_left, hNr] at k3
    rw [he]
    have k4 : ((g.natAbs * Int.gcd r f : Nat) : Int) ∣ g * (Int.gcd r f : Int) := by
      rw [Int.natCast_mul]
      exact Int.mul_dvd_mul_right _ (Int.natAbs_dvd.mpr (Int.dvd_refl _))
    exact Int.dvd_trans k3 k4
  · refine Int.gcd_dvd_gcd_of_dvd_right _ ?_
    rw [he]
    exact Int.mul_dvd_mul_left _ (Int.gcd_dvd_left _ _)
/-- a sum of fractions, as addTimes makes it -/
theorem q_add {x y : Rat} {f g l r e N : Int} (hg : g = (Int.gcd (x.den : Int) (y.den : Int) : Int)) (h1 : (x.den : Int) = g * l) (h2 : (y.den : Int) = g * r) (he : e = (Int.gcd r f : Int)) (hN : N = x.num * r + y.num * f * l) : (N : Rat) = (x + y * (f : Rat)) * ((l * (y.den : Int) : Int) : Rat) ∧ (N = 0 → x + y * (f : Rat) = 0) ∧ (N ≠ 0 → ∀ h : Int, h = (Int.gcd N (g * e) : Int) → (x + y * (f : Rat)).num = N / h ∧ (((x + y * (f : Rat)).den : Nat) : Int) = l * ((y.den : Int) / h) ∧ h ∣ N ∧ h ∣ (y.den : Int) ∧ 0 < h) := by
  have d1 := q_den x
  have d2 := q_den y
  have hg0 : 0 < g := by rw [hg]; have := Int.gcd_pos_of_ne_zero_left ((y.den : Nat) : Int) (show ((x.den : Nat) : Int) ≠ 0 by omega); omega
  have hl0 : 0 < l := by
    rcases (show l ≤ 0 ∨ 0 < l by omega) with q | q
    · have := Int.mul_le_mul_of_nonneg_left q (Int.le_of_lt hg0)
      rw [Int.mul_zero] at this; omega
    · exact q
  have hr0 : 0 < r := by
    rcases (show r ≤ 0 ∨ 0 < r by omega) with q | q
    · have := Int.mul_le_mul_of_nonneg_left q (Int.le_of_lt hg0)
      rw [Int.mul_zero] at this; omega
    · exact q
  have hlr : Int.gcd l r = 1 := by
    have := Int.gcd_mul_left g l r
    rw [← h1, ← h2] at this
    have hgn : g.natAbs = Int.gcd (x.den : Int) (y.den : Int) := by rw [hg]; rfl
    rw [← hgn] at this
    have h3 : g.natAbs * 1 = g.natAbs * Int.gcd l r := by rw [Nat.mul_one]; exact this
    exact (Nat.eq_of_mul_eq_mul_left (by omega) h3).symm
  have hval : (N : Rat) = (x + y * (f : Rat)) * ((l * (y.den : Int) : Int) : Rat) := by
    have ex := q_ndI x
    have ey := q_ndI y
    rw [hN]
    have h1' : (((x.den : Nat) : Int) : Rat) = (g : Rat) * (l : Rat) := by rw [h1, Rat.intCast_mul]
    have h2' : (((y.den : Nat) : Int) : Rat) = (g : Rat) * (r : Rat) := by rw [h2, Rat.intCast_mul]
    rw [h1'] at ex
    rw [h2'] at ey
    simp only [Rat.intCast_add, Rat.intCast_mul, h2', ex, ey]
    grind
  refine ⟨hval, fun h0 => ?_, fun h0 h hh => ?_⟩
  · rw [h0] at hval
    have hz : ((l * (y.den : Int) : Int) : Rat) ≠ 0 := fun e => by
      have := Rat.intCast_eq_zero_iff.mp e
      have := Int.mul_pos hl0 d2
      omega
    rcases Rat.mul_eq_zero.mp hval.symm with q | q
    · exact q
    · exact absurd q hz
  · have hgcd := q_add_gcd (f := f) (e := e) hg h1 h2 hlr (q_cop x) (q_cop y) he
    rw [← hN] at hgcd
    have hh0 : 0 < h := by rw [hh]; have := Int.gcd_pos_of_ne_zero_left (g * e) h0; omega
    have hdN : h ∣ N := by rw [hh]; exact Int.gcd_dvd_left _ _
    have hdd : h ∣ (y.den : Int) := by
      rw [hh]
      refine Int.dvd_trans (Int.gcd_dvd_right _ _) ?_
      rw [h2, he]
      exact Int.mul_dvd_mul_left _ (Int.gcd_dvd_left _ _)
    obtain ⟨N', hN'⟩ := hdN
    obtain ⟨D', hD'⟩ := hdd
    have e1 : N / h = N' := by rw [hN', Int.mul_ediv_cancel_left _ (by omega)]
    have e2 : (y.den : Int) / h = D' := by rw [hD', Int.mul_ediv_cancel_left _ (by omega)]
    have hD0 : 0 < D' := by
      rcases (show D' ≤ 0 ∨ 0 < D' by omega) with q | q
      · have := Int.mul_le_mul_of_nonneg_left q (Int.le_of_lt hh0)
        rw [Int.mul_zero] at this; omega
      · exact q
    rw [e1, e2]
    have hu := q_uni (q := x + y * (f : Rat)) (n := N') (d := l * D') (Int.mul_pos hl0 hD0) (by
      have k := Int.gcd_mul_left h N' (l * D')
      rw [← hN', show h * (l * D') = l * (y.den : Int) by rw [hD', ← Int.mul_assoc, Int.mul_comm h l, Int.mul_assoc], hgcd] at k
      have hhn : h.natAbs = Int.gcd N (g * e) := by rw [hh]; rfl
      rw [← hhn] at k
      have h3 : h.natAbs * 1 = h.natAbs * Int.gcd N' (l * D') := by rw [Nat.mul_one]; exact k
      exact (Nat.eq_of_mul_eq_mul_left (by omega) h3).symm) (by
      have hz : (h : Rat) ≠ 0 := fun e => by have := Rat.intCast_eq_zero_iff.mp e; omega
      rw [hN', hD'] at hval
      simp only [Rat.intCast_mul] at hval ⊢
      have h5 : (h : Rat) * (N' : Rat) = (h : Rat) * ((x + y * (f : Rat)) * ((l : Rat) * (D' : Rat))) := by rw [hval]; grind
      exact q_cancel hz h5)
    exact ⟨hu.1, hu.2, ⟨N', hN'⟩, ⟨D', hD'⟩, hh0⟩
/-- a product of fractions, as multiply makes it -/
theorem q_mul {x y : Rat} {g1 g2 : Int} (h1 : g1 = (Int.gcd x.num (y.den : Int) : Int)) (h2 : g2 = (Int.gcd y.num (x.den : Int) : Int)) : (x * y).num = x.num / g1 * (y.num / g2) ∧ (((x * y).den : Nat) : Int) = (x.den : Int) / g2 * ((y.den : Int) / g1) ∧ 0 < g1 ∧ 0 < g2 := by
  have d1 := q_den x
  have d2 := q_den y
  have p1 : 0 < g1 := by rw [h1]; have := Int.gcd_pos_of_ne_zero_right x.num (show ((y.den : Nat) : Int) ≠ 0 by omega); omega
  have p2 : 0 < g2 := by rw [h2]; have := Int.gcd_pos_of_ne_zero_right y.num (show ((x.den : Nat) : Int) ≠ 0 by omega); omega
  have v1 : g1 ∣ x.num := by rw [h1]; exact Int.gcd_dvd_left _ _
  have v2 : g1 ∣ (y.den : Int) := by rw [h1]; exact Int.gcd_dvd_right _ _
  have v3 : g2 ∣ y.num := by rw [h2]; exact Int.gcd_dvd_left _ _
  have v4 : g2 ∣ (x.den : Int) := by rw [h2]; exact Int.gcd_dvd_right _ _
  have k1 : Int.gcd (x.num / g1) ((y.den : Int) / g1) = 1 := by
    rw [h1]; exact Int.gcd_ediv_gcd_ediv_gcd (by omega)
  have k2 : Int.gcd (y.num / g2) ((x.den : Int) / g2) = 1 := by
    rw [h2]; exact Int.gcd_ediv_gcd_ediv_gcd (by omega)
  obtain ⟨a, ha⟩ := v1
  obtain ⟨b, hb⟩ := v2
  obtain ⟨c, hc⟩ := v3
  obtain ⟨d, hd⟩ := v4
  have e1 : x.num / g1 = a := by rw [ha, Int.mul_ediv_cancel_left _ (by omega)]
  have e2 : (y.den : Int) / g1 = b := by rw [hb, Int.mul_ediv_cancel_left _ (by omega)]
  have e3 : y.num / g2 = c := by rw [hc, Int.mul_ediv_cancel_left _ (by omega)]
  have e4 : (x.den : Int) / g2 = d := by rw [hd, Int.mul_ediv_cancel_left _ (by omega)]
  rw [e1, e2] at k1
  rw [e3, e4] at k2
  rw [e1, e2, e3, e4]
  have pos : ∀ g t w : Int, 0 < g → 0 < w → w = g * t → 0 < t := by
    intro g t w hg hw he
    rcases (show t ≤ 0 ∨ 0 < t by omega) with q | q
    · have := Int.mul_le_mul_of_nonneg_left q (Int.le_of_lt hg)
      rw [Int.mul_zero] at this; omega
    · exact q
  have b0 := pos g1 b _ p1 d2 hb
  have d0 := pos g2 d _ p2 d1 hd
  have sub1 : ∀ A B C D : Int, Int.gcd (A * B) (C * D) = 1 → Int.gcd B D = 1 := by
    intro A B C D h
    have q1 := Int.gcd_dvd_gcd_mul_left_left B D A
    have q2 := Int.gcd_dvd_gcd_mul_left_right (A * B) D C
    rw [h] at q2
    exact Nat.dvd_one.mp (Nat.dvd_trans q1 q2)
  have cx := q_cop x
  have cy := q_cop y
  rw [ha, hd] at cx
  rw [hc, hb] at cy
  have k3 := sub1 _ _ _ _ cx
  have k4 := sub1 _ _ _ _ cy
  have hco : Int.gcd (a * c) (d * b) = 1 := by
    rw [Int.gcd_mul_right_right_of_gcd_eq_one]
    · rw [Int.gcd_mul_right_left_of_gcd_eq_one k1]; exact k4
    · rw [Int.gcd_mul_right_left_of_gcd_eq_one k3]; exact k2
  have hu := q_uni (q := x * y) (n := a * c) (d := d * b) (Int.mul_pos d0 b0) hco (by
    have ex := q_ndI x
    have ey := q_ndI y
    rw [ha, hd] at ex
    rw [hc, hb] at ey
    simp only [Rat.intCast_mul] at ex ey ⊢
    have z1 : (g1 : Rat) ≠ 0 := fun e => by have := Rat.intCast_eq_zero_iff.mp e; omega
    have z2 : (g2 : Rat) ≠ 0 := fun e => by have := Rat.intCast_eq_zero_iff.mp e; omega
    have h5 : ((g1 : Rat) * (g2 : Rat)) * ((a : Rat) * (c : Rat)) = ((g1 : Rat) * (g2 : Rat)) * (x * y * ((d : Rat) * (b : Rat))) := by
      calc ((g1 : Rat) * (g2 : Rat)) * ((a : Rat) * (c : Rat)) = ((g1 : Rat) * (a : Rat)) * ((g2 : Rat) * (c : Rat)) := by grind
        _ = (x * ((g2 : Rat) * (d : Rat))) * (y * ((g1 : Rat) * (b : Rat))) := by rw [ex, ey]
        _ = ((g1 : Rat) * (g2 : Rat)) * (x * y * ((d : Rat) * (b : Rat))) := by grind
    have z3 : ((g1 : Rat) * (g2 : Rat)) ≠ 0 := fun e => by rcases Rat.mul_eq_zero.mp e with q | q; exact z1 q; exact z2 q
    exact q_cancel z3 h5)
  exact ⟨hu.1, hu.2, p1, p2⟩

/-! addTimes and multiply, over the values of the Wholes -/
theorem cL_dvd {a b : Int} {k : Nat} (h : a ∣ b) (hb : b ≠ 0) (hl : cL b k) : cL a k := by
  unfold cL at *
  exact Nat.lt_of_le_of_lt (Nat.le_of_dvd (by omega) (Int.natAbs_dvd_natAbs.mpr h)) hl
theorem cRk.all {rk : Nat} {c : Nat → Nat} {jf : Nat} {M : rg_M} (h : cRk rk c jf M) : rg_K M rk = 5 ∧ rg_R M 64 rk = some (c 0) ∧ rg_R M 65 rk = some (c 1) ∧ rg_R M 66 rk = some (c 2) ∧ rg_R M 67 rk = some (c 3) ∧ rg_R M 68 rk = some (c 4) ∧ rg_R M 69 rk = some (c 5) ∧ rg_R M 70 rk = some (c 6) ∧ rg_R M 71 rk = some (c 7) ∧ rg_R M 72 rk = some (c 8) ∧ rg_R M 73 rk = some (c 9) ∧ rg_R M 74 rk = some (c 10) ∧ rg_K M (c 0) = 6 ∧ rg_K M (c 1) = 6 ∧ rg_K M (c 2) = 6 ∧ rg_K M (c 3) = 6 ∧ rg_K M (c 4) = 6 ∧ rg_K M (c 5) = 6 ∧ rg_K M (c 6) = 6 ∧ rg_K M (c 7) = 6 ∧ rg_K M (c 8) = 6 ∧ rg_K M (c 9) = 6 ∧ rg_K M (c 10) = 6 :=
  ⟨h.2.1, (h.2.2.1 0 (by decide)).1, (h.2.2.1 1 (by decide)).1, (h.2.2.1 2 (by decide)).1, (h.2.2.1 3 (by decide)).1, (h.2.2.1 4 (by decide)).1, (h.2.2.1 5 (by decide)).1, (h.2.2.1 6 (by decide)).1, (h.2.2.1 7 (by decide)).1, (h.2.2.1 8 (by decide)).1, (h.2.2.1 9 (by decide)).1, (h.2.2.1 10 (by decide)).1, (h.2.2.1 0 (by decide)).2, (h.2.2.1 1 (by decide)).2, (h.2.2.1 2 (by decide)).2, (h.2.2.1 3 (by decide)).2, (h.2.2.1 4 (by decide)).2, (h.2.2.1 5 (by decide)).2, (h.2.2.1 6 (by decide)).2, (h.2.2.1 7 (by decide)).2, (h.2.2.1 8 (by decide)).2, (h.2.2.1 9 (by decide)).2, (h.2.2.1 10 (by decide)).2⟩
/-- a Fraction and its two Wholes -/
def cXf (f t b : Nat) (M : rg_M) : Prop := f < rg_sz M ∧ rg_K M f = 2 ∧ rg_R M 16 f = some t ∧ rg_R M 17 f = some b ∧ rg_K M t = 6 ∧ rg_K M b = 6
theorem cXf.all {f t b : Nat} {M : rg_M} (h : cXf f t b M) : rg_K M f = 2 ∧ rg_R M 16 f = some t ∧ rg_R M 17 f = some b ∧ rg_K M t = 6 ∧ rg_K M b = 6 := h.2
theorem cXf.F {f t b : Nat} {M M' : rg_M} (h : cXf f t b M) (hF : cF M M') : cXf f t b M' := by
  obtain ⟨h1, h2, h3, h4, h5, h6⟩ := h
  have hR : ∀ f a, f ≠ 80 → rg_R M' f a = rg_R M f a := hF.2.2.2.2.1
  exact ⟨Nat.lt_of_lt_of_le h1 hF.1, by rw [hF.K h1]; exact h2, by rw [hR _ _ (by decide)]; exact h3, by rw [hR _ _ (by decide)]; exact h4, (hF.K6 _).mpr h5, (hF.K6 _).mpr h6⟩
section
variable {u z : Nat} {M : rg_M} {V : Nat → Int}
set_option maxHeartbeats 8000000 in
theorem cw_mulT (hH : cH u z M) (hV : cvV M V) {rk jf to by' t1 b1 t2 b2 k : Nat} {c : Nat → Nat} (hR : cRk rk c jf M) (hXa : cXf to t1 b1 M) (hXb : cXf by' t2 b2 M) (hD : ∀ i, i < 11 → t1 ≠ c i ∧ b1 ≠ c i ∧ t2 ≠ c i ∧ b2 ≠ c i) (p1 : t1 ≠ b1) (p2 : t2 ≠ b2) (p3 : t1 ≠ t2) (p4 : t1 ≠ b2) (p5 : b1 ≠ t2) (p6 : b1 ≠ b2) (q1 : 0 < V b1) (q2 : 0 < V b2) (hk : k ≤ 425) (l1 : cL (V t1) k) (l2 : cL (V b1) k) (l3 : cL (V t2) k) (l4 : cL (V b2) k) : ∃ (V' : Nat → Int) (M' : rg_M), rK_multiply rk to by' M = some M' ∧ cP u z M V' M' ∧ V' t1 = V t1 / (Int.gcd (V t1) (V b2) : Int) * (V t2 / (Int.gcd (V t2) (V b1) : Int)) ∧ V' b1 = V b1 / (Int.gcd (V t2) (V b1) : Int) * (V b2 / (Int.gcd (V t1) (V b2) : Int)) ∧ ∀ y, (∀ i, i < 11 → y ≠ c i) → y ≠ t1 → y ≠ b1 → V' y = V y := by
  have hne : ∀ i j, i < 11 → j < 11 → i ≠ j → c i ≠ c j := fun i j hi hj h e => h (hR.2.2.2.1 i j hi hj e)
  obtain ⟨N1, hN1⟩ : ∃ x, x = V t1 := ⟨_, rfl⟩
  obtain ⟨D1, hD1⟩ : ∃ x, x = V b1 := ⟨_, rfl⟩
  obtain ⟨N2, hN2⟩ : ∃ x, x = V t2 := ⟨_, rfl⟩
  obtain ⟨D2, hD2⟩ : ∃ x, x = V b2 := ⟨_, rfl⟩
  rw [← hD1] at q1 l2
  rw [← hD2] at q2 l4
  rw [← hN1] at l1
  rw [← hN2] at l3
  have P0 : cH u z M ∧ cF M M ∧ cvV M V := ⟨hH, cF.rf M, hV⟩
  have Rk0 := hR
  have Xa0 := hXa
  have Xb0 := hXb
  have X0 := Rk0.all
  have Y0 := Xa0.all
  have Z0 := Xb0.all
  obtain ⟨V0, hV0⟩ : ∃ W, W = V := ⟨_, rfl⟩
  rw [← hV0] at P0
  have k866 : k ≤ 866 := by omega
  have kk1 : k + k ≤ 866 := by omega
  have kk2 : k + 2 ≤ 866 := by omega
  have kk3 : k + 2 + k ≤ 866 := by omega
  have kk4 : k + 2 + k + 1 ≤ 866 := by omega
  have nD1 : D1 ≠ 0 := by omega
  have nD2 : D2 ≠ 0 := by omega
  have e0_t1 : V0 t1 = N1 := by rw [hV0, hN1]
  have e0_b1 : V0 b1 = D1 := by rw [hV0, hD1]
  have e0_t2 : V0 t2 = N2 := by rw [hV0, hN2]
  have e0_b2 : V0 b2 = D2 := by rw [hV0, hD2]
  obtain ⟨V1, M1, r1, P1, w1, o1⟩ := cw_findCommon P0.1 P0.2.2 Rk0 Y0.2.2.2.1 Z0.2.2.2.2 ((hD 3 (by decide)).1) ((hD 4 (by decide)).1) ((hD 3 (by decide)).2.2.2) ((hD 4 (by decide)).2.2.2) (by rw [e0_t1, e0_b2]; exact Or.inr nD2) (by rw [e0_t1]; exact (l1.mono k866)) (by rw [e0_b2]; exact (l4.mono k866))
  rw [e0_t1, e0_b2] at w1
  obtain ⟨g1, hg1⟩ : ∃ x : Int, x = (Int.gcd N1 D2 : Int) := ⟨_, rfl⟩
  have Rk1 := Rk0.F P1.2.1
  have Xa1 := Xa0.F P1.2.1
  have Xb1 := Xb0.F P1.2.1
  have X1 := Rk1.all
  have Y1 := Xa1.all
  have Z1 := Xb1.all
  have e1_t1 : V1 t1 = N1 := (o1 t1 ((hD 0 (by decide)).1) ((hD 1 (by decide)).1) ((hD 3 (by decide)).1) ((hD 4 (by decide)).1)).trans e0_t1
  have e1_b1 : V1 b1 = D1 := (o1 b1 ((hD 0 (by decide)).2.1) ((hD 1 (by decide)).2.1) ((hD 3 (by decide)).2.1) ((hD 4 (by decide)).2.1)).trans e0_b1
  have e1_t2 : V1 t2 = N2 := (o1 t2 ((hD 0 (by decide)).2.2.1) ((hD 1 (by decide)).2.2.1) ((hD 3 (by decide)).2.2.1) ((hD 4 (by decide)).2.2.1)).trans e0_t2
  have e1_b2 : V1 b2 = D2 := (o1 b2 ((hD 0 (by decide)).2.2.2) ((hD 1 (by decide)).2.2.2) ((hD 3 (by decide)).2.2.2) ((hD 4 (by decide)).2.2.2)).trans e0_b2
  have e1_c0 : V1 (c 0) = g1 := by rw [w1, hg1]; rfl
  have g1p : 0 < g1 := by rw [hg1]; have := Int.gcd_pos_of_ne_zero_right N1 nD2; omega
  have g1a : g1 ∣ N1 := by rw [hg1]; exact Int.gcd_dvd_left _ _
  have g1b : g1 ∣ D2 := by rw [hg1]; exact Int.gcd_dvd_right _ _
  obtain ⟨V2, M2, r2, P2, w2, o2⟩ := cw_divideOut P1.1 P1.2.2 Rk1 Y1.2.2.2.1 (Rk1.2.2.1 0 (by decide)).2 (Rk1.2.2.1 8 (by decide)).2 (Ne.symm ((hD 8 (by decide)).1)) (hne 8 0 (by decide) (by decide) (by decide)) ((hD 1 (by decide)).1) ((hD 2 (by decide)).1) (hne 0 1 (by decide) (by decide) (by decide)) (hne 0 2 (by decide) (by decide) (by decide)) (hne 8 1 (by decide) (by decide) (by decide)) (hne 8 2 (by decide) (by decide) (by decide)) (by rw [e1_c0]; exact g1p) (by rw [e1_c0, e1_t1]; exact g1a) (by rw [e1_t1]; exact (l1.mono k866))
  rw [e1_t1, e1_c0] at w2
  have Rk2 := Rk1.F P2.2.1
  have Xa2 := Xa1.F P2.2.1
  have Xb2 := Xb1.F P2.2.1
  have X2 := Rk2.all
  have Y2 := Xa2.all
  have Z2 := Xb2.all
  have e2_t1 : V2 t1 = N1 := (o2 t1 ((hD 8 (by decide)).1) ((hD 1 (by decide)).1) ((hD 2 (by decide)).1)).trans e1_t1
  have e2_b1 : V2 b1 = D1 := (o2 b1 ((hD 8 (by decide)).2.1) ((hD 1 (by decide)).2.1) ((hD 2 (by decide)).2.1)).trans e1_b1
  have e2_t2 : V2 t2 = N2 := (o2 t2 ((hD 8 (by decide)).2.2.1) ((hD 1 (by decide)).2.2.1) ((hD 2 (by decide)).2.2.1)).trans e1_t2
  have e2_b2 : V2 b2 = D2 := (o2 b2 ((hD 8 (by decide)).2.2.2) ((hD 1 (by decide)).2.2.2) ((hD 2 (by decide)).2.2.2)).trans e1_b2
  have e2_c0 : V2 (c 0) = g1 := (o2 (c 0) (hne 0 8 (by decide) (by decide) (by decide)) (hne 0 1 (by decide) (by decide) (by decide)) (hne 0 2 (by decide) (by decide) (by decide))).trans e1_c0
  have e2_c8 : V2 (c 8) = N1 / g1 := w2.trans rfl
  have la : cL (N1 / g1) k := by obtain ⟨y, hy⟩ := g1a; rw [hy, Int.mul_ediv_cancel_left _ (by omega)]; unfold cL at *; rw [hy, Int.natAbs_mul] at l1; exact Nat.lt_of_le_of_lt (Nat.le_mul_of_pos_left _ (by omega)) l1
  obtain ⟨V3, M3, r3, P3, w3, o3⟩ := cw_divideOut P2.1 P2.2.2 Rk2 Z2.2.2.2.2 (Rk2.2.2.1 0 (by decide)).2 (Rk2.2.2.1 7 (by decide)).2 (Ne.symm ((hD 7 (by decide)).2.2.2)) (hne 7 0 (by decide) (by decide) (by decide)) ((hD 1 (by decide)).2.2.2) ((hD 2 (by decide)).2.2.2) (hne 0 1 (by decide) (by decide) (by decide)) (hne 0 2 (by decide) (by decide) (by decide)) (hne 7 1 (by decide) (by decide) (by decide)) (hne 7 2 (by decide) (by decide) (by decide)) (by rw [e2_c0]; exact g1p) (by rw [e2_c0, e2_b2]; exact g1b) (by rw [e2_b2]; exact (l4.mono k866))
  rw [e2_b2, e2_c0] at w3
  have Rk3 := Rk2.F P3.2.1
  have Xa3 := Xa2.F P3.2.1
  have Xb3 := Xb2.F P3.2.1
  have X3 := Rk3.all
  have Y3 := Xa3.all
  have Z3 := Xb3.all
  have e3_t1 : V3 t1 = N1 := (o3 t1 ((hD 7 (by decide)).1) ((hD 1 (by decide)).1) ((hD 2 (by decide)).1)).trans e2_t1
  have e3_b1 : V3 b1 = D1 := (o3 b1 ((hD 7 (by decide)).2.1) ((hD 1 (by decide)).2.1) ((hD 2 (by decide)).2.1)).trans e2_b1
  have e3_t2 : V3 t2 = N2 := (o3 t2 ((hD 7 (by decide)).2.2.1) ((hD 1 (by decide)).2.2.1) ((hD 2 (by decide)).2.2.1)).trans e2_t2
  have e3_b2 : V3 b2 = D2 := (o3 b2 ((hD 7 (by decide)).2.2.2) ((hD 1 (by decide)).2.2.2) ((hD 2 (by decide)).2.2.2)).trans e2_b2
  have e3_c0 : V3 (c 0) = g1 := (o3 (c 0) (hne 0 7 (by decide) (by decide) (by decide)) (hne 0 1 (by decide) (by decide) (by decide)) (hne 0 2 (by decide) (by decide) (by decide))).trans e2_c0
  have e3_c8 : V3 (c 8) = N1 / g1 := (o3 (c 8) (hne 8 7 (by decide) (by decide) (by decide)) (hne 8 1 (by decide) (by decide) (by decide)) (hne 8 2 (by decide) (by decide) (by decide))).trans e2_c8
  have e3_c7 : V3 (c 7) = D2 / g1 := w3.trans rfl
  have lb : cL (D2 / g1) k := cL_dvd (Int.ediv_dvd_of_dvd g1b) nD2 l4
  obtain ⟨V4, M4, r4, P4, w4, o4⟩ := cw_findCommon P3.1 P3.2.2 Rk3 Z3.2.2.2.1 Y3.2.2.2.2 ((hD 3 (by decide)).2.2.1) ((hD 4 (by decide)).2.2.1) ((hD 3 (by decide)).2.1) ((hD 4 (by decide)).2.1) (by rw [e3_t2, e3_b1]; exact Or.inr nD1) (by rw [e3_t2]; exact (l3.mono k866)) (by rw [e3_b1]; exact (l2.mono k866))
  rw [e3_t2, e3_b1] at w4
  obtain ⟨g2, hg2⟩ : ∃ x : Int, x = (Int.gcd N2 D1 : Int) := ⟨_, rfl⟩
  have Rk4 := Rk3.F P4.2.1
  have Xa4 := Xa3.F P4.2.1
  have Xb4 := Xb3.F P4.2.1
  have X4 := Rk4.all
  have Y4 := Xa4.all
  have Z4 := Xb4.all
  have e4_t1 : V4 t1 = N1 := (o4 t1 ((hD 0 (by decide)).1) ((hD 1 (by decide)).1) ((hD 3 (by decide)).1) ((hD 4 (by decide)).1)).trans e3_t1
  have e4_b1 : V4 b1 = D1 := (o4 b1 ((hD 0 (by decide)).2.1) ((hD 1 (by decide)).2.1) ((hD 3 (by decide)).2.1) ((hD 4 (by decide)).2.1)).trans e3_b1
  have e4_t2 : V4 t2 = N2 := (o4 t2 ((hD 0 (by decide)).2.2.1) ((hD 1 (by decide)).2.2.1) ((hD 3 (by decide)).2.2.1) ((hD 4 (by decide)).2.2.1)).trans e3_t2
  have e4_b2 : V4 b2 = D2 := (o4 b2 ((hD 0 (by decide)).2.2.2) ((hD 1 (by decide)).2.2.2) ((hD 3 (by decide)).2.2.2) ((hD 4 (by decide)).2.2.2)).trans e3_b2
  have e4_c8 : V4 (c 8) = N1 / g1 := (o4 (c 8) (hne 8 0 (by decide) (by decide) (by decide)) (hne 8 1 (by decide) (by decide) (by decide)) (hne 8 3 (by decide) (by decide) (by decide)) (hne 8 4 (by decide) (by decide) (by decide))).trans e3_c8
  have e4_c7 : V4 (c 7) = D2 / g1 := (o4 (c 7) (hne 7 0 (by decide) (by decide) (by decide)) (hne 7 1 (by decide) (by decide) (by decide)) (hne 7 3 (by decide) (by decide) (by decide)) (hne 7 4 (by decide) (by decide) (by decide))).trans e3_c7
  have e4_c0 : V4 (c 0) = g2 := by rw [w4, hg2]; rfl
  have g2p : 0 < g2 := by rw [hg2]; have := Int.gcd_pos_of_ne_zero_right N2 nD1; omega
  have g2a : g2 ∣ N2 := by rw [hg2]; exact Int.gcd_dvd_left _ _
  have g2b : g2 ∣ D1 := by rw [hg2]; exact Int.gcd_dvd_right _ _
  obtain ⟨V5, M5, r5, P5, w5, o5⟩ := cw_divideOut P4.1 P4.2.2 Rk4 Z4.2.2.2.1 (Rk4.2.2.1 0 (by decide)).2 (Rk4.2.2.1 9 (by decide)).2 (Ne.symm ((hD 9 (by decide)).2.2.1)) (hne 9 0 (by decide) (by decide) (by decide)) ((hD 1 (by decide)).2.2.1) ((hD 2 (by decide)).2.2.1) (hne 0 1 (by decide) (by decide) (by decide)) (hne 0 2 (by decide) (by decide) (by decide)) (hne 9 1 (by decide) (by decide) (by decide)) (hne 9 2 (by decide) (by decide) (by decide)) (by rw [e4_c0]; exact g2p) (by rw [e4_c0, e4_t2]; exact g2a) (by rw [e4_t2]; exact (l3.mono k866))
  rw [e4_t2, e4_c0] at w5
  have Rk5 := Rk4.F P5.2.1
  have Xa5 := Xa4.F P5.2.1
  have Xb5 := Xb4.F P5.2.1
  have X5 := Rk5.all
  have Y5 := Xa5.all
  have Z5 := Xb5.all
  have e5_t1 : V5 t1 = N1 := (o5 t1 ((hD 9 (by decide)).1) ((hD 1 (by decide)).1) ((hD 2 (by decide)).1)).trans e4_t1
  have e5_b1 : V5 b1 = D1 := (o5 b1 ((hD 9 (by decide)).2.1) ((hD 1 (by decide)).2.1) ((hD 2 (by decide)).2.1)).trans e4_b1
  have e5_t2 : V5 t2 = N2 := (o5 t2 ((hD 9 (by decide)).2.2.1) ((hD 1 (by decide)).2.2.1) ((hD 2 (by decide)).2.2.1)).trans e4_t2
  have e5_b2 : V5 b2 = D2 := (o5 b2 ((hD 9 (by decide)).2.2.2) ((hD 1 (by decide)).2.2.2) ((hD 2 (by decide)).2.2.2)).trans e4_b2
  have e5_c0 : V5 (c 0) = g2 := (o5 (c 0) (hne 0 9 (by decide) (by decide) (by decide)) (hne 0 1 (by decide) (by decide) (by decide)) (hne 0 2 (by decide) (by decide) (by decide))).trans e4_c0
  have e5_c8 : V5 (c 8) = N1 / g1 := (o5 (c 8) (hne 8 9 (by decide) (by decide) (by decide)) (hne 8 1 (by decide) (by decide) (by decide)) (hne 8 2 (by decide) (by decide) (by decide))).trans e4_c8
  have e5_c7 : V5 (c 7) = D2 / g1 := (o5 (c 7) (hne 7 9 (by decide) (by decide) (by decide)) (hne 7 1 (by decide) (by decide) (by decide)) (hne 7 2 (by decide) (by decide) (by decide))).trans e4_c7
  have e5_c9 : V5 (c 9) = N2 / g2 := w5.trans rfl
  have lc : cL (N2 / g2) k := by obtain ⟨y, hy⟩ := g2a; rw [hy, Int.mul_ediv_cancel_left _ (by omega)]; unfold cL at *; rw [hy, Int.natAbs_mul] at l3; exact Nat.lt_of_le_of_lt (Nat.le_mul_of_pos_left _ (by omega)) l3
  obtain ⟨V6, M6, r6, P6, w6, o6⟩ := cw_divideOut P5.1 P5.2.2 Rk5 Y5.2.2.2.2 (Rk5.2.2.1 0 (by decide)).2 (Rk5.2.2.1 6 (by decide)).2 (Ne.symm ((hD 6 (by decide)).2.1)) (hne 6 0 (by decide) (by decide) (by decide)) ((hD 1 (by decide)).2.1) ((hD 2 (by decide)).2.1) (hne 0 1 (by decide) (by decide) (by decide)) (hne 0 2 (by decide) (by decide) (by decide)) (hne 6 1 (by decide) (by decide) (by decide)) (hne 6 2 (by decide) (by decide) (by decide)) (by rw [e5_c0]; exact g2p) (by rw [e5_c0, e5_b1]; exact g2b) (by rw [e5_b1]; exact (l2.mono k866))
  rw [e5_b1, e5_c0] at w6
  have Rk6 := Rk5.F P6.2.1
  have Xa6 := Xa5.F P6.2.1
  have Xb6 := Xb5.F P6.2.1
  have X6 := Rk6.all
  have Y6 := Xa6.all
  have Z6 := Xb6.all
  have e6_t1 : V6 t1 = N1 := (o6 t1 ((hD 6 (by decide)).1) ((hD 1 (by decide)).1) ((hD 2 (by decide)).1)).trans e5_t1
  have e6_b1 : V6 b1 = D1 := (o6 b1 ((hD 6 (by decide)).2.1) ((hD 1 (by decide)).2.1) ((hD 2 (by decide)).2.1)).trans e5_b1
  have e6_t2 : V6 t2 = N2 := (o6 t2 ((hD 6 (by decide)).2.2.1) ((hD 1 (by decide)).2.2.1) ((hD 2 (by decide)).2.2.1)).trans e5_t2
  have e6_b2 : V6 b2 = D2 := (o6 b2 ((hD 6 (by decide)).2.2.2) ((hD 1 (by decide)).2.2.2) ((hD 2 (by decide)).2.2.2)).trans e5_b2
  have e6_c0 : V6 (c 0) = g2 := (o6 (c 0) (hne 0 6 (by decide) (by decide) (by decide)) (hne 0 1 (by decide) (by decide) (by decide)) (hne 0 2 (by decide) (by decide) (by decide))).trans e5_c0
  have e6_c8 : V6 (c 8) = N1 / g1 := (o6 (c 8) (hne 8 6 (by decide) (by decide) (by decide)) (hne 8 1 (by decide) (by decide) (by decide)) (hne 8 2 (by decide) (by decide) (by decide))).trans e5_c8
  have e6_c7 : V6 (c 7) = D2 / g1 := (o6 (c 7) (hne 7 6 (by decide) (by decide) (by decide)) (hne 7 1 (by decide) (by decide) (by decide)) (hne 7 2 (by decide) (by decide) (by decide))).trans e5_c7
  have e6_c9 : V6 (c 9) = N2 / g2 := (o6 (c 9) (hne 9 6 (by decide) (by decide) (by decide)) (hne 9 1 (by decide) (by decide) (by decide)) (hne 9 2 (by decide) (by decide) (by decide))).trans e5_c9
  have e6_c6 : V6 (c 6) = D1 / g2 := w6.trans rfl
  have ld : cL (D1 / g2) k := cL_dvd (Int.ediv_dvd_of_dvd g2b) nD1 l2
  obtain ⟨M7, r7, P7⟩ := cw_product P6.1 P6.2.2 Y6.2.2.2.1 (ka := k) (kb := k) (Rk6.2.2.1 8 (by decide)).2 (Rk6.2.2.1 9 (by decide)).2 (Ne.symm ((hD 8 (by decide)).1)) (Ne.symm ((hD 9 (by decide)).1)) (by rw [e6_c8]; exact la) (by rw [e6_c9]; exact lc) kk1
  obtain ⟨V7, hV7⟩ : ∃ W, W = va_up V6 t1 (V6 (c 8) * V6 (c 9)) := ⟨_, rfl⟩
  rw [← hV7] at P7
  have Rk7 := Rk6.F P7.2.1
  have Xa7 := Xa6.F P7.2.1
  have Xb7 := Xb6.F P7.2.1
  have X7 := Rk7.all
  have Y7 := Xa7.all
  have Z7 := Xb7.all
  have e7_b1 : V7 b1 = D1 := (show V7 b1 = V6 b1 by rw [hV7]; exact rg_up_ne (Ne.symm p1)).trans e6_b1
  have e7_t2 : V7 t2 = N2 := (show V7 t2 = V6 t2 by rw [hV7]; exact rg_up_ne (Ne.symm p3)).trans e6_t2
  have e7_b2 : V7 b2 = D2 := (show V7 b2 = V6 b2 by rw [hV7]; exact rg_up_ne (Ne.symm p4)).trans e6_b2
  have e7_c0 : V7 (c 0) = g2 := (show V7 (c 0) = V6 (c 0) by rw [hV7]; exact rg_up_ne (Ne.symm ((hD 0 (by decide)).1))).trans e6_c0
  have e7_c8 : V7 (c 8) = N1 / g1 := (show V7 (c 8) = V6 (c 8) by rw [hV7]; exact rg_up_ne (Ne.symm ((hD 8 (by decide)).1))).trans e6_c8
  have e7_c7 : V7 (c 7) = D2 / g1 := (show V7 (c 7) = V6 (c 7) by rw [hV7]; exact rg_up_ne (Ne.symm ((hD 7 (by decide)).1))).trans e6_c7
  have e7_c9 : V7 (c 9) = N2 / g2 := (show V7 (c 9) = V6 (c 9) by rw [hV7]; exact rg_up_ne (Ne.symm ((hD 9 (by decide)).1))).trans e6_c9
  have e7_c6 : V7 (c 6) = D1 / g2 := (show V7 (c 6) = V6 (c 6) by rw [hV7]; exact rg_up_ne (Ne.symm ((hD 6 (by decide)).1))).trans e6_c6
  have e7_t1 : V7 t1 = (N1 / g1) * (N2 / g2) := by rw [hV7]; exact rg_up_eq.trans (by rw [e6_c8, e6_c9])
  obtain ⟨M8, r8, P8⟩ := cw_product P7.1 P7.2.2 Y7.2.2.2.2 (ka := k) (kb := k) (Rk7.2.2.1 6 (by decide)).2 (Rk7.2.2.1 7 (by decide)).2 (Ne.symm ((hD 6 (by decide)).2.1)) (Ne.symm ((hD 7 (by decide)).2.1)) (by rw [e7_c6]; exact ld) (by rw [e7_c7]; exact lb) kk1
  obtain ⟨V8, hV8⟩ : ∃ W, W = va_up V7 b1 (V7 (c 6) * V7 (c 7)) := ⟨_, rfl⟩
  rw [← hV8] at P8
  have Rk8 := Rk7.F P8.2.1
  have Xa8 := Xa7.F P8.2.1
  have Xb8 := Xb7.F P8.2.1
  have X8 := Rk8.all
  have Y8 := Xa8.all
  have Z8 := Xb8.all
  have e8_t1 : V8 t1 = (N1 / g1) * (N2 / g2) := (show V8 t1 = V7 t1 by rw [hV8]; exact rg_up_ne p1).trans e7_t1
  have e8_t2 : V8 t2 = N2 := (show V8 t2 = V7 t2 by rw [hV8]; exact rg_up_ne (Ne.symm p5)).trans e7_t2
  have e8_b2 : V8 b2 = D2 := (show V8 b2 = V7 b2 by rw [hV8]; exact rg_up_ne (Ne.symm p6)).trans e7_b2
  have e8_c0 : V8 (c 0) = g2 := (show V8 (c 0) = V7 (c 0) by rw [hV8]; exact rg_up_ne (Ne.symm ((hD 0 (by decide)).2.1))).trans e7_c0
  have e8_c8 : V8 (c 8) = N1 / g1 := (show V8 (c 8) = V7 (c 8) by rw [hV8]; exact rg_up_ne (Ne.symm ((hD 8 (by decide)).2.1))).trans e7_c8
  have e8_c7 : V8 (c 7) = D2 / g1 := (show V8 (c 7) = V7 (c 7) by rw [hV8]; exact rg_up_ne (Ne.symm ((hD 7 (by decide)).2.1))).trans e7_c7
  have e8_c9 : V8 (c 9) = N2 / g2 := (show V8 (c 9) = V7 (c 9) by rw [hV8]; exact rg_up_ne (Ne.symm ((hD 9 (by decide)).2.1))).trans e7_c9
  have e8_c6 : V8 (c 6) = D1 / g2 := (show V8 (c 6) = V7 (c 6) by rw [hV8]; exact rg_up_ne (Ne.symm ((hD 6 (by decide)).2.1))).trans e7_c6
  have e8_b1 : V8 b1 = (D1 / g2) * (D2 / g1) := by rw [hV8]; exact rg_up_eq.trans (by rw [e7_c6, e7_c7])
  refine ⟨V8, M8, ?_, ⟨P8.1, (P1.2.1.tr (P2.2.1.tr (P3.2.1.tr (P4.2.1.tr (P5.2.1.tr (P6.2.1.tr (P7.2.1.tr P8.2.1))))))), P8.2.2⟩, ?_, ?_, fun y hy h1 h2 => ?_⟩
  · rw [rK_multiply_u, rK_multiply_e]
    simp only [X0, Y0, Z0, X1, Y1, Z1, X2, Y2, Z2, X3, Y3, Z3, X4, Y4, Z4, X5, Y5, Z5, X6, Y6, Z6, X7, Y7, Z7, X8, Y8, Z8, if_true, Option.bind_some, r1, r2, r3, r4, r5, r6, r7, r8]
    rfl
  · rw [e8_t1, hg1, hg2, hN1, hN2, hD1, hD2]
  · rw [e8_b1, hg1, hg2, hN1, hN2, hD1, hD2]
  · rw [hV8, rg_up_ne h2, hV7, rg_up_ne h1, o6 y (hy 6 (by decide)) (hy 1 (by decide)) (hy 2 (by decide)), o5 y (hy 9 (by decide)) (hy 1 (by decide)) (hy 2 (by decide)), o4 y (hy 0 (by decide)) (hy 1 (by decide)) (hy 3 (by decide)) (hy 4 (by decide)), o3 y (hy 7 (by decide)) (hy 1 (by decide)) (hy 2 (by decide)), o2 y (hy 8 (by decide)) (hy 1 (by decide)) (hy 2 (by decide)), o1 y (hy 0 (by decide)) (hy 1 (by decide)) (hy 3 (by decide)) (hy 4 (by decide)), hV0]
set_option maxHeartbeats 8000000 in
theorem cw_addT (hH : cH u z M) (hV : cvV M V) {rk jf to by' t1 b1 t2 b2 k : Nat} {c : Nat → Nat} (hR : cRk rk c jf M) (hXa : cXf to t1 b1 M) (hXb : cXf by' t2 b2 M) (hD : ∀ i, i < 11 → t1 ≠ c i ∧ b1 ≠ c i ∧ t2 ≠ c i ∧ b2 ≠ c i) (p1 : t1 ≠ b1) (p2 : t2 ≠ b2) (p3 : t1 ≠ t2) (p4 : t1 ≠ b2) (p5 : b1 ≠ t2) (p6 : b1 ≠ b2) (q1 : 0 < V b1) (q2 : 0 < V b2) (hk : k ≤ 425) (l1 : cL (V t1) k) (l2 : cL (V b1) k) (l3 : cL (V t2) k) (l4 : cL (V b2) k) {x : Int32} {f : Int} (hx0 : ¬ x = 0) (hf : x.toInt64.toInt = f) (ht0 : V t2 ≠ 0) : ∃ (g l r e N : Int) (V' : Nat → Int) (M' : rg_M), rK_addTimes rk to by' x M = some M' ∧ cP u z M V' M' ∧ g = (Int.gcd (V b1) (V b2) : Int) ∧ V b1 = g * l ∧ V b2 = g * r ∧ e = (Int.gcd r f : Int) ∧ N = V t1 * r + V t2 * f * l ∧ (N = 0 → V' t1 = 0 ∧ V' b1 = 1) ∧ (N ≠ 0 → V' t1 = N / (Int.gcd N (g * e) : Int) ∧ V' b1 = l * (V b2 / (Int.gcd N (g * e) : Int))) ∧ ∀ y, (∀ i, i < 11 → y ≠ c i) → y ≠ t1 → y ≠ b1 → V' y = V y := by
  have hne : ∀ i j, i < 11 → j < 11 → i ≠ j → c i ≠ c j := fun i j hi hj h e => h (hR.2.2.2.1 i j hi hj e)
  obtain ⟨N1, hN1⟩ : ∃ x, x = V t1 := ⟨_, rfl⟩
  obtain ⟨D1, hD1⟩ : ∃ x, x = V b1 := ⟨_, rfl⟩
  obtain ⟨N2, hN2⟩ : ∃ x, x = V t2 := ⟨_, rfl⟩
  obtain ⟨D2, hD2⟩ : ∃ x, x = V b2 := ⟨_, rfl⟩
  rw [← hD1] at q1 l2
  rw [← hD2] at q2 l4
  rw [← hN1] at l1
  rw [← hN2] at l3
  have P0 : cH u z M ∧ cF M M ∧ cvV M V := ⟨hH, cF.rf M, hV⟩
  have Rk0 := hR
  have Xa0 := hXa
  have Xb0 := hXb
  have X0 := Rk0.all
  have Y0 := Xa0.all
  have Z0 := Xb0.all
  obtain ⟨V0, hV0⟩ : ∃ W, W = V := ⟨_, rfl⟩
  rw [← hV0] at P0
  have k866 : k ≤ 866 := by omega
  have kk1 : k + k ≤ 866 := by omega
  have kk2 : k + 2 ≤ 866 := by omega
  have kk3 : k + 2 + k ≤ 866 := by omega
  have kk4 : k + 2 + k + 1 ≤ 866 := by omega
  have nD1 : D1 ≠ 0 := by omega
  have nD2 : D2 ≠ 0 := by omega
  have e0_t1 : V0 t1 = N1 := by rw [hV0, hN1]
  have e0_b1 : V0 b1 = D1 := by rw [hV0, hD1]
  have e0_t2 : V0 t2 = N2 := by rw [hV0, hN2]
  have e0_b2 : V0 b2 = D2 := by rw [hV0, hD2]
  rw [← hN2] at ht0
  have lf : cL f 2 := by
    have h1 := fb_rng x
    have h2 : x.toInt64.toInt = x.toInt := Int32.toInt_toInt64 x
    unfold cL
    show _ < 4611686018427387904
    omega
  obtain ⟨rt2, nt2, hT2⟩ := hV t2 Z0.2.2.2.1
  have hT2l := hT2.len (k := k) (by rw [← hN2]; exact l3)
  have it2 : ¬ rg_I M 81 t2 = 0 := by
    rw [hT2.2.2.2.2.1]
    refine nI_ne0 ?_ (by omega)
    rcases Nat.eq_zero_or_pos nt2 with e | e
    · have := hT2.zero.mpr e; rw [← hN2] at this; exact absurd this ht0
    · exact e
  obtain ⟨V1, M1, r1, P1, w1, o1⟩ := cw_findCommon P0.1 P0.2.2 Rk0 Y0.2.2.2.2 Z0.2.2.2.2 ((hD 3 (by decide)).2.1) ((hD 4 (by decide)).2.1) ((hD 3 (by decide)).2.2.2) ((hD 4 (by decide)).2.2.2) (by rw [e0_b1, e0_b2]; exact Or.inr nD2) (by rw [e0_b1]; exact (l2.mono k866)) (by rw [e0_b2]; exact (l4.mono k866))
  rw [e0_b1, e0_b2] at w1
  obtain ⟨g, hg⟩ : ∃ x : Int, x = (Int.gcd D1 D2 : Int) := ⟨_, rfl⟩
  have Rk1 := Rk0.F P1.2.1
  have Xa1 := Xa0.F P1.2.1
  have Xb1 := Xb0.F P1.2.1
  have X1 := Rk1.all
  have Y1 := Xa1.all
  have Z1 := Xb1.all
  have e1_t1 : V1 t1 = N1 := (o1 t1 ((hD 0 (by decide)).1) ((hD 1 (by decide)).1) ((hD 3 (by decide)).1) ((hD 4 (by decide)).1)).trans e0_t1
  have e1_b1 : V1 b1 = D1 := (o1 b1 ((hD 0 (by decide)).2.1) ((hD 1 (by decide)).2.1) ((hD 3 (by decide)).2.1) ((hD 4 (by decide)).2.1)).trans e0_b1
  have e1_t2 : V1 t2 = N2 := (o1 t2 ((hD 0 (by decide)).2.2.1) ((hD 1 (by decide)).2.2.1) ((hD 3 (by decide)).2.2.1) ((hD 4 (by decide)).2.2.1)).trans e0_t2
  have e1_b2 : V1 b2 = D2 := (o1 b2 ((hD 0 (by decide)).2.2.2) ((hD 1 (by decide)).2.2.2) ((hD 3 (by decide)).2.2.2) ((hD 4 (by decide)).2.2.2)).trans e0_b2
  have e1_c0 : V1 (c 0) = g := by rw [w1, hg]; rfl
  have gp : 0 < g := by rw [hg]; have := Int.gcd_pos_of_ne_zero_right D1 nD2; omega
  have ga : g ∣ D1 := by rw [hg]; exact Int.gcd_dvd_left _ _
  have gb : g ∣ D2 := by rw [hg]; exact Int.gcd_dvd_right _ _
  have lg : cL g k := cL_dvd ga nD1 l2
  obtain ⟨M2, r2, P2⟩ := cw_copy P1.1 P1.2.2 (Rk1.2.2.1 8 (by decide)).2 (Rk1.2.2.1 0 (by decide)).2 (hne 0 8 (by decide) (by decide) (by decide)) (by rw [e1_c0]; exact (lg.mono k866))
  obtain ⟨V2, hV2⟩ : ∃ W, W = va_up V1 (c 8) (V1 (c 0)) := ⟨_, rfl⟩
  rw [← hV2] at P2
  have Rk2 := Rk1.F P2.2.1
  have Xa2 := Xa1.F P2.2.1
  have Xb2 := Xb1.F P2.2.1
  have X2 := Rk2.all
  have Y2 := Xa2.all
  have Z2 := Xb2.all
  have e2_t1 : V2 t1 = N1 := (show V2 t1 = V1 t1 by rw [hV2]; exact rg_up_ne ((hD 8 (by decide)).1)).trans e1_t1
  have e2_b1 : V2 b1 = D1 := (show V2 b1 = V1 b1 by rw [hV2]; exact rg_up_ne ((hD 8 (by decide)).2.1)).trans e1_b1
  have e2_t2 : V2 t2 = N2 := (show V2 t2 = V1 t2 by rw [hV2]; exact rg_up_ne ((hD 8 (by decide)).2.2.1)).trans e1_t2
  have e2_b2 : V2 b2 = D2 := (show V2 b2 = V1 b2 by rw [hV2]; exact rg_up_ne ((hD 8 (by decide)).2.2.2)).trans e1_b2
  have e2_c0 : V2 (c 0) = g := (show V2 (c 0) = V1 (c 0) by rw [hV2]; exact rg_up_ne (hne 0 8 (by decide) (by decide) (by decide))).trans e1_c0
  have e2_c8 : V2 (c 8) = g := by rw [hV2]; exact rg_up_eq.trans e1_c0
  obtain ⟨l, hl⟩ : ∃ l, l = D1 / g := ⟨_, rfl⟩
  obtain ⟨r, hr⟩ : ∃ r, r = D2 / g := ⟨_, rfl⟩
  have el : D1 = g * l := by rw [hl, Int.mul_comm]; exact (Int.ediv_mul_cancel ga).symm
  have er : D2 = g * r := by rw [hr, Int.mul_comm]; exact (Int.ediv_mul_cancel gb).symm
  have ll : cL l k := by rw [hl]; exact cL_dvd (Int.ediv_dvd_of_dvd ga) nD1 l2
  have lr : cL r k := by rw [hr]; exact cL_dvd (Int.ediv_dvd_of_dvd gb) nD2 l4
  have r0 : r ≠ 0 := by intro e; rw [e, Int.mul_zero] at er; exact nD2 er
  have l0 : l ≠ 0 := by intro e; rw [e, Int.mul_zero] at el; exact nD1 el
  obtain ⟨V3, M3, r3, P3, w3, o3⟩ := cw_divideOut P2.1 P2.2.2 Rk2 Y2.2.2.2.2 (Rk2.2.2.1 8 (by decide)).2 (Rk2.2.2.1 6 (by decide)).2 (Ne.symm ((hD 6 (by decide)).2.1)) (hne 6 8 (by decide) (by decide) (by decide)) ((hD 1 (by decide)).2.1) ((hD 2 (by decide)).2.1) (hne 8 1 (by decide) (by decide) (by decide)) (hne 8 2 (by decide) (by decide) (by decide)) (hne 6 1 (by decide) (by decide) (by decide)) (hne 6 2 (by decide) (by decide) (by decide)) (by rw [e2_c8]; exact gp) (by rw [e2_c8, e2_b1]; exact ga) (by rw [e2_b1]; exact (l2.mono k866))
  rw [e2_b1, e2_c8] at w3
  have Rk3 := Rk2.F P3.2.1
  have Xa3 := Xa2.F P3.2.1
  have Xb3 := Xb2.F P3.2.1
  have X3 := Rk3.all
  have Y3 := Xa3.all
  have Z3 := Xb3.all
  have e3_t1 : V3 t1 = N1 := (o3 t1 ((hD 6 (by decide)).1) ((hD 1 (by decide)).1) ((hD 2 (by decide)).1)).trans e2_t1
  have e3_b1 : V3 b1 = D1 := (o3 b1 ((hD 6 (by decide)).2.1) ((hD 1 (by decide)).2.1) ((hD 2 (by decide)).2.1)).trans e2_b1
  have e3_t2 : V3 t2 = N2 := (o3 t2 ((hD 6 (by decide)).2.2.1) ((hD 1 (by decide)).2.2.1) ((hD 2 (by decide)).2.2.1)).trans e2_t2
  have e3_b2 : V3 b2 = D2 := (o3 b2 ((hD 6 (by decide)).2.2.2) ((hD 1 (by decide)).2.2.2) ((hD 2 (by decide)).2.2.2)).trans e2_b2
  have e3_c0 : V3 (c 0) = g := (o3 (c 0) (hne 0 6 (by decide) (by decide) (by decide)) (hne 0 1 (by decide) (by decide) (by decide)) (hne 0 2 (by decide) (by decide) (by decide))).trans e2_c0
  have e3_c8 : V3 (c 8) = g := (o3 (c 8) (hne 8 6 (by decide) (by decide) (by decide)) (hne 8 1 (by decide) (by decide) (by decide)) (hne 8 2 (by decide) (by decide) (by decide))).trans e2_c8
  have e3_c6 : V3 (c 6) = l := w3.trans hl.symm
  obtain ⟨V4, M4, r4, P4, w4, o4⟩ := cw_divideOut P3.1 P3.2.2 Rk3 Z3.2.2.2.2 (Rk3.2.2.1 8 (by decide)).2 (Rk3.2.2.1 7 (by decide)).2 (Ne.symm ((hD 7 (by decide)).2.2.2)) (hne 7 8 (by decide) (by decide) (by decide)) ((hD 1 (by decide)).2.2.2) ((hD 2 (by decide)).2.2.2) (hne 8 1 (by decide) (by decide) (by decide)) (hne 8 2 (by decide) (by decide) (by decide)) (hne 7 1 (by decide) (by decide) (by decide)) (hne 7 2 (by decide) (by decide) (by decide)) (by rw [e3_c8]; exact gp) (by rw [e3_c8, e3_b2]; exact gb) (by rw [e3_b2]; exact (l4.mono k866))
  rw [e3_b2, e3_c8] at w4
  have Rk4 := Rk3.F P4.2.1
  have Xa4 := Xa3.F P4.2.1
  have Xb4 := Xb3.F P4.2.1
  have X4 := Rk4.all
  have Y4 := Xa4.all
  have Z4 := Xb4.all
  have e4_t1 : V4 t1 = N1 := (o4 t1 ((hD 7 (by decide)).1) ((hD 1 (by decide)).1) ((hD 2 (by decide)).1)).trans e3_t1
  have e4_b1 : V4 b1 = D1 := (o4 b1 ((hD 7 (by decide)).2.1) ((hD 1 (by decide)).2.1) ((hD 2 (by decide)).2.1)).trans e3_b1
  have e4_t2 : V4 t2 = N2 := (o4 t2 ((hD 7 (by decide)).2.2.1) ((hD 1 (by decide)).2.2.1) ((hD 2 (by decide)).2.2.1)).trans e3_t2
  have e4_b2 : V4 b2 = D2 := (o4 b2 ((hD 7 (by decide)).2.2.2) ((hD 1 (by decide)).2.2.2) ((hD 2 (by decide)).2.2.2)).trans e3_b2
  have e4_c0 : V4 (c 0) = g := (o4 (c 0) (hne 0 7 (by decide) (by decide) (by decide)) (hne 0 1 (by decide) (by decide) (by decide)) (hne 0 2 (by decide) (by decide) (by decide))).trans e3_c0
  have e4_c8 : V4 (c 8) = g := (o4 (c 8) (hne 8 7 (by decide) (by decide) (by decide)) (hne 8 1 (by decide) (by decide) (by decide)) (hne 8 2 (by decide) (by decide) (by decide))).trans e3_c8
  have e4_c6 : V4 (c 6) = l := (o4 (c 6) (hne 6 7 (by decide) (by decide) (by decide)) (hne 6 1 (by decide) (by decide) (by decide)) (hne 6 2 (by decide) (by decide) (by decide))).trans e3_c6
  have e4_c7 : V4 (c 7) = r := w4.trans hr.symm
  obtain ⟨M5, r5, P5⟩ := cw_become P4.1 P4.2.2 (Rk4.2.2.1 10 (by decide)).2 (x.toInt64)
  obtain ⟨V5, hV5⟩ : ∃ W, W = va_up V4 (c 10) (x.toInt64).toInt := ⟨_, rfl⟩
  rw [← hV5] at P5
  have Rk5 := Rk4.F P5.2.1
  have Xa5 := Xa4.F P5.2.1
  have Xb5 := Xb4.F P5.2.1
  have X5 := Rk5.all
  have Y5 := Xa5.all
  have Z5 := Xb5.all
  have e5_t1 : V5 t1 = N1 := (show V5 t1 = V4 t1 by rw [hV5]; exact rg_up_ne ((hD 10 (by decide)).1)).trans e4_t1
  have e5_b1 : V5 b1 = D1 := (show V5 b1 = V4 b1 by rw [hV5]; exact rg_up_ne ((hD 10 (by decide)).2.1)).trans e4_b1
  have e5_t2 : V5 t2 = N2 := (show V5 t2 = V4 t2 by rw [hV5]; exact rg_up_ne ((hD 10 (by decide)).2.2.1)).trans e4_t2
  have e5_b2 : V5 b2 = D2 := (show V5 b2 = V4 b2 by rw [hV5]; exact rg_up_ne ((hD 10 (by decide)).2.2.2)).trans e4_b2
  have e5_c0 : V5 (c 0) = g := (show V5 (c 0) = V4 (c 0) by rw [hV5]; exact rg_up_ne (hne 0 10 (by decide) (by decide) (by decide))).trans e4_c0
  have e5_c8 : V5 (c 8) = g := (show V5 (c 8) = V4 (c 8) by rw [hV5]; exact rg_up_ne (hne 8 10 (by decide) (by decide) (by decide))).trans e4_c8
  have e5_c6 : V5 (c 6) = l := (show V5 (c 6) = V4 (c 6) by rw [hV5]; exact rg_up_ne (hne 6 10 (by decide) (by decide) (by decide))).trans e4_c6
  have e5_c7 : V5 (c 7) = r := (show V5 (c 7) = V4 (c 7) by rw [hV5]; exact rg_up_ne (hne 7 10 (by decide) (by decide) (by decide))).trans e4_c7
  have e5_c10 : V5 (c 10) = f := by rw [hV5]; exact rg_up_eq.trans hf
  obtain ⟨V6, M6, r6, P6, w6, o6⟩ := cw_findCommon P5.1 P5.2.2 Rk5 (Rk5.2.2.1 7 (by decide)).2 (Rk5.2.2.1 10 (by decide)).2 (hne 7 3 (by decide) (by decide) (by decide)) (hne 7 4 (by decide) (by decide) (by decide)) (hne 10 3 (by decide) (by decide) (by decide)) (hne 10 4 (by decide) (by decide) (by decide)) (by rw [e5_c7, e5_c10]; exact Or.inl r0) (by rw [e5_c7]; exact (lr.mono k866)) (by rw [e5_c10]; exact (lf.mono (by decide)))
  rw [e5_c7, e5_c10] at w6
  obtain ⟨e, he⟩ : ∃ x : Int, x = (Int.gcd r f : Int) := ⟨_, rfl⟩
  have Rk6 := Rk5.F P6.2.1
  have Xa6 := Xa5.F P6.2.1
  have Xb6 := Xb5.F P6.2.1
  have X6 := Rk6.all
  have Y6 := Xa6.all
  have Z6 := Xb6.all
  have e6_t1 : V6 t1 = N1 := (o6 t1 ((hD 0 (by decide)).1) ((hD 1 (by decide)).1) ((hD 3 (by decide)).1) ((hD 4 (by decide)).1)).trans e5_t1
  have e6_b1 : V6 b1 = D1 := (o6 b1 ((hD 0 (by decide)).2.1) ((hD 1 (by decide)).2.1) ((hD 3 (by decide)).2.1) ((hD 4 (by decide)).2.1)).trans e5_b1
  have e6_t2 : V6 t2 = N2 := (o6 t2 ((hD 0 (by decide)).2.2.1) ((hD 1 (by decide)).2.2.1) ((hD 3 (by decide)).2.2.1) ((hD 4 (by decide)).2.2.1)).trans e5_t2
  have e6_b2 : V6 b2 = D2 := (o6 b2 ((hD 0 (by decide)).2.2.2) ((hD 1 (by decide)).2.2.2) ((hD 3 (by decide)).2.2.2) ((hD 4 (by decide)).2.2.2)).trans e5_b2
  have e6_c8 : V6 (c 8) = g := (o6 (c 8) (hne 8 0 (by decide) (by decide) (by decide)) (hne 8 1 (by decide) (by decide) (by decide)) (hne 8 3 (by decide) (by decide) (by decide)) (hne 8 4 (by decide) (by decide) (by decide))).trans e5_c8
  have e6_c6 : V6 (c 6) = l := (o6 (c 6) (hne 6 0 (by decide) (by decide) (by decide)) (hne 6 1 (by decide) (by decide) (by decide)) (hne 6 3 (by decide) (by decide) (by decide)) (hne 6 4 (by decide) (by decide) (by decide))).trans e5_c6
  have e6_c7 : V6 (c 7) = r := (o6 (c 7) (hne 7 0 (by decide) (by decide) (by decide)) (hne 7 1 (by decide) (by decide) (by decide)) (hne 7 3 (by decide) (by decide) (by decide)) (hne 7 4 (by decide) (by decide) (by decide))).trans e5_c7
  have e6_c10 : V6 (c 10) = f := (o6 (c 10) (hne 10 0 (by decide) (by decide) (by decide)) (hne 10 1 (by decide) (by decide) (by decide)) (hne 10 3 (by decide) (by decide) (by decide)) (hne 10 4 (by decide) (by decide) (by decide))).trans e5_c10
  have e6_c0 : V6 (c 0) = e := by rw [w6, he]; rfl
  have ep : 0 < e := by rw [he]; have := Int.gcd_pos_of_ne_zero_left f r0; omega
  have ea : e ∣ r := by rw [he]; exact Int.gcd_dvd_left _ _
  have le : cL e k := cL_dvd ea r0 lr
  obtain ⟨M7, r7, P7⟩ := cw_product P6.1 P6.2.2 (Rk6.2.2.1 5 (by decide)).2 (ka := k) (kb := k) (Rk6.2.2.1 8 (by decide)).2 (Rk6.2.2.1 0 (by decide)).2 (hne 8 5 (by decide) (by decide) (by decide)) (hne 0 5 (by decide) (by decide) (by decide)) (by rw [e6_c8]; exact lg) (by rw [e6_c0]; exact le) kk1
  obtain ⟨V7, hV7⟩ : ∃ W, W = va_up V6 (c 5) (V6 (c 8) * V6 (c 0)) := ⟨_, rfl⟩
  rw [← hV7] at P7
  have Rk7 := Rk6.F P7.2.1
  have Xa7 := Xa6.F P7.2.1
  have Xb7 := Xb6.F P7.2.1
  have X7 := Rk7.all
  have Y7 := Xa7.all
  have Z7 := Xb7.all
  have e7_t1 : V7 t1 = N1 := (show V7 t1 = V6 t1 by rw [hV7]; exact rg_up_ne ((hD 5 (by decide)).1)).trans e6_t1
  have e7_b1 : V7 b1 = D1 := (show V7 b1 = V6 b1 by rw [hV7]; exact rg_up_ne ((hD 5 (by decide)).2.1)).trans e6_b1
  have e7_t2 : V7 t2 = N2 := (show V7 t2 = V6 t2 by rw [hV7]; exact rg_up_ne ((hD 5 (by decide)).2.2.1)).trans e6_t2
  have e7_b2 : V7 b2 = D2 := (show V7 b2 = V6 b2 by rw [hV7]; exact rg_up_ne ((hD 5 (by decide)).2.2.2)).trans e6_b2
  have e7_c0 : V7 (c 0) = e := (show V7 (c 0) = V6 (c 0) by rw [hV7]; exact rg_up_ne (hne 0 5 (by decide) (by decide) (by decide))).trans e6_c0
  have e7_c8 : V7 (c 8) = g := (show V7 (c 8) = V6 (c 8) by rw [hV7]; exact rg_up_ne (hne 8 5 (by decide) (by decide) (by decide))).trans e6_c8
  have e7_c6 : V7 (c 6) = l := (show V7 (c 6) = V6 (c 6) by rw [hV7]; exact rg_up_ne (hne 6 5 (by decide) (by decide) (by decide))).trans e6_c6
  have e7_c7 : V7 (c 7) = r := (show V7 (c 7) = V6 (c 7) by rw [hV7]; exact rg_up_ne (hne 7 5 (by decide) (by decide) (by decide))).trans e6_c7
  have e7_c10 : V7 (c 10) = f := (show V7 (c 10) = V6 (c 10) by rw [hV7]; exact rg_up_ne (hne 10 5 (by decide) (by decide) (by decide))).trans e6_c10
  have e7_c5 : V7 (c 5) = g * e := by rw [hV7]; exact rg_up_eq.trans (by rw [e6_c8, e6_c0])
  have lge : cL (g * e) (k + k) := lg.mul le
  obtain ⟨M8, r8, P8⟩ := cw_product P7.1 P7.2.2 (Rk7.2.2.1 8 (by decide)).2 (ka := k) (kb := 2) Z7.2.2.2.1 (Rk7.2.2.1 10 (by decide)).2 ((hD 8 (by decide)).2.2.1) (hne 10 8 (by decide) (by decide) (by decide)) (by rw [e7_t2]; exact l3) (by rw [e7_c10]; exact lf) kk2
  obtain ⟨V8, hV8⟩ : ∃ W, W = va_up V7 (c 8) (V7 t2 * V7 (c 10)) := ⟨_, rfl⟩
  rw [← hV8] at P8
  have Rk8 := Rk7.F P8.2.1
  have Xa8 := Xa7.F P8.2.1
  have Xb8 := Xb7.F P8.2.1
  have X8 := Rk8.all
  have Y8 := Xa8.all
  have Z8 := Xb8.all
  have e8_t1 : V8 t1 = N1 := (show V8 t1 = V7 t1 by rw [hV8]; exact rg_up_ne ((hD 8 (by decide)).1)).trans e7_t1
  have e8_b1 : V8 b1 = D1 := (show V8 b1 = V7 b1 by rw [hV8]; exact rg_up_ne ((hD 8 (by decide)).2.1)).trans e7_b1
  have e8_t2 : V8 t2 = N2 := (show V8 t2 = V7 t2 by rw [hV8]; exact rg_up_ne ((hD 8 (by decide)).2.2.1)).trans e7_t2
  have e8_b2 : V8 b2 = D2 := (show V8 b2 = V7 b2 by rw [hV8]; exact rg_up_ne ((hD 8 (by decide)).2.2.2)).trans e7_b2
  have e8_c0 : V8 (c 0) = e := (show V8 (c 0) = V7 (c 0) by rw [hV8]; exact rg_up_ne (hne 0 8 (by decide) (by decide) (by decide))).trans e7_c0
  have e8_c6 : V8 (c 6) = l := (show V8 (c 6) = V7 (c 6) by rw [hV8]; exact rg_up_ne (hne 6 8 (by decide) (by decide) (by decide))).trans e7_c6
  have e8_c7 : V8 (c 7) = r := (show V8 (c 7) = V7 (c 7) by rw [hV8]; exact rg_up_ne (hne 7 8 (by decide) (by decide) (by decide))).trans e7_c7
  have e8_c10 : V8 (c 10) = f := (show V8 (c 10) = V7 (c 10) by rw [hV8]; exact rg_up_ne (hne 10 8 (by decide) (by decide) (by decide))).trans e7_c10
  have e8_c5 : V8 (c 5) = g * e := (show V8 (c 5) = V7 (c 5) by rw [hV8]; exact rg_up_ne (hne 5 8 (by decide) (by decide) (by decide))).trans e7_c5
  have e8_c8 : V8 (c 8) = N2 * f := by rw [hV8]; exact rg_up_eq.trans (by rw [e7_t2, e7_c10])
  have l8 : cL (N2 * f) (k + 2) := l3.mul lf
  obtain ⟨M9, r9, P9⟩ := cw_product P8.1 P8.2.2 (Rk8.2.2.1 9 (by decide)).2 (ka := (k + 2)) (kb := k) (Rk8.2.2.1 8 (by decide)).2 (Rk8.2.2.1 6 (by decide)).2 (hne 8 9 (by decide) (by decide) (by decide)) (hne 6 9 (by decide) (by decide) (by decide)) (by rw [e8_c8]; exact l8) (by rw [e8_c6]; exact ll) kk3
  obtain ⟨V9, hV9⟩ : ∃ W, W = va_up V8 (c 9) (V8 (c 8) * V8 (c 6)) := ⟨_, rfl⟩
  rw [← hV9] at P9
  have Rk9 := Rk8.F P9.2.1
  have Xa9 := Xa8.F P9.2.1
  have Xb9 := Xb8.F P9.2.1
  have X9 := Rk9.all
  have Y9 := Xa9.all
  have Z9 := Xb9.all
  have e9_t1 : V9 t1 = N1 := (show V9 t1 = V8 t1 by rw [hV9]; exact rg_up_ne ((hD 9 (by decide)).1)).trans e8_t1
  have e9_b1 : V9 b1 = D1 := (show V9 b1 = V8 b1 by rw [hV9]; exact rg_up_ne ((hD 9 (by decide)).2.1)).trans e8_b1
  have e9_t2 : V9 t2 = N2 := (show V9 t2 = V8 t2 by rw [hV9]; exact rg_up_ne ((hD 9 (by decide)).2.2.1)).trans e8_t2
  have e9_b2 : V9 b2 = D2 := (show V9 b2 = V8 b2 by rw [hV9]; exact rg_up_ne ((hD 9 (by decide)).2.2.2)).trans e8_b2
  have e9_c0 : V9 (c 0) = e := (show V9 (c 0) = V8 (c 0) by rw [hV9]; exact rg_up_ne (hne 0 9 (by decide) (by decide) (by decide))).trans e8_c0
  have e9_c8 : V9 (c 8) = N2 * f := (show V9 (c 8) = V8 (c 8) by rw [hV9]; exact rg_up_ne (hne 8 9 (by decide) (by decide) (by decide))).trans e8_c8
  have e9_c6 : V9 (c 6) = l := (show V9 (c 6) = V8 (c 6) by rw [hV9]; exact rg_up_ne (hne 6 9 (by decide) (by decide) (by decide))).trans e8_c6
  have e9_c7 : V9 (c 7) = r := (show V9 (c 7) = V8 (c 7) by rw [hV9]; exact rg_up_ne (hne 7 9 (by decide) (by decide) (by decide))).trans e8_c7
  have e9_c10 : V9 (c 10) = f := (show V9 (c 10) = V8 (c 10) by rw [hV9]; exact rg_up_ne (hne 10 9 (by decide) (by decide) (by decide))).trans e8_c10
  have e9_c5 : V9 (c 5) = g * e := (show V9 (c 5) = V8 (c 5) by rw [hV9]; exact rg_up_ne (hne 5 9 (by decide) (by decide) (by decide))).trans e8_c5
  have e9_c9 : V9 (c 9) = (N2 * f) * l := by rw [hV9]; exact rg_up_eq.trans (by rw [e8_c8, e8_c6])
  have l9 : cL (N2 * f * l) (k + 2 + k) := l8.mul ll
  obtain ⟨M10, r10, P10⟩ := cw_product P9.1 P9.2.2 (Rk9.2.2.1 8 (by decide)).2 (ka := k) (kb := k) Y9.2.2.2.1 (Rk9.2.2.1 7 (by decide)).2 ((hD 8 (by decide)).1) (hne 7 8 (by decide) (by decide) (by decide)) (by rw [e9_t1]; exact l1) (by rw [e9_c7]; exact lr) kk1
  obtain ⟨V10, hV10⟩ : ∃ W, W = va_up V9 (c 8) (V9 t1 * V9 (c 7)) := ⟨_, rfl⟩
  rw [← hV10] at P10
  have Rk10 := Rk9.F P10.2.1
  have Xa10 := Xa9.F P10.2.1
  have Xb10 := Xb9.F P10.2.1
  have X10 := Rk10.all
  have Y10 := Xa10.all
  have Z10 := Xb10.all
  have e10_t1 : V10 t1 = N1 := (show V10 t1 = V9 t1 by rw [hV10]; exact rg_up_ne ((hD 8 (by decide)).1)).trans e9_t1
  have e10_b1 : V10 b1 = D1 := (show V10 b1 = V9 b1 by rw [hV10]; exact rg_up_ne ((hD 8 (by decide)).2.1)).trans e9_b1
  have e10_t2 : V10 t2 = N2 := (show V10 t2 = V9 t2 by rw [hV10]; exact rg_up_ne ((hD 8 (by decide)).2.2.1)).trans e9_t2
  have e10_b2 : V10 b2 = D2 := (show V10 b2 = V9 b2 by rw [hV10]; exact rg_up_ne ((hD 8 (by decide)).2.2.2)).trans e9_b2
  have e10_c0 : V10 (c 0) = e := (show V10 (c 0) = V9 (c 0) by rw [hV10]; exact rg_up_ne (hne 0 8 (by decide) (by decide) (by decide))).trans e9_c0
  have e10_c6 : V10 (c 6) = l := (show V10 (c 6) = V9 (c 6) by rw [hV10]; exact rg_up_ne (hne 6 8 (by decide) (by decide) (by decide))).trans e9_c6
  have e10_c7 : V10 (c 7) = r := (show V10 (c 7) = V9 (c 7) by rw [hV10]; exact rg_up_ne (hne 7 8 (by decide) (by decide) (by decide))).trans e9_c7
  have e10_c10 : V10 (c 10) = f := (show V10 (c 10) = V9 (c 10) by rw [hV10]; exact rg_up_ne (hne 10 8 (by decide) (by decide) (by decide))).trans e9_c10
  have e10_c5 : V10 (c 5) = g * e := (show V10 (c 5) = V9 (c 5) by rw [hV10]; exact rg_up_ne (hne 5 8 (by decide) (by decide) (by decide))).trans e9_c5
  have e10_c9 : V10 (c 9) = (N2 * f) * l := (show V10 (c 9) = V9 (c 9) by rw [hV10]; exact rg_up_ne (hne 9 8 (by decide) (by decide) (by decide))).trans e9_c9
  have e10_c8 : V10 (c 8) = N1 * r := by rw [hV10]; exact rg_up_eq.trans (by rw [e9_t1, e9_c7])
  have l10 : cL (N1 * r) (k + 2 + k) := (l1.mul lr).mono (by omega)
  obtain ⟨M11, r11, P11⟩ := cw_increase P10.1 P10.2.2 (Rk10.2.2.1 8 (by decide)).2 (k := (k + 2 + k)) (Rk10.2.2.1 9 (by decide)).2 (hne 9 8 (by decide) (by decide) (by decide)) (by rw [e10_c8]; exact l10) (by rw [e10_c9]; exact l9) kk4
  obtain ⟨V11, hV11⟩ : ∃ W, W = va_up V10 (c 8) (V10 (c 8) + V10 (c 9)) := ⟨_, rfl⟩
  rw [← hV11] at P11
  have Rk11 := Rk10.F P11.2.1
  have Xa11 := Xa10.F P11.2.1
  have Xb11 := Xb10.F P11.2.1
  have X11 := Rk11.all
  have Y11 := Xa11.all
  have Z11 := Xb11.all
  have e11_t1 : V11 t1 = N1 := (show V11 t1 = V10 t1 by rw [hV11]; exact rg_up_ne ((hD 8 (by decide)).1)).trans e10_t1
  have e11_b1 : V11 b1 = D1 := (show V11 b1 = V10 b1 by rw [hV11]; exact rg_up_ne ((hD 8 (by decide)).2.1)).trans e10_b1
  have e11_t2 : V11 t2 = N2 := (show V11 t2 = V10 t2 by rw [hV11]; exact rg_up_ne ((hD 8 (by decide)).2.2.1)).trans e10_t2
  have e11_b2 : V11 b2 = D2 := (show V11 b2 = V10 b2 by rw [hV11]; exact rg_up_ne ((hD 8 (by decide)).2.2.2)).trans e10_b2
  have e11_c0 : V11 (c 0) = e := (show V11 (c 0) = V10 (c 0) by rw [hV11]; exact rg_up_ne (hne 0 8 (by decide) (by decide) (by decide))).trans e10_c0
  have e11_c6 : V11 (c 6) = l := (show V11 (c 6) = V10 (c 6) by rw [hV11]; exact rg_up_ne (hne 6 8 (by decide) (by decide) (by decide))).trans e10_c6
  have e11_c7 : V11 (c 7) = r := (show V11 (c 7) = V10 (c 7) by rw [hV11]; exact rg_up_ne (hne 7 8 (by decide) (by decide) (by decide))).trans e10_c7
  have e11_c10 : V11 (c 10) = f := (show V11 (c 10) = V10 (c 10) by rw [hV11]; exact rg_up_ne (hne 10 8 (by decide) (by decide) (by decide))).trans e10_c10
  have e11_c5 : V11 (c 5) = g * e := (show V11 (c 5) = V10 (c 5) by rw [hV11]; exact rg_up_ne (hne 5 8 (by decide) (by decide) (by decide))).trans e10_c5
  have e11_c9 : V11 (c 9) = (N2 * f) * l := (show V11 (c 9) = V10 (c 9) by rw [hV11]; exact rg_up_ne (hne 9 8 (by decide) (by decide) (by decide))).trans e10_c9
  have e11_c8 : V11 (c 8) = N1 * r + (N2 * f) * l := by rw [hV11]; exact rg_up_eq.trans (by rw [e10_c8, e10_c9])
  obtain ⟨N, hN⟩ : ∃ N, N = N1 * r + N2 * f * l := ⟨_, rfl⟩
  have hNs : N1 * r + (N2 * f) * l = N := hN.symm
  rw [hNs] at e11_c8
  have lN_ : cL N (k + 2 + k + 1) := by rw [hN]; exact l10.add l9
  have oo : ∀ y, (∀ i, i < 11 → y ≠ c i) → V11 y = V y := fun y hy => by rw [hV11, rg_up_ne (hy 8 (by decide)), hV10, rg_up_ne (hy 8 (by decide)), hV9, rg_up_ne (hy 9 (by decide)), hV8, rg_up_ne (hy 8 (by decide)), hV7, rg_up_ne (hy 5 (by decide)), o6 y (hy 0 (by decide)) (hy 1 (by decide)) (hy 3 (by decide)) (hy 4 (by decide)), hV5, rg_up_ne (hy 10 (by decide)), o4 y (hy 7 (by decide)) (hy 1 (by decide)) (hy 2 (by decide)), o3 y (hy 6 (by decide)) (hy 1 (by decide)) (hy 2 (by decide)), hV2, rg_up_ne (hy 8 (by decide)), o1 y (hy 0 (by decide)) (hy 1 (by decide)) (hy 3 (by decide)) (hy 4 (by decide)), hV0]
  have F11 : cF M M11 := (P1.2.1.tr (P2.2.1.tr (P3.2.1.tr (P4.2.1.tr (P5.2.1.tr (P6.2.1.tr (P7.2.1.tr (P8.2.1.tr (P9.2.1.tr (P10.2.1.tr P11.2.1))))))))))
  obtain ⟨ro, no, hO⟩ := P11.2.2 (c 8) X11.2.2.2.2.2.2.2.2.2.2.2.2.2.2.2.2.2.2.2.2.1
  rw [e11_c8] at hO
  have hno := hO.len (lN_.mono kk4)
  have ino : rg_I M11 81 (c 8) = nI no := hO.2.2.2.2.1
  rw [← hN1, ← hN2, ← hD1, ← hD2]
  by_cases hN0 : N = 0
  · have hn0 : no = 0 := hO.zero.mp hN0
    obtain ⟨M12, r12, P12⟩ := cw_become P11.1 P11.2.2 Y11.2.2.2.1 0
    have Rk12 := Rk11.F P12.2.1
    have Xa12 := Xa11.F P12.2.1
    have Y12 := Xa12.all
    obtain ⟨M13, r13, P13⟩ := cw_become P12.1 P12.2.2 Y12.2.2.2.2 1
    have hz0 : rg_I M11 81 (c 8) = 0 := by rw [ino, hn0]; rfl
    have hbec : rF_become to 0 1 M11 = some M13 := by
      rw [rF_become_u, rF_become_e]
      have s0 : (0 : Int32).toInt64 = (0 : Int64) := rfl
      have s1 : (1 : Int32).toInt64 = (1 : Int64) := rfl
      simp only [Y11, Y12, if_true, Option.bind_some, s0, s1, r12, r13]
      rfl
    refine ⟨g, l, r, e, N, _, M13, ?_, ⟨P13.1, F11.tr (P12.2.1.tr P13.2.1), P13.2.2⟩, hg, el, er, he, hN, fun _ => ⟨?_, ?_⟩, fun h => absurd hN0 h, fun y hy h1 h2 => ?_⟩
    · rw [rK_addTimes_u, rK_addTimes_e, if_neg hx0]
      simp only [X0, Y0, Z0, X1, Y1, Z1, X2, Y2, Z2, X3, Y3, Z3, X4, Y4, Z4, X5, Y5, Z5, X6, Y6, Z6, X7, Y7, Z7, X8, Y8, Z8, X9, Y9, Z9, X10, Y10, Z10, X11, Y11, Z11, if_true, Option.bind_some, it2, if_false, r1, r2, r3, r4, r5, r6, r7, r8, r9, r10, r11, hz0, hbec]
      rfl
    · rw [rg_up_ne p1, rg_up_eq]; rfl
    · rw [rg_up_eq]; rfl
    · rw [rg_up_ne h2, rg_up_ne h1, oo y hy]
  · have hn0 : ¬ rg_I M11 81 (c 8) = 0 := by
      rw [ino]
      refine nI_ne0 ?_ (by omega)
      rcases Nat.eq_zero_or_pos no with e | e
      · exact absurd (hO.zero.mpr e) hN0
      · exact e
    obtain ⟨V12, M12, r12, P12, w12, o12⟩ := cw_findCommon P11.1 P11.2.2 Rk11 (Rk11.2.2.1 8 (by decide)).2 (Rk11.2.2.1 5 (by decide)).2 (hne 8 3 (by decide) (by decide) (by decide)) (hne 8 4 (by decide) (by decide) (by decide)) (hne 5 3 (by decide) (by decide) (by decide)) (hne 5 4 (by decide) (by decide) (by decide)) (by rw [e11_c8, e11_c5]; exact Or.inl hN0) (by rw [e11_c8]; exact (lN_.mono kk4)) (by rw [e11_c5]; exact (lge.mono kk1))
    rw [e11_c8, e11_c5] at w12
    obtain ⟨h, hh⟩ : ∃ x : Int, x = (Int.gcd N (g * e) : Int) := ⟨_, rfl⟩
    have Rk12 := Rk11.F P12.2.1
    have Xa12 := Xa11.F P12.2.1
    have Xb12 := Xb11.F P12.2.1
    have X12 := Rk12.all
    have Y12 := Xa12.all
    have Z12 := Xb12.all
    have e12_t1 : V12 t1 = N1 := (o12 t1 ((hD 0 (by decide)).1) ((hD 1 (by decide)).1) ((hD 3 (by decide)).1) ((hD 4 (by decide)).1)).trans e11_t1
    have e12_b1 : V12 b1 = D1 := (o12 b1 ((hD 0 (by decide)).2.1) ((hD 1 (by decide)).2.1) ((hD 3 (by decide)).2.1) ((hD 4 (by decide)).2.1)).trans e11_b1
    have e12_t2 : V12 t2 = N2 := (o12 t2 ((hD 0 (by decide)).2.2.1) ((hD 1 (by decide)).2.2.1) ((hD 3 (by decide)).2.2.1) ((hD 4 (by decide)).2.2.1)).trans e11_t2
    have e12_b2 : V12 b2 = D2 := (o12 b2 ((hD 0 (by decide)).2.2.2) ((hD 1 (by decide)).2.2.2) ((hD 3 (by decide)).2.2.2) ((hD 4 (by decide)).2.2.2)).trans e11_b2
    have e12_c5 : V12 (c 5) = g * e := (o12 (c 5) (hne 5 0 (by decide) (by decide) (by decide)) (hne 5 1 (by decide) (by decide) (by decide)) (hne 5 3 (by decide) (by decide) (by decide)) (hne 5 4 (by decide) (by decide) (by decide))).trans e11_c5
    have e12_c6 : V12 (c 6) = l := (o12 (c 6) (hne 6 0 (by decide) (by decide) (by decide)) (hne 6 1 (by decide) (by decide) (by decide)) (hne 6 3 (by decide) (by decide) (by decide)) (hne 6 4 (by decide) (by decide) (by decide))).trans e11_c6
    have e12_c7 : V12 (c 7) = r := (o12 (c 7) (hne 7 0 (by decide) (by decide) (by decide)) (hne 7 1 (by decide) (by decide) (by decide)) (hne 7 3 (by decide) (by decide) (by decide)) (hne 7 4 (by decide) (by decide) (by decide))).trans e11_c7
    have e12_c8 : V12 (c 8) = N := (o12 (c 8) (hne 8 0 (by decide) (by decide) (by decide)) (hne 8 1 (by decide) (by decide) (by decide)) (hne 8 3 (by decide) (by decide) (by decide)) (hne 8 4 (by decide) (by decide) (by decide))).trans e11_c8
    have e12_c0 : V12 (c 0) = h := by rw [w12, hh]; rfl
    have hp : 0 < h := by rw [hh]; have := Int.gcd_pos_of_ne_zero_left (g * e) hN0; omega
    have ha : h ∣ N := by rw [hh]; exact Int.gcd_dvd_left _ _
    have hb : h ∣ D2 := by rw [hh, er]; exact Int.dvd_trans (Int.gcd_dvd_right _ _) (Int.mul_dvd_mul_left _ ea)
    obtain ⟨V13, M13, r13, P13, w13, o13⟩ := cw_divideOut P12.1 P12.2.2 Rk12 (Rk12.2.2.1 8 (by decide)).2 (Rk12.2.2.1 0 (by decide)).2 Y12.2.2.2.1 ((hD 8 (by decide)).1) ((hD 0 (by decide)).1) (hne 8 1 (by decide) (by decide) (by decide)) (hne 8 2 (by decide) (by decide) (by decide)) (hne 0 1 (by decide) (by decide) (by decide)) (hne 0 2 (by decide) (by decide) (by decide)) ((hD 1 (by decide)).1) ((hD 2 (by decide)).1) (by rw [e12_c0]; exact hp) (by rw [e12_c0, e12_c8]; exact ha) (by rw [e12_c8]; exact (lN_.mono kk4))
    rw [e12_c8, e12_c0] at w13
    have Rk13 := Rk12.F P13.2.1
    have Xa13 := Xa12.F P13.2.1
    have Xb13 := Xb12.F P13.2.1
    have X13 := Rk13.all
    have Y13 := Xa13.all
    have Z13 := Xb13.all
    have e13_b1 : V13 b1 = D1 := (o13 b1 (Ne.symm p1) ((hD 1 (by decide)).2.1) ((hD 2 (by decide)).2.1)).trans e12_b1
    have e13_t2 : V13 t2 = N2 := (o13 t2 (Ne.symm p3) ((hD 1 (by decide)).2.2.1) ((hD 2 (by decide)).2.2.1)).trans e12_t2
    have e13_b2 : V13 b2 = D2 := (o13 b2 (Ne.symm p4) ((hD 1 (by decide)).2.2.2) ((hD 2 (by decide)).2.2.2)).trans e12_b2
    have e13_c5 : V13 (c 5) = g * e := (o13 (c 5) (Ne.symm ((hD 5 (by decide)).1)) (hne 5 1 (by decide) (by decide) (by decide)) (hne 5 2 (by decide) (by decide) (by decide))).trans e12_c5
    have e13_c6 : V13 (c 6) = l := (o13 (c 6) (Ne.symm ((hD 6 (by decide)).1)) (hne 6 1 (by decide) (by decide) (by decide)) (hne 6 2 (by decide) (by decide) (by decide))).trans e12_c6
    have e13_c7 : V13 (c 7) = r := (o13 (c 7) (Ne.symm ((hD 7 (by decide)).1)) (hne 7 1 (by decide) (by decide) (by decide)) (hne 7 2 (by decide) (by decide) (by decide))).trans e12_c7
    have e13_c8 : V13 (c 8) = N := (o13 (c 8) (Ne.symm ((hD 8 (by decide)).1)) (hne 8 1 (by decide) (by decide) (by decide)) (hne 8 2 (by decide) (by decide) (by decide))).trans e12_c8
    have e13_c0 : V13 (c 0) = h := (o13 (c 0) (Ne.symm ((hD 0 (by decide)).1)) (hne 0 1 (by decide) (by decide) (by decide)) (hne 0 2 (by decide) (by decide) (by decide))).trans e12_c0
    have e13_t1 : V13 t1 = N / h := w13.trans rfl
    have lh : cL (D2 / h) k := cL_dvd (Int.ediv_dvd_of_dvd hb) nD2 l4
    obtain ⟨V14, M14, r14, P14, w14, o14⟩ := cw_divideOut P13.1 P13.2.2 Rk13 Z13.2.2.2.2 (Rk13.2.2.1 0 (by decide)).2 (Rk13.2.2.1 7 (by decide)).2 (Ne.symm ((hD 7 (by decide)).2.2.2)) (hne 7 0 (by decide) (by decide) (by decide)) ((hD 1 (by decide)).2.2.2) ((hD 2 (by decide)).2.2.2) (hne 0 1 (by decide) (by decide) (by decide)) (hne 0 2 (by decide) (by decide) (by decide)) (hne 7 1 (by decide) (by decide) (by decide)) (hne 7 2 (by decide) (by decide) (by decide)) (by rw [e13_c0]; exact hp) (by rw [e13_c0, e13_b2]; exact hb) (by rw [e13_b2]; exact (l4.mono k866))
    rw [e13_b2, e13_c0] at w14
    have Rk14 := Rk13.F P14.2.1
    have Xa14 := Xa13.F P14.2.1
    have Xb14 := Xb13.F P14.2.1
    have X14 := Rk14.all
    have Y14 := Xa14.all
    have Z14 := Xb14.all
    have e14_t1 : V14 t1 = N / h := (o14 t1 ((hD 7 (by decide)).1) ((hD 1 (by decide)).1) ((hD 2 (by decide)).1)).trans e13_t1
    have e14_b1 : V14 b1 = D1 := (o14 b1 ((hD 7 (by decide)).2.1) ((hD 1 (by decide)).2.1) ((hD 2 (by decide)).2.1)).trans e13_b1
    have e14_t2 : V14 t2 = N2 := (o14 t2 ((hD 7 (by decide)).2.2.1) ((hD 1 (by decide)).2.2.1) ((hD 2 (by decide)).2.2.1)).trans e13_t2
    have e14_b2 : V14 b2 = D2 := (o14 b2 ((hD 7 (by decide)).2.2.2) ((hD 1 (by decide)).2.2.2) ((hD 2 (by decide)).2.2.2)).trans e13_b2
    have e14_c5 : V14 (c 5) = g * e := (o14 (c 5) (hne 5 7 (by decide) (by decide) (by decide)) (hne 5 1 (by decide) (by decide) (by decide)) (hne 5 2 (by decide) (by decide) (by decide))).trans e13_c5
    have e14_c6 : V14 (c 6) = l := (o14 (c 6) (hne 6 7 (by decide) (by decide) (by decide)) (hne 6 1 (by decide) (by decide) (by decide)) (hne 6 2 (by decide) (by decide) (by decide))).trans e13_c6
    have e14_c8 : V14 (c 8) = N := (o14 (c 8) (hne 8 7 (by decide) (by decide) (by decide)) (hne 8 1 (by decide) (by decide) (by decide)) (hne 8 2 (by decide) (by decide) (by decide))).trans e13_c8
    have e14_c0 : V14 (c 0) = h := (o14 (c 0) (hne 0 7 (by decide) (by decide) (by decide)) (hne 0 1 (by decide) (by decide) (by decide)) (hne 0 2 (by decide) (by decide) (by decide))).trans e13_c0
    have e14_c7 : V14 (c 7) = D2 / h := w14.trans rfl
    obtain ⟨M15, r15, P15⟩ := cw_product P14.1 P14.2.2 Y14.2.2.2.2 (ka := k) (kb := k) (Rk14.2.2.1 6 (by decide)).2 (Rk14.2.2.1 7 (by decide)).2 (Ne.symm ((hD 6 (by decide)).2.1)) (Ne.symm ((hD 7 (by decide)).2.1)) (by rw [e14_c6]; exact ll) (by rw [e14_c7]; exact lh) kk1
    obtain ⟨V15, hV15⟩ : ∃ W, W = va_up V14 b1 (V14 (c 6) * V14 (c 7)) := ⟨_, rfl⟩
    rw [← hV15] at P15
    have Rk15 := Rk14.F P15.2.1
    have Xa15 := Xa14.F P15.2.1
    have Xb15 := Xb14.F P15.2.1
    have X15 := Rk15.all
    have Y15 := Xa15.all
    have Z15 := Xb15.all
    have e15_t1 : V15 t1 = N / h := (show V15 t1 = V14 t1 by rw [hV15]; exact rg_up_ne p1).trans e14_t1
    have e15_t2 : V15 t2 = N2 := (show V15 t2 = V14 t2 by rw [hV15]; exact rg_up_ne (Ne.symm p5)).trans e14_t2
    have e15_b2 : V15 b2 = D2 := (show V15 b2 = V14 b2 by rw [hV15]; exact rg_up_ne (Ne.symm p6)).trans e14_b2
    have e15_c5 : V15 (c 5) = g * e := (show V15 (c 5) = V14 (c 5) by rw [hV15]; exact rg_up_ne (Ne.symm ((hD 5 (by decide)).2.1))).trans e14_c5
    have e15_c6 : V15 (c 6) = l := (show V15 (c 6) = V14 (c 6) by rw [hV15]; exact rg_up_ne (Ne.symm ((hD 6 (by decide)).2.1))).trans e14_c6
    have e15_c7 : V15 (c 7) = D2 / h := (show V15 (c 7) = V14 (c 7) by rw [hV15]; exact rg_up_ne (Ne.symm ((hD 7 (by decide)).2.1))).trans e14_c7
    have e15_c8 : V15 (c 8) = N := (show V15 (c 8) = V14 (c 8) by rw [hV15]; exact rg_up_ne (Ne.symm ((hD 8 (by decide)).2.1))).trans e14_c8
    have e15_c0 : V15 (c 0) = h := (show V15 (c 0) = V14 (c 0) by rw [hV15]; exact rg_up_ne (Ne.symm ((hD 0 (by decide)).2.1))).trans e14_c0
    have e15_b1 : V15 b1 = l * (D2 / h) := by rw [hV15]; exact rg_up_eq.trans (by rw [e14_c6, e14_c7])
    refine ⟨g, l, r, e, N, V15, M15, ?_, ⟨P15.1, F11.tr (P12.2.1.tr (P13.2.1.tr (P14.2.1.tr P15.2.1))), P15.2.2⟩, hg, el, er, he, hN, fun h0 => absurd h0 hN0, fun _ => ⟨?_, ?_⟩, fun y hy h1 h2 => ?_⟩
    · rw [rK_addTimes_u, rK_addTimes_e, if_neg hx0]
      simp only [X0, Y0, Z0, X1, Y1, Z1, X2, Y2, Z2, X3, Y3, Z3, X4, Y4, Z4, X5, Y5, Z5, X6, Y6, Z6, X7, Y7, Z7, X8, Y8, Z8, X9, Y9, Z9, X10, Y10, Z10, X11, Y11, Z11, X12, Y12, Z12, X13, Y13, Z13, X14, Y14, Z14, X15, Y15, Z15, if_true, Option.bind_some, it2, hn0, if_false, r1, r2, r3, r4, r5, r6, r7, r8, r9, r10, r11, r12, r13, r14, r15]
      rfl
    · rw [e15_t1, hh]
    · rw [e15_b1, hh]
    · rw [hV15, rg_up_ne h2, o14 y (hy 7 (by decide)) (hy 1 (by decide)) (hy 2 (by decide)), o13 y h1 (hy 1 (by decide)) (hy 2 (by decide)), o12 y (hy 0 (by decide)) (hy 1 (by decide)) (hy 3 (by decide)) (hy 4 (by decide)), oo y hy]
end

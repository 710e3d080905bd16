/-! isSquareWithin and cutTimes -/
section
variable {u z rk jf : Nat} {c : Nat → Nat} {M : rg_M} {q : Nat → Rat} {V : Nat → Int}
theorem cL_long (x : Int64) : cL x.toInt 3 := by
  have := fb_rngL x
  unfold cL
  show _ < 9903520314283042199192993792
  omega
theorem cS_isSquareWithin (hS : cS u z rk c jf M q) {f k : Nat} (hf : rg_K M f = 2) (hk : k ≤ 425) (l1 : qL (q f) k) (a b : Int64) : ∃ M', rK_isSquareWithin rk f a b M = some (if ((q f).num * (q f).num * a.toInt).natAbs ≤ (((q f).den : Int) * ((q f).den : Int) * b.toInt).natAbs then 1 else 0, M') ∧ cS u z rk c jf M' q ∧ cG M M' := by
  obtain ⟨hH, hR, hFr, V, hV, hQ⟩ := hS
  obtain ⟨t, bo, X, p1, D⟩ := hFr.get hf
  obtain ⟨v1, v2⟩ := hQ f t bo hf X.2.2.1 X.2.2.2.1
  have hne : ∀ i j, i < 11 → j < 11 → i ≠ j → c i ≠ c j := fun i j hi hj h e => h (hR.2.2.2.1 i j hi hj e)
  have kk : k + k ≤ 866 := by omega
  have kk3 : k + k + 3 ≤ 866 := by omega
  obtain ⟨M1, r1, P1⟩ := cw_product hH hV (w := c 8) (a := t) (b := t) (ka := k) (kb := k) (hR.2.2.1 8 (by decide)).2 X.2.2.2.2.1 X.2.2.2.2.1 (D 8 (by decide)).1 (D 8 (by decide)).1 (by rw [v1]; exact l1.1) (by rw [v1]; exact l1.1) kk
  have R1 := hR.F P1.2.1
  have X1 := X.F P1.2.1
  obtain ⟨M2, r2, P2⟩ := cw_become P1.1 P1.2.2 (w := c 10) (R1.2.2.1 10 (by decide)).2 a
  have R2 := R1.F P2.2.1
  have X2 := X1.F P2.2.1
  obtain ⟨V2, hV2⟩ : ∃ W, W = va_up (va_up V (c 8) (V t * V t)) (c 10) a.toInt := ⟨_, rfl⟩
  rw [← hV2] at P2
  have a8 : V2 (c 8) = V t * V t := by rw [hV2, rg_up_ne (hne 8 10 (by decide) (by decide) (by decide)), rg_up_eq]
  have a10 : V2 (c 10) = a.toInt := by rw [hV2, rg_up_eq]
  have abo : V2 bo = V bo := by rw [hV2, rg_up_ne (D 10 (by decide)).2, rg_up_ne (D 8 (by decide)).2]
  have lt2 : cL (V t * V t) (k + k) := by rw [v1]; exact l1.1.mul l1.1
  have lb2 : cL (V bo * V bo) (k + k) := by rw [v2]; exact l1.2.mul l1.2
  obtain ⟨M3, r3, P3⟩ := cw_product P2.1 P2.2.2 (w := c 6) (a := c 8) (b := c 10) (ka := k + k) (kb := 3) (R2.2.2.1 6 (by decide)).2 (R2.2.2.1 8 (by decide)).2 (R2.2.2.1 10 (by decide)).2 (hne 8 6 (by decide) (by decide) (by decide)) (hne 10 6 (by decide) (by decide) (by decide)) (by rw [a8]; exact lt2) (by rw [a10]; exact cL_long a) kk3
  rw [a8, a10] at P3
  have R3 := R2.F P3.2.1
  have X3 := X2.F P3.2.1
  obtain ⟨V3, hV3⟩ : ∃ W, W = va_up V2 (c 6) (V t * V t * a.toInt) := ⟨_, rfl⟩
  rw [← hV3] at P3
  have b6 : V3 (c 6) = V t * V t * a.toInt := by rw [hV3, rg_up_eq]
  have bbo : V3 bo = V bo := by rw [hV3, rg_up_ne (D 6 (by decide)).2, abo]
  obtain ⟨M4, r4, P4⟩ := cw_product P3.1 P3.2.2 (w := c 9) (a := bo) (b := bo) (ka := k) (kb := k) (R3.2.2.1 9 (by decide)).2 X3.2.2.2.2.2 X3.2.2.2.2.2 (D 9 (by decide)).2 (D 9 (by decide)).2 (by rw [bbo, v2]; exact l1.2) (by rw [bbo, v2]; exact l1.2) kk
  rw [bbo] at P4
  have R4 := R3.F P4.2.1
  obtain ⟨M5, r5, P5⟩ := cw_become P4.1 P4.2.2 (w := c 10) (R4.2.2.1 10 (by decide)).2 b
  have R5 := R4.F P5.2.1
  obtain ⟨V5, hV5⟩ : ∃ W, W = va_up (va_up V3 (c 9) (V bo * V bo)) (c 10) b.toInt := ⟨_, rfl⟩
  rw [← hV5] at P5
  have d6 : V5 (c 6) = V t * V t * a.toInt := by rw [hV5, rg_up_ne (hne 6 10 (by decide) (by decide) (by decide)), rg_up_ne (hne 6 9 (by decide) (by decide) (by decide)), b6]
  have d9 : V5 (c 9) = V bo * V bo := by rw [hV5, rg_up_ne (hne 9 10 (by decide) (by decide) (by decide)), rg_up_eq]
  have d10 : V5 (c 10) = b.toInt := by rw [hV5, rg_up_eq]
  obtain ⟨M6, r6, P6⟩ := cw_product P5.1 P5.2.2 (w := c 7) (a := c 9) (b := c 10) (ka := k + k) (kb := 3) (R5.2.2.1 7 (by decide)).2 (R5.2.2.1 9 (by decide)).2 (R5.2.2.1 10 (by decide)).2 (hne 9 7 (by decide) (by decide) (by decide)) (hne 10 7 (by decide) (by decide) (by decide)) (by rw [d9]; exact lb2) (by rw [d10]; exact cL_long b) kk3
  rw [d9, d10] at P6
  have R6 := R5.F P6.2.1
  obtain ⟨x6, n6, hW6⟩ := P6.2.2 (c 6) (R6.2.2.1 6 (by decide)).2
  obtain ⟨x7, n7, hW7⟩ := P6.2.2 (c 7) (R6.2.2.1 7 (by decide)).2
  rw [rg_up_ne (hne 6 7 (by decide) (by decide) (by decide)), d6] at hW6
  rw [rg_up_eq] at hW7
  have q6 := (P6.1.L hW6.1 hW6.2.1).2.2.2
  have q6' := hW6.2.2.2.1
  have q7 := (P6.1.L hW7.1 hW7.2.1).2.2.2
  have q7' := hW7.2.2.2.1
  have hc := cw_compare hW6 hW7 (by omega) (by omega)
  have hF : cF M M6 := P1.2.1.tr (P2.2.1.tr (P3.2.1.tr (P4.2.1.tr (P5.2.1.tr P6.2.1))))
  have hS6 := cS_keep (u := u) (z := z) (V' := va_up V5 (c 7) (V bo * V bo * b.toInt)) hR hFr hQ ⟨P6.1, hF, P6.2.2⟩ (fun y hy => by rw [rg_up_ne (hy 7 (by decide)), hV5, rg_up_ne (hy 10 (by decide)), rg_up_ne (hy 9 (by decide)), hV3, rg_up_ne (hy 6 (by decide)), hV2, rg_up_ne (hy 10 (by decide)), rg_up_ne (hy 8 (by decide))])
  refine ⟨M6, ?_, hS6⟩
  rw [rK_isSquareWithin_u, rK_isSquareWithin_e]
  have A0 := hR.all
  have A1 := R1.all
  have A2 := R2.all
  have A3 := R3.all
  have A4 := R4.all
  have A5 := R5.all
  have A6 := R6.all
  have B0 := X.all
  have B3 := X3.all
  simp only [A0, A1, A2, A3, A4, A5, A6, B0, B3, if_true, Option.bind_some, r1, r2, r3, r4, r5, r6, hc]
  rw [← v1, ← v2]
  by_cases h1 : (V t * V t * a.toInt).natAbs < (V bo * V bo * b.toInt).natAbs
  · rw [if_pos h1, if_neg (by decide), rK_isSquareWithin_96_e, if_pos (Or.inr rfl), if_pos (Nat.le_of_lt h1)]; rfl
  · by_cases h2 : (V t * V t * a.toInt).natAbs = (V bo * V bo * b.toInt).natAbs
    · rw [if_neg h1, if_pos h2, if_neg (by decide), rK_isSquareWithin_96_e, if_pos (Or.inr rfl), if_pos (Nat.le_of_eq h2)]; rfl
    · rw [if_neg h1, if_neg h2, if_pos (by decide), rK_isSquareWithin_96_e, if_pos (Or.inl rfl), if_neg (by omega)]; rfl
theorem cw_lowest2 {w b n : Nat} {v : Int} (hW : cwW M w b n v) (hn : n < 2 ^ 31) : rW_lowest w M = some (lN (v.natAbs % 4611686018427387904), M) := by
  by_cases h2 : n ≤ 2
  · have := cL2 ((cwW_cl hW).mono h2)
    rw [cw_lowest hW h2, Nat.mod_eq_of_lt this]
  · obtain ⟨c1, c2, c3, c4, c5, c6, c7, c8, c9⟩ := hW
    have u0 : rm_u (rg_A M b 0) < 2147483648 := c7 0 (by omega)
    have u1 : rm_u (rg_A M b 1) < 2147483648 := c7 1 (by omega)
    have l0 : (0 : Int32).toNatClampNeg < rg_L M b := by show 0 < _; omega
    have l1 : (1 : Int32).toNatClampNeg < rg_L M b := by show 1 < _; omega
    have y0 : (0 : Int32) ≤ 0 := by decide
    have y1 : (0 : Int32) ≤ 1 := by decide
    have e0 : (rg_A M b (0 : Int32).toNatClampNeg).toInt64 = lN (rm_u (rg_A M b 0)) := lN_u u0
    have e1 : (rg_A M b (1 : Int32).toNatClampNeg).toInt64 = lN (rm_u (rg_A M b 1)) := lN_u u1
    have p0 : ¬ nI n ≤ 0 := nI_nle (by omega) hn
    have p1 : ¬ nI n ≤ (1 : Int32) := by rw [show (1 : Int32) = nI 1 from rfl, nI_leI hn (by decide)]; omega
    have sh : lN (rm_u (rg_A M b 1)) <<< ((31 : Int32).toInt64 &&& 63) = lN (rm_u (rg_A M b 1) * 2 ^ 31) := wb_shl _ (k := 31) (by decide)
    have hm : v.natAbs % 4611686018427387904 = rm_u (rg_A M b 1) * 2147483648 + rm_u (rg_A M b 0) := by
      rw [c9]
      unfold cV
      obtain ⟨d, hd⟩ : ∃ d, n = 2 + d := ⟨n - 2, by omega⟩
      rw [hd, ds_app, show wB ^ 2 = 4611686018427387904 by decide, Nat.add_mul_mod_self_left]
      have e : ds wB (fun j => rm_u (rg_A M b j)) 2 = rm_u (rg_A M b 0) + rm_u (rg_A M b 1) * 2147483648 := cV_2 (rg_A M b)
      rw [e, Nat.mod_eq_of_lt (by omega)]
      omega
    rw [rW_lowest_u, rW_lowest_e, if_pos c1, c5, if_neg p0, if_pos c1, c2]
    simp only [Option.bind_some, c3, y0, l0, and_self, if_true, e0]
    rw [rW_lowest_18_e, if_pos c1, c5, if_neg p1, if_pos c1, c2]
    simp only [Option.bind_some, c3, y1, l1, and_self, if_true, e1]
    rw [rW_lowest_38_e, sh, wb_or (by omega) (by omega), wb_or31 u0, hm]
    rfl
/-- times: cut towards 0 -/
def qCut (x : Rat) (f : Int) : Int64 := if (x.num * f).natAbs / x.den < 9223372036854775808 then iL (sgm x.num ((x.num * f).natAbs / x.den)) else -9223372036854775808
theorem cS_cutTimes (hS : cS u z rk c jf M q) {f k : Nat} (hf : rg_K M f = 2) (hk : k ≤ 425) (l1 : qL (q f) k) (x : Int32) : ∃ M', rK_cutTimes rk f x M = some (qCut (q f) x.toInt, M') ∧ cS u z rk c jf M' q ∧ cG M M' := by
  obtain ⟨hH, hR, hFr, V, hV, hQ⟩ := hS
  obtain ⟨t, bo, X, p1, D⟩ := hFr.get hf
  obtain ⟨v1, v2⟩ := hQ f t bo hf X.2.2.1 X.2.2.2.1
  have hne : ∀ i j, i < 11 → j < 11 → i ≠ j → c i ≠ c j := fun i j hi hj h e => h (hR.2.2.2.1 i j hi hj e)
  have hx : x.toInt64.toInt = x.toInt := Int32.toInt_toInt64 x
  obtain ⟨M1, r1, P1⟩ := cw_become hH hV (w := c 10) (hR.2.2.1 10 (by decide)).2 x.toInt64
  rw [hx] at P1
  have R1 := hR.F P1.2.1
  have X1 := X.F P1.2.1
  obtain ⟨V1, hV1⟩ : ∃ W, W = va_up V (c 10) x.toInt := ⟨_, rfl⟩
  rw [← hV1] at P1
  have a10 : V1 (c 10) = x.toInt := by rw [hV1, rg_up_eq]
  have at_ : V1 t = V t := by rw [hV1, rg_up_ne (D 10 (by decide)).1]
  have abo : V1 bo = V bo := by rw [hV1, rg_up_ne (D 10 (by decide)).2]
  obtain ⟨M2, r2, P2⟩ := cw_product P1.1 P1.2.2 (w := c 2) (a := t) (b := c 10) (ka := k) (kb := 3) (R1.2.2.1 2 (by decide)).2 X1.2.2.2.2.1 (R1.2.2.1 10 (by decide)).2 (D 2 (by decide)).1 (hne 10 2 (by decide) (by decide) (by decide)) (by rw [at_, v1]; exact l1.1) (by rw [a10, ← hx]; exact cL_long _) (by omega)
  rw [at_, a10] at P2
  have R2 := R1.F P2.2.1
  have X2 := X1.F P2.2.1
  obtain ⟨V2, hV2⟩ : ∃ W, W = va_up V1 (c 2) (V t * x.toInt) := ⟨_, rfl⟩
  rw [← hV2] at P2
  have b2 : V2 (c 2) = V t * x.toInt := by rw [hV2, rg_up_eq]
  have bbo : V2 bo = V bo := by rw [hV2, rg_up_ne (D 2 (by decide)).2, abo]
  have bt : V2 t = V t := by rw [hV2, rg_up_ne (D 2 (by decide)).1, at_]
  have hbo : 0 < V bo := by rw [v2]; exact q_den _
  have lP : cL (V t * x.toInt) (k + 3) := by rw [v1, ← hx]; exact l1.1.mul (cL_long _)
  obtain ⟨M3, r3, P3⟩ := cw_divide P2.1 P2.2.2 (rk := rk) (qo := c 1) (w := c 2) (x := bo) R2.2.1 R2.1 (R2.2.2.1 1 (by decide)).1 (R2.2.2.1 1 (by decide)).2 (R2.2.2.1 2 (by decide)).2 X2.2.2.2.2.2 (Ne.symm (D 2 (by decide)).2) (hne 2 1 (by decide) (by decide) (by decide)) (D 1 (by decide)).2 (by rw [bbo]; omega) (by rw [b2]; exact lP.mono (by omega))
  rw [b2, bbo] at P3
  have R3 := R2.F P3.2.1
  have X3 := X2.F P3.2.1
  obtain ⟨m, hm⟩ : ∃ m, m = (V t * x.toInt).natAbs / (V bo).natAbs := ⟨_, rfl⟩
  rw [← hm] at P3
  obtain ⟨V3, hV3⟩ : ∃ W, W = va_up (va_up V2 (c 1) (m : Int)) (c 2) (sgm (V t * x.toInt) ((V t * x.toInt).natAbs % (V bo).natAbs)) := ⟨_, rfl⟩
  rw [← hV3] at P3
  have d1 : V3 (c 1) = (m : Int) := by rw [hV3, rg_up_ne (hne 1 2 (by decide) (by decide) (by decide)), rg_up_eq]
  have dt : V3 t = V t := by rw [hV3, rg_up_ne (D 2 (by decide)).1, rg_up_ne (D 1 (by decide)).1, bt]
  have k1 := (R3.2.2.1 1 (by decide)).2
  obtain ⟨x1, n1, hW1⟩ := P3.2.2 (c 1) k1
  rw [d1] at hW1
  have q1 := (P3.1.L hW1.1 hW1.2.1).2.2.2
  have q1' := hW1.2.2.2.1
  obtain ⟨xt, nt, hWt⟩ := P3.2.2 t X3.2.2.2.2.1
  rw [dt] at hWt
  have hbits := cw_bits hW1 (by omega)
  have hlow := cw_lowest2 hW1 (by omega)
  have hmn : ((m : Int)).natAbs = m := rfl
  rw [hmn] at hbits hlow
  have hF : cF M M3 := P1.2.1.tr (P2.2.1.tr P3.2.1)
  have hS3 := cS_keep (u := u) (z := z) (V' := V3) hR hFr hQ ⟨P3.1, hF, P3.2.2⟩ (fun y hy => by rw [hV3, rg_up_ne (hy 2 (by decide)), rg_up_ne (hy 1 (by decide)), hV2, rg_up_ne (hy 2 (by decide)), hV1, rg_up_ne (hy 10 (by decide))])
  have hbc : rm_bits m ≤ 40300 := by have := rm_bits_cap (cwW_cl hW1) (by omega); rw [hmn] at this; exact this
  have hmq : (V t * x.toInt).natAbs / (V bo).natAbs = ((q f).num * x.toInt).natAbs / (q f).den := by rw [v1, v2]; rfl
  have hcut : qCut (q f) x.toInt = if m < 9223372036854775808 then iL (sgm (V t) m) else -9223372036854775808 := by
    unfold qCut; rw [← hmq, ← hm, ← v1]
  refine ⟨M3, ?_, hS3⟩
  rw [rK_cutTimes_u, rK_cutTimes_e]
  have A0 := hR.all
  have A1 := R1.all
  have A2 := R2.all
  have A3 := R3.all
  have B1 := X1.all
  have B2 := X2.all
  have B3 := X3.all
  simp only [A0, A1, A2, A3, B1, B2, if_true, Option.bind_some, r1, r2, r3, hbits]
  rw [hcut]
  by_cases hl : m < 9223372036854775808
  · have hb63 : rm_bits m ≤ 63 := rm_bits_mono (k := 63) hl
    rw [if_pos (by rw [show (63 : Int32) = nI 63 from rfl, nI_leI (by omega) (by omega)]; exact hb63), if_pos hl]
    have i1 : rg_I M3 81 (c 1) = nI n1 := hW1.2.2.2.2.1
    have c77 : ∀ h : Nat, h ≤ 1 → h * 4611686018427387904 + m % 4611686018427387904 = m → rg_ul (rK_cutTimes_77 rk f (lN h) M3) = some (iL (sgm (V t) m), M3) := by
      intro h hh hsum
      rw [rK_cutTimes_77_e]
      simp only [A3, B3, if_true, Option.bind_some, hlow]
      have sh : lN h <<< ((62 : Int32).toInt64 &&& 63) = lN (h * 2 ^ 62) := wb_shl h (k := 62) (by decide)
      have hor : lN h <<< ((62 : Int32).toInt64 &&& 63) ||| lN (m % 4611686018427387904) = lN m := by
        rw [sh, wb_or (by omega) (by omega), wb_orS (k := 62) (by show m % 4611686018427387904 < 4611686018427387904; omega)]
        congr 1
      rw [hor]
      have ft := hWt.2.2.2.2.2.1
      by_cases h0 : V t = 0
      · have hm0 : m = 0 := by rw [hm, h0, Int.zero_mul]; exact Nat.zero_div _
        rw [rK_cutTimes_110_e, rK_cutTimes_110_e, hm0, h0]
        split <;> rfl
      · rw [ft.2 h0]
        by_cases hneg : V t < 0
        · rw [if_pos hneg, if_neg (by decide), rK_cutTimes_110_e, iL_n, iL_neg]
          unfold sgm; rw [if_pos hneg]; rfl
        · rw [if_neg hneg, if_pos rfl, rK_cutTimes_110_e, iL_n]
          unfold sgm; rw [if_neg hneg]; rfl
    by_cases h2 : n1 ≤ 2
    · have hm62 := cL2 ((cwW_cl hW1).mono h2)
      rw [hmn] at hm62
      simp only [A3, if_true, Option.bind_some, i1]
      rw [if_pos (by rw [show (2 : Int32) = nI 2 from rfl, nI_leI (by omega) (by omega)]; exact h2)]
      exact c77 0 (by omega) (by rw [Nat.zero_mul, Nat.zero_add, Nat.mod_eq_of_lt hm62])
    · have hwd := hW1.N.wd (j := 2) (by omega)
      have hv9 : m = cV (rg_A M3 x1) n1 := hW1.2.2.2.2.2.2.2.2
      rw [← hv9, show wB ^ 2 = 4611686018427387904 by decide] at hwd
      have hh : m / 4611686018427387904 ≤ 1 := by omega
      have hd2 : m / 4611686018427387904 % wB = m / 4611686018427387904 := Nat.mod_eq_of_lt (by show _ < 2147483648; omega)
      rw [hd2] at hwd
      have l2 : (2 : Int32).toNatClampNeg < rg_L M3 x1 := by show 2 < _; omega
      have y2 : (0 : Int32) ≤ 2 := by decide
      have e2 : (rg_A M3 x1 (2 : Int32).toNatClampNeg).toInt64 = lN (m / 4611686018427387904) := by
        rw [hwd]; exact lN_u (hW1.2.2.2.2.2.2.1 2 (by omega))
      simp only [A3, if_true, Option.bind_some, i1, hW1.2.1, hW1.2.2.1, y2, l2, and_self, e2]
      rw [if_neg (by rw [show (2 : Int32) = nI 2 from rfl, nI_leI (by omega) (by omega)]; exact h2)]
      exact c77 _ hh (by omega)
  · have hb63 : ¬ rm_bits m ≤ 63 := fun h => by
      have := rm_bits_lt m
      have h2 : m < 2 ^ 63 := Nat.lt_of_lt_of_le this (Nat.pow_le_pow_right (by decide) h)
      exact hl h2
    rw [if_neg (by rw [show (63 : Int32) = nI 63 from rfl, nI_leI (by omega) (by omega)]; exact hb63), if_neg hl]
    rfl
end

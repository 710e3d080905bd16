/-! the class: bound; a round against a told move -/
theorem sg_le (v : Int) : rm_sg v ≤ 0 ↔ v ≤ 0 := by
  rcases (show v < 0 ∨ v = 0 ∨ 0 < v by omega) with e | e | e
  · rw [rm_sg_n e]; exact ⟨fun _ => by omega, fun _ => by decide⟩
  · rw [e]; exact ⟨fun _ => by omega, fun _ => by decide⟩
  · rw [rm_sg_p e]; exact ⟨fun h => absurd h (by decide), fun h => by omega⟩
theorem i64_mulN {a b : Int64} {k l : Nat} (ha : a.toInt = (k : Int)) (hb : b.toInt = (l : Int)) (h : k * l < 2 ^ 62) : (a * b).toInt = ((k * l : Nat) : Int) := by
  rw [Int64.toInt_mul, ha, hb, ← Int.natCast_mul]
  exact Int.bmod_eq_of_le (by omega) (by omega)
theorem lim64 {x : Int32} {w n : Nat} (hx : x.toInt.natAbs ≤ 2000) (hw : w ≤ 5) (hn : n < 2 ^ 20) : (((x.toInt64 * x.toInt64) * (nI w).toInt64) * (nI n).toInt64).toInt = ((x.toInt.natAbs * x.toInt.natAbs * w * n : Nat) : Int) := by
  have e0 : (x.toInt64 * x.toInt64).toInt = ((x.toInt.natAbs * x.toInt.natAbs : Nat) : Int) := by
    have h1 : x.toInt.natAbs * x.toInt.natAbs ≤ 2000 * 2000 := Nat.mul_le_mul hx hx
    rw [Int64.toInt_mul, Int32.toInt_toInt64, show x.toInt * x.toInt = ((x.toInt.natAbs * x.toInt.natAbs : Nat) : Int) from Int.natAbs_mul_self.symm]
    exact Int.bmod_eq_of_le (by omega) (by omega)
  have h1 : x.toInt.natAbs * x.toInt.natAbs ≤ 2000 * 2000 := Nat.mul_le_mul hx hx
  have h2 : x.toInt.natAbs * x.toInt.natAbs * w ≤ 2000 * 2000 * 5 := Nat.mul_le_mul h1 hw
  have h3 : x.toInt.natAbs * x.toInt.natAbs * w * n ≤ 2000 * 2000 * 5 * 2 ^ 20 := Nat.mul_le_mul h2 (by omega)
  exact i64_mulN (i64_mulN e0 (by rw [Int32.toInt_toInt64, nI_toInt (by omega)]) (by omega)) (by rw [Int32.toInt_toInt64, nI_toInt (by omega)]) (by omega)
section
variable {u z rk jf ln ng cg tb rn : Nat} {c ro fx : Nat → Nat} {M : rg_M} {s : sS} {n : Nat} {y : Nat → Rat}
theorem ts_L9 (hok : ts_ok n s) (h80 : ∀ i, i < 80 → y i = ts_y s i) : ∀ i, i < 80 → qL (y i) 9 := fun i hi => by
  rw [h80 i hi]; exact qB_L (hok.2.2.2.2.2.2.1 i hi)
theorem cT_boundR (h : cI u z rk c jf ln ng cg tb rn ro fx s M) (hok : ts_ok n s) (hn : n < 2 ^ 20) {p k : Nat} (hp : p < 2) (hk : k < 2 ^ 20) : ∃ M', rT_boundOfRegret tb (nI p) (nI k) M = some (if ts_g s = 1 ∧ k = ts_n s then (if ts_bd s p then 1 else 0) else -1, M') ∧ cI u z rk c jf ln ng cg tb rn ro fx s M' ∧ cW rn M M' := by
  have h0 := h
  obtain ⟨y, r, hE, h80, h247, h1, h2, hT, hr⟩ := h
  have A := hE.1.all
  have hN : ts_n s ≤ n := hok.2.2.2.2.2.2.2.2.1.1
  have gi1 : (nI (ts_g s) = (1 : Int32)) ↔ ts_g s = 1 := nI_eq (b := 1) (by have := hok.1; omega) (by omega)
  rw [rT_boundOfRegret_u, rT_boundOfRegret_e, if_pos A.1.2.2.2.1, hT.1]
  by_cases cg1 : ts_g s = 1
  · rw [if_pos (gi1.mpr cg1), if_pos A.1.2.2.2.1, hT.2.1]
    by_cases ck : k = ts_n s
    · rw [if_pos (by rw [ck]), if_pos A.1.2.2.2.1, if_pos ⟨cg1, ck⟩]
      obtain ⟨hI, hA⟩ := h1 cg1
      obtain ⟨w1, w2, w3, w4⟩ := hok.2.1 cg1
      have hw := hok.w cg1 p
      have w5 := cN_span hE.1 hI w2 w4
      rw [spn_cong hA w2 w4] at w5
      have w6 := cL_ways (p := p) A.1.1 hI (by omega)
      have h9 := ts_L9 hok h80
      obtain ⟨M1, y1, a1, a2, a3, a4, a5⟩ := cL_greatestRegret hE hI (p := p) (by omega) (by omega) hw.1 (fun w hw => h9 _ (by omega))
      have A1 := a2.1.all
      obtain ⟨t, b, X, p1, p2, p3, p4, p5⟩ := cE_parts a2 (i := 242) (Or.inl (by decide))
      obtain ⟨-, -, x1, x2, x3, x4⟩ := X
      have em : y1 242 = qM (fun w => ts_y s (p * 5 + w)) (wyc (ts_a s) (ts_e s) p - 1) := by
        rw [a4]; exact qM_cong (fun w hw => h80 _ (by omega))
      rw [em] at p3
      have hbd : ((qM (fun w => ts_y s (p * 5 + w)) (wyc (ts_a s) (ts_e s) p - 1)).num ≤ 0 ∨ q_under (qM (fun w => ts_y s (p * 5 + w)) (wyc (ts_a s) (ts_e s) p - 1)) 1 (ts_lim s p)) ↔ ts_bd s p := qM_under hw.1
      simp only [A, if_true, Option.bind_some, w5, w6, a1, A1, x1, x3, p3, hT.2.1]
      by_cases cs : (qM (fun w => ts_y s (p * 5 + w)) (wyc (ts_a s) (ts_e s) p - 1)).num ≤ 0
      · rw [if_pos ((sg_le _).mpr cs), rT_boundOfRegret_84_e, rT_boundOfRegret_89_e, if_pos (hbd.mp (Or.inl cs))]
        exact ⟨M1, rfl, cI_G hE h80 h247 h1 h2 hT hr a2 a5 (fun i hi => a3 i (by omega)), a5.W⟩
      · rw [if_neg (fun q => cs ((sg_le _).mp q))]
        have l242 : qL (y1 242) 425 := by
          rw [em]
          obtain ⟨k', k1, k2⟩ := (qM_max (f := fun w => ts_y s (p * 5 + w)) (n := wyc (ts_a s) (ts_e s) p - 1)).2
          rw [k2]
          exact (qB_L (hok.2.2.2.2.2.2.1 _ (by omega))).mono (by decide)
        obtain ⟨M2, b1, b2, b3⟩ := cE_sq a2 (i := 242) (Or.inl (by decide)) l242 (a := 1) (b := ((spn (ts_num s) (ts_a s) (ts_e s)).toInt64 * (spn (ts_num s) (ts_a s) (ts_e s)).toInt64 * (nI (wyc (ts_a s) (ts_e s) p)).toInt64) * (nI (ts_n s)).toInt64) (k := 1) (m := ts_lim s p) rfl (lim64 (spn_in hok.2.2.2.2.2.1 w2 w4) hw.2 (by omega))
        rw [em] at b1
        simp only [A1, if_true, Option.bind_some, b1]
        have G2 := a5.tr b3
        by_cases cu : q_under (qM (fun w => ts_y s (p * 5 + w)) (wyc (ts_a s) (ts_e s) p - 1)) 1 (ts_lim s p)
        · rw [if_pos cu, if_neg (by decide), rT_boundOfRegret_84_e, rT_boundOfRegret_89_e, if_pos (hbd.mp (Or.inr cu))]
          exact ⟨M2, rfl, cI_G hE h80 h247 h1 h2 hT hr b2 G2 (fun i hi => a3 i (by omega)), G2.W⟩
        · rw [if_neg cu, if_pos rfl, rT_boundOfRegret_89_e, if_neg (fun q => by
            rcases hbd.mpr q with q | q
            · exact cs q
            · exact cu q)]
          exact ⟨M2, rfl, cI_G hE h80 h247 h1 h2 hT hr b2 G2 (fun i hi => a3 i (by omega)), G2.W⟩
    · rw [if_neg (fun q => ck ((nI_eq (by omega) (by omega)).mp q)), rT_boundOfRegret_16_e, if_neg (fun q => ck q.2)]
      exact ⟨M, rfl, h0, cW.rf _ _⟩
  · rw [if_neg (fun q => cg1 (gi1.mp q)), rT_boundOfRegret_16_e, if_neg (fun q => cg1 q.1)]
    exact ⟨M, rfl, h0, cW.rf _ _⟩
theorem cT_bound (h : cI u z rk c jf ln ng cg tb rn ro fx s M) (hok : ts_ok n s) (hn : n ≤ 512) (x : Int32) : ∃ M', rT_bound tb x M = some (ts_bound s x, M') ∧ cI u z rk c jf ln ng cg tb rn ro fx s M' ∧ cW rn M M' := by
  have h0 := h
  obtain ⟨y, r, hE, h80, h247, h1, h2, hT, hr⟩ := h
  have A := hE.1.all
  obtain ⟨n1, n2, n3⟩ := hok.2.2.2.2.2.2.2.2.1
  rw [rT_bound_u, rT_bound_e]
  unfold ts_bound
  by_cases c0 : x = 0
  · rw [if_pos c0, if_pos c0]
    obtain ⟨M', a1, a2, a3⟩ := cT_boundR h0 hok (by omega) (p := 0) (k := ts_na s) (by decide) (by omega)
    have a1 : rT_boundOfRegret tb 0 (nI (ts_na s)) M = _ := a1
    simp only [A, if_true, hT.2.2.1, a1, Option.bind_some]
    exact ⟨M', rfl, a2, a3⟩
  rw [if_neg c0, if_neg c0]
  by_cases c1 : x = 1
  · rw [if_pos c1, if_pos c1]
    obtain ⟨M', a1, a2, a3⟩ := cT_boundR h0 hok (by omega) (p := 1) (k := ts_nb s) (by decide) (by omega)
    have a1 : rT_boundOfRegret tb 1 (nI (ts_nb s)) M = _ := a1
    simp only [A, if_true, hT.2.2.2.1, a1, Option.bind_some]
    exact ⟨M', rfl, a2, a3⟩
  rw [if_neg c1, if_neg c1]
  by_cases c2 : x = 2
  · rw [if_pos c2, if_pos c2, if_pos A.1.2.2.2.1, hT.1]
    have gi2 : (nI (ts_g s) = (2 : Int32)) ↔ ts_g s = 2 := nI_eq (b := 2) (by have := hok.1; omega) (by omega)
    by_cases cg2 : ts_g s = 2
    · rw [if_pos (gi2.mpr cg2)]
      obtain ⟨hI, hK, hC⟩ := h2 cg2
      obtain ⟨d1, d2⟩ := hok.2.2.2.1 cg2
      have hK' : rg_I M 6 cg = nI (ts_d s) := hK
      simp only [A, if_true, Option.bind_some, hK']
      by_cases cd : ts_d s = 3
      · rw [if_pos (by rw [cd]; rfl), if_pos ⟨cg2, cd⟩]
        have h9 := ts_L9 hok h80
        obtain ⟨M1, y1, a1, a2, a3, a4, a5, a6⟩ := cC_findBest hE hI hK d1 d2 h9 hC (bi := 248) (who := 2) (Or.inr rfl) (by decide)
        have a1 : rC_findBest cg (fx 248) 2 M = some M1 := a1
        have A1 := a2.1.all
        have eb : y1 248 = ts_best s 2 := by
          unfold ts_best
          rw [a5, if_pos cg2]
          exact kBest_cong (cmu_cong h80 (Or.inr rfl) d2) 2
        rw [eb] at a6
        obtain ⟨M2, b1, b2, b3⟩ := cE_sq a2 (i := 248) (Or.inl (by decide)) (by rw [eb]; exact a6) (a := (nI (ts_n s)).toInt64) (b := 4608) (k := ts_n s) (m := 4608) (by rw [Int32.toInt_toInt64, nI_toInt (by omega)]) rfl
        rw [eb] at b1
        have i1 : rg_I M1 103 tb = nI (ts_n s) := (hT.G a3).2.1
        simp only [a1, A1, if_true, Option.bind_some, i1, b1]
        have G2 := a3.tr b3
        have hfin : cI u z rk c jf ln ng cg tb rn ro fx s M2 := cI_G hE h80 h247 h1 h2 hT hr b2 G2 (fun i hi => a4 i (by omega) (by omega))
        have hge : (ts_best s 2).num ≤ 0 → q_under (ts_best s 2) (ts_n s) 4608 := fun q => by
          refine under_neg ?_ q (by omega)
          unfold ts_best
          rw [if_pos cg2, cd]
          obtain ⟨D, hD⟩ := cmu_D (y := ts_y s) (o := 40) (P := 12) (Or.inr rfl) (by decide) (fun i hi => by rw [← h80 i hi]; exact h9 i hi)
          exact kBest_ge (fun p w hp hw => ((hD p hp).2.2 w hw).2.1) (fun p hp => cmu_sum _ _ _)
        by_cases cu : q_under (ts_best s 2) (ts_n s) 4608
        · rw [if_pos cu, if_neg (by decide), rT_bound_108_e, if_pos (Or.inr cu)]
          exact ⟨M2, rfl, hfin, G2.W⟩
        · rw [if_neg cu, if_pos rfl, rT_bound_108_e, if_neg (fun q => by
            rcases q with q | q
            · exact cu (hge q)
            · exact cu q)]
          exact ⟨M2, rfl, hfin, G2.W⟩
      · have gi3 : (nI (ts_d s) = (3 : Int32)) ↔ ts_d s = 3 := nI_eq (b := 3) (by omega) (by decide)
        rw [if_neg (fun q => cd (gi3.mp q)), rT_bound_67_e, if_neg (fun q => cd q.2)]
        exact ⟨M, rfl, h0, cW.rf _ _⟩
    · rw [if_neg (fun q => cg2 (gi2.mp q)), rT_bound_67_e, if_neg (fun q => cg2 q.1)]
      exact ⟨M, rfl, h0, cW.rf _ _⟩
  rw [if_neg c2, if_neg c2]
  exact ⟨M, rfl, h0, cW.rf _ _⟩
/-- the table's own ints, one of them changed -/
theorem cTi_n {g n na nb r v : Int32} (h : cTi tb g n na nb r M) : cTi tb g v na nb r (rg_wI M 103 tb v) := ⟨by rw [cw_IIn (Or.inl (by decide))]; exact h.1, cw_II _ _ _ _, by rw [cw_IIn (Or.inl (by decide))]; exact h.2.2.1, by rw [cw_IIn (Or.inl (by decide))]; exact h.2.2.2.1, by rw [cw_IIn (Or.inl (by decide))]; exact h.2.2.2.2⟩
theorem cTi_na {g n na nb r v : Int32} (h : cTi tb g n na nb r M) : cTi tb g n v nb r (rg_wI M 104 tb v) := ⟨by rw [cw_IIn (Or.inl (by decide))]; exact h.1, by rw [cw_IIn (Or.inl (by decide))]; exact h.2.1, cw_II _ _ _ _, by rw [cw_IIn (Or.inl (by decide))]; exact h.2.2.2.1, by rw [cw_IIn (Or.inl (by decide))]; exact h.2.2.2.2⟩
theorem cTi_nb {g n na nb r v : Int32} (h : cTi tb g n na nb r M) : cTi tb g n na v r (rg_wI M 105 tb v) := ⟨by rw [cw_IIn (Or.inl (by decide))]; exact h.1, by rw [cw_IIn (Or.inl (by decide))]; exact h.2.1, by rw [cw_IIn (Or.inl (by decide))]; exact h.2.2.1, cw_II _ _ _ _, by rw [cw_IIn (Or.inl (by decide))]; exact h.2.2.2.2⟩
theorem cTi_r {g n na nb r v : Int32} (h : cTi tb g n na nb r M) : cTi tb g n na nb v (rg_wI M 106 tb v) := ⟨by rw [cw_IIn (Or.inl (by decide))]; exact h.1, by rw [cw_IIn (Or.inl (by decide))]; exact h.2.1, by rw [cw_IIn (Or.inl (by decide))]; exact h.2.2.1, by rw [cw_IIn (Or.inl (by decide))]; exact h.2.2.2.1, cw_II _ _ _ _⟩
/-- the state behind a round against a told move, before its own count -/
def ts_pa (s : sS) (p m : Nat) : sS := (s.1, (ts_n s + 1, ts_na s, ts_nb s), ts_num s, ts_aY s p m, ts_v s)
theorem cT_pa (h : cI u z rk c jf ln ng cg tb rn ro fx s M) (hok : ts_ok n s) (hn : n < 2 ^ 20) {p : Nat} (hp : p < 2) (x : Int32) : ∃ M' r, rT_playAgainst tb (nI p) x M = some (r, M') ∧ cW rn M M' ∧ ((r = 0 ∧ ¬ (ts_g s = 1 ∧ (0 ≤ x ∧ x.toNatClampNeg < wyc (ts_a s) (ts_e s) (1 - p)) ∧ ts_aF s p x.toNatClampNeg) ∧ cI u z rk c jf ln ng cg tb rn ro fx s M') ∨ (r = 1 ∧ (ts_g s = 1 ∧ (0 ≤ x ∧ x.toNatClampNeg < wyc (ts_a s) (ts_e s) (1 - p)) ∧ ts_aF s p x.toNatClampNeg) ∧ cI u z rk c jf ln ng cg tb rn ro fx (ts_pa s p x.toNatClampNeg) M')) := by
  have h0 := h
  obtain ⟨y, r, hE, h80, h247, h1, h2, hT, hr⟩ := h
  have A := hE.1.all
  have hN : ts_n s ≤ n := hok.2.2.2.2.2.2.2.2.1.1
  have gi1 : (nI (ts_g s) = (1 : Int32)) ↔ ts_g s = 1 := nI_eq (b := 1) (by have := hok.1; omega) (by omega)
  rw [rT_playAgainst_u, rT_playAgainst_e, if_pos A.1.2.2.2.1, hT.1]
  by_cases cg1 : ts_g s = 1
  · rw [if_pos (gi1.mpr cg1)]
    obtain ⟨hI, hA⟩ := h1 cg1
    obtain ⟨w1, w2, w3, w4⟩ := hok.2.1 cg1
    have hw := hok.w cg1 p
    have hw' := hok.w cg1 (1 - p)
    have e1 : (1 : Int32) - nI p = nI (1 - p) := by rcases (show p = 0 ∨ p = 1 by omega) with e | e <;> subst e <;> rfl
    obtain ⟨r1, b1, b2, b3⟩ := cL_has A.1.1 hI (by decide) (by omega) (by omega) (nI (1 - p)) x
    have b3' : r1 = 1 ↔ (0 ≤ x ∧ x.toNatClampNeg < wyc (ts_a s) (ts_e s) (1 - p)) := by
      rw [b3, nI_has (by omega)]
      constructor
      · rintro ⟨p', k, q1, q2, q3, q4⟩
        have : 1 - p = p' := (nI_eq (by omega) (by omega)).mp q3
        subst this
        exact ⟨k, q2, q4⟩
      · rintro ⟨k, q1, q2⟩
        exact ⟨1 - p, k, by omega, q1, rfl, q2⟩
    simp only [A, if_true, Option.bind_some, e1, b1]
    by_cases cb : r1 = 1
    · rw [if_neg (by rw [cb]; decide)]
      have hx := b3'.mp cb
      obtain ⟨m, m1, m2⟩ := (nI_has (by omega)).mp hx
      subst m2
      rw [nI_clamp (by omega)] at hx ⊢
      have h9 := ts_L9 hok h80
      have hok' : tOk (ts_a s) (ts_e s) (rg_A M rn) y := ⟨w1, w2, w3, w4, fun i hi => by rw [hA i hi]; exact hok.2.2.2.2.2.1 i hi, h9⟩
      obtain ⟨M1, y1, r2, c1, c2, c3, c4, c5⟩ := cN_learnAgainst hE hI hok' hp m1
      have A1 := c2.1.all
      have hmu : ∀ w, w < wyc (ts_a s) (ts_e s) p → tMx y 0 (ts_a s) (ts_e s) p w = tMx (ts_y s) 0 (ts_a s) (ts_e s) p w := fun w hw' => tMx_cong h80 (Or.inl rfl) hp hw.2 hw'
      have eR : ∀ w, w < wyc (ts_a s) (ts_e s) p → tR y (tMx y 0 (ts_a s) (ts_e s) p) (fun v => if v = m then 1 else 0) (rg_A M rn) p (wyc (ts_a s) (ts_e s) p) (wyc (ts_a s) (ts_e s) (1 - p)) w = ts_aR s p m w := fun w hw2 => tR_cong h80 hmu (fun _ _ => rfl) hA hw.2 hw'.2 hp hw2
      have eS : ∀ w, w < wyc (ts_a s) (ts_e s) p → tS y (tMx y 0 (ts_a s) (ts_e s) p) p w = ts_aS s p w := fun w hw2 => tS_cong h80 (hmu w hw2) hp (by omega)
      simp only [A, if_true, Option.bind_some, c1]
      rcases c5 with ⟨r1', v1⟩ | ⟨r0, w, hw2, v0⟩
      · rw [if_neg (by rw [r1']; decide)]
        have hF : ts_aF s p m := fun w hw2 => by
          obtain ⟨-, -, v3⟩ := v1 w hw2
          unfold tFit at v3
          rw [eR w hw2, eS w hw2] at v3
          exact v3
        obtain ⟨M2, y2, d1, d2, d3, d4, d5⟩ := cL_adopt c2 (hI.G c3) (p := p) (by omega) (by omega) (fun w hw2 => by
          obtain ⟨t1, t2, -⟩ := v1 w hw2
          rw [t1, t2, eR w hw2, eS w hw2]
          exact ⟨qB_L (hF w hw2).1, qB_L (hF w hw2).2⟩)
        have A2 := d2.1.all
        have G2 := c3.tr d5
        have hT2 := hT.G G2
        simp only [A1, A2, if_true, Option.bind_some, d1, true_and, hT2.2.1, show ((0 : Int32) = 0 ∨ (0 : Int32) = 1) = True from eq_true (Or.inl rfl)]
        have hx2 : xT M2 (rg_wI (rg_wI M2 103 tb (nI (ts_n s) + 1)) 106 tb 0) := (xT_wI _ _ (by decide) (by decide)).tr (xT_wI _ _ (by decide) (by decide))
        refine ⟨_, 1, rfl, G2.W.tr hx2.W, Or.inr ⟨rfl, ⟨cg1, hx, hF⟩, y2, 0, hx2.1.E d2, ?_, ?_, fun _ => ⟨hx2.Li (hI.G G2), fun i hi => ?_⟩, fun q => absurd (cg1.symm.trans q) (by decide), ?_, Or.inl rfl⟩⟩
        · show ∀ i, i < 80 → y2 i = nwY (ts_y s) p (p + 1) 5 (wyc (ts_a s) (ts_e s)) (fun q w => ts_aR s q m w) (ts_aS s) i
          refine nwY_of (y := ts_y s) (lo := p) (hi := p + 1) (st := 5) (by decide) (fun q w q1 q2 q3 => ?_) (fun q w q1 q2 q3 => ?_) (fun i hi q => ?_)
          · have e : q = p := by omega
            subst e; omega
          · have e : q = p := by omega
            subst e
            obtain ⟨t1, t2, -⟩ := v1 w q3
            obtain ⟨u1, u2⟩ := d4 w q3
            exact ⟨by rw [u1, t1, eR w q3], by rw [u2, t2, eS w q3]⟩
          · rw [d3 i ?_ ?_, c4 i (Or.inl hi)]
            · exact h80 i hi
            · rcases (show (i < p * 5 ∨ p * 5 + wyc (ts_a s) (ts_e s) p ≤ i) ∨ (p * 5 ≤ i ∧ i < p * 5 + wyc (ts_a s) (ts_e s) p) by omega) with q1 | q1
              · exact q1
              · exact absurd (show i = p * 5 + (i - p * 5) by omega) (q p (i - p * 5) (Nat.le_refl _) (by omega) (by omega)).1
            · rcases (show (i < 40 + p * 5 ∨ 40 + p * 5 + wyc (ts_a s) (ts_e s) p ≤ i) ∨ (40 + p * 5 ≤ i ∧ i < 40 + p * 5 + wyc (ts_a s) (ts_e s) p) by omega) with q1 | q1
              · exact q1
              · exact absurd (show i = 40 + (p * 5 + (i - 40 - p * 5)) by omega) (q p (i - 40 - p * 5) (Nat.le_refl _) (by omega) (by omega)).2
        · rw [d3 _ (by omega) (by omega), c4 _ (by omega)]; exact h247
        · rw [hx2.2.2.2, G2.A hE.1]; exact hA i hi
        · have := cTi_r (v := 0) (cTi_n (v := nI (ts_n s) + 1) hT2)
          rw [nI_1] at this ⊢
          exact this
      · rw [if_pos r0]
        refine ⟨M1, 0, rfl, c3.W, Or.inl ⟨rfl, fun q => v0 ?_, cI_G hE h80 h247 h1 h2 hT hr c2 c3 (fun i hi => c4 i (by omega))⟩⟩
        unfold tFit
        rw [eR w hw2, eS w hw2]
        exact q.2.2 w hw2
    · have : r1 = 0 := by rcases b2 with q | q; exact q; exact absurd q cb
      rw [if_pos this, rT_playAgainst_22_e]
      exact ⟨M, 0, rfl, cW.rf _ _, Or.inl ⟨rfl, fun q => cb (b3'.mpr q.2.1), h0⟩⟩
  · rw [if_neg (fun q => cg1 (gi1.mp q)), rT_playAgainst_22_e]
    exact ⟨M, 0, rfl, cW.rf _ _, Or.inl ⟨rfl, fun q => cg1 q.1, h0⟩⟩
theorem cT_column (h : cI u z rk c jf ln ng cg tb rn ro fx s M) (hok : ts_ok n s) (hn : n < 2 ^ 20) (x : Int32) : ∃ M', rT_column tb x M = some ((ts_play s 0 x).1, M') ∧ cI u z rk c jf ln ng cg tb rn ro fx (ts_play s 0 x).2 M' ∧ cW rn M M' := by
  have A : rg_K M tb = 7 := by obtain ⟨y, r, hE, -⟩ := h; exact hE.1.all.1.2.2.2.1
  obtain ⟨M1, r, a1, a2, a3⟩ := cT_pa h hok hn (p := 0) (by decide) x
  have a1 : rT_playAgainst tb 0 x M = some (r, M1) := a1
  rw [rT_column_u, rT_column_e, if_pos A, a1]
  simp only [Option.bind_some]
  unfold ts_play
  rcases a3 with ⟨r0, q1, q2⟩ | ⟨r1, q1, q2⟩
  · rw [if_pos r0, if_neg q1]
    exact ⟨M1, rfl, q2, a2⟩
  · rw [if_neg (by rw [r1]; decide), if_pos q1]
    obtain ⟨y, r', hE, h80, h247, h1, h2, hT, hr⟩ := q2
    have A1 := hE.1.all
    rw [if_pos A1.1.2.2.2.1, if_pos A1.1.2.2.2.1, hT.2.2.1]
    have hx : xT M1 (rg_wI M1 104 tb (nI (ts_na (ts_pa s 0 x.toNatClampNeg)) + 1)) := xT_wI _ _ (by decide) (by decide)
    refine ⟨_, rfl, ⟨y, r', hx.1.E hE, h80, h247, fun q => ⟨hx.Li (h1 q).1, fun i hi => by rw [hx.2.2.2]; exact (h1 q).2 i hi⟩, fun q => ⟨hx.Li (h2 q).1, hx.Dk (h2 q).2.1, (h2 q).2.2⟩, ?_, hr⟩, a2.tr hx.W⟩
    have := cTi_na (v := nI (ts_na (ts_pa s 0 x.toNatClampNeg)) + 1) hT
    rw [nI_1] at this ⊢
    exact this
theorem cT_row (h : cI u z rk c jf ln ng cg tb rn ro fx s M) (hok : ts_ok n s) (hn : n < 2 ^ 20) (x : Int32) : ∃ M', rT_row tb x M = some ((ts_play s 1 x).1, M') ∧ cI u z rk c jf ln ng cg tb rn ro fx (ts_play s 1 x).2 M' ∧ cW rn M M' := by
  have A : rg_K M tb = 7 := by obtain ⟨y, r, hE, -⟩ := h; exact hE.1.all.1.2.2.2.1
  obtain ⟨M1, r, a1, a2, a3⟩ := cT_pa h hok hn (p := 1) (by decide) x
  have a1 : rT_playAgainst tb 1 x M = some (r, M1) := a1
  rw [rT_row_u, rT_row_e, if_pos A, a1]
  simp only [Option.bind_some]
  unfold ts_play
  rcases a3 with ⟨r0, q1, q2⟩ | ⟨r1, q1, q2⟩
  · rw [if_pos r0, if_neg q1]
    exact ⟨M1, rfl, q2, a2⟩
  · rw [if_neg (by rw [r1]; decide), if_pos q1]
    obtain ⟨y, r', hE, h80, h247, h1, h2, hT, hr⟩ := q2
    have A1 := hE.1.all
    rw [if_pos A1.1.2.2.2.1, if_pos A1.1.2.2.2.1, hT.2.2.2.1]
    have hx : xT M1 (rg_wI M1 105 tb (nI (ts_nb (ts_pa s 1 x.toNatClampNeg)) + 1)) := xT_wI _ _ (by decide) (by decide)
    refine ⟨_, rfl, ⟨y, r', hx.1.E hE, h80, h247, fun q => ⟨hx.Li (h1 q).1, fun i hi => by rw [hx.2.2.2]; exact (h1 q).2 i hi⟩, fun q => ⟨hx.Li (h2 q).1, hx.Dk (h2 q).2.1, (h2 q).2.2⟩, ?_, hr⟩, a2.tr hx.W⟩
    have := cTi_nb (v := nI (ts_nb (ts_pa s 1 x.toNatClampNeg)) + 1) hT
    rw [nI_1] at this ⊢
    exact this
end

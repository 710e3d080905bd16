/-! findCommon -/
section
variable {u z : Nat} {M : rg_M} {V : Nat → Int}
/-- the two numbers at work, in either order -/
def fcr (c : Nat → Nat) (p q : Nat) : Prop := (p = c 3 ∧ q = c 4) ∨ (p = c 4 ∧ q = c 3)
theorem cw_fc115 {rk jf : Nat} {c : Nat → Nat} : ∀ k i : Nat, k + i ≤ 1000000 → ∀ (M : rg_M) (V : Nat → Int) (p q : Nat), cH u z M → cvV M V → cRk rk c jf M → fcr c p q → (V q).natAbs ≤ (V p).natAbs → V p ≠ 0 → cL (V p) 866 → (V p).natAbs * (V q).natAbs < 2 ^ k →
    ∃ (V' : Nat → Int) (M' : rg_M) (p' q' : Nat), rK_findCommon_115 rk p q (nI i) M = rK_findCommon_179 rk p' q' M' ∧ cP u z M V' M' ∧ fcr c p' q' ∧ (V' q').natAbs ≤ (V' p').natAbs ∧ V' p' ≠ 0 ∧ cL (V' p') 866 ∧ cL (V' q') 2 ∧ Nat.gcd (V' p').natAbs (V' q').natAbs = Nat.gcd (V p).natAbs (V q).natAbs ∧ ∀ y, y ≠ c 1 → y ≠ c 3 → y ≠ c 4 → V' y = V y := by
  intro k
  induction k with
  | zero =>
    intro i hi M V p q hH hV hR hf hle h0 hl hp
    have hq0 : V q = 0 := by
      have : (V p).natAbs * (V q).natAbs = 0 := by omega
      rcases Nat.mul_eq_zero.mp this with e | e <;> omega
    have kq : rg_K M q = 6 := by
      rcases hf with ⟨-, e⟩ | ⟨-, e⟩
      · rw [e]; exact (hR.2.2.1 4 (by decide)).2
      · rw [e]; exact (hR.2.2.1 3 (by decide)).2
    obtain ⟨rq, nq, hQ⟩ := hV q kq
    have hn0 : nq = 0 := hQ.zero.mp hq0
    have iq : rg_I M 81 q = nI nq := hQ.2.2.2.2.1
    refine ⟨V, M, p, q, ?_, ⟨hH, cF.rf M, hV⟩, hf, hle, h0, hl, by rw [hq0]; unfold cL; decide, rfl, fun _ _ _ _ => rfl⟩
    rw [rK_findCommon_115_e]
    by_cases cc : (1000000 : Int32) ≤ nI i
    · rw [if_pos cc]
    · rw [if_neg cc, if_pos kq, iq, hn0, if_pos (by decide)]
  | succ k ih =>
    intro i hi M V p q hH hV hR hf hle h0 hl hp
    have hk34 : c 3 ≠ c 4 := fun e => absurd (hR.2.2.2.1 3 4 (by decide) (by decide) e) (by decide)
    have hk31 : c 3 ≠ c 1 := fun e => absurd (hR.2.2.2.1 3 1 (by decide) (by decide) e) (by decide)
    have hk41 : c 4 ≠ c 1 := fun e => absurd (hR.2.2.2.1 4 1 (by decide) (by decide) e) (by decide)
    have k3 := hR.2.2.1 3 (by decide)
    have k4 := hR.2.2.1 4 (by decide)
    have k1 := hR.2.2.1 1 (by decide)
    have kpq : rg_K M p = 6 ∧ rg_K M q = 6 ∧ p ≠ q ∧ p ≠ c 1 ∧ q ≠ c 1 ∧ ∀ y, y ≠ c 3 → y ≠ c 4 → y ≠ p ∧ y ≠ q := by
      rcases hf with ⟨e1, e2⟩ | ⟨e1, e2⟩ <;> subst e1 <;> subst e2
      · exact ⟨k3.2, k4.2, hk34, hk31, hk41, fun y a b => ⟨a, b⟩⟩
      · exact ⟨k4.2, k3.2, Ne.symm hk34, hk41, hk31, fun y a b => ⟨b, a⟩⟩
    obtain ⟨kp, kq, hpq, hp1, hq1, hout⟩ := kpq
    obtain ⟨rp, np, hP⟩ := hV p kp
    obtain ⟨rq, nq, hQ⟩ := hV q kq
    have hnp := hP.len hl
    have hnq : nq ≤ np := hQ.len (k := np) (by
      have := cwW_cl hP
      unfold cL at *
      omega)
    have iq : rg_I M 81 q = nI nq := hQ.2.2.2.2.1
    rw [rK_findCommon_115_e, if_neg (by rw [show (1000000 : Int32) = nI 1000000 from rfl, nI_leI (by omega) (by omega)]; omega), if_pos kq, iq]
    by_cases hc : nq ≤ 2
    · rw [if_pos (by rw [show (2 : Int32) = nI 2 from rfl, nI_leI (by omega) (by omega)]; exact hc)]
      exact ⟨V, M, p, q, rfl, ⟨hH, cF.rf M, hV⟩, hf, hle, h0, hl, (cwW_cl hQ).mono hc, rfl, fun _ _ _ _ => rfl⟩
    · rw [if_neg (by rw [show (2 : Int32) = nI 2 from rfl, nI_leI (by omega) (by omega)]; exact hc), if_pos hR.2.1]
      have hq0 : V q ≠ 0 := fun e => by have := hQ.zero.mp e; omega
      obtain ⟨fl, M1, f1, f2, f3⟩ := cw_findFactors hR hP hQ (by omega) (by omega) (by omega) hle
      rw [f1]
      simp only [Option.bind_some]
      have hF1 : cF M M1 := f2.F (fun _ h => h.elim)
      have hH1 := f2.H hH
      have hV1 : cvV M1 V := fun y hy => by
        rw [f2.1] at hy
        obtain ⟨a, b, hb⟩ := hV y hy
        exact ⟨a, b, f2.W hH (fun _ h => h.elim) (fun h => h) hb⟩
      have hR1 := hR.F hF1
      have kp1 : rg_K M1 p = 6 := (hF1.K6 p).mpr kp
      have kq1 : rg_K M1 q = 6 := (hF1.K6 q).mpr kq
      have hSpos : 0 < (V q).natAbs := by omega
      rcases f3 with e | ⟨e, hff⟩
      · rw [if_pos e, if_pos hR1.2.1]
        obtain ⟨M2, d1, d2, d3, d4⟩ := cw_divide hH1 hV1 (rk := rk) (qo := c 1) (w := p) (x := q) hR1.2.1 hR1.1 (hR1.2.2.1 1 (by decide)).1 (hR1.2.2.1 1 (by decide)).2 kp1 kq1 hpq hp1 hq1 hq0 hl
        rw [d1]
        simp only [Option.bind_some]
        rw [rK_findCommon_173_e, nI_1]
        obtain ⟨V2, hV2⟩ : ∃ V2, V2 = va_up (va_up V (c 1) (((V p).natAbs / (V q).natAbs : Nat) : Int)) p (sgm (V p) ((V p).natAbs % (V q).natAbs)) := ⟨_, rfl⟩
        rw [← hV2] at d4
        have ep : (V2 p).natAbs = (V p).natAbs % (V q).natAbs := by rw [hV2, rg_up_eq, sgm_abs]
        have eq : V2 q = V q := by rw [hV2, rg_up_ne (Ne.symm hpq), rg_up_ne hq1]
        have hml := Nat.mod_lt (V p).natAbs hSpos
        have hdm := Nat.div_add_mod (V p).natAbs (V q).natAbs
        have hd1 : 1 ≤ (V p).natAbs / (V q).natAbs := (Nat.le_div_iff_mul_le hSpos).mpr (by omega)
        have hm1 : (V q).natAbs * 1 ≤ (V q).natAbs * ((V p).natAbs / (V q).natAbs) := Nat.mul_le_mul_left _ hd1
        obtain ⟨V', M', p', q', r1, r2, r3, r4, r5, r6, r7, r8, r9⟩ := ih (i + 1) (by omega) M2 V2 q p d2 d4 (hR1.F d3) (by rcases hf with ⟨e1, e2⟩ | ⟨e1, e2⟩; exact Or.inr ⟨e2, e1⟩; exact Or.inl ⟨e2, e1⟩) (by rw [ep, eq]; omega) (by rw [eq]; exact hq0) (by rw [eq]; unfold cL at *; omega) (by
          rw [ep, eq]
          have h5 : (V q).natAbs * (2 * ((V p).natAbs % (V q).natAbs)) ≤ (V q).natAbs * (V p).natAbs := Nat.mul_le_mul_left _ (by omega)
          rw [Nat.mul_comm (V p).natAbs, Nat.pow_succ] at hp
          rw [← Nat.mul_assoc, Nat.mul_comm (V q).natAbs 2, Nat.mul_assoc] at h5
          omega)
        refine ⟨V', M', p', q', r1, ⟨r2.1, hF1.tr (d3.tr r2.2.1), r2.2.2⟩, r3, r4, r5, r6, r7, ?_, fun y y1 y2 y3 => ?_⟩
        · rw [r8, ep, eq, Nat.gcd_comm, ← Nat.gcd_rec, Nat.gcd_comm]
        · rw [r9 y y1 y2 y3, hV2, rg_up_ne (hout y y2 y3).1, rg_up_ne y1]
      · rw [if_neg (by rw [e]; decide), if_pos hR1.2.1]
        obtain ⟨U, W, M2, d1, d2, d3, d4, d5, d6⟩ := cw_combine hH1 hV1 hR1 kp1 kq1 hpq hl hff hle hq0
        rw [d1]
        simp only [Option.bind_some]
        rw [rK_findCommon_173_e, nI_1]
        obtain ⟨V2, hV2⟩ : ∃ V2, V2 = va_up (va_up V p (sgm (V p) U)) q (sgm (V q) W) := ⟨_, rfl⟩
        rw [← hV2] at d2
        have ep : (V2 p).natAbs = U := by rw [hV2, rg_up_ne hpq, rg_up_eq, sgm_abs]
        have eq : (V2 q).natAbs = W := by rw [hV2, rg_up_eq, sgm_abs]
        have hU0 : U ≠ 0 := by
          intro h
          rw [h, show W = 0 by omega, Nat.gcd_zero_left] at d5
          have := Nat.gcd_pos_of_pos_right (V p).natAbs hSpos
          omega
        obtain ⟨V', M', p', q', r1, r2, r3, r4, r5, r6, r7, r8, r9⟩ := ih (i + 1) (by omega) M2 V2 p q d2.1 d2.2.2 (hR1.F d2.2.1) hf (by rw [ep, eq]; exact d3) (by omega) (by unfold cL at *; omega) (by
          rw [ep, eq]
          rw [Nat.pow_succ] at hp
          omega)
        refine ⟨V', M', p', q', r1, ⟨r2.1, hF1.tr (d2.2.1.tr r2.2.1), r2.2.2⟩, r3, r4, r5, r6, r7, ?_, fun y y1 y2 y3 => ?_⟩
        · rw [r8, ep, eq, d5]
        · rw [r9 y y1 y2 y3, hV2, rg_up_ne (hout y y2 y3).2, rg_up_ne (hout y y2 y3).1]
theorem lN_tI62 {g : Nat} (h : g < 4611686018427387904) : (lN g).toInt = (g : Int) := pk_lT (by omega)
theorem cL2 {v : Int} (h : cL v 2) : v.natAbs < 4611686018427387904 := h
theorem cw_fc179 (hH : cH u z M) (hV : cvV M V) {rk jf p q : Nat} {c : Nat → Nat} (hR : cRk rk c jf M) (hf : fcr c p q) (h0 : V p ≠ 0) (hl : cL (V p) 866) (hl2 : cL (V q) 2) : ∃ V' M', rg_uv (rK_findCommon_179 rk p q M) = some M' ∧ cP u z M V' M' ∧ V' (c 0) = ((Nat.gcd (V p).natAbs (V q).natAbs : Nat) : Int) ∧ ∀ y, y ≠ c 0 → y ≠ c 1 → y ≠ c 3 → y ≠ c 4 → V' y = V y := by
  have hne : ∀ i j, i < 11 → j < 11 → i ≠ j → c i ≠ c j := fun i j hi hj h e => h (hR.2.2.2.1 i j hi hj e)
  have kk : ∀ i, i < 11 → rg_K M (c i) = 6 := fun i hi => (hR.2.2.1 i hi).2
  have kpq : rg_K M p = 6 ∧ rg_K M q = 6 ∧ p ≠ q ∧ p ≠ c 1 ∧ q ≠ c 1 ∧ p ≠ c 0 ∧ q ≠ c 0 ∧ ∀ y, y ≠ c 3 → y ≠ c 4 → y ≠ p ∧ y ≠ q := by
    rcases hf with ⟨e1, e2⟩ | ⟨e1, e2⟩ <;> subst e1 <;> subst e2
    · exact ⟨kk 3 (by decide), kk 4 (by decide), hne 3 4 (by decide) (by decide) (by decide), hne 3 1 (by decide) (by decide) (by decide), hne 4 1 (by decide) (by decide) (by decide), hne 3 0 (by decide) (by decide) (by decide), hne 4 0 (by decide) (by decide) (by decide), fun y a b => ⟨a, b⟩⟩
    · exact ⟨kk 4 (by decide), kk 3 (by decide), hne 4 3 (by decide) (by decide) (by decide), hne 4 1 (by decide) (by decide) (by decide), hne 3 1 (by decide) (by decide) (by decide), hne 4 0 (by decide) (by decide) (by decide), hne 3 0 (by decide) (by decide) (by decide), fun y a b => ⟨b, a⟩⟩
  obtain ⟨kp, kq, hpq, hp1, hq1, hp0, hq0, hout⟩ := kpq
  obtain ⟨rq, nq, hQ⟩ := hV q kq
  have hnq := hQ.len hl2
  have iq : rg_I M 81 q = nI nq := hQ.2.2.2.2.1
  have c0 := hR.2.2.1 0 (by decide)
  rw [rK_findCommon_179_e, if_pos kq, iq]
  by_cases hz : nq = 0
  · have hq0v : V q = 0 := hQ.zero.mpr hz
    rw [if_pos (by rw [hz]; rfl), if_pos hR.2.1, c0.1]
    simp only [Option.bind_some, c0.2, if_true]
    obtain ⟨M1, t1, t2, t3, t4⟩ := cw_copy hH hV c0.2 kp hp0 hl
    rw [t1]
    have hR1 := hR.F t3
    have c1 := hR1.2.2.1 0 (by decide)
    simp only [Option.bind_some, hR1.2.1, if_true, c1.1]
    rw [if_pos ⟨c1.2, Or.inl trivial⟩]
    obtain ⟨ro, no, hO⟩ := t4 (c 0) c1.2
    rw [rg_up_eq] at hO
    have hP := cP.of t2 t4 (cU_wI M1 (c 0) 82 0 (Or.inr rfl)) c1.2 (v := ((V p).natAbs : Int)) ⟨ro, no, hO.1, hO.2.1, hO.2.2.1, hO.2.2.2.1, by rw [cw_IIn (Or.inl (by decide))]; exact hO.2.2.2.2.1, by rw [cw_II]; exact ⟨Or.inl rfl, fun _ => by rw [if_neg (by omega)]⟩, hO.2.2.2.2.2.2.1, hO.2.2.2.2.2.2.2.1, hO.2.2.2.2.2.2.2.2⟩
    refine ⟨_, _, rfl, ⟨hP.1, t3.tr hP.2.1, hP.2.2⟩, ?_, fun y y0 _ _ _ => by rw [rg_up_ne y0, rg_up_ne y0]⟩
    rw [rg_up_eq, hq0v]
    show _ = ((Nat.gcd (V p).natAbs 0 : Nat) : Int)
    rw [Nat.gcd_zero_right]
  · have hq0v : V q ≠ 0 := fun e => hz (hQ.zero.mp e)
    rw [if_neg (nI_ne0 (by omega) (by omega)), if_pos hR.2.1]
    obtain ⟨M1, d1, d2, d3, d4⟩ := cw_divide hH hV (rk := rk) (qo := c 1) (w := p) (x := q) hR.2.1 hR.1 (hR.2.2.1 1 (by decide)).1 (kk 1 (by decide)) kp kq hpq hp1 hq1 hq0v hl
    rw [d1]
    have hR1 := hR.F d3
    have c1 := hR1.2.2.1 0 (by decide)
    have kp1 : rg_K M1 p = 6 := (d3.K6 p).mpr kp
    have kq1 : rg_K M1 q = 6 := (d3.K6 q).mpr kq
    simp only [Option.bind_some, hR1.2.1, if_true, c1.1, kq1]
    obtain ⟨V2, hV2⟩ : ∃ V2, V2 = va_up (va_up V (c 1) (((V p).natAbs / (V q).natAbs : Nat) : Int)) p (sgm (V p) ((V p).natAbs % (V q).natAbs)) := ⟨_, rfl⟩
    rw [← hV2] at d4
    have ep : (V2 p).natAbs = (V p).natAbs % (V q).natAbs := by rw [hV2, rg_up_eq, sgm_abs]
    have eq : V2 q = V q := by rw [hV2, rg_up_ne (Ne.symm hpq), rg_up_ne hq1]
    have hSpos : 0 < (V q).natAbs := by omega
    have hml := Nat.mod_lt (V p).natAbs hSpos
    have hq62 := cL2 hl2
    obtain ⟨rp1, np1, hP1⟩ := d4 p kp1
    obtain ⟨rq1, nq1, hQ1⟩ := d4 q kq1
    have hn1 : np1 ≤ 2 := hP1.len (k := 2) (by unfold cL at *; omega)
    have hn2 : nq1 ≤ 2 := hQ1.len (k := 2) (by rw [eq]; exact hl2)
    rw [cw_lowest hQ1 hn2]
    simp only [Option.bind_some, kp1, if_true]
    rw [cw_lowest hP1 hn1]
    simp only [Option.bind_some]
    rw [eq, ep, cw_commonOf hq62 (by omega)]
    simp only [Option.bind_some, c1.2, if_true]
    have hg : Nat.gcd (V q).natAbs ((V p).natAbs % (V q).natAbs) = Nat.gcd (V p).natAbs (V q).natAbs := by
      rw [Nat.gcd_comm, ← Nat.gcd_rec, Nat.gcd_comm]
    have hgl : Nat.gcd (V p).natAbs (V q).natAbs ≤ (V q).natAbs := Nat.le_of_dvd hSpos (Nat.gcd_dvd_right _ _)
    rw [hg]
    obtain ⟨M2, b1, b2, b3, b4⟩ := cw_become d2 d4 c1.2 (lN (Nat.gcd (V p).natAbs (V q).natAbs))
    rw [lN_tI62 (by omega)] at b4
    rw [b1]
    refine ⟨_, M2, rfl, ⟨b2, d3.tr b3, b4⟩, rg_up_eq, fun y y0 y1 y2 y3 => ?_⟩
    rw [rg_up_ne y0, hV2, rg_up_ne (hout y y2 y3).1, rg_up_ne y1]
theorem cw_findCommon (hH : cH u z M) (hV : cvV M V) {rk jf a b : Nat} {c : Nat → Nat} (hR : cRk rk c jf M) (ha : rg_K M a = 6) (hb : rg_K M b = 6) (ha3 : a ≠ c 3) (ha4 : a ≠ c 4) (hb3 : b ≠ c 3) (hb4 : b ≠ c 4) (hne0 : V a ≠ 0 ∨ V b ≠ 0) (hla : cL (V a) 866) (hlb : cL (V b) 866) : ∃ V' M', rK_findCommon rk a b M = some M' ∧ cP u z M V' M' ∧ V' (c 0) = ((Nat.gcd (V a).natAbs (V b).natAbs : Nat) : Int) ∧ ∀ y, y ≠ c 0 → y ≠ c 1 → y ≠ c 3 → y ≠ c 4 → V' y = V y := by
  have hva : ¬ (V a).natAbs < (V b).natAbs → V a ≠ 0 := by omega
  have hvle : ¬ (V a).natAbs < (V b).natAbs → (V b).natAbs ≤ (V a).natAbs := by omega
  obtain ⟨ra, na, hA⟩ := hV a ha
  obtain ⟨rb, nb, hB⟩ := hV b hb
  have hna := hA.len hla
  have hnb := hB.len hlb
  have c0 := hR.2.2.1 0 (by decide)
  have hne : ∀ i j, i < 11 → j < 11 → i ≠ j → c i ≠ c j := fun i j hi hj h e => h (hR.2.2.2.1 i j hi hj e)
  have one : Nat.gcd (V a).natAbs (V b).natAbs = 1 → ∃ V' M', rg_uv (rK_findCommon_14 rk M) = some M' ∧ cP u z M V' M' ∧ V' (c 0) = ((Nat.gcd (V a).natAbs (V b).natAbs : Nat) : Int) ∧ ∀ y, y ≠ c 0 → y ≠ c 1 → y ≠ c 3 → y ≠ c 4 → V' y = V y := by
    intro h1
    obtain ⟨M1, t1, t2⟩ := cw_become hH hV c0.2 1
    rw [rK_findCommon_14_e, if_pos hR.2.1, c0.1]
    simp only [Option.bind_some, c0.2, if_true, t1]
    exact ⟨_, M1, rfl, t2, by rw [rg_up_eq, h1]; rfl, fun y y0 _ _ _ => rg_up_ne y0⟩
  have big : (2 < na ∨ 2 < nb) → ∃ V' M', rg_uv (rK_findCommon_58 rk a b M) = some M' ∧ cP u z M V' M' ∧ V' (c 0) = ((Nat.gcd (V a).natAbs (V b).natAbs : Nat) : Int) ∧ ∀ y, y ≠ c 0 → y ≠ c 1 → y ≠ c 3 → y ≠ c 4 → V' y = V y := by
    intro _
    -- from the copies on: x is the larger, y the smaller
    have go : ∀ x y : Nat, rg_K M x = 6 → rg_K M y = 6 → x ≠ c 3 → y ≠ c 3 → y ≠ c 4 → (V y).natAbs ≤ (V x).natAbs → V x ≠ 0 → cL (V x) 866 → cL (V y) 866 → Nat.gcd (V x).natAbs (V y).natAbs = Nat.gcd (V a).natAbs (V b).natAbs → ∃ (V' : Nat → Int) (M1 M' : rg_M), rW_copy (c 3) x M = some M1 ∧ rg_uv (rK_findCommon_109 rk (c 3) (c 4) y (c 4) M1) = some M' ∧ cP u z M V' M' ∧ V' (c 0) = ((Nat.gcd (V a).natAbs (V b).natAbs : Nat) : Int) ∧ ∀ y, y ≠ c 0 → y ≠ c 1 → y ≠ c 3 → y ≠ c 4 → V' y = V y := by
      intro x y hx hy x3 y3 y4 hle hx0 hlx hly hg
      have c3 := hR.2.2.1 3 (by decide)
      obtain ⟨M1, t1, t2, t3, t4⟩ := cw_copy hH hV c3.2 hx x3 hlx
      have hR1 := hR.F t3
      have c4 := hR1.2.2.1 4 (by decide)
      have ey : va_up V (c 3) (V x) y = V y := rg_up_ne y3
      obtain ⟨M2, u1, u2, u3, u4⟩ := cw_copy t2 t4 c4.2 ((t3.K6 y).mpr hy) y4 (by rw [ey]; exact hly)
      rw [ey] at u4
      obtain ⟨V2, hV2⟩ : ∃ V2, V2 = va_up (va_up V (c 3) (V x)) (c 4) (V y) := ⟨_, rfl⟩
      rw [← hV2] at u4
      have e3 : V2 (c 3) = V x := by rw [hV2, rg_up_ne (hne 3 4 (by decide) (by decide) (by decide)), rg_up_eq]
      have e4 : V2 (c 4) = V y := by rw [hV2, rg_up_eq]
      obtain ⟨V3, M3, p', q', r1, r2, r3, r4, r5, r6, r7, r8, r9⟩ := cw_fc115 (u := u) (z := z) (rk := rk) (jf := jf) (c := c) 53692 0 (by decide) M2 V2 (c 3) (c 4) u2 u4 (hR1.F u3) (Or.inl ⟨rfl, rfl⟩) (by rw [e3, e4]; exact hle) (by rw [e3]; exact hx0) (by rw [e3]; exact hlx) (by
        rw [e3, e4]
        have h6 : (V x).natAbs * (V y).natAbs < wB ^ 866 * wB ^ 866 := Nat.mul_lt_mul'' hlx hly
        have h7 : wB ^ 866 * wB ^ 866 = 2 ^ 53692 := by rw [show wB = 2 ^ 31 from rfl, ← Nat.pow_mul, ← Nat.pow_add]
        omega)
      obtain ⟨V4, M4, s1, s2, s3, s4⟩ := cw_fc179 r2.1 r2.2.2 ((hR1.F u3).F r2.2.1) r3 r5 r6 r7
      refine ⟨V4, M1, M4, t1, ?_, ⟨s2.1, t3.tr (u3.tr (r2.2.1.tr s2.2.1)), s2.2.2⟩, by rw [s3, r8, e3, e4, hg], fun y' y0 y1 y3' y4' => ?_⟩
      · rw [rK_findCommon_109_e, if_pos c4.2, u1]
        simp only [Option.bind_some]
        have r1 : rK_findCommon_115 rk (c 3) (c 4) 0 M2 = _ := r1
        rw [r1]; exact s1
      · rw [s4 y' y0 y1 y3' y4', r9 y' y1 y3' y4', hV2, rg_up_ne y4', rg_up_ne y3']
    have c3 := hR.2.2.1 3 (by decide)
    have c4 := hR.2.2.1 4 (by decide)
    rw [rK_findCommon_58_e, if_pos ha, cw_compare hA hB (by omega) (by omega)]
    simp only [Option.bind_some]
    by_cases hc : (V a).natAbs < (V b).natAbs
    · rw [if_pos hc, if_pos (by decide), rK_findCommon_71_e]
      simp only [hR.2.1, if_true, c3.1, c4.1, Option.bind_some]
      obtain ⟨V', M1, M', g1, g2, g3⟩ := go b a hb ha hb3 ha3 ha4 (by omega) (by omega) hlb hla (Nat.gcd_comm _ _)
      rw [rK_findCommon_95_e, if_pos c3.2, g1]
      simp only [Option.bind_some, if_true]
      exact ⟨V', M', g2, g3⟩
    · have hn : ¬ ((if (V a).natAbs < (V b).natAbs then (-1 : Int32) else if (V a).natAbs = (V b).natAbs then 0 else 1) < 0) := by
        rw [if_neg hc]; split <;> decide
      rw [if_neg hn, rK_findCommon_71_e]
      simp only [hR.2.1, if_true, c3.1, c4.1, Option.bind_some]
      rw [if_neg (by decide)]
      obtain ⟨V', M1, M', g1, g2, g3⟩ := go a b ha hb ha3 hb3 hb4 (hvle hc) (hva hc) hla hlb rfl
      rw [rK_findCommon_95_e, if_pos c3.2, g1]
      simp only [Option.bind_some]
      rw [if_neg (by decide)]
      exact ⟨V', M', g2, g3⟩
  have ia : rg_I M 81 a = nI na := hA.2.2.2.2.1
  have ib : rg_I M 81 b = nI nb := hB.2.2.2.2.1
  rw [rK_findCommon_u, rK_findCommon_e, if_pos ha, cw_isOne hA (by omega)]
  simp only [Option.bind_some]
  by_cases h1 : (V a).natAbs = 1
  · rw [if_pos h1, if_neg (by decide)]
    exact one (by rw [h1, Nat.gcd_one_left])
  · rw [if_neg h1, if_pos rfl, if_pos hb, cw_isOne hB (by omega)]
    simp only [Option.bind_some]
    by_cases h2 : (V b).natAbs = 1
    · rw [if_pos h2, if_neg (by decide)]
      exact one (by rw [h2, Nat.gcd_one_right])
    · rw [if_neg h2, if_pos rfl, if_pos ha, ia]
      by_cases h3 : 2 < na
      · rw [if_pos (by rw [show (2 : Int32) = nI 2 from rfl, nI_ltI (by omega) (by omega)]; exact h3)]
        exact big (Or.inl h3)
      · rw [if_neg (by rw [show (2 : Int32) = nI 2 from rfl, nI_ltI (by omega) (by omega)]; exact h3), if_pos hb, ib]
        by_cases h4 : 2 < nb
        · rw [if_pos (by rw [show (2 : Int32) = nI 2 from rfl, nI_ltI (by omega) (by omega)]; exact h4)]
          exact big (Or.inr h4)
        · rw [if_neg (by rw [show (2 : Int32) = nI 2 from rfl, nI_ltI (by omega) (by omega)]; exact h4), if_pos hR.2.1, c0.1]
          simp only [Option.bind_some, ha, if_true]
          have l1 := cL2 ((cwW_cl hA).mono (show na ≤ 2 by omega))
          have l2 := cL2 ((cwW_cl hB).mono (show nb ≤ 2 by omega))
          rw [cw_lowest hA (by omega)]
          simp only [Option.bind_some, hb, if_true]
          rw [cw_lowest hB (by omega)]
          simp only [Option.bind_some]
          rw [cw_commonOf l1 l2]
          simp only [Option.bind_some, c0.2, if_true]
          have hgl : Nat.gcd (V a).natAbs (V b).natAbs < 4611686018427387904 := by
            rcases hne0 with e | e
            · have := Nat.le_of_dvd (show 0 < (V a).natAbs by omega) (Nat.gcd_dvd_left (V a).natAbs (V b).natAbs); omega
            · have := Nat.le_of_dvd (show 0 < (V b).natAbs by omega) (Nat.gcd_dvd_right (V a).natAbs (V b).natAbs); omega
          obtain ⟨M2, b1, b2⟩ := cw_become hH hV c0.2 (lN (Nat.gcd (V a).natAbs (V b).natAbs))
          rw [lN_tI62 hgl] at b2
          rw [b1]
          exact ⟨_, M2, rfl, b2, rg_up_eq, fun y y0 _ _ _ => rg_up_ne y0⟩
end

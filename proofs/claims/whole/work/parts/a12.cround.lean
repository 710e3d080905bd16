/-! the class: a round of both; view -/
section
variable {u z rk jf ln ng cg tb rn P st wa we : Nat} {c ro fx : Nat → Nat} {M : rg_M} {s : sS} {n : Nat} {y : Nat → Rat}
/-- all places take over what was learned -/
theorem cT_ad55 {fR fS : Nat → Nat → Rat} (hP : P ≤ 20) (hst : ∀ p, p < P → p * st + st ≤ 40 ∧ wyc wa we p ≤ st) (hL : ∀ p w, p < P → w < wyc wa we p → qL (fR p w) 9 ∧ qL (fS p w) 9) : ∀ e j : Nat, P - j = e → j ≤ P → ∀ (M : rg_M) (y' : Nat → Rat), cE u z rk c jf ln ng cg tb rn ro fx M y' → cLi ln P st wa we M → (∀ p w, p < P → w < wyc wa we p → y' (80 + (p * st + w)) = fR p w ∧ y' (120 + (p * st + w)) = fS p w) → (∀ p w, p < j → w < wyc wa we p → y' (p * st + w) = fR p w ∧ y' (40 + (p * st + w)) = fS p w) → (∀ i, (∀ p w, p < j → w < wyc wa we p → i ≠ p * st + w ∧ i ≠ 40 + (p * st + w)) → y' i = y i) →
    ∃ M' y'', rT_round_55 tb (nI j) M = some (some (.int (rg_I M 103 tb + 1)), rg_wI M' 103 tb (rg_I M 103 tb + 1)) ∧ cE u z rk c jf ln ng cg tb rn ro fx M' y'' ∧ (∀ p w, p < P → w < wyc wa we p → y'' (p * st + w) = fR p w ∧ y'' (40 + (p * st + w)) = fS p w) ∧ (∀ i, (∀ p w, p < P → w < wyc wa we p → i ≠ p * st + w ∧ i ≠ 40 + (p * st + w)) → y'' i = y i) ∧ cG M M' := by
  intro e
  induction e with
  | zero =>
    intro j he hj M y' hE hI h1 h2 h3
    have e : j = P := by omega
    subst e
    have A := hE.1.all
    rw [rT_round_55_e]
    simp only [A, if_true, Option.bind_some, hI.1, Int32.le_refl, cw_II]
    exact ⟨M, y', rfl, hE, h2, h3, cG.rf M⟩
  | succ e ih =>
    intro j he hj M y' hE hI h1 h2 h3
    have hjP : j < P := by omega
    have A := hE.1.all
    obtain ⟨q1, q2⟩ := hst j hjP
    obtain ⟨M1, y1, a1, a2, a3, a4, a5⟩ := cL_adopt hE hI (p := j) (by omega) (by omega) (fun w hw => by
      obtain ⟨t1, t2⟩ := h1 j w hjP hw
      rw [t1, t2]; exact hL j w hjP hw)
    have far : ∀ p w, p < P → w < wyc wa we p → p ≠ j → (p * st + w < j * st ∨ j * st + st ≤ p * st + w) := fun p w hp hw hpj => by
      have := (hst p hp).2
      rcases (show p < j ∨ j < p by omega) with q | q
      · left
        have h5 := Nat.mul_le_mul_right st (show p + 1 ≤ j by omega)
        rw [Nat.add_mul, Nat.one_mul] at h5
        omega
      · right
        have h5 := Nat.mul_le_mul_right st (show j + 1 ≤ p by omega)
        rw [Nat.add_mul, Nat.one_mul] at h5
        omega
    have i1 : rg_I M1 103 tb = rg_I M 103 tb := a5.2.2.2.1 _ _ (by decide) (by decide)
    rw [rT_round_55_e]
    simp only [A, if_true, Option.bind_some, hI.1, show ¬ nI P ≤ nI j by rw [nI_leI (by omega) (by omega)]; omega, if_false, a1]
    rw [nI_1]
    obtain ⟨M', y'', b1, b2, b3, b4, b5⟩ := ih (j + 1) (by omega) (by omega) M1 y1 a2 (hI.G a5) (fun p w hp hw => by
      have := (hst p hp)
      rw [a3 _ (by omega) (by omega), a3 _ (by omega) (by omega)]; exact h1 p w hp hw) (fun p w hp hw => by
      by_cases c : p = j
      · subst c
        obtain ⟨t1, t2⟩ := h1 p w hjP hw
        obtain ⟨u1, u2⟩ := a4 w hw
        exact ⟨by rw [u1, t1], by rw [u2, t2]⟩
      · have hf := far p w (by omega) hw c
        have := (hst p (by omega))
        rw [a3 _ (by omega) (by omega), a3 _ (by omega) (by omega)]; exact h2 p w (by omega) hw) (fun i hi => by
      rw [a3 i ?_ ?_]
      · exact h3 i (fun p w hp hw => hi p w (by omega) hw)
      · rcases (show (i < j * st ∨ j * st + wyc wa we j ≤ i) ∨ (j * st ≤ i ∧ i < j * st + wyc wa we j) by omega) with q | q
        · exact q
        · exact absurd (show i = j * st + (i - j * st) by omega) (hi j (i - j * st) (by omega) (by omega)).1
      · rcases (show (i < 40 + j * st ∨ 40 + j * st + wyc wa we j ≤ i) ∨ (40 + j * st ≤ i ∧ i < 40 + j * st + wyc wa we j) by omega) with q | q
        · exact q
        · exact absurd (show i = 40 + (j * st + (i - 40 - j * st)) by omega) (hi j (i - 40 - j * st) (by omega) (by omega)).2)
    rw [i1] at b1
    exact ⟨M', y'', b1, b2, b3, b4, a5.tr b5⟩
/-- behind the learning of a round: 41 -/
theorem cT_r41 (h0 : cI u z rk c jf ln ng cg tb rn ro fx s M) (hE : cE u z rk c jf ln ng cg tb rn ro fx M y) (h80 : ∀ i, i < 80 → y i = ts_y s i) (h247 : y 247 = ts_v s) (h1 : ts_g s = 1 → cLi ln 2 5 (ts_a s) (ts_e s) M ∧ ∀ i, i < 25 → rg_A M rn i = ts_num s i) (h2 : ts_g s = 2 → cLi ln (4 * ts_d s) 2 2 2 M ∧ cDk cg (ts_d s) M ∧ y 244 = chN (ts_d s)) {r0 : Int32} (hT : cTi tb (nI (ts_g s)) (nI (ts_n s)) (nI (ts_na s)) (nI (ts_nb s)) r0 M) (hr0 : r0 = 0) (hg0 : ts_g s ≠ 0) (hIn : cLi ln (ts_P s) (ts_st s) wa we M) (hw : ∀ p, wyc wa we p = ts_w s p) (hP : ts_P s ≤ 20) (hst0 : 0 < ts_st s) (hst : ∀ p, p < ts_P s → p * ts_st s + ts_st s ≤ 40 ∧ ts_w s p ≤ ts_st s) {M1 : rg_M} {y1 : Nat → Rat} {r : Int32} (hE1 : cE u z rk c jf ln ng cg tb rn ro fx M1 y1) (hG : cG M M1) (hk : ∀ i, (i < 80 ∨ (i = 244 ∨ i = 247)) → y1 i = y i) (hr : (r = 1 ∧ ∀ p w, p < ts_P s → w < ts_w s p → y1 (80 + (p * ts_st s + w)) = ts_bR s p w ∧ y1 (120 + (p * ts_st s + w)) = ts_bS s p w ∧ (qB (ts_bR s p w) ≤ 256 ∧ qB (ts_bS s p w) ≤ 256)) ∨ (r = 0 ∧ ∃ p w, p < ts_P s ∧ w < ts_w s p ∧ ¬ (qB (ts_bR s p w) ≤ 256 ∧ qB (ts_bS s p w) ≤ 256))) : ∃ M', rT_round_41 tb r M1 = some (some (.int (ts_round s).1), M') ∧ cI u z rk c jf ln ng cg tb rn ro fx (ts_round s).2 M' ∧ cW rn M M' := by
  have A1 := hE1.1.all
  have hT1 := hT.G hG
  have hIn1 := hIn.G hG
  rcases hr with ⟨r1, v⟩ | ⟨r1, p, w, p1, p2, v⟩
  · have hF : ts_bF s := fun p hp w hw => (v p w hp hw).2.2
    obtain ⟨M', y', b1, b2, b3, b4, b5⟩ := cT_ad55 (tb := tb) (y := y1) (fR := ts_bR s) (fS := ts_bS s) hP (fun p hp => by rw [hw p]; exact hst p hp) (fun p w hp hw' => by rw [hw p] at hw'; exact ⟨qB_L (hF p hp w hw').1, qB_L (hF p hp w hw').2⟩) _ 0 rfl (Nat.zero_le _) M1 y1 hE1 hIn1 (fun p w hp hw' => by rw [hw p] at hw'; obtain ⟨t1, t2, -⟩ := v p w hp hw'; exact ⟨t1, t2⟩) (fun p w hp _ => by omega) (fun _ _ => rfl)
    have b1 : rT_round_55 tb 0 M1 = _ := b1
    rw [rT_round_41_e, if_neg (by rw [r1]; decide), b1, hT1.2.1]
    have G2 := hG.tr b5
    have hx : xT M' (rg_wI M' 103 tb (nI (ts_n s) + 1)) := xT_wI _ _ (by decide) (by decide)
    unfold ts_round
    rw [if_pos ⟨hg0, hF⟩, nI_1]
    rw [nI_1] at hx
    have ho : ∀ i, 80 ≤ i → y' i = y1 i := fun i hi => b4 i (fun p w hp hw' => by have := hst p hp; rw [hw p] at hw'; omega)
    refine ⟨_, rfl, ⟨y', 0, hx.1.E b2, ?_, ?_, fun q => ⟨hx.Li ((h1 q).1.G G2), fun i hi => ?_⟩, fun q => ⟨hx.Li ((h2 q).1.G G2), hx.Dk ((h2 q).2.1.G G2), ?_⟩, ?_, Or.inl rfl⟩, G2.W.tr hx.W⟩
    · show ∀ i, i < 80 → y' i = nwY (ts_y s) 0 (ts_P s) (ts_st s) (ts_w s) (ts_bR s) (ts_bS s) i
      refine nwY_of (y := ts_y s) (lo := 0) hst0 (fun p w _ hp hw' => ?_) (fun p w _ hp hw' => ?_) (fun i hi q => ?_)
      · have := hst p hp; omega
      · exact b3 p w hp (by rw [hw p]; exact hw')
      · rw [b4 i (fun p w hp hw' => q p w (Nat.zero_le _) hp (by rw [← hw p]; exact hw')), hk i (Or.inl hi)]; exact h80 i hi
    · rw [ho _ (by decide), hk _ (by omega)]; exact h247
    · rw [hx.2.2.2, G2.A hE.1]; exact (h1 q).2 i hi
    · rw [ho _ (by decide), hk _ (by omega)]; exact (h2 q).2.2
    · have := cTi_n (v := nI (ts_n s + 1)) (hT.G G2)
      rw [hr0] at this
      exact this
  · have hF : ¬ ts_bF s := fun q => v (q p p1 w p2)
    rw [rT_round_41_e, if_pos r1, if_pos ⟨A1.1.2.2.2.1, Or.inr rfl⟩]
    unfold ts_round
    rw [if_neg (fun q => hF q.2)]
    have hx : xT M1 (rg_wI M1 106 tb 1) := xT_wI _ _ (by decide) (by decide)
    refine ⟨_, rfl, ⟨y1, 1, hx.1.E hE1, fun i hi => by rw [hk i (Or.inl hi)]; exact h80 i hi, by rw [hk _ (by omega)]; exact h247, fun q => ⟨hx.Li ((h1 q).1.G hG), fun i hi => ?_⟩, fun q => ⟨hx.Li ((h2 q).1.G hG), hx.Dk ((h2 q).2.1.G hG), by rw [hk _ (by omega)]; exact (h2 q).2.2⟩, cTi_r hT1, Or.inr ⟨rfl, hF⟩⟩, hG.W.tr hx.W⟩
    rw [hx.2.2.2, hG.A hE.1]; exact (h1 q).2 i hi
theorem cT_round (h : cI u z rk c jf ln ng cg tb rn ro fx s M) (hok : ts_ok n s) : ∃ M', rT_round tb M = some ((ts_round s).1, M') ∧ cI u z rk c jf ln ng cg tb rn ro fx (ts_round s).2 M' ∧ cW rn M M' := by
  have h0 := h
  obtain ⟨y, r, hE, h80, h247, h1, h2, hT, hr⟩ := h
  have A := hE.1.all
  have gi : ∀ k : Nat, k < 3 → (nI (ts_g s) = nI k ↔ ts_g s = k) := fun k hk => nI_eq (by have := hok.1; omega) (by omega)
  have gi2 : (nI (ts_g s) = (2 : Int32)) ↔ ts_g s = 2 := gi 2 (by decide)
  have gi0 : (nI (ts_g s) = (0 : Int32)) ↔ ts_g s = 0 := gi 0 (by decide)
  have h9 := ts_L9 hok h80
  rw [rT_round_u, rT_round_e, if_pos A.1.2.2.2.1, hT.1]
  by_cases cg0 : ts_g s = 0
  · rw [if_pos (gi0.mpr cg0), rT_round_14_e]
    unfold ts_round
    rw [if_neg (fun q => q.1 cg0)]
    exact ⟨M, rfl, h0, cW.rf _ _⟩
  · rw [if_neg (fun q => cg0 (gi0.mp q)), if_pos A.1.2.2.2.1, hT.2.2.2.2]
    rcases hr with hr0 | ⟨hr1, hF⟩
    · rw [if_pos hr0, if_pos A.1.2.2.2.1]
      by_cases cg2 : ts_g s = 2
      · rw [if_pos (gi2.mpr cg2)]
        obtain ⟨hI, hK, hC⟩ := h2 cg2
        obtain ⟨d1, d2⟩ := hok.2.2.2.1 cg2
        have eP : ts_P s = 4 * ts_d s := by unfold ts_P; rw [if_pos cg2]
        have eS : ts_st s = 2 := by unfold ts_st; rw [if_pos cg2]
        have eW : ∀ p, ts_w s p = 2 := fun p => by unfold ts_w; rw [if_pos cg2]
        obtain ⟨M1, y1, r1, a1, a2, a3, a4, a5⟩ := cC_learn hE hI hK d1 d2 h9 hC
        have eR : ∀ p w, p < 4 * ts_d s → w < 2 → kR y (ts_d s) p w = ts_bR s p w := fun p w hp hw => by
          unfold ts_bR; rw [if_pos cg2]; exact kR_cong h80 d2 hp hw
        have eSn : ∀ p w, p < 4 * ts_d s → w < 2 → kS y p w = ts_bS s p w := fun p w hp hw => by
          unfold ts_bS; rw [if_pos cg2]; exact kS_cong h80 d2 hp hw
        obtain ⟨M', b1, b2, b3⟩ := cT_r41 (wa := 2) (we := 2) h0 hE h80 h247 h1 h2 hT hr0 cg0 (by rw [eP, eS]; exact hI) (fun p => by rw [eW]; unfold wyc; split <;> rfl) (by rw [eP]; omega) (by rw [eS]; decide) (fun p hp => by rw [eP] at hp; rw [eS, eW]; omega) a2 a3 a4 (by
          rcases a5 with ⟨q1, q2⟩ | ⟨q1, p, w, p1, p2, q2⟩
          · refine Or.inl ⟨q1, fun p w hp hw => ?_⟩
            rw [eP] at hp
            rw [eW] at hw
            obtain ⟨t1, t2, t3⟩ := q2 p w hp hw
            unfold kFit at t3
            rw [eR p w hp hw] at t1 t3
            rw [eSn p w hp hw] at t2 t3
            rw [eS]
            exact ⟨t1, t2, t3⟩
          · refine Or.inr ⟨q1, p, w, by rw [eP]; exact p1, by rw [eW]; exact p2, ?_⟩
            unfold kFit at q2
            rw [eR p w p1 p2, eSn p w p1 p2] at q2
            exact q2)
        simp only [A, if_true, Option.bind_some, a1, b1]
        exact ⟨M', rfl, b2, b3⟩
      · have cg1 : ts_g s = 1 := by have := hok.1; omega
        rw [if_neg (fun q => cg2 (gi2.mp q))]
        obtain ⟨hI, hA⟩ := h1 cg1
        obtain ⟨w1, w2, w3, w4⟩ := hok.2.1 cg1
        have hw := fun p => hok.w cg1 p
        have hok' : tOk (ts_a s) (ts_e s) (rg_A M rn) y := ⟨w1, w2, w3, w4, fun i hi => by rw [hA i hi]; exact hok.2.2.2.2.2.1 i hi, h9⟩
        have eP : ts_P s = 2 := by unfold ts_P; rw [if_neg cg2, if_pos cg1]
        have eS : ts_st s = 5 := by unfold ts_st; rw [if_neg cg2]
        have eW : ∀ p, ts_w s p = wyc (ts_a s) (ts_e s) p := fun p => by unfold ts_w; rw [if_neg cg2]
        obtain ⟨M1, y1, r1, a1, a2, a3, a4, a5⟩ := cN_learn hE hI hok'
        have hmu : ∀ p, p < 2 → ∀ w, w < wyc (ts_a s) (ts_e s) p → tMx y 0 (ts_a s) (ts_e s) p w = tMx (ts_y s) 0 (ts_a s) (ts_e s) p w := fun p hp w hw' => tMx_cong h80 (Or.inl rfl) hp (hw p).2 hw'
        have eR : ∀ p w, p < 2 → w < wyc (ts_a s) (ts_e s) p → tR y (tMx y 0 (ts_a s) (ts_e s) p) (tMx y 0 (ts_a s) (ts_e s) (1 - p)) (rg_A M rn) p (wyc (ts_a s) (ts_e s) p) (wyc (ts_a s) (ts_e s) (1 - p)) w = ts_bR s p w := fun p w hp hw2 => by
          unfold ts_bR; rw [if_neg cg2]; exact tR_cong h80 (hmu p hp) (hmu (1 - p) (by omega)) hA (hw p).2 (hw _).2 hp hw2
        have eSn : ∀ p w, p < 2 → w < wyc (ts_a s) (ts_e s) p → tS y (tMx y 0 (ts_a s) (ts_e s) p) p w = ts_bS s p w := fun p w hp hw2 => by
          unfold ts_bS; rw [if_neg cg2]; exact tS_cong h80 (hmu p hp w hw2) hp (by have := hw p; omega)
        obtain ⟨M', b1, b2, b3⟩ := cT_r41 (wa := ts_a s) (we := ts_e s) h0 hE h80 h247 h1 h2 hT hr0 cg0 (by rw [eP, eS]; exact hI) (fun p => by rw [eW]) (by rw [eP]; omega) (by rw [eS]; decide) (fun p hp => by rw [eP] at hp; rw [eS, eW]; have := hw p; omega) a2 a3 (fun i hi => a4 i (by omega)) (by
          rcases a5 with ⟨q1, q2⟩ | ⟨q1, p, w, p1, p2, q2⟩
          · refine Or.inl ⟨q1, fun p w hp hw => ?_⟩
            rw [eP] at hp
            rw [eW] at hw
            obtain ⟨t1, t2, t3⟩ := q2 p w hp hw
            unfold tFit at t3
            rw [eR p w hp hw] at t1 t3
            rw [eSn p w hp hw] at t2 t3
            rw [eS]
            exact ⟨t1, t2, t3⟩
          · refine Or.inr ⟨q1, p, w, by rw [eP]; exact p1, by rw [eW]; exact p2, ?_⟩
            unfold tFit at q2
            rw [eR p w p1 p2, eSn p w p1 p2] at q2
            exact q2)
        simp only [A, if_true, Option.bind_some, a1, b1]
        exact ⟨M', rfl, b2, b3⟩
    · rw [if_neg (by rw [hr1]; decide), rT_round_14_e]
      unfold ts_round
      rw [if_neg (fun q => hF q.2)]
      exact ⟨M, rfl, h0, cW.rf _ _⟩
/-- the state, with another number viewed -/
theorem cI_V {M' : rg_M} {y' : Nat → Rat} {r : Int32} {v : Rat} (hE : cE u z rk c jf ln ng cg tb rn ro fx M y) (h80 : ∀ i, i < 80 → y i = ts_y s i) (h1 : ts_g s = 1 → cLi ln 2 5 (ts_a s) (ts_e s) M ∧ ∀ i, i < 25 → rg_A M rn i = ts_num s i) (h2 : ts_g s = 2 → cLi ln (4 * ts_d s) 2 2 2 M ∧ cDk cg (ts_d s) M ∧ y 244 = chN (ts_d s)) (hT : cTi tb (nI (ts_g s)) (nI (ts_n s)) (nI (ts_na s)) (nI (ts_nb s)) r M) (hr : r = 0 ∨ (r = 1 ∧ ¬ ts_bF s)) (hE' : cE u z rk c jf ln ng cg tb rn ro fx M' y') (hG : cG M M') (he : ∀ i, (i < 80 ∨ i = 244) → y' i = y i) (hv : y' 247 = v) : cI u z rk c jf ln ng cg tb rn ro fx (ts_setV s v) M' := by
  refine ⟨y', r, hE', fun i hi => by rw [he i (Or.inl hi)]; exact h80 i hi, hv, fun q => ?_, fun q => ?_, hT.G hG, hr⟩
  · obtain ⟨a1, a2⟩ := h1 q
    exact ⟨a1.G hG, fun i hi => by rw [hG.A hE.1]; exact a2 i hi⟩
  · obtain ⟨a1, a2, a3⟩ := h2 q
    exact ⟨a1.G hG, a2.G hG, by rw [he 244 (Or.inr rfl)]; exact a3⟩
/-- one way's number is viewed -/
theorem cT_vw58 (hE : cE u z rk c jf ln ng cg tb rn ro fx M y) (hIn : cLi ln P st wa we M) {x : Int32} {kk p w : Nat} (hkk : kk < 2) (hx : x = nI kk ∨ x = nI (2 + kk)) (hp : p < 20) (hst : p * st + wyc wa we p ≤ 40) (hn : wyc wa we p ≤ 5) (hw : w < wyc wa we p) (h9 : ∀ i, i < 80 → qL (y i) 9) : ∃ M' y', rT_viewWay_58 tb x (nI p) (nI (p * st + w)) (ro kk) M = some (some (.int 1), M') ∧ cE u z rk c jf ln ng cg tb rn ro fx M' y' ∧ (∀ i, i ≠ 240 → (i < 160 ∨ (200 ≤ i ∧ i ≠ 247)) → y' i = y i) ∧ cG M M' ∧ y' 247 = (if x = nI kk then y (40 * kk + (p * st + w)) else mx (fun w => y (40 * kk + (p * st + w))) (wyc wa we p) w) ∧ qL (y' 247) 425 := by
  have A := hE.1.all
  have k1 := nI_clamp (n := p * st + w) (by omega)
  have k2 := rm_i0 (a := p * st + w) (by omega)
  have k3 : p * st + w < 40 := by omega
  rw [rT_viewWay_58_e]
  by_cases c2 : x = nI kk
  · have hl : ¬ (1 : Int32) < x := by rw [c2]; rcases (show kk = 0 ∨ kk = 1 by omega) with e | e <;> subst e <;> decide
    have q0 := hE.1.q (k := kk) (i := p * st + w) (by omega) k3
    have krow : rg_K M (ro kk) = 12 ∧ rg_L M (ro kk) = 40 := (hE.1.2.2.2.2.2.2.1 kk (by omega)).2
    have l9 := h9 (40 * kk + (p * st + w)) (by omega)
    obtain ⟨M1, a1, a2, a3⟩ := cE_copy hE (i := 247) (j := 40 * kk + (p * st + w)) (k := 9) (Or.inl (by decide)) (Or.inl (by omega)) (by omega) (by decide) l9
    rw [if_neg hl, if_pos c2]
    simp only [A, if_true, Option.bind_some, krow, k1, k2, k3, and_self, q0, a1, rT_viewWay_107_e]
    exact ⟨M1, _, rfl, a2, fun i hi hi2 => rg_up_ne (by omega), a3, rg_up_eq, by rw [rg_up_eq]; exact l9.mono (by decide)⟩
  · have hl : (1 : Int32) < x := by
      rcases hx with e | e
      · exact absurd e c2
      · rw [e]; rcases (show kk = 0 ∨ kk = 1 by omega) with e | e <;> subst e <;> decide
    obtain ⟨M1, y1, a1, a2, a3, a4, a5⟩ := cL_findParts hE hIn hkk hp hst hn (by omega) (fun w hw => h9 _ (by omega))
    have A1 := a2.1.all
    have q4 := a2.1.q (k := 4) (i := p * st + w) (by omega) k3
    rw [show 40 * 4 + (p * st + w) = 160 + (p * st + w) by omega] at q4
    have e4 : y1 (160 + (p * st + w)) = mx (fun w => y (40 * kk + (p * st + w))) (wyc wa we p) w := by
      rw [show 160 + (p * st + w) = 160 + p * st + w by omega]; exact a4 w hw
    obtain ⟨D, d1, d2, d3⟩ := mx_facts (f := fun w => y (40 * kk + (p * st + w))) (n := wyc wa we p) (by omega) hn (fun v hv => h9 _ (by omega))
    obtain ⟨d4, d5, d6⟩ := d3 w hw
    have lm : qL (mx (fun w => y (40 * kk + (p * st + w))) (wyc wa we p) w) 47 := (d4.L (b := 1) d1 d2 (by decide) (Rat.le_trans (by decide) d5) d6).mono (by omega)
    obtain ⟨M2, b1, b2, b3⟩ := cE_copy a2 (i := 247) (j := 160 + (p * st + w)) (k := 47) (Or.inl (by decide)) (Or.inl (by omega)) (by omega) (by decide) (by rw [e4]; exact lm)
    rw [if_pos hl, if_neg c2]
    simp only [A, A1, if_true, Option.bind_some, a1, k1, k2, k3, and_self, q4, b1, rT_viewWay_107_e]
    refine ⟨M2, _, rfl, b2, fun i hi hi2 => ?_, a5.tr b3, by rw [rg_up_eq, e4], by rw [rg_up_eq, e4]; exact lm.mono (by decide)⟩
    rw [rg_up_ne (by omega), a3 i hi (by omega)]
/-- the places as the Learning has them -/
theorem ts_Li (hok : ts_ok n s) (h1 : ts_g s = 1 → cLi ln 2 5 (ts_a s) (ts_e s) M) (h2 : ts_g s = 2 → cLi ln (4 * ts_d s) 2 2 2 M) (hg : ts_g s ≠ 0) : ∃ wa we, cLi ln (ts_P s) (ts_st s) wa we M ∧ (∀ p, wyc wa we p = ts_w s p) ∧ ts_P s ≤ 20 ∧ wa < 100 ∧ we < 100 ∧ ∀ p, p < ts_P s → p * ts_st s + ts_st s ≤ 40 ∧ ts_w s p ≤ ts_st s ∧ ts_w s p ≤ 5 := by
  by_cases cg2 : ts_g s = 2
  · obtain ⟨d1, d2⟩ := hok.2.2.2.1 cg2
    have eP : ts_P s = 4 * ts_d s := by unfold ts_P; rw [if_pos cg2]
    have eS : ts_st s = 2 := by unfold ts_st; rw [if_pos cg2]
    have eW : ∀ p, ts_w s p = 2 := fun p => by unfold ts_w; rw [if_pos cg2]
    refine ⟨2, 2, by rw [eP, eS]; exact h2 cg2, fun p => by rw [eW]; unfold wyc; split <;> rfl, by omega, by decide, by decide, fun p hp => by rw [eP] at hp; rw [eS, eW]; omega⟩
  · have cg1 : ts_g s = 1 := by have := hok.1; omega
    obtain ⟨w1, w2, w3, w4⟩ := hok.2.1 cg1
    have eP : ts_P s = 2 := by unfold ts_P; rw [if_neg cg2, if_pos cg1]
    have eS : ts_st s = 5 := by unfold ts_st; rw [if_neg cg2]
    have eW : ∀ p, ts_w s p = wyc (ts_a s) (ts_e s) p := fun p => by unfold ts_w; rw [if_neg cg2]
    refine ⟨ts_a s, ts_e s, by rw [eP, eS]; exact h1 cg1, fun p => by rw [eW], by omega, by omega, by omega, fun p hp => by rw [eP] at hp; rw [eS, eW]; have := hok.w cg1 p; omega⟩
theorem ts_mix_cong (h80 : ∀ i, i < 80 → y i = ts_y s i) {o p w : Nat} (ho : o = 0 ∨ o = 40) (hst : p * ts_st s + ts_w s p ≤ 40) (hw : w < ts_w s p) : mx (fun w => y (o + (p * ts_st s + w))) (ts_w s p) w = ts_mix s o p w := mx_cong (fun k hk => h80 _ (by omega)) hw
theorem cT_viewWay (h : cI u z rk c jf ln ng cg tb rn ro fx s M) (hok : ts_ok n s) {x : Int32} (hx : 0 ≤ x ∧ x ≤ 3) (p w : Int32) : ∃ M', rT_viewWay tb x p w M = some ((ts_view s x p w).1, M') ∧ cI u z rk c jf ln ng cg tb rn ro fx (ts_view s x p w).2 M' ∧ cW rn M M' ∧ ts_ok n (ts_view s x p w).2 ∧ ((ts_view s x p w).1 = 0 ∨ (ts_view s x p w).1 = 1) := by
  have h0 := h
  obtain ⟨y, r, hE, h80, h247, h1, h2, hT, hr⟩ := h
  have A := hE.1.all
  have gi0 : (nI (ts_g s) = (0 : Int32)) ↔ ts_g s = 0 := nI_eq (b := 0) (by have := hok.1; omega) (by omega)
  have h9 := ts_L9 hok h80
  rw [rT_viewWay_u, rT_viewWay_e, if_pos A.1.2.2.2.1, hT.1]
  unfold ts_view
  by_cases cg0 : ts_g s = 0
  · rw [if_pos (gi0.mpr cg0), rT_viewWay_19_e, if_pos cg0]
    exact ⟨M, rfl, h0, cW.rf _ _, hok, Or.inl rfl⟩
  · rw [if_neg (fun q => cg0 (gi0.mp q)), if_neg cg0, if_pos hx]
    obtain ⟨wa, we, hIn, hw, hP, ha, he, hst⟩ := ts_Li hok (fun q => (h1 q).1) (fun q => (h2 q).1) cg0
    obtain ⟨r1, b1, b2, b3⟩ := cL_has A.1.1 hIn (by omega) ha he p w
    have b3' : r1 = 1 ↔ ((0 ≤ p ∧ p.toNatClampNeg < ts_P s) ∧ (0 ≤ w ∧ w.toNatClampNeg < ts_w s p.toNatClampNeg)) := by
      rw [b3]
      constructor
      · rintro ⟨p', k, q1, q2, q3, q4⟩
        rw [hw p'] at q2
        have := (hst p' q1).2.2
        rw [q3, q4, nI_clamp (by omega), nI_clamp (by omega)]
        exact ⟨⟨nI_pos' (by omega), q1⟩, nI_pos' (by omega), q2⟩
      · rintro ⟨q1, q2⟩
        obtain ⟨p', k1, k2⟩ := (nI_has (by omega)).mp q1
        subst k2
        rw [nI_clamp (by omega)] at q2
        have := (hst p' k1).2.2
        obtain ⟨w', l1, l2⟩ := (nI_has (by omega)).mp q2
        exact ⟨p', w', k1, by rw [hw]; exact l1, rfl, l2⟩
    simp only [A, if_true, Option.bind_some, b1]
    by_cases cb : r1 = 1
    · have q := b3'.mp cb
      rw [if_neg (by rw [cb]; decide), if_pos q]
      obtain ⟨p', k1, k2⟩ := (nI_has (by omega)).mp q.1
      subst k2
      rw [nI_clamp (by omega)] at q ⊢
      have hsp := hst p' k1
      obtain ⟨w', l1, l2⟩ := (nI_has (by omega)).mp q.2
      subst l2
      rw [nI_clamp (by omega)] at q ⊢
      have hsl := cL_slot A.1.1 hIn p' w'
      simp only [A, if_true, Option.bind_some, hsl]
      obtain ⟨kx, kx1, kx2, kx3⟩ := nI_rng (a := 0) (b := 3) (x := x) (by decide) hx (by decide)
      -- row and way of looking
      have go : ∀ kk, kk < 2 → (x = nI kk ∨ x = nI (2 + kk)) → ts_vw s x p' w' = (if x = nI kk then ts_y s (40 * kk + (p' * ts_st s + w')) else ts_mix s (40 * kk) p' w') → ∃ M', rT_viewWay_58 tb x (nI p') (nI (p' * ts_st s + w')) (ro kk) M = some (some (.int 1), M') ∧ cI u z rk c jf ln ng cg tb rn ro fx (ts_setV s (ts_vw s x p' w')) M' ∧ cW rn M M' ∧ ts_ok n (ts_setV s (ts_vw s x p' w')) := by
        intro kk hkk hxk hvw
        obtain ⟨M', y', d1, d2, d3, d4, d5, d6⟩ := cT_vw58 (tb := tb) hE hIn hkk hxk (p := p') (w := w') (by omega) (by rw [hw]; omega) (by rw [hw]; omega) (by rw [hw]; omega) h9
        have ev : y' 247 = ts_vw s x p' w' := by
          rw [d5, hvw, hw p', h80 _ (by omega), ts_mix_cong h80 (by omega) (by omega) l1]
        refine ⟨M', d1, cI_V hE h80 h1 h2 hT hr d2 d4 (fun i hi => d3 i (by omega) (by omega)) ev, d4.W, ts_ok_V hok ?_⟩
        rw [← ev]; exact d6
      have kr := A.2.1
      rcases (show kx = 0 ∨ kx = 1 ∨ kx = 2 ∨ kx = 3 by omega) with e | e | e | e
      · subst e
        obtain ⟨M', g1, g2, g3, g4⟩ := go 0 (by decide) (Or.inl kx3) (by rw [kx3, if_pos rfl]; unfold ts_vw; rw [if_pos (show nI 0 = (0 : Int32) from rfl)]; congr 1; omega)
        rw [if_pos (show x = (0 : Int32) from kx3), rT_viewWay_41_e]
        simp only [A, if_true, Option.bind_some, g1]
        exact ⟨M', rfl, g2, g3, g4, Or.inr trivial⟩
      · subst e
        obtain ⟨M', g1, g2, g3, g4⟩ := go 1 (by decide) (Or.inl kx3) (by rw [kx3, if_pos rfl]; unfold ts_vw; rw [if_neg (by decide), if_pos (show nI 1 = (1 : Int32) from rfl)])
        rw [if_neg (by rw [kx3]; decide), if_neg (by rw [kx3]; decide)]
        simp only [A, if_true, Option.bind_some, g1]
        exact ⟨M', rfl, g2, g3, g4, Or.inr trivial⟩
      · subst e
        obtain ⟨M', g1, g2, g3, g4⟩ := go 0 (by decide) (Or.inr kx3) (by rw [kx3, if_neg (by decide)]; unfold ts_vw; rw [if_neg (by decide), if_neg (by decide), if_pos (show nI 2 = (2 : Int32) from rfl)])
        rw [if_neg (by rw [kx3]; decide), if_pos (show x = (2 : Int32) from kx3), rT_viewWay_41_e]
        simp only [A, if_true, Option.bind_some, g1]
        exact ⟨M', rfl, g2, g3, g4, Or.inr trivial⟩
      · subst e
        obtain ⟨M', g1, g2, g3, g4⟩ := go 1 (by decide) (Or.inr kx3) (by rw [kx3, if_neg (by decide)]; unfold ts_vw; rw [if_neg (by decide), if_neg (by decide), if_neg (by decide)])
        rw [if_neg (by rw [kx3]; decide), if_neg (by rw [kx3]; decide)]
        simp only [A, if_true, Option.bind_some, g1]
        exact ⟨M', rfl, g2, g3, g4, Or.inr trivial⟩
    · have : r1 = 0 := by rcases b2 with q | q; exact q; exact absurd q cb
      rw [if_pos this, rT_viewWay_19_e, if_neg (fun q => cb (b3'.mpr q))]
      exact ⟨M, rfl, h0, cW.rf _ _, hok, Or.inl rfl⟩
/-- a best answer is viewed -/
theorem cT_view87 (h : cI u z rk c jf ln ng cg tb rn ro fx s M) (hok : ts_ok n s) (hg : ts_g s ≠ 0) {who : Nat} (hw : who < 3) : ∃ M', rT_view_87 tb (nI who) M = some (some (.int 1), M') ∧ cI u z rk c jf ln ng cg tb rn ro fx (ts_setV s (ts_best s who)) M' ∧ cW rn M M' ∧ ts_ok n (ts_setV s (ts_best s who)) := by
  obtain ⟨y, r, hE, h80, h247, h1, h2, hT, hr⟩ := h
  have A := hE.1.all
  have gi2 : (nI (ts_g s) = (2 : Int32)) ↔ ts_g s = 2 := nI_eq (b := 2) (by have := hok.1; omega) (by omega)
  have h9 := ts_L9 hok h80
  rw [rT_view_87_e, if_pos A.1.2.2.2.1, hT.1]
  by_cases cg2 : ts_g s = 2
  · rw [if_pos (gi2.mpr cg2)]
    obtain ⟨hI, hK, hC⟩ := h2 cg2
    obtain ⟨d1, d2⟩ := hok.2.2.2.1 cg2
    obtain ⟨M1, y1, a1, a2, a3, a4, a5, a6⟩ := cC_findBest hE hI hK d1 d2 h9 hC (bi := 247) (Or.inl rfl) hw
    have ev : y1 247 = ts_best s who := by
      unfold ts_best
      rw [a5, if_pos cg2]
      exact kBest_cong (cmu_cong h80 (Or.inr rfl) d2) who
    simp only [A, if_true, Option.bind_some, a1, rT_view_126_e]
    rw [ev] at a6
    exact ⟨M1, rfl, cI_V hE h80 h1 h2 hT hr a2 a3 (fun i hi => a4 i (by omega) (by omega)) ev, a3.W, ts_ok_V hok a6⟩
  · have cg1 : ts_g s = 1 := by have := hok.1; omega
    rw [if_neg (fun q => cg2 (gi2.mp q))]
    obtain ⟨hI, hA⟩ := h1 cg1
    obtain ⟨w1, w2, w3, w4⟩ := hok.2.1 cg1
    have hok' : tOk (ts_a s) (ts_e s) (rg_A M rn) y := ⟨w1, w2, w3, w4, fun i hi => by rw [hA i hi]; exact hok.2.2.2.2.2.1 i hi, h9⟩
    obtain ⟨M1, y1, a1, a2, a3, a4, a5, a6⟩ := cN_findBest hE hI hok' (bi := 247) (Or.inl rfl) hw
    have eb : tBests y (rg_A M rn) (ts_a s) (ts_e s) who = ts_best s who := by
      unfold ts_best
      rw [if_neg cg2]
      exact tBests_cong h80 hA (fun q => hok.w cg1 q)
    rw [eb] at a3 a6
    simp only [A, if_true, Option.bind_some, a1, rT_view_126_e]
    exact ⟨M1, rfl, cI_V hE h80 h1 h2 hT hr a2 a5 (fun i hi => a4 i (by omega) (by omega)) a3, a5.W, ts_ok_V hok (a6.mono (by decide))⟩
theorem cT_view (h : cI u z rk c jf ln ng cg tb rn ro fx s M) (hok : ts_ok n s) (x p w : Int32) : ∃ M', rT_view tb x p w M = some ((ts_view s x p w).1, M') ∧ cI u z rk c jf ln ng cg tb rn ro fx (ts_view s x p w).2 M' ∧ cW rn M M' ∧ ts_ok n (ts_view s x p w).2 := by
  have A : rg_K M tb = 7 := by obtain ⟨y, r, hE, -⟩ := h; exact hE.1.all.1.2.2.2.1
  have hT : rg_I M 102 tb = nI (ts_g s) := by obtain ⟨y, r, hE, h80, h247, h1, h2, hT, hr⟩ := h; exact hT.1
  have gi0 : (nI (ts_g s) = (0 : Int32)) ↔ ts_g s = 0 := nI_eq (b := 0) (by have := hok.1; omega) (by omega)
  rw [rT_view_u, rT_view_e, cT_isWithin]
  simp only [Option.bind_some]
  by_cases c03 : 0 ≤ x ∧ x ≤ 3
  · rw [if_pos c03, if_neg (by decide), if_pos A]
    obtain ⟨M', a1, a2, a3, a4, a5⟩ := cT_viewWay h hok c03 p w
    rw [a1]
    simp only [Option.bind_some]
    rw [if_pos a5]
    exact ⟨M', rfl, a2, a3, a4⟩
  · rw [if_neg c03, if_pos rfl]
    -- nothing else may be viewed
    have no : ∀ v4 s0 : Int32, (ts_g s ≠ 0 → w = 0 → v4 = 0 ∧ s0 = 0) → ts_view s x p w = (0, s) → ∃ M', rg_ui (rT_view_52 tb p w v4 s0 M) = some ((ts_view s x p w).1, M') ∧ cI u z rk c jf ln ng cg tb rn ro fx (ts_view s x p w).2 M' ∧ cW rn M M' ∧ ts_ok n (ts_view s x p w).2 := by
      intro v4 s0 hq hv
      rw [hv, rT_view_52_e, if_pos A, hT]
      by_cases cg0 : ts_g s = 0
      · rw [if_pos (gi0.mpr cg0), rT_view_75_e]
        exact ⟨M, rfl, h, cW.rf _ _, hok⟩
      · rw [if_neg (fun q => cg0 (gi0.mp q))]
        by_cases cw : w = 0
        · obtain ⟨q1, q2⟩ := hq cg0 cw
          rw [if_pos cw, if_pos q1, if_pos q2, rT_view_75_e]
          exact ⟨M, rfl, h, cW.rf _ _, hok⟩
        · rw [if_neg cw, rT_view_75_e]
          exact ⟨M, rfl, h, cW.rf _ _, hok⟩
    have vno : (ts_g s ≠ 0 → w = 0 → ¬ (x = 4 ∧ p = 0) ∧ ¬ (x = 4 ∧ p = 1) ∧ ¬ (x = 5 ∧ p = 0)) → ts_view s x p w = (0, s) := fun hq => by
      unfold ts_view
      by_cases cg0 : ts_g s = 0
      · rw [if_pos cg0]
      · rw [if_neg cg0, if_neg c03]
        by_cases cw : w = 0
        · obtain ⟨q1, q2, q3⟩ := hq cg0 cw
          rw [if_neg (fun q => q1 q.2), if_neg (fun q => q2 q.2), if_neg (fun q => q3 q.2)]
        · rw [if_neg (fun q => cw q.1), if_neg (fun q => cw q.1), if_neg (fun q => cw q.1)]
    by_cases c4 : x = 4
    · rw [if_pos c4, cT_isWithin]
      simp only [Option.bind_some]
      by_cases cp : 0 ≤ p ∧ p ≤ 1
      · rw [if_pos cp, if_neg (by decide), rT_view_36_e, if_neg (by rw [c4]; decide), rT_view_51_e]
        obtain ⟨k, k1, k2, k3⟩ := nI_rng (a := 0) (b := 1) (x := p) (by decide) cp (by decide)
        by_cases cg0 : ts_g s = 0
        · rw [rT_view_52_e, if_pos A, hT, if_pos (gi0.mpr cg0), rT_view_75_e, vno (fun q => absurd cg0 q)]
          exact ⟨M, rfl, h, cW.rf _ _, hok⟩
        by_cases cw : w = 0
        · obtain ⟨M', a1, a2, a3, a4⟩ := cT_view87 h hok cg0 (who := k) (by omega)
          have ev : ts_view s x p w = (1, ts_setV s (ts_best s k)) := by
            unfold ts_view
            rw [if_neg cg0, if_neg c03]
            rcases (show k = 0 ∨ k = 1 by omega) with e | e
            · subst e; rw [if_pos ⟨cw, c4, k3⟩]
            · subst e; rw [if_neg (fun q => absurd (k3.symm.trans q.2.2) (by decide)), if_pos ⟨cw, c4, k3⟩]
          rw [ev, rT_view_52_e, if_pos A, hT, if_neg (fun q => cg0 (gi0.mp q)), if_pos cw, if_neg (by decide), rT_view_77_e, if_pos rfl, k3, a1]
          exact ⟨M', rfl, a2, a3, a4⟩
        · rw [rT_view_52_e, if_pos A, hT, if_neg (fun q => cg0 (gi0.mp q)), if_neg cw, rT_view_75_e, vno (fun _ q => absurd q cw)]
          exact ⟨M, rfl, h, cW.rf _ _, hok⟩
      · rw [if_neg cp, if_pos rfl, rT_view_35_e, rT_view_36_e, if_neg (by rw [c4]; decide), rT_view_51_e]
        refine no 0 0 (fun _ _ => ⟨rfl, rfl⟩) (vno (fun _ _ => ⟨fun q => cp (by rw [q.2]; decide), fun q => cp (by rw [q.2]; decide), fun q => absurd (c4.symm.trans q.1) (by decide)⟩))
    · rw [if_neg c4, rT_view_35_e, rT_view_36_e]
      by_cases c5 : x = 5
      · rw [if_pos c5]
        by_cases cp : p = 0
        · rw [if_pos cp]
          by_cases cg0 : ts_g s = 0
          · rw [rT_view_52_e, if_pos A, hT, if_pos (gi0.mpr cg0), rT_view_75_e, vno (fun q => absurd cg0 q)]
            exact ⟨M, rfl, h, cW.rf _ _, hok⟩
          by_cases cw : w = 0
          · obtain ⟨M', a1, a2, a3, a4⟩ := cT_view87 h hok cg0 (who := 2) (by decide)
            have a1 : rT_view_87 tb 2 M = _ := a1
            have ev : ts_view s x p w = (1, ts_setV s (ts_best s 2)) := by
              unfold ts_view
              rw [if_neg cg0, if_neg c03, if_neg (fun q => c4 q.2.1), if_neg (fun q => c4 q.2.1), if_pos ⟨cw, c5, cp⟩]
            rw [ev, rT_view_52_e, if_pos A, hT, if_neg (fun q => cg0 (gi0.mp q)), if_pos cw, if_pos rfl, if_neg (by decide), rT_view_77_e, if_neg (by decide), a1]
            exact ⟨M', rfl, a2, a3, a4⟩
          · rw [rT_view_52_e, if_pos A, hT, if_neg (fun q => cg0 (gi0.mp q)), if_neg cw, rT_view_75_e, vno (fun _ q => absurd q cw)]
            exact ⟨M, rfl, h, cW.rf _ _, hok⟩
        · rw [if_neg cp, rT_view_51_e]
          exact no 0 0 (fun _ _ => ⟨rfl, rfl⟩) (vno (fun _ _ => ⟨fun q => c4 q.1, fun q => c4 q.1, fun q => cp q.2⟩))
      · rw [if_neg c5, rT_view_51_e]
        exact no 0 0 (fun _ _ => ⟨rfl, rfl⟩) (vno (fun _ _ => ⟨fun q => c4 q.1, fun q => c4 q.1, fun q => c5 q.1⟩))
end

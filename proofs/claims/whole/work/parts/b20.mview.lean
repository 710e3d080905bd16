/-! the reference: view -/
section
variable {m aS aL aG aN aB : Nat} {M : rg_M}
theorem mBad_V (s : sS) (v : Rat) (k : Nat) : mBad (ts_setV s v) k = mBad s k := rfl
/-- another number is viewed -/
theorem mI_V {s : sS} {v : Rat} (h : mI m aS aL aG aN aB s M) {S L G : Nat → Int32} {V V' : Nat → Int} (hs : mV s V) (hV : rm_V S L G V') (h1 : ∀ q, q < 160 → V' q = V q) (h2 : V' 413 = V 413) (h3 : V' 380 = v.num) (h4 : V' 381 = (v.den : Int)) : mI m aS aL aG aN aB (ts_setV s v) (rm_w aS aL aG M S L G) := by
  refine mI_w (s := s) (s' := ts_setV s v) h hV ⟨fun hg i hi => ?_, h3, h4, by rw [h2]; exact hs.2.2.2⟩ rfl rfl rfl (fun k q => by rw [mBad_V]; exact q)
  rw [h1 _ (by omega), h1 _ (by omega), h1 _ (by omega), h1 _ (by omega)]
  exact hs.1 hg i hi
theorem rm_vw103 {s : sS} {n p w kk : Nat} (h : mI m aS aL aG aN aB s M) (hok : ts_ok n s) (hg : ts_g s ≠ 0) (hkk : kk < 2) (hp : p < ts_P s) (hw : w < ts_w s p) : ∃ M', rM_view_103 m (nI p) (nI w) (nI (80 * kk)) M = some (some (.int 1), M') ∧ mI m aS aL aG aN aB (ts_setV s (ts_y s (40 * kk + (p * ts_st s + w)))) M' ∧ mX aS aL aG aN aB M M' := by
  have h0 := h
  obtain ⟨H, ⟨i1, i2, i3, i4, i5, i6, i7⟩, ⟨V, hV, hs⟩, hN, hB⟩ := h
  obtain ⟨e1, e2, e3, hP, hst0, hst⟩ := ts_rm hok hg
  obtain ⟨q1, q2, q3, q4⟩ := hst p hp
  have g3 : ts_g s < 3 := by have := hok.1; omega
  have hK := H.1
  have hyB := hok.2.2.2.2.2.2.1
  obtain ⟨sl, hsl⟩ : ∃ sl, sl = p * ts_st s + w := ⟨_, rfl⟩
  rw [← hsl]
  have hsl40 : sl < 40 := by omega
  have s1 := hs.1 hg sl hsl40
  have sl0 : ∀ S L G, rM_slot m (nI p) (nI w) (rm_w aS aL aG M S L G) = some (nI sl, (rm_w aS aL aG M S L G)) := fun S L G => by rw [hsl, ← e3]; exact rm_slot (m := m) (M := (rm_w aS aL aG M S L G)) hK i1 g3
  have v1 : V (80 * kk + sl) = (ts_y s (40 * kk + sl)).num ∧ V (80 * kk + sl + 40) = ((ts_y s (40 * kk + sl)).den : Int) := by
    rcases (show kk = 0 ∨ kk = 1 by omega) with e | e
    · subst e
      rw [show 80 * 0 + sl + 40 = 40 + sl by omega, show 80 * 0 + sl = sl by omega]
      exact ⟨s1.1, s1.2.1⟩
    · subst e
      rw [show 80 * 1 + sl + 40 = 120 + sl by omega]
      exact ⟨s1.2.2.1, s1.2.2.2⟩
  have l8 := qB_lt8 (hyB (40 * kk + sl) (by omega))
  obtain ⟨S1, L1, G1, t1, t2⟩ := rm_copyV H (a := 80 * kk + sl) (c := 380) (by omega) (by omega) (by decide) hV (by rw [v1.1]; exact l8.1.mono (by decide))
  rw [v1.1] at t2
  have t1 : rM_copy m (nI (80 * kk + sl)) 380 (rm_w aS aL aG M (rg_A M aS) (rg_A M aL) (rg_A M aG)) = _ := t1
  have e0 : va_up V 380 (ts_y s (40 * kk + sl)).num (80 * kk + sl + 40) = ((ts_y s (40 * kk + sl)).den : Int) := by rw [rg_up_ne (by omega)]; exact v1.2
  obtain ⟨S2, L2, G2, u1, u2⟩ := rm_copyV H (a := 80 * kk + sl + 40) (c := 381) (by omega) (by omega) (by decide) t2 (by rw [e0]; exact l8.2.mono (by decide))
  rw [e0] at u2
  have u1 : rM_copy m (nI (80 * kk + sl + 40)) 381 (rm_w aS aL aG M S1 L1 G1) = _ := u1
  have ea : nI (80 * kk) + nI sl = nI (80 * kk + sl) := nI_add _ _
  have eb : nI (80 * kk + sl) + (40 : Int32) = nI (80 * kk + sl + 40) := by rw [show (40 : Int32) = nI 40 from rfl, nI_add]
  have sl1 := sl0 (rg_A M aS) (rg_A M aL) (rg_A M aG)
  rw [rm_wid] at sl1 t1
  rw [rM_view_103_e]
  simp only [rm_wK, hK, if_true, sl1, Option.bind_some, ea, eb, t1, u1]
  exact ⟨_, rfl, mI_V h0 hs u2 (fun q hq => by rw [rg_up_ne (by omega), rg_up_ne (by omega)]) (by rw [rg_up_ne (by decide), rg_up_ne (by decide)]) (by rw [rg_up_ne (by decide), rg_up_eq]) rg_up_eq, mX_w _ _ _ _⟩
theorem rm_vw153 {s : sS} {n p w kk : Nat} (h : mI m aS aL aG aN aB s M) (hok : ts_ok n s) (hg : ts_g s ≠ 0) (hkk : kk < 2) (hp : p < ts_P s) (hw : w < ts_w s p) : ∃ M', rM_view_153 m (nI p) (nI w) (nI (80 * kk)) (nI p) m M = some (some (.int 1), M') ∧ mI m aS aL aG aN aB (ts_setV s (ts_mix s (40 * kk) p w)) M' ∧ mX aS aL aG aN aB M M' := by
  have h0 := h
  obtain ⟨H, ⟨i1, i2, i3, i4, i5, i6, i7⟩, ⟨V, hV, hs⟩, hN, hB⟩ := h
  obtain ⟨e1, e2, e3, hP, hst0, hst⟩ := ts_rm hok hg
  obtain ⟨q1, q2, q3, q4⟩ := hst p hp
  have g3 : ts_g s < 3 := by have := hok.1; omega
  have hK := H.1
  have hyB := hok.2.2.2.2.2.2.1
  have wy := e2 p
  obtain ⟨S1, L1, G1, V1, a1, a2, a3, a4, a5, a6⟩ := rm_weighM H (p := p) (o := 80 * kk) i1 i2 i3 g3 (by omega) (by rw [wy]; omega) (by rw [wy]; omega) (fun w hw => by rw [wy] at hw; rw [e3]; omega) (by omega) hV (f := fun w => ts_y s (40 * kk + (p * ts_st s + w))) (fun v hv => by
    rw [wy] at hv
    have := hs.1 hg (p * ts_st s + v) (by omega)
    rw [e3]
    rcases (show kk = 0 ∨ kk = 1 by omega) with e | e
    · subst e
      rw [show 80 * 0 + (p * ts_st s + v) = p * ts_st s + v by omega, show 80 * 0 + 40 + (p * ts_st s + v) = 40 + (p * ts_st s + v) by omega]
      exact ⟨this.1, this.2.1, hyB _ (by omega)⟩
    · subst e
      rw [show 80 * 1 + 40 + (p * ts_st s + v) = 120 + (p * ts_st s + v) by omega]
      exact ⟨this.2.2.1, this.2.2.2, hyB _ (by omega)⟩)
  rw [rm_wid] at a1
  rw [wy] at a3 a5 a6
  obtain ⟨b1, b2, b3⟩ := a3 w hw
  have sl0 : rM_slot m (nI p) (nI w) (rm_w aS aL aG M S1 L1 G1) = some (nI (p * ts_st s + w), (rm_w aS aL aG M S1 L1 G1)) := by rw [← e3]; exact rm_slot (m := m) (M := (rm_w aS aL aG M S1 L1 G1)) hK i1 g3
  rw [e3] at b1 b2 b3
  obtain ⟨S2, L2, G2, t1, t2⟩ := rm_copyV H (a := 320 + (p * ts_st s + w)) (c := 380) (by omega) (by omega) (by decide) a2 (b3.mono (by rw [show rm_cap 380 = 4200 by decide]; omega))
  have t1 : rM_copy m (nI (320 + (p * ts_st s + w))) 380 (rm_w aS aL aG M S1 L1 G1) = _ := t1
  have e0 : va_up V1 380 (V1 (320 + (p * ts_st s + w))) (360 + p) = V1 (360 + p) := rg_up_ne (by omega)
  obtain ⟨S3, L3, G3, u1, u2⟩ := rm_copyV H (a := 360 + p) (c := 381) (by omega) (by omega) (by decide) t2 (by rw [e0]; exact a5.mono (by rw [show rm_cap 381 = 4200 by decide]; omega))
  rw [e0] at u2
  have u1 : rM_copy m (nI (360 + p)) 381 (rm_w aS aL aG M S2 L2 G2) = _ := u1
  have e80 : va_up (va_up V1 380 (V1 (320 + (p * ts_st s + w)))) 381 (V1 (360 + p)) 380 = V1 (320 + (p * ts_st s + w)) := by rw [rg_up_ne (by decide), rg_up_eq]
  obtain ⟨g, S4, L4, G4, x1, x2⟩ := rm_lowerV H (n := 380) (d := 381) (by decide) (by decide) (by decide) (by decide) (by decide) (by decide) (by decide) u2 (by rw [rg_up_eq]; exact a4)
  rw [e80, rg_up_eq] at x2
  have x1 : rM_lower m 380 381 (rm_w aS aL aG M S3 L3 G3) = _ := x1
  obtain ⟨l1, l2⟩ := low_uni (n := V1 (320 + (p * ts_st s + w))) (d := V1 (360 + p)) a4
  have em : qv (V1 (320 + (p * ts_st s + w))) (V1 (360 + p)) = ts_mix s (40 * kk) p w := (qv_eq a4 b1).symm
  rw [em] at l1 l2
  rw [l1, l2] at x2
  have ea : (320 : Int32) + nI (p * ts_st s + w) = nI (320 + (p * ts_st s + w)) := rm_l320 _
  have eb : (360 : Int32) + nI p = nI (360 + p) := rm_l360 _
  rw [rM_view_153_e]
  simp only [rm_wK, hK, if_true, a1, sl0, Option.bind_some, ea, eb, t1, u1, x1]
  have fr : ∀ q, q < 160 ∨ q = 413 → V1 q = V q := fun q hq => a6 q (fun v hv => by rw [e3]; have := hst p hp; omega) (by omega) (by omega) (by omega) (by omega)
  exact ⟨_, rfl, mI_V h0 hs x2 (fun q hq => by rw [rg_up_ne (by omega), rg_up_ne (by omega), rg_up_ne (by omega), rg_up_ne (by omega), rg_up_ne (by omega), fr q (by omega)]) (by rw [rg_up_ne (by decide), rg_up_ne (by decide), rg_up_ne (by decide), rg_up_ne (by decide), rg_up_ne (by decide), fr _ (by omega)]) (by rw [rg_up_ne (by decide), rg_up_eq]) rg_up_eq, mX_w _ _ _ _⟩
theorem rm_vw214 {s : sS} {n who : Nat} (h : mI m aS aL aG aN aB s M) (hok : ts_ok n s) (hg : ts_g s ≠ 0) {S L G : Nat → Int32} {V : Nat → Int} (hV : rm_V S L G V) (hs : mV s V) (h1 : V 409 = (ts_best s who).num) (h2 : V 410 = ((ts_best s who).den : Int)) : ∃ M', rM_view_214 m (rm_w aS aL aG M S L G) = some (some (.int 1), M') ∧ mI m aS aL aG aN aB (ts_setV s (ts_best s who)) M' ∧ mX aS aL aG aN aB M M' := by
  have H := h.1
  have hK := H.1
  have l := ts_best_L hok hg who
  obtain ⟨S1, L1, G1, t1, t2⟩ := rm_copyV H (a := 409) (c := 380) (by decide) (by decide) (by decide) hV (by rw [h1]; exact (cL_rm l.1).mono (by decide))
  rw [h1] at t2
  have t1 : rM_copy m 409 380 (rm_w aS aL aG M S L G) = _ := t1
  have e0 : va_up V 380 (ts_best s who).num 410 = ((ts_best s who).den : Int) := by rw [rg_up_ne (by decide)]; exact h2
  obtain ⟨S2, L2, G2, u1, u2⟩ := rm_copyV H (a := 410) (c := 381) (by decide) (by decide) (by decide) t2 (by rw [e0]; exact (cL_rm l.2).mono (by decide))
  rw [e0] at u2
  have u1 : rM_copy m 410 381 (rm_w aS aL aG M S1 L1 G1) = _ := u1
  rw [rM_view_214_e]
  simp only [rm_wK, hK, if_true, t1, u1, Option.bind_some]
  exact ⟨_, rfl, mI_V h hs u2 (fun q hq => by rw [rg_up_ne (by omega), rg_up_ne (by omega)]) (by rw [rg_up_ne (by decide), rg_up_ne (by decide)]) (by rw [rg_up_ne (by decide), rg_up_eq]) rg_up_eq, mX_w _ _ _ _⟩
theorem i32_le3 {x : Int32} (h1 : ¬ x < 0) (h2 : ¬ (4 : Int32) ≤ x) : 0 ≤ x ∧ x ≤ 3 := by
  rw [Int32.lt_iff_toInt_lt] at h1
  rw [Int32.le_iff_toInt_le] at h2
  have h1 : ¬ x.toInt < 0 := h1
  have h2 : ¬ (4 : Int) ≤ x.toInt := h2
  rw [Int32.le_iff_toInt_le, Int32.le_iff_toInt_le]
  exact ⟨by show (0 : Int) ≤ x.toInt; omega, by show x.toInt ≤ (3 : Int); omega⟩
theorem i32_45 {x : Int32} (h1 : (4 : Int32) ≤ x) (h2 : ¬ (5 : Int32) < x) : (x = 4 ∨ x = 5) ∧ ¬ (0 ≤ x ∧ x ≤ 3) := by
  rw [Int32.le_iff_toInt_le] at h1
  rw [Int32.lt_iff_toInt_lt] at h2
  have h1 : (4 : Int) ≤ x.toInt := h1
  have h2 : ¬ (5 : Int) < x.toInt := h2
  refine ⟨?_, fun q => ?_⟩
  · rcases (show x.toInt = 4 ∨ x.toInt = 5 by omega) with e | e
    · exact Or.inl (Int32.toInt_inj.mp e)
    · exact Or.inr (Int32.toInt_inj.mp e)
  · have q2 := q.2
    rw [Int32.le_iff_toInt_le] at q2
    have q2 : x.toInt ≤ (3 : Int) := q2
    omega
theorem mM_view {s : sS} {n : Nat} (h : mI m aS aL aG aN aB s M) (hok : ts_ok n s) (x p w : Int32) : ∃ M', rM_view m x p w M = some ((ts_view s x p w).1, M') ∧ mI m aS aL aG aN aB (ts_view s x p w).2 M' ∧ mX aS aL aG aN aB M M' := by
  have h0 := h
  obtain ⟨H, hI, ⟨V, hV, hs⟩, hN, hB⟩ := h
  have hI0 := hI
  have hK := H.1
  obtain ⟨i1, i2, i3, i4, i5, i6, i7⟩ := hI
  have gi0 : (nI (ts_g s) = (0 : Int32)) ↔ ts_g s = 0 := nI_eq (b := 0) (by have := hok.1; omega) (by omega)
  have no : ts_view s x p w = (0, s) → ∃ M', (some (0, M) : Option (Int32 × rg_M)) = some ((ts_view s x p w).1, M') ∧ mI m aS aL aG aN aB (ts_view s x p w).2 M' ∧ mX aS aL aG aN aB M M' := fun q => by
    rw [q]; exact ⟨M, rfl, h0, mX.rf M⟩
  have n20 : rg_ui (rM_view_20 M) = some (0, M) := by rw [rM_view_20_e]; rfl
  have n52 : rg_ui (rM_view_52 m x p w M) = some (0, M) := by rw [rM_view_52_e, rM_view_79_e, if_pos rfl]; rfl
  have n78 : rg_ui (rM_view_78 m x p w M) = some (0, M) := by rw [rM_view_78_e, rM_view_79_e, if_pos rfl]; rfl
  rw [rM_view_u, rM_view_e, if_pos hK, i1]
  by_cases cg0 : ts_g s = 0
  · rw [if_pos (gi0.mpr cg0), n20]; exact no (if_pos cg0)
  rw [if_neg (fun q => cg0 (gi0.mp q))]
  obtain ⟨e1, e2, e3, hP, hst0, hst⟩ := ts_rm hok cg0
  have g3 : ts_g s < 3 := by have := hok.1; omega
  by_cases c1 : x < 0
  · rw [if_pos c1, n20]
    refine no ?_
    unfold ts_view
    rw [if_neg cg0, if_neg (fun q => by have := q.1; rw [← Int32.not_lt] at this; exact this c1), if_neg (fun q => absurd c1 (by rw [q.2.1]; decide)), if_neg (fun q => absurd c1 (by rw [q.2.1]; decide)), if_neg (fun q => absurd c1 (by rw [q.2.1]; decide))]
  rw [if_neg c1]
  by_cases c2 : 5 < x
  · rw [if_pos c2, n20]
    refine no ?_
    unfold ts_view
    rw [if_neg cg0, if_neg (fun q => by
      have q2 := q.2
      rw [Int32.le_iff_toInt_le] at q2
      rw [Int32.lt_iff_toInt_lt] at c2
      have q2 : x.toInt ≤ (3 : Int) := q2
      have c2 : (5 : Int) < x.toInt := c2
      omega), if_neg (fun q => absurd c2 (by rw [q.2.1]; decide)), if_neg (fun q => absurd c2 (by rw [q.2.1]; decide)), if_neg (fun q => absurd c2 (by rw [q.2.1]; decide))]
  rw [if_neg c2]
  by_cases c3 : 0 ≤ w
  · rw [if_pos c3]
    by_cases c4 : 4 ≤ x
    · rw [if_pos c4]
      obtain ⟨x45, x03⟩ := i32_45 c4 c2
      by_cases cw : w = 0
      · rw [if_pos cw]
        -- the best answer or the gap
        have best : ∀ who : Nat, who < 2 → p = nI who → x = 4 → ∃ M', rg_ui (rM_view_74 m x p w M) = some ((ts_view s x p w).1, M') ∧ mI m aS aL aG aN aB (ts_view s x p w).2 M' ∧ mX aS aL aG aN aB M M' := by
          intro who hwho hpw hx4
          have ev : ts_view s x p w = (1, ts_setV s (ts_best s who)) := by
            unfold ts_view
            rw [if_neg cg0, if_neg x03]
            rcases (show who = 0 ∨ who = 1 by omega) with e | e
            · subst e; rw [if_pos ⟨cw, hx4, hpw⟩]
            · subst e; rw [if_neg (fun q => absurd (hpw.symm.trans q.2.2) (by decide)), if_pos ⟨cw, hx4, hpw⟩]
          obtain ⟨S1, L1, G1, V1, a1, a2, a3, a4, a5, -⟩ := rm_bestM H (p := who) hok cg0 hI0 hN hwho hV hs
          rw [rm_wid] at a1
          obtain ⟨M', b1, b2, b3⟩ := rm_vw214 h0 hok cg0 a2 a3 a4 a5
          rw [ev, rM_view_74_e, rM_view_79_e, if_neg (by decide), if_pos (by rw [hx4]; decide), if_pos c4, if_pos hx4, if_pos hK, hpw, a1]
          simp only [Option.bind_some, b1]
          exact ⟨M', rfl, b2, b3⟩
        by_cases cp0 : p = 0
        · rw [if_pos cp0]
          rcases x45 with hx4 | hx5
          · exact best 0 (by decide) cp0 hx4
          · have ev : ts_view s x p w = (1, ts_setV s (ts_best s 2)) := by
              unfold ts_view
              rw [if_neg cg0, if_neg x03, if_neg (fun q => absurd (hx5.symm.trans q.2.1) (by decide)), if_neg (fun q => absurd (hx5.symm.trans q.2.1) (by decide)), if_pos ⟨cw, hx5, cp0⟩]
            obtain ⟨S1, L1, G1, V1, a1, a2, a3, a4, a5⟩ := rm_gapM H hok cg0 hI0 hN hV hs
            rw [rm_wid] at a1
            obtain ⟨M', b1, b2, b3⟩ := rm_vw214 h0 hok cg0 a2 a3 a4 a5
            rw [ev, rM_view_74_e, rM_view_79_e, if_neg (by decide), if_pos (by rw [hx5]; decide), if_pos c4, if_neg (by rw [hx5]; decide), if_pos hK, a1]
            simp only [Option.bind_some, b1]
            exact ⟨M', rfl, b2, b3⟩
        · rw [if_neg cp0]
          by_cases cp1 : p = 1
          · rw [if_pos cp1]
            by_cases hx4 : x = 4
            · rw [if_pos hx4]
              exact best 1 (by decide) cp1 hx4
            · rw [if_neg hx4, n78]
              refine no ?_
              unfold ts_view
              rw [if_neg cg0, if_neg x03, if_neg (fun q => hx4 q.2.1), if_neg (fun q => hx4 q.2.1), if_neg (fun q => cp0 q.2.2)]
          · rw [if_neg cp1, n78]
            refine no ?_
            unfold ts_view
            rw [if_neg cg0, if_neg x03, if_neg (fun q => cp0 q.2.2), if_neg (fun q => cp1 q.2.2), if_neg (fun q => cp0 q.2.2)]
      · rw [if_neg cw, n78]
        refine no ?_
        unfold ts_view
        rw [if_neg cg0, if_neg x03, if_neg (fun q => cw q.1), if_neg (fun q => cw q.1), if_neg (fun q => cw q.1)]
    · rw [if_neg c4]
      have x03 := i32_le3 c1 c4
      have vno : ¬ ((0 ≤ p ∧ p.toNatClampNeg < ts_P s) ∧ (0 ≤ w ∧ w.toNatClampNeg < ts_w s p.toNatClampNeg)) → ts_view s x p w = (0, s) := fun q => by
        unfold ts_view
        rw [if_neg cg0, if_pos x03, if_neg q]
      by_cases c5 : p < 0
      · rw [if_pos c5, n52]
        exact no (vno (fun q => by have := q.1.1; rw [← Int32.not_lt] at this; exact this c5))
      · rw [if_neg c5, if_pos hK]
        obtain ⟨p', p1, p2⟩ := nI_of c5
        subst p2
        have pl := rm_places (m := m) (M := M) hK i1 i4 g3
        rw [e1] at pl
        simp only [pl, Option.bind_some]
        by_cases c6 : nI (ts_P s) ≤ nI p'
        · rw [if_pos c6, n52]
          rw [nI_leI (by omega) p1] at c6
          exact no (vno (fun q => by have := q.1.2; rw [nI_clamp p1] at this; omega))
        · rw [if_neg c6, if_pos hK]
          rw [nI_leI (by omega) p1] at c6
          have hp' : p' < ts_P s := by omega
          obtain ⟨q1, q2, q3, q4⟩ := hst p' hp'
          have wy := rm_ways (m := m) (M := M) hK (p := p') i1 i2 i3 g3 (by omega)
          rw [e2] at wy
          simp only [wy, Option.bind_some]
          obtain ⟨w', w1, w2⟩ := nI_of (x := w) (by rw [Int32.not_lt]; exact c3)
          subst w2
          by_cases c7 : nI (ts_w s p') ≤ nI w'
          · rw [if_pos c7, n52]
            rw [nI_leI (by omega) w1] at c7
            exact no (vno (fun q => by have := q.2.2; rw [nI_clamp p1, nI_clamp w1] at this; omega))
          · rw [if_neg c7]
            rw [nI_leI (by omega) w1] at c7
            have hw' : w' < ts_w s p' := by omega
            have ev : ts_view s x (nI p') (nI w') = (1, ts_setV s (ts_vw s x p' w')) := by
              unfold ts_view
              rw [if_neg cg0, if_pos x03, if_pos ⟨⟨nI_pos' p1, by rw [nI_clamp p1]; exact hp'⟩, nI_pos' w1, by rw [nI_clamp p1, nI_clamp w1]; exact hw'⟩, nI_clamp p1, nI_clamp w1]
            obtain ⟨kx, kx1, kx2, kx3⟩ := nI_rng (a := 0) (b := 3) (x := x) (by decide) x03 (by decide)
            rw [ev, rM_view_79_e, if_neg (by decide)]
            rcases (show kx = 0 ∨ kx = 1 ∨ kx = 2 ∨ kx = 3 by omega) with e | e | e | e
            · subst e
              obtain ⟨M', g1, g2, g3'⟩ := rm_vw103 h0 hok cg0 (kk := 0) (by decide) hp' hw'
              have g1 : rM_view_103 m (nI p') (nI w') 0 M = _ := g1
              have ey : ts_vw s x p' w' = ts_y s (40 * 0 + (p' * ts_st s + w')) := by unfold ts_vw; rw [if_pos (show x = (0 : Int32) from kx3)]; congr 1; omega
              rw [if_neg (by rw [kx3]; decide), if_pos (show x = (0 : Int32) from kx3), g1, ey]
              exact ⟨M', rfl, g2, g3'⟩
            · subst e
              obtain ⟨M', g1, g2, g3'⟩ := rm_vw103 h0 hok cg0 (kk := 1) (by decide) hp' hw'
              have g1 : rM_view_103 m (nI p') (nI w') 80 M = _ := g1
              have ey : ts_vw s x p' w' = ts_y s (40 * 1 + (p' * ts_st s + w')) := by unfold ts_vw; rw [if_neg (by rw [kx3]; decide), if_pos (show x = (1 : Int32) from kx3)]
              rw [if_neg (by rw [kx3]; decide), if_neg (by rw [kx3]; decide), g1, ey]
              exact ⟨M', rfl, g2, g3'⟩
            · subst e
              obtain ⟨M', g1, g2, g3'⟩ := rm_vw153 h0 hok cg0 (kk := 0) (by decide) hp' hw'
              have g1 : rM_view_153 m (nI p') (nI w') 0 (nI p') m M = _ := g1
              have ey : ts_vw s x p' w' = ts_mix s (40 * 0) p' w' := by unfold ts_vw; rw [if_neg (by rw [kx3]; decide), if_neg (by rw [kx3]; decide), if_pos (show x = (2 : Int32) from kx3)]
              rw [if_pos (by rw [kx3]; decide), if_neg (by rw [kx3]; decide), if_pos (show x = (2 : Int32) from kx3), g1, ey]
              exact ⟨M', rfl, g2, g3'⟩
            · subst e
              obtain ⟨M', g1, g2, g3'⟩ := rm_vw153 h0 hok cg0 (kk := 1) (by decide) hp' hw'
              have g1 : rM_view_153 m (nI p') (nI w') 80 (nI p') m M = _ := g1
              have ey : ts_vw s x p' w' = ts_mix s (40 * 1) p' w' := by unfold ts_vw; rw [if_neg (by rw [kx3]; decide), if_neg (by rw [kx3]; decide), if_neg (by rw [kx3]; decide)]
              rw [if_pos (by rw [kx3]; decide), if_neg (by rw [kx3]; decide), if_neg (by rw [kx3]; decide), g1, ey]
              exact ⟨M', rfl, g2, g3'⟩
  · rw [if_neg c3, n20]
    refine no ?_
    unfold ts_view
    rw [if_neg cg0]
    by_cases x03 : 0 ≤ x ∧ x ≤ 3
    · rw [if_pos x03, if_neg (fun q => c3 q.2.1)]
    · rw [if_neg x03, if_neg (fun q => c3 (by rw [q.1]; decide)), if_neg (fun q => c3 (by rw [q.1]; decide)), if_neg (fun q => c3 (by rw [q.1]; decide))]
end

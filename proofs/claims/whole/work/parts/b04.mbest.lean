/-! the reference: both at a table of numbers; what the best answer there gets -/
theorem qv_lt {a b c d : Int} (hb : 0 < b) (hd : 0 < d) : qv a b < qv c d ↔ a * d < c * b := by
  have hbr : (0 : Rat) < (b : Rat) := Rat.intCast_pos.mpr hb
  have hdr : (0 : Rat) < (d : Rat) := Rat.intCast_pos.mpr hd
  have e1 := qv_mul (n := a) hb
  have e2 := qv_mul (n := c) hd
  have hp := Rat.mul_pos hbr hdr
  have k1 : qv a b * ((b : Rat) * (d : Rat)) = ((a * d : Int) : Rat) := by rw [Rat.intCast_mul, ← e1]; grind
  have k2 : qv c d * ((b : Rat) * (d : Rat)) = ((c * b : Int) : Rat) := by rw [Rat.intCast_mul, ← e2]; grind
  rw [← Rat.mul_lt_mul_right hp, k1, k2]
  exact Rat.intCast_lt_intCast
def iM (F : Nat → Int) : Nat → Int
  | 0 => F 0
  | k + 1 => if iM F k < F (k + 1) then F (k + 1) else iM F k
theorem qv_iM {F : Nat → Int} {T : Int} (hT : 0 < T) : ∀ k, qv (iM F k) T = qM (fun w => qv (F w) T) k
  | 0 => rfl
  | k + 1 => by
    show qv (if iM F k < F (k + 1) then F (k + 1) else iM F k) T = if qM (fun w => qv (F w) T) k < qv (F (k + 1)) T then qv (F (k + 1)) T else qM (fun w => qv (F w) T) k
    rw [← qv_iM hT k]
    have h : qv (iM F k) T < qv (F (k + 1)) T ↔ iM F k < F (k + 1) := by
      rw [qv_lt hT hT]
      exact ⟨fun q => Int.lt_of_mul_lt_mul_right q (Int.le_of_lt hT), fun q => Int.mul_lt_mul_of_pos_right q hT⟩
    by_cases c : iM F k < F (k + 1)
    · rw [if_pos c, if_pos (h.mpr c)]
    · rw [if_neg c, if_neg (fun q => c (h.mp q))]
theorem iM_lt {F : Nat → Int} {l : Nat} : ∀ {k : Nat}, (∀ w, w ≤ k → rm_lt (F w) l) → rm_lt (iM F k) l
  | 0, h => h 0 (Nat.le_refl _)
  | k + 1, h => by
    show rm_lt (if iM F k < F (k + 1) then F (k + 1) else iM F k) l
    split
    · exact h _ (Nat.le_refl _)
    · exact iM_lt (fun w hw => h w (by omega))
section
variable {m aS aL aG aN aB : Nat} {M : rg_M}
/-- is n / d above b / e? -/
theorem rm_isMoreV (H : rm_F m aS aL aG aN aB M) {n d b e k l : Nat} (hn : n < 420) (hd : d < 420) (hb : b < 420) (he : e < 420) (n1 : n ≠ 387) (n2 : n ≠ 389) (d1 : d ≠ 387) (d2 : d ≠ 389) (d3 : d ≠ 390) (b1 : b ≠ 387) (b2 : b ≠ 389) (b3 : b ≠ 390) (e1 : e ≠ 387) (e2 : e ≠ 389) {S L G : Nat → Int32} {V : Nat → Int} (hV : rm_V S L G V) (ln : rm_lt (V n) k) (ld : rm_lt (V d) k) (lb : rm_lt (V b) l) (le : rm_lt (V e) l) (hk : k + l + 1 ≤ 4200) : ∃ (S' L' G' : Nat → Int32) (V' : Nat → Int), rM_isMore m (nI n) (nI d) (nI b) (nI e) (rm_w aS aL aG M S L G) = some (if V b * V d < V n * V e then 1 else 0, rm_w aS aL aG M S' L' G') ∧ rm_V S' L' G' V' ∧ ∀ q, q ≠ 389 → q ≠ 390 → q ≠ 391 → V' q = V q := by
  have H0 := H
  obtain ⟨hK, hS, hL, hG, -, -, kS, kL, kG, -, -, lS, lL, lG, -, -, z1, z2, z3, -⟩ := H
  have c89 : rm_cap 389 = 4200 := by decide
  have c90 : rm_cap 390 = 4200 := by decide
  have c91 : rm_cap 391 = 4200 := by decide
  obtain ⟨S1, L1, G1, t1, t2⟩ := rm_mulV H0 (a := n) (b := e) (c := 389) (ka := k) (kb := l) hn n1 he e1 (by decide) n2 e2 hV ln le (by omega)
  have t1 : rM_multiply m (nI n) (nI e) 389 (rm_w aS aL aG M S L G) = _ := t1
  obtain ⟨S2, L2, G2, u1, u2⟩ := rm_mulV H0 (a := b) (b := d) (c := 390) (ka := l) (kb := k) hb b1 hd d1 (by decide) b3 d3 t2 (by rw [rg_up_ne b2]; exact lb) (by rw [rg_up_ne d2]; exact ld) (by omega)
  rw [rg_up_ne b2, rg_up_ne d2] at u2
  have u1 : rM_multiply m (nI b) (nI d) 390 (rm_w aS aL aG M S1 L1 G1) = _ := u1
  have e89 : va_up (va_up V 389 (V n * V e)) 390 (V b * V d) 389 = V n * V e := by rw [rg_up_ne (by decide), rg_up_eq]
  obtain ⟨S3, L3, G3, v1, v2⟩ := rm_minusV H0 (a := 389) (b := 390) (c := 391) (by decide) (by decide) (by decide) (by decide) (by decide) u2 (by rw [e89, c91]; exact (ln.mul le).mono (by omega)) (by rw [rg_up_eq, c91]; exact (lb.mul ld).mono (by omega))
  rw [e89, rg_up_eq] at v2
  have v1 : rM_minus m 389 390 391 (rm_w aS aL aG M S2 L2 G2) = _ := v1
  have sg := v2.sg (a := 391) (by decide) (by decide)
  rw [rg_up_eq] at sg
  have c391 : (391 : Int32).toNatClampNeg = 391 := by decide
  have i391 : (0 : Int32) ≤ 391 := by decide
  rw [rM_isMore_u, rM_isMore_e]
  simp only [rm_wK, rm_wR, rm_wL, hK, hG, kG, lG, if_true, Option.bind_some, t1, u1, v1, c391, i391, rm_rG z2 z3, sg, rm_sg_le, show (391 : Nat) < 420 by decide, and_self, rM_isMore_48_e]
  by_cases q : V b * V d < V n * V e
  · rw [if_neg (by omega), if_pos q]
    exact ⟨S3, L3, G3, _, rfl, v2, fun q h1 h2 h3 => by rw [rg_up_ne h3, rg_up_ne h2, rg_up_ne h1]⟩
  · rw [if_pos (by omega), if_neg q]
    exact ⟨S3, L3, G3, _, rfl, v2, fun q h1 h2 h3 => by rw [rg_up_ne h3, rg_up_ne h2, rg_up_ne h1]⟩
/-- both mixes of a table of numbers -/
theorem rm_weigh2 (H : rm_F m aS aL aG aN aB M) {s : sS} {n0 o o2 : Nat} (hok : ts_ok n0 s) (hg1 : ts_g s = 1) (hg : rg_I M 115 m = nI 1) (hr : rg_I M 116 m = nI (ts_a s)) (hc : rg_I M 117 m = nI (ts_e s)) (ho : (o = 0 ∧ o2 = 0) ∨ (o = 80 ∧ o2 = 40)) {S L G : Nat → Int32} {V : Nat → Int} (hV : rm_V S L G V) (hs : mV s V) :
    ∃ (S1 L1 G1 S' L' G' : Nat → Int32) (V' : Nat → Int), rM_weigh m 0 (nI o) (rm_w aS aL aG M S L G) = some (rm_w aS aL aG M S1 L1 G1) ∧ rM_weigh m 1 (nI o) (rm_w aS aL aG M S1 L1 G1) = some (rm_w aS aL aG M S' L' G') ∧ rm_V S' L' G' V' ∧ (∀ p, p < 2 → 0 < V' (360 + p) ∧ rm_lt (V' (360 + p)) 42 ∧ ∀ w, w < wyc (ts_a s) (ts_e s) p → tMx (ts_y s) o2 (ts_a s) (ts_e s) p w * ((V' (360 + p) : Int) : Rat) = ((V' (320 + rm_sl 1 p w) : Int) : Rat) ∧ rm_lt (V' (320 + rm_sl 1 p w)) 41) ∧ ∀ q, (q < 320 ∨ 380 ≤ q) → q ≠ 386 → q ≠ 389 → q ≠ 390 → V' q = V q := by
  have hyB := hok.2.2.2.2.2.2.1
  have one : ∀ (p : Nat), p < 2 → ∀ (S L G : Nat → Int32) (V : Nat → Int), rm_V S L G V → mV s V → ∃ (S' L' G' : Nat → Int32) (V' : Nat → Int), rM_weigh m (nI p) (nI o) (rm_w aS aL aG M S L G) = some (rm_w aS aL aG M S' L' G') ∧ rm_V S' L' G' V' ∧ (0 < V' (360 + p) ∧ rm_lt (V' (360 + p)) 42 ∧ ∀ w, w < wyc (ts_a s) (ts_e s) p → tMx (ts_y s) o2 (ts_a s) (ts_e s) p w * ((V' (360 + p) : Int) : Rat) = ((V' (320 + rm_sl 1 p w) : Int) : Rat) ∧ rm_lt (V' (320 + rm_sl 1 p w)) 41) ∧ ∀ q, (q < 320 ∨ (320 ≤ q ∧ q < 380 ∧ q ≠ 360 + p ∧ ∀ w, w < 5 → q ≠ 320 + rm_sl 1 p w) ∨ 380 ≤ q) → q ≠ 386 → q ≠ 389 → q ≠ 390 → V' q = V q := by
    intro p hp S L G V hV hs
    have hw := hok.w hg1 p
    have esl : ∀ w, rm_sl 1 p w = 5 * p + w := fun w => rfl
    have hwy : rm_wy 1 (ts_a s) (ts_e s) p = wyc (ts_a s) (ts_e s) p := rfl
    obtain ⟨S1, L1, G1, V1, a1, a2, a3, a4, a5, a6⟩ := rm_weighM H (p := p) (o := o) hg hr hc (by decide) (by omega) (by rw [hwy]; omega) (by rw [hwy]; omega) (fun w hw => by rw [hwy] at hw; rw [esl]; omega) (by omega) hV (f := fun w => ts_y s (o2 + (p * 5 + w))) (fun v hv => by
      rw [hwy] at hv
      have := hs.1 (by omega) (5 * p + v) (by omega)
      rcases ho with ⟨q1, q2⟩ | ⟨q1, q2⟩
      · subst q1 q2
        rw [esl, show 0 + (5 * p + v) = 5 * p + v by omega, show 0 + 40 + (5 * p + v) = 40 + (5 * p + v) by omega, show 0 + (p * 5 + v) = 5 * p + v by omega]
        exact ⟨this.1, this.2.1, hyB _ (by omega)⟩
      · subst q1 q2
        rw [esl, show 80 + 40 + (5 * p + v) = 120 + (5 * p + v) by omega, show 40 + (p * 5 + v) = 40 + (5 * p + v) by omega]
        exact ⟨this.2.2.1, this.2.2.2, hyB _ (by omega)⟩)
    rw [hwy] at a3 a5 a6
    refine ⟨S1, L1, G1, V1, a1, a2, ⟨a4, a5.mono (by omega), fun w hw2 => ⟨(a3 w hw2).1, (a3 w hw2).2.2.mono (by omega)⟩⟩, fun q hq h6 h9 h0 => a6 q (fun w hw2 => ?_) (by omega) h6 h9 h0⟩
    rcases hq with k | ⟨-, -, -, k⟩ | k
    · rw [esl]; omega
    · exact k w (by omega)
    · rw [esl]; omega
  obtain ⟨S1, L1, G1, V1, a1, a2, a3, a4⟩ := one 0 (by decide) S L G V hV hs
  have hs1 : mV s V1 := hs.keep (fun q hq => a4 q (by omega) (by omega) (by omega) (by omega)) (a4 _ (by omega) (by omega) (by omega) (by omega)) (a4 _ (by omega) (by omega) (by omega) (by omega)) (a4 _ (by omega) (by omega) (by omega) (by omega))
  obtain ⟨S2, L2, G2, V2, b1, b2, b3, b4⟩ := one 1 (by decide) S1 L1 G1 V1 a2 hs1
  have e0 : ∀ w, rm_sl 1 0 w = w := fun w => by show 5 * 0 + w = w; omega
  have e1 : ∀ w, rm_sl 1 1 w = 5 + w := fun w => by show 5 * 1 + w = 5 + w; omega
  refine ⟨S1, L1, G1, S2, L2, G2, V2, a1, b1, b2, fun p hp => ?_, fun q hq h6 h9 h0 => by rw [b4 q (by omega) h6 h9 h0, a4 q (by omega) h6 h9 h0]⟩
  rcases (show p = 0 ∨ p = 1 by omega) with e | e
  · subst e
    have hw := hok.w hg1 0
    have k0 : V2 (360 + 0) = V1 (360 + 0) := b4 _ (Or.inr (Or.inl ⟨by omega, by omega, by omega, fun w _ => by rw [e1]; omega⟩)) (by omega) (by omega) (by omega)
    rw [k0]
    refine ⟨a3.1, a3.2.1, fun w hw2 => ?_⟩
    have kw : V2 (320 + rm_sl 1 0 w) = V1 (320 + rm_sl 1 0 w) := b4 _ (Or.inr (Or.inl ⟨by rw [e0]; omega, by rw [e0]; omega, by rw [e0]; omega, fun v _ => by rw [e0, e1]; omega⟩)) (by rw [e0]; omega) (by rw [e0]; omega) (by rw [e0]; omega)
    rw [kw]; exact a3.2.2 w hw2
  · subst e; exact b3
/-- a round of both at a table of numbers -/
theorem rm_bothM (H : rm_F m aS aL aG aN aB M) {s : sS} {n0 : Nat} (hok : ts_ok n0 s) (hg1 : ts_g s = 1) (hg : rg_I M 115 m = nI 1) (hr : rg_I M 116 m = nI (ts_a s)) (hc : rg_I M 117 m = nI (ts_e s)) (hnum : ∀ i, i < 25 → rg_A M aN i = ts_num s i) {S L G : Nat → Int32} {V : Nat → Int} (hV : rm_V S L G V) (hs : mV s V) :
    ∃ (S' L' G' : Nat → Int32) (V' : Nat → Int) (f : Int32), rM_bothOfTable m (rm_w aS aL aG M S L G) = some (f, rm_w aS aL aG M S' L' G') ∧ rm_V S' L' G' V' ∧ mV s V' ∧ ((f = 1 ∧ ts_bF s ∧ ∀ p w, p < 2 → w < wyc (ts_a s) (ts_e s) p → V' (160 + rm_sl 1 p w) = (ts_bR s p w).num ∧ V' (200 + rm_sl 1 p w) = ((ts_bR s p w).den : Int) ∧ V' (240 + rm_sl 1 p w) = (ts_bS s p w).num ∧ V' (280 + rm_sl 1 p w) = ((ts_bS s p w).den : Int)) ∨ (f = 0 ∧ ¬ ts_bF s)) := by
  have hK := H.1
  have g2 : ts_g s ≠ 2 := by omega
  have hw := fun p => hok.w hg1 p
  have hnumB : ∀ i, i < 25 → (rg_A M aN i).toInt.natAbs ≤ 1000 := fun i hi => by rw [hnum i hi]; exact hok.2.2.2.2.2.1 i hi
  obtain ⟨S1, L1, G1, S2, L2, G2, V2, a1, a2, a3, a4, a5⟩ := rm_weigh2 H (o := 0) (o2 := 0) hok hg1 hg hr hc (Or.inl ⟨rfl, rfl⟩) hV hs
  have a1 : rM_weigh m 0 0 (rm_w aS aL aG M S L G) = _ := a1
  have a2 : rM_weigh m 1 0 (rm_w aS aL aG M S1 L1 G1) = _ := a2
  obtain ⟨S3, L3, G3, V3, b1, b2, b3, b4⟩ := rm_sumsOfM H (p := 0) (o := 397) (n := wyc (ts_a s) (ts_e s) 0) (n' := wyc (ts_a s) (ts_e s) 1) hg hr hc (by decide) rfl rfl (hw 0).2 (hw 1).2 (Or.inl rfl) hnumB (u := fun v => V2 (320 + rm_sl 1 1 v)) (fun v hv => ((a4 1 (by decide)).2.2 v hv).2) a3 (fun v hv => rfl)
  have b1 : rM_sumsOf m 0 397 (rm_w aS aL aG M S2 L2 G2) = _ := b1
  have e0 : ∀ w, rm_sl 1 0 w = w := fun w => by show 5 * 0 + w = w; omega
  have e1 : ∀ w, rm_sl 1 1 w = 5 + w := fun w => by show 5 * 1 + w = 5 + w; omega
  obtain ⟨S4, L4, G4, V4, c1, c2, c3, c4⟩ := rm_sumsOfM H (p := 1) (o := 402) (n := wyc (ts_a s) (ts_e s) 1) (n' := wyc (ts_a s) (ts_e s) 0) hg hr hc (by decide) rfl rfl (hw 1).2 (hw 0).2 (Or.inr rfl) hnumB (u := fun v => V2 (320 + rm_sl 1 0 v)) (fun v hv => ((a4 0 (by decide)).2.2 v hv).2) b2 (fun v hv => b4 _ (by have := hw 0; rw [show rm_sl 1 (1 - 1) v = v from e0 v]; omega) (by have := hw 0; rw [show rm_sl 1 (1 - 1) v = v from e0 v]; omega) (by have := hw 0; rw [show rm_sl 1 (1 - 1) v = v from e0 v]; omega) (by have := hw 0; rw [show rm_sl 1 (1 - 1) v = v from e0 v]; omega))
  have c1 : rM_sumsOf m 1 402 (rm_w aS aL aG M S3 L3 G3) = _ := c1
  have f4 : ∀ q, q < 386 → V4 q = V2 q := fun q hq => by rw [c4 q (by omega) (by omega) (by omega) (by omega), b4 q (by omega) (by omega) (by omega) (by omega)]
  have m4 : mV s V4 := hs.keep (fun q hq => by rw [f4 q (by omega), a5 q (by omega) (by omega) (by omega) (by omega)]) (by rw [f4 _ (by omega), a5 _ (by omega) (by omega) (by omega) (by omega)]) (by rw [f4 _ (by omega), a5 _ (by omega) (by omega) (by omega) (by omega)]) (by rw [c4 _ (by omega) (by omega) (by omega) (by omega), b4 _ (by omega) (by omega) (by omega) (by omega), a5 _ (by omega) (by omega) (by omega) (by omega)])
  -- worths, times the other's total
  have hF : ∀ p, p < 2 → ∀ w, w < wyc (ts_a s) (ts_e s) p → tWr (tMx (ts_y s) 0 (ts_a s) (ts_e s) (1 - p)) (ts_num s) p w (wyc (ts_a s) (ts_e s) (1 - p)) * ((V2 (360 + (1 - p)) : Int) : Rat) = ((fb_si (fun v => V2 (320 + rm_sl 1 (1 - p) v) * gT (rg_A M aN) p w v) (wyc (ts_a s) (ts_e s) (1 - p)) : Int) : Rat) := fun p hp w hw2 => by
    rw [si_qs]
    unfold tWr
    rw [Rat.mul_comm, ← qs_mul]
    refine qs_cong (fun v hv => ?_)
    have h5 := hw p
    have h6 := hw (1 - p)
    rw [Rat.intCast_mul, ← ((a4 (1 - p) (by omega)).2.2 v hv).1, gT_cong hnum (by omega) (by omega)]
    grind
  have lF : ∀ p, p < 2 → ∀ w, w < wyc (ts_a s) (ts_e s) p → rm_lt (fb_si (fun v => V2 (320 + rm_sl 1 (1 - p) v) * gT (rg_A M aN) p w v) (wyc (ts_a s) (ts_e s) (1 - p))) 43 := fun p hp w hw2 => by
    have h5 := hw p
    have h6 := hw (1 - p)
    exact si_lt1 (k := 42) h6.2 (fun v hv => ((a4 (1 - p) (by omega)).2.2 v hv).2.mul (rm_lt_g (gI_T hnumB (p := p) (w := w) (v := v) (by omega) (by omega)).2))
  obtain ⟨S5, L5, G5, V5, fl, d1, d2, d3, d4, d5⟩ := rm_bt54 H (p := 0) (o := 397) (u := fun w => V2 (320 + rm_sl 1 0 w)) (F := fun w => fb_si (fun v => V2 (320 + rm_sl 1 1 v) * gT (rg_A M aN) 0 w v) (wyc (ts_a s) (ts_e s) 1)) (T := V2 360) (T' := V2 361) hok hg1 hg hr hc (by decide) rfl (a4 0 (by decide)).1 (a4 1 (by decide)).1 (a4 0 (by decide)).2.1 (a4 1 (by decide)).2.1 (fun w hw2 => ((a4 0 (by decide)).2.2 w hw2).2) (lF 0 (by decide)) (fun w hw2 => ((a4 0 (by decide)).2.2 w hw2).1) (hF 0 (by decide)) c2 m4 (fun w hw2 => ⟨f4 _ (by have := hw 0; rw [e0]; omega), by have := hw 0; rw [c4 _ (by omega) (by omega) (by omega) (by omega)]; exact b3 w hw2⟩) (f4 _ (by decide)) (f4 _ (by decide))
  have d1 : rM_bothOfTable_54 m 1 0 397 (rm_w aS aL aG M S4 L4 G4) = rM_bothOfTable_32 m fl 1 (rm_w aS aL aG M S5 L5 G5) := d1
  have eP : ts_P s = 2 := by unfold ts_P; rw [if_neg g2, if_pos hg1]
  have eW : ∀ p, ts_w s p = wyc (ts_a s) (ts_e s) p := fun p => by unfold ts_w; rw [if_neg g2]
  rw [rM_bothOfTable_u, rM_bothOfTable_e]
  simp only [rm_wK, hK, if_true, a1, a2, b1, c1, Option.bind_some]
  rw [rM_bothOfTable_32_e, if_neg (by decide), if_neg (by decide), if_pos rfl, d1, rM_bothOfTable_32_e, if_neg (by decide)]
  rcases d5 with ⟨r1, v1⟩ | ⟨r0, v0⟩
  · rw [if_neg (by rw [r1]; decide), if_neg (by decide), r1]
    have f5 : ∀ q, (320 ≤ q ∧ q < 380) ∨ (397 ≤ q ∧ q < 407) → V5 q = V4 q := fun q hq => d4 q (Or.inr hq)
    obtain ⟨S6, L6, G6, V6, fl2, x1, x2, x3, x4, x5⟩ := rm_bt54 H (p := 1) (o := 402) (u := fun w => V2 (320 + rm_sl 1 1 w)) (F := fun w => fb_si (fun v => V2 (320 + rm_sl 1 0 v) * gT (rg_A M aN) 1 w v) (wyc (ts_a s) (ts_e s) 0)) (T := V2 361) (T' := V2 360) hok hg1 hg hr hc (by decide) rfl (a4 1 (by decide)).1 (a4 0 (by decide)).1 (a4 1 (by decide)).2.1 (a4 0 (by decide)).2.1 (fun w hw2 => ((a4 1 (by decide)).2.2 w hw2).2) (lF 1 (by decide)) (fun w hw2 => ((a4 1 (by decide)).2.2 w hw2).1) (hF 1 (by decide)) d2 d3 (fun w hw2 => ⟨by have := hw 1; rw [f5 _ (by rw [e1]; omega)]; exact f4 _ (by rw [e1]; omega), by have := hw 1; rw [f5 _ (by omega)]; exact c3 w hw2⟩) (by rw [f5 _ (by omega)]; exact f4 _ (by decide)) (by rw [f5 _ (by omega)]; exact f4 _ (by decide))
    have x1 : rM_bothOfTable_54 m 1 1 402 (rm_w aS aL aG M S5 L5 G5) = rM_bothOfTable_32 m fl2 2 (rm_w aS aL aG M S6 L6 G6) := x1
    rw [x1, rM_bothOfTable_32_e, if_pos (by decide), rM_bothOfTable_245_e]
    rcases x5 with ⟨q1, v2⟩ | ⟨q0, v2⟩
    · rw [if_pos (Or.inr q1), q1]
      refine ⟨S6, L6, G6, V6, 1, rfl, x2, x3, Or.inl ⟨rfl, fun p hp w hw2 => ?_, fun p w hp hw2 => ?_⟩⟩
      · rw [eP] at hp
        rw [eW] at hw2
        rcases (show p = 0 ∨ p = 1 by omega) with e | e
        · subst e; exact (v1 w hw2).1
        · subst e; exact (v2 w hw2).1
      · rcases (show p = 0 ∨ p = 1 by omega) with e | e
        · subst e
          have hw0 := hw 0
          have fr : ∀ k, (k = 160 ∨ k = 200 ∨ k = 240 ∨ k = 280) → V6 (k + rm_sl 1 0 w) = V5 (k + rm_sl 1 0 w) := fun k hk => x4 _ (Or.inl ⟨by rw [e0]; omega, by rw [e0]; omega, fun v hv => by have := hw 1; rw [e0, e1]; omega⟩)
          rw [fr 160 (by omega), fr 200 (by omega), fr 240 (by omega), fr 280 (by omega)]
          exact (v1 w hw2).2
        · subst e; exact (v2 w hw2).2
    · rw [if_pos (Or.inl q0), q0]
      refine ⟨S6, L6, G6, V6, 0, rfl, x2, x3, Or.inr ⟨rfl, fun q => v2 (fun w hw2 => q 1 (by rw [eP]; decide) w (by rw [eW]; exact hw2))⟩⟩
  · rw [if_pos r0, rM_bothOfTable_245_e, if_pos (Or.inl r0), r0]
    exact ⟨S5, L5, G5, V5, 0, rfl, d2, d3, Or.inr ⟨rfl, fun q => v0 (fun w hw2 => q 0 (by rw [eP]; decide) w (by rw [eW]; exact hw2))⟩⟩
/-- the greatest of the worths, over the other's total, in lowest terms -/
theorem rm_best141 (H : rm_F m aS aL aG aN aB M) {r c p n : Nat} (hg : rg_I M 115 m = nI 1) (hr : rg_I M 116 m = nI r) (hc : rg_I M 117 m = nI c) (hp : p < 2) (hwy : rm_wy 1 r c p = n) (hn : n ≤ 5) {F : Nat → Int} {T' : Int} (hT' : 0 < T') (hlT' : rm_lt T' 42) (hlF : ∀ w, w < n → rm_lt (F w) 43) : ∀ d j : Nat, n - (j + 1) = d → j + 1 ≤ n → ∀ (S L G : Nat → Int32) (V : Nat → Int), rm_V S L G V → (∀ w, w < n → V (397 + w) = F w) → V (360 + (1 - p)) = T' → V 413 = 1 → V 409 = iM F j →
    ∃ (S' L' G' : Nat → Int32) (V' : Nat → Int), rM_best_141 m (nI p) (nI (j + 1)) (rm_w aS aL aG M S L G) = some (none, rm_w aS aL aG M S' L' G') ∧ rm_V S' L' G' V' ∧ V' 409 = (qM (fun w => qv (F w) T') (n - 1)).num ∧ V' 410 = ((qM (fun w => qv (F w) T') (n - 1)).den : Int) ∧ ∀ q, q ≠ 386 → q ≠ 389 → q ≠ 390 → q ≠ 391 → q ≠ 409 → q ≠ 410 → V' q = V q := by
  have hK := H.1
  intro d
  induction d with
  | zero =>
    intro j hd hj S L G V hV hw hT hO hZ
    have e : j + 1 = n := by omega
    have e' : j = n - 1 := by omega
    have wy := rm_ways (m := m) (M := (rm_w aS aL aG M S L G)) hK (p := p) hg hr hc (by decide) (by omega)
    rw [hwy] at wy
    have ei : (361 : Int32) - nI p = nI (360 + (1 - p)) := by rcases (show p = 0 ∨ p = 1 by omega) with e | e <;> subst e <;> rfl
    obtain ⟨S1, L1, G1, t1, t2⟩ := rm_copyV H (a := 360 + (1 - p)) (c := 410) (by omega) (by omega) (by decide) hV (by rw [hT]; exact hlT'.mono (by decide))
    rw [hT] at t2
    have t1 : rM_copy m (nI (360 + (1 - p))) 410 (rm_w aS aL aG M S L G) = _ := t1
    have e9 : va_up V 410 T' 409 = iM F j := by rw [rg_up_ne (by decide)]; exact hZ
    obtain ⟨g, S2, L2, G2, u1, u2⟩ := rm_lowerV H (n := 409) (d := 410) (by decide) (by decide) (by decide) (by decide) (by decide) (by decide) (by decide) t2 (by rw [rg_up_eq]; exact hT')
    rw [e9, rg_up_eq] at u2
    have u1 : rM_lower m 409 410 (rm_w aS aL aG M S1 L1 G1) = _ := u1
    obtain ⟨l1, l2⟩ := low_uni (n := iM F j) (d := T') hT'
    rw [l1, l2, qv_iM hT', e'] at u2
    rw [rM_best_141_e]
    simp only [rm_wK, hK, if_true, wy, Option.bind_some, e, Int32.le_refl, ei, t1, u1]
    refine ⟨S2, L2, G2, _, rfl, u2, ?_, rg_up_eq, fun q a1 a2 a3 a4 a5 a6 => ?_⟩
    · rw [rg_up_ne (by decide), rg_up_eq]
    · rw [rg_up_ne a6, rg_up_ne a5, rg_up_ne a1, rg_up_ne a6]
  | succ d ih =>
    intro j hd hj S L G V hV hw hT hO hZ
    have hjn : j + 1 < n := by omega
    have wy := rm_ways (m := m) (M := (rm_w aS aL aG M S L G)) hK (p := p) hg hr hc (by decide) (by omega)
    rw [hwy] at wy
    have p0 : ¬ nI n ≤ nI (j + 1) := by rw [nI_leI (by omega) (by omega)]; omega
    have ea : (397 : Int32) + nI (j + 1) = nI (397 + (j + 1)) := by rw [show (397 : Int32) = nI 397 from rfl, nI_add]
    have lM : rm_lt (iM F j) 43 := iM_lt (fun w hw' => hlF w (by omega))
    obtain ⟨S1, L1, G1, V1, t1, t2, t3⟩ := rm_isMoreV H (n := 397 + (j + 1)) (d := 413) (b := 409) (e := 413) (k := 43) (l := 43) (by omega) (by decide) (by decide) (by decide) (by omega) (by omega) (by decide) (by decide) (by decide) (by decide) (by decide) (by decide) (by decide) (by decide) hV (by rw [hw _ hjn]; exact hlF _ hjn) (by rw [hO]; exact rm_lt_one (by decide)) (by rw [hZ]; exact lM) (by rw [hO]; exact rm_lt_one (by decide)) (by decide)
    rw [hw _ hjn, hO, hZ, Int.mul_one, Int.mul_one] at t1
    have t1 : rM_isMore m (nI (397 + (j + 1))) 413 409 413 (rm_w aS aL aG M S L G) = _ := t1
    rw [rM_best_141_e]
    simp only [rm_wK, hK, if_true, wy, Option.bind_some, p0, if_false, ea, t1]
    by_cases cm : iM F j < F (j + 1)
    · rw [if_pos cm, if_neg (by decide)]
      have ew : V1 (397 + (j + 1)) = F (j + 1) := by rw [t3 _ (by omega) (by omega) (by omega)]; exact hw _ hjn
      obtain ⟨S2, L2, G2, u1, u2⟩ := rm_copyV H (a := 397 + (j + 1)) (c := 409) (by omega) (by omega) (by decide) t2 (by rw [ew]; exact (hlF _ hjn).mono (by decide))
      rw [ew] at u2
      have u1 : rM_copy m (nI (397 + (j + 1))) 409 (rm_w aS aL aG M S1 L1 G1) = _ := u1
      simp only [u1, Option.bind_some, rM_best_183_e, nI_1]
      obtain ⟨S', L', G', V', y1, y2, y3, y4, y5⟩ := ih (j + 1) (by omega) (by omega) S2 L2 G2 _ u2 (fun w hw' => by rw [rg_up_ne (by omega), t3 _ (by omega) (by omega) (by omega)]; exact hw w hw') (by rw [rg_up_ne (by omega), t3 _ (by omega) (by omega) (by omega)]; exact hT) (by rw [rg_up_ne (by omega), t3 _ (by omega) (by omega) (by omega)]; exact hO) (by rw [rg_up_eq]; exact (if_pos cm).symm)
      exact ⟨S', L', G', V', y1, y2, y3, y4, fun q a1 a2 a3 a4 a5 a6 => by rw [y5 q a1 a2 a3 a4 a5 a6, rg_up_ne a5, t3 q a2 a3 a4]⟩
    · rw [if_neg cm, if_pos rfl, rM_best_183_e, nI_1]
      obtain ⟨S', L', G', V', y1, y2, y3, y4, y5⟩ := ih (j + 1) (by omega) (by omega) S1 L1 G1 V1 t2 (fun w hw' => by rw [t3 _ (by omega) (by omega) (by omega)]; exact hw w hw') (by rw [t3 _ (by omega) (by omega) (by omega)]; exact hT) (by rw [t3 _ (by omega) (by omega) (by omega)]; exact hO) (by rw [t3 _ (by omega) (by omega) (by omega), hZ]; exact (if_neg cm).symm)
      exact ⟨S', L', G', V', y1, y2, y3, y4, fun q a1 a2 a3 a4 a5 a6 => by rw [y5 q a1 a2 a3 a4 a5 a6, t3 q a2 a3 a4]⟩
/-- what the best answer gets at a table of numbers -/
theorem rm_bestT (H : rm_F m aS aL aG aN aB M) {s : sS} {n0 p : Nat} (hok : ts_ok n0 s) (hg1 : ts_g s = 1) (hg : rg_I M 115 m = nI 1) (hr : rg_I M 116 m = nI (ts_a s)) (hc : rg_I M 117 m = nI (ts_e s)) (hnum : ∀ i, i < 25 → rg_A M aN i = ts_num s i) (hp : p < 2) {S L G : Nat → Int32} {V : Nat → Int} (hV : rm_V S L G V) (hs : mV s V) :
    ∃ (S' L' G' : Nat → Int32) (V' : Nat → Int), rM_best m (nI p) (rm_w aS aL aG M S L G) = some (rm_w aS aL aG M S' L' G') ∧ rm_V S' L' G' V' ∧ mV s V' ∧ V' 409 = (ts_best s p).num ∧ V' 410 = ((ts_best s p).den : Int) ∧ V' 414 = V 414 ∧ V' 415 = V 415 := by
  have hK := H.1
  have g2 : ts_g s ≠ 2 := by omega
  have hw := fun p => hok.w hg1 p
  have hnumB : ∀ i, i < 25 → (rg_A M aN i).toInt.natAbs ≤ 1000 := fun i hi => by rw [hnum i hi]; exact hok.2.2.2.2.2.1 i hi
  obtain ⟨S1, L1, G1, S2, L2, G2, V2, a1, a2, a3, a4, a5⟩ := rm_weigh2 H (o := 80) (o2 := 40) hok hg1 hg hr hc (Or.inr ⟨rfl, rfl⟩) hV hs
  have a1 : rM_weigh m 0 80 (rm_w aS aL aG M S L G) = _ := a1
  have a2 : rM_weigh m 1 80 (rm_w aS aL aG M S1 L1 G1) = _ := a2
  obtain ⟨S3, L3, G3, V3, b1, b2, b3, b4⟩ := rm_sumsOfM H (p := p) (o := 397) (n := wyc (ts_a s) (ts_e s) p) (n' := wyc (ts_a s) (ts_e s) (1 - p)) hg hr hc hp rfl rfl (hw p).2 (hw _).2 (Or.inl rfl) hnumB (u := fun v => V2 (320 + rm_sl 1 (1 - p) v)) (fun v hv => ((a4 (1 - p) (by omega)).2.2 v hv).2) a3 (fun v hv => rfl)
  have b1 : rM_sumsOf m (nI p) 397 (rm_w aS aL aG M S2 L2 G2) = _ := b1
  obtain ⟨F, hFd⟩ : ∃ F : Nat → Int, F = fun w => fb_si (fun v => V2 (320 + rm_sl 1 (1 - p) v) * gT (rg_A M aN) p w v) (wyc (ts_a s) (ts_e s) (1 - p)) := ⟨_, rfl⟩
  have hF : ∀ w, w < wyc (ts_a s) (ts_e s) p → tWr (tMx (ts_y s) 40 (ts_a s) (ts_e s) (1 - p)) (ts_num s) p w (wyc (ts_a s) (ts_e s) (1 - p)) * ((V2 (360 + (1 - p)) : Int) : Rat) = ((F w : Int) : Rat) := fun w hw2 => by
    rw [hFd]
    show _ = ((fb_si _ _ : Int) : Rat)
    rw [si_qs]
    unfold tWr
    rw [Rat.mul_comm, ← qs_mul]
    refine qs_cong (fun v hv => ?_)
    have h5 := hw p
    have h6 := hw (1 - p)
    rw [Rat.intCast_mul, ← ((a4 (1 - p) (by omega)).2.2 v hv).1, gT_cong hnum (by omega) (by omega)]
    grind
  have lF : ∀ w, w < wyc (ts_a s) (ts_e s) p → rm_lt (F w) 43 := fun w hw2 => by
    have h5 := hw p
    have h6 := hw (1 - p)
    rw [hFd]
    exact si_lt1 (k := 42) h6.2 (fun v hv => ((a4 (1 - p) (by omega)).2.2 v hv).2.mul (rm_lt_g (gI_T hnumB (p := p) (w := w) (v := v) (by omega) (by omega)).2))
  have hw0 : 0 < wyc (ts_a s) (ts_e s) p := (hw p).1
  have e0 : V3 397 = F 0 := by rw [hFd]; exact b3 0 hw0
  obtain ⟨S4, L4, G4, c1, c2⟩ := rm_copyV H (a := 397) (c := 409) (by decide) (by decide) (by decide) b2 (by rw [e0]; exact (lF 0 hw0).mono (by decide))
  rw [e0] at c2
  have c1 : rM_copy m 397 409 (rm_w aS aL aG M S3 L3 G3) = _ := c1
  have f3 : ∀ q, (q < 320 ∨ (360 ≤ q ∧ q < 386) ∨ (411 ≤ q ∧ q < 416)) → V3 q = if q < 360 then V q else if q < 380 then V2 q else V q := fun q hq => by
    rw [b4 q (by omega) (by omega) (by omega) (by omega)]
    by_cases k1 : q < 360
    · rw [if_pos k1, a5 q (by omega) (by omega) (by omega) (by omega)]
    · rw [if_neg k1]
      by_cases k2 : q < 380
      · rw [if_pos k2]
      · rw [if_neg k2, a5 q (by omega) (by omega) (by omega) (by omega)]
  have hT := a4 (1 - p) (by omega)
  obtain ⟨S5, L5, G5, V5, d1, d2, d3, d4, d5⟩ := rm_best141 H hg hr hc hp rfl (hw p).2 (F := F) hT.1 hT.2.1 lF _ 0 rfl hw0 S4 L4 G4 _ c2 (fun w hw2 => by have := hw p; rw [rg_up_ne (by have h9 : w < wyc (ts_a s) (ts_e s) p := hw2; omega), hFd]; exact b3 w hw2) (by rw [rg_up_ne (by omega), f3 _ (by omega), if_neg (by omega), if_pos (by omega)]) (by rw [rg_up_ne (by decide), f3 _ (by omega), if_neg (by omega), if_neg (by omega)]; exact hs.2.2.2) rg_up_eq
  have d1 : rM_best_141 m (nI p) 1 (rm_w aS aL aG M S4 L4 G4) = _ := d1
  have eb : qM (fun w => qv (F w) (V2 (360 + (1 - p)))) (wyc (ts_a s) (ts_e s) p - 1) = ts_best s p := by
    have e1 : ts_best s p = tBest (ts_y s) (ts_num s) (ts_a s) (ts_e s) p := by
      unfold ts_best tBests
      rw [if_neg g2]
      rcases (show p = 0 ∨ p = 1 by omega) with e | e <;> subst e <;> rfl
    rw [e1]
    unfold tBest
    exact qM_cong (fun w hw2 => (qv_eq hT.1 (hF w (by omega))).symm)
  have hwyp : rm_wy 1 (ts_a s) (ts_e s) p = wyc (ts_a s) (ts_e s) p := rfl
  rw [hwyp, eb] at d3 d4
  have f5 : ∀ q, (q < 320 ∨ (380 ≤ q ∧ q < 386) ∨ (411 ≤ q ∧ q < 416)) → V5 q = V q := fun q hq => by
    rw [d5 q (by omega) (by omega) (by omega) (by omega) (by omega) (by omega), rg_up_ne (by omega), f3 q (by omega)]
    by_cases k1 : q < 360
    · rw [if_pos k1]
    · rw [if_neg k1, if_neg (by omega)]
  rw [rM_best_u, rM_best_e]
  have hg' : ¬ rg_I M 115 m = (2 : Int32) := by rw [hg]; decide
  simp only [rm_wK, rm_wI, hK, hg', if_true, if_false, a1, a2, b1, c1, d1, Option.bind_some]
  exact ⟨S5, L5, G5, V5, rfl, d2, hs.keep (fun q hq => f5 q (by omega)) (f5 _ (by omega)) (f5 _ (by omega)) (f5 _ (by omega)), d3, d4, f5 _ (by omega), f5 _ (by omega)⟩
end

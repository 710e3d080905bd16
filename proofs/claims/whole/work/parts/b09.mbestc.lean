/-! the reference: the best answers of the cards; the gap -/
theorem cL_rm {v : Int} {k : Nat} (h : cL v k) : rm_lt v k := by
  unfold rm_lt
  unfold cL at h
  exact Nat.lt_of_lt_of_le h (Nat.pow_le_pow_left (by decide) k)
/-- the sizes of best answers -/
theorem kBest_L {d : Nat} {mu : Nat → Nat → Rat} {D : Nat → Int} (h3 : 3 ≤ d) (hd : d ≤ 5) (hM : cMu d mu D) (who : Nat) : qL (kBest mu d who) 425 := by
  obtain ⟨c1, c2, c3, c4, c5⟩ := ch_facts h3 hd
  have hpos := Int.mul_pos (Int.mul_pos (Ecd_ip hM (t := 2) (by decide)) (Ecd_ip hM (t := 4) (by decide))) (Ecd_ip hM (t := 6) (by decide))
  have hlen := ((ip_96 hd hM (t := 2) (by decide)).mul (ip_96 hd hM (t := 4) (by decide))).mul (ip_191 hd hM (t := 6) (by decide))
  have fAs : qD (qs (fA mu d) d) (ip (Ecd D 2) d * ip (Ecd D 4) d * ip (Ecd D 6) d) ∧ -((300 : Nat) : Rat) ≤ qs (fA mu d) d ∧ qs (fA mu d) d ≤ ((300 : Nat) : Rat) := by
    have hb2 := qs_abs (f := fA mu d) (B := 60) (n := d) (fun k _ => (fA_facts hd hM k).1.2)
    exact ⟨(qs_D (fun k _ => (fA_facts hd hM k).1.1)).dvd ⟨_, rfl⟩, q_wide (by omega) hb2.1 hb2.2⟩
  have fBs : qD (qs (fB mu d) d) (ip (Ecd D 2) d * ip (Ecd D 4) d * ip (Ecd D 6) d) ∧ -((200 : Nat) : Rat) ≤ qs (fB mu d) d ∧ qs (fB mu d) d ≤ ((200 : Nat) : Rat) := by
    have fD : ∀ k, qD (fB mu d k) (ip (Ecd D 6) d) ∧ -((40 : Nat) : Rat) ≤ fB mu d k ∧ fB mu d k ≤ ((40 : Nat) : Rat) := fun k => by
      obtain ⟨⟨f1, f2⟩, f3, f4⟩ := fB_facts hd hM k
      exact ⟨f1.add f3, q_add2 f2 f4⟩
    have hb2 := qs_abs (f := fB mu d) (B := 40) (n := d) (fun k _ => (fD k).2)
    exact ⟨(qs_D (fun k _ => (fD k).1)).dvd ⟨_, Int.mul_comm _ _⟩, q_wide (by omega) hb2.1 hb2.2⟩
  have hx : ∀ x : Rat, qD x (ip (Ecd D 2) d * ip (Ecd D 4) d * ip (Ecd D 6) d) → -((500 : Nat) : Rat) ≤ x ∧ x ≤ ((500 : Nat) : Rat) → qL (x * chN d) 425 := fun x h1 h2 => by
    have h4 := q_ch h3 hd h2.1 h2.2
    exact ((h1.mul c1).L (Int.mul_pos hpos c4) (hlen.mul c5) (by decide) h4.1 h4.2).mono (by decide)
  unfold kBest
  refine hx _ ?_ ?_
  · refine qD.add ?_ ?_
    · split; exact qD_0 _; exact fAs.1
    · split; exact qD_0 _; exact fBs.1
  · refine q_add2 (B := 300) (C := 200) ?_ ?_
    · split; exact ⟨by decide, by decide⟩; exact fAs.2
    · split; exact ⟨by decide, by decide⟩; exact fBs.2
theorem tBest_L {y : Nat → Rat} {num : Nat → Int32} {wa we p : Nat} (hok : tOk wa we num y) (hp : p < 2) : qL (tBest y num wa we p) 47 := by
  obtain ⟨k, h1, h2⟩ := (qM_max (f := fun w => tWr (tMx y 40 wa we (1 - p)) num p w (wyc wa we (1 - p))) (n := wyc wa we p - 1)).2
  unfold tBest
  rw [h2]
  obtain ⟨D, e1, e2⟩ := tMx_N hok (o := 40) (p := 1 - p) (Or.inr rfl) (by omega)
  have w1 := hok.w p
  have w2 := hok.w (1 - p)
  exact (qN.sum (g := 1000) (a := fun v => gT num p k v) e1 e2 (Nat.le_refl _) (fun v hv => (gI_T (p := p) hok.2.2.2.2.1 (by omega) (by omega)).2) (by omega)).1
theorem ts_best_L {n : Nat} {s : sS} (hok : ts_ok n s) (hg : ts_g s ≠ 0) (who : Nat) : qL (ts_best s who) 425 := by
  have h9 : ∀ i, i < 80 → qL (ts_y s i) 9 := fun i hi => qB_L (hok.2.2.2.2.2.2.1 i hi)
  unfold ts_best
  by_cases cg2 : ts_g s = 2
  · rw [if_pos cg2]
    obtain ⟨d1, d2⟩ := hok.2.2.2.1 cg2
    obtain ⟨D, hD⟩ := cmu_D (y := ts_y s) (o := 40) (P := 4 * ts_d s) (Or.inr rfl) (by omega) h9
    exact kBest_L d1 d2 hD who
  · have cg1 : ts_g s = 1 := by have := hok.1; omega
    obtain ⟨w1, w2, w3, w4⟩ := hok.2.1 cg1
    have hok' : tOk (ts_a s) (ts_e s) (ts_num s) (ts_y s) := ⟨w1, w2, w3, w4, hok.2.2.2.2.2.1, h9⟩
    rw [if_neg cg2]
    unfold tBests
    split
    · exact (tBest_L hok' (by decide)).mono (by decide)
    · split
      · exact (tBest_L hok' (by decide)).mono (by decide)
      · exact (qL_add (tBest_L hok' (by decide)) (tBest_L hok' (by decide))).mono (by decide)
theorem qx_qv {a b c d : Int} (hb : 0 < b) (hd : 0 < d) : qx (qv a b) (qv c d) = if a * d < c * b then qv c d else qv a b := by
  unfold qx
  by_cases h : a * d < c * b
  · rw [if_pos h, if_pos ((qv_lt hb hd).mpr h)]
  · rw [if_neg h, if_neg (fun q => h ((qv_lt hb hd).mp q))]
section
variable {m aS aL aG aN aB : Nat} {M : rg_M}
variable {S L G : Nat → Int32} {V : Nat → Int}
/-- the greater of n / d and n' / d' goes to n / d -/
theorem rm_maxA (H : rm_F m aS aL aG aN aB M) {n d n' d' k : Nat} {x z : Rat} (hp : (n = 411 ∧ d = 412) ∨ (n = 382 ∧ d = 383)) (hp' : n' = 384 ∧ d' = 385) (hV : rm_V S L G V) (ha : acc V n d x k) (hb : acc V n' d' z k) (hk : k + k + 1 ≤ 4200) : ∃ (S1 L1 G1 S' L' G' : Nat → Int32) (V' : Nat → Int) (f : Int32), rM_isMore m (nI n') (nI d') (nI n) (nI d) (rm_w aS aL aG M S L G) = some (f, rm_w aS aL aG M S1 L1 G1) ∧ ((f = 0 ∧ S' = S1 ∧ L' = L1 ∧ G' = G1) ∨ (f = 1 ∧ ∃ S2 L2 G2, rM_copy m (nI n') (nI n) (rm_w aS aL aG M S1 L1 G1) = some (rm_w aS aL aG M S2 L2 G2) ∧ rM_copy m (nI d') (nI d) (rm_w aS aL aG M S2 L2 G2) = some (rm_w aS aL aG M S' L' G'))) ∧ rm_V S' L' G' V' ∧ acc V' n d (qx x z) k ∧ ∀ q, q ≠ n → q ≠ d → q ≠ 389 → q ≠ 390 → q ≠ 391 → V' q = V q := by
  obtain ⟨rfl, rfl⟩ := hp'
  obtain ⟨a1, a2, a3, a4⟩ := ha
  obtain ⟨b1, b2, b3, b4⟩ := hb
  obtain ⟨S1, L1, G1, V1, t1, t2, t3⟩ := rm_isMoreV H (n := 384) (d := 385) (b := n) (e := d) (k := k) (l := k) (by decide) (by decide) (by omega) (by omega) (by decide) (by decide) (by decide) (by decide) (by decide) (by omega) (by omega) (by omega) (by omega) (by omega) hV b2 b3 a2 a3 hk
  have hq : qx x z = if V n * V 385 < V 384 * V d then z else x := by rw [← a4, ← b4]; exact qx_qv a1 b1
  by_cases c : V n * V 385 < V 384 * V d
  · rw [if_pos c] at t1 hq
    have e1 : V1 384 = V 384 := t3 _ (by decide) (by decide) (by decide)
    have e2 : V1 385 = V 385 := t3 _ (by decide) (by decide) (by decide)
    have cn : rm_cap n = 4200 := by unfold rm_cap; rw [if_neg (by omega)]
    have cd : rm_cap d = 4200 := by unfold rm_cap; rw [if_neg (by omega)]
    obtain ⟨S2, L2, G2, u1, u2⟩ := rm_copyV H (a := 384) (c := n) (by decide) (by decide) (by omega) t2 (by rw [e1, cn]; exact b2.mono (by omega))
    rw [e1] at u2
    have e3 : va_up V1 n (V 384) 385 = V 385 := by rw [rg_up_ne (by omega)]; exact e2
    obtain ⟨S3, L3, G3, w1, w2⟩ := rm_copyV H (a := 385) (c := d) (by decide) (by decide) (by omega) u2 (by rw [e3, cd]; exact b3.mono (by omega))
    rw [e3] at w2
    refine ⟨S1, L1, G1, S3, L3, G3, _, 1, t1, Or.inr ⟨rfl, S2, L2, G2, u1, w1⟩, w2, ?_, fun q h1 h2 h3 h4 h5 => by rw [rg_up_ne h2, rg_up_ne h1, t3 q h3 h4 h5]⟩
    rw [hq]
    refine ⟨?_, ?_, ?_, ?_⟩
    · rw [rg_up_eq]; exact b1
    · rw [rg_up_ne (by omega), rg_up_eq]; exact b2
    · rw [rg_up_eq]; exact b3
    · rw [rg_up_ne (by omega), rg_up_eq, rg_up_eq]; exact b4
  · rw [if_neg c] at t1 hq
    refine ⟨S1, L1, G1, S1, L1, G1, V1, 0, t1, Or.inl ⟨rfl, rfl, rfl, rfl⟩, t2, ?_, fun q _ _ h3 h4 h5 => t3 q h3 h4 h5⟩
    rw [hq]
    exact acc.keep ⟨a1, a2, a3, a4⟩ (t3 _ (by omega) (by omega) (by omega)) (t3 _ (by omega) (by omega) (by omega))
/-- the place that is looked at behind a bet -/
def bhP (isA : Int32) (j : Nat) : Nat := if isA = 0 then 4 * j else 4 * j + 1
def bhZ (mu : Nat → Nat → Rat) (isA : Int32) (k j : Nat) : Rat := if j = k then 0 else mu (bhP isA j) 1 * ((-1 : Int) : Rat)
def bhT (mu : Nat → Nat → Rat) (isA : Int32) (k j : Nat) : Rat := if j = k then 0 else mu (bhP isA j) 1 * ((2 * btz k j : Int) : Rat)
/-- behind a bet: giving up and calling, against one card -/
theorem rm_bh1 (H : rm_F m aS aL aG aN aB M) {d j k k1 : Nat} {isA : Int32} {mu : Nat → Nat → Rat} {x z : Rat} (hd : d ≤ 5) (hdk : rg_I M 118 m = nI d) (hk5 : k < d) (hj : j < d) (hV : rm_V S L G V) (hw : wOk d mu V) (ha : acc V 411 412 x k1) (hb : acc V 384 385 z k1) (hk : k1 + 19 ≤ 4200) : ∃ (S' L' G' : Nat → Int32) (V' : Nat → Int), rM_bestBehind_22 m (nI k) isA (nI j) (rm_w aS aL aG M S L G) = rM_bestBehind_22 m (nI k) isA (nI (j + 1)) (rm_w aS aL aG M S' L' G') ∧ rm_V S' L' G' V' ∧ acc V' 411 412 (x + bhZ mu isA k j) (k1 + 19) ∧ acc V' 384 385 (z + bhT mu isA k j) (k1 + 19) ∧ ∀ q, (q < 384 ∨ (394 < q ∧ q ≠ 411 ∧ q ≠ 412 ∧ q ≠ 416 ∧ q ≠ 417)) → V' q = V q := by
  have H0 := H
  obtain ⟨hK, hS, hL, hG, -, -, kS, kL, kG, -, -, lS, lL, lG, -, -, d1, d2, d3, -⟩ := H
  obtain ⟨s1, s2, s3, s4⟩ := btz_i k j
  have pd : ¬ nI d ≤ nI j := by rw [nI_leI (by omega) (by omega)]; omega
  rw [rM_bestBehind_22_e]
  simp only [rm_wK, rm_wI, hK, hdk, if_true, pd, if_false]
  unfold bhZ bhT
  by_cases cj : j = k
  · rw [if_pos (by rw [cj]), rM_bestBehind_149_e, nI_1, if_pos cj, if_pos cj]
    exact ⟨S, L, G, V, rfl, hV, (ha.to (Rat.add_zero _).symm).mono (by omega), (hb.to (Rat.add_zero _).symm).mono (by omega), fun _ _ => rfl⟩
  · rw [if_neg (fun q => cj ((nI_eq (by omega) (by omega)).mp q)), if_neg cj, if_neg cj]
    obtain ⟨P, hP⟩ : ∃ P, P = bhP isA j := ⟨_, rfl⟩
    rw [← hP]
    have hP4 : P < 4 * d := by rw [hP]; unfold bhP; split <;> omega
    have eP : (if isA = 0 then ((rM_first (nI j) (rm_w aS aL aG M S L G)).bind (fun r4 => rM_bestBehind_54 m (nI k) isA (nI j) r4.1 r4.2)) else (rM_bestBehind_54 m (nI k) isA (nI j) (((4 : Int32) * nI j) + (1 : Int32)) (rm_w aS aL aG M S L G))) = rM_bestBehind_54 m (nI k) isA (nI j) (nI P) (rm_w aS aL aG M S L G) := by
      rw [hP]; unfold bhP
      by_cases c : isA = 0
      · rw [if_pos c, if_pos c, rm_first]; rfl
      · rw [if_neg c, if_neg c, rm_l4, rm_l1]
    rw [eP]
    obtain ⟨f0, f1, f2⟩ := hw P hP4
    obtain ⟨f3, f4⟩ := f2 1 (by decide)
    have eb : (360 : Int32) + nI P = nI (360 + P) := rm_l360 P
    -- giving up
    obtain ⟨S1, L1, G1, t1, t2⟩ := rm_copyV H0 (a := 320 + 2 * P + 1) (c := 393) (by omega) (by omega) (by decide) hV (f3.mono (by decide))
    have t1 : rM_copy m (nI (320 + 2 * P + 1)) 393 (rm_w aS aL aG M S L G) = _ := t1
    have t3 := rm_negV (a := 393) (by decide) (by decide) t2
    rw [rg_up_eq, rg_up_up] at t3
    have e60 : va_up V 393 (-(V (320 + 2 * P + 1))) (360 + P) = V (360 + P) := rg_up_ne (by omega)
    obtain ⟨S2, L2, G2, u1, u2⟩ := rm_copyV H0 (a := 360 + P) (c := 394) (by omega) (by omega) (by decide) t3 (by rw [e60]; exact f1.mono (by decide))
    rw [e60] at u2
    have u1 : rM_copy m (nI (360 + P)) 394 (rm_w aS aL aG M S1 L1 (upd G1 393 (-(G1 393)))) = _ := u1
    have v2 : ∀ q, q ≠ 393 → q ≠ 394 → va_up (va_up V 393 (-(V (320 + 2 * P + 1)))) 394 (V (360 + P)) q = V q := fun q a b => by rw [rg_up_ne b, rg_up_ne a]
    have v93 : va_up (va_up V 393 (-(V (320 + 2 * P + 1)))) 394 (V (360 + P)) 393 = -(V (320 + 2 * P + 1)) := by rw [rg_up_ne (by decide), rg_up_eq]
    have v94 : va_up (va_up V 393 (-(V (320 + 2 * P + 1)))) 394 (V (360 + P)) 394 = V (360 + P) := rg_up_eq
    obtain ⟨S3, L3, G3, V3, w1, w2, w3, w4⟩ := rm_sumA H0 (n := 411) (d := 412) (l := 18) (Or.inr (Or.inr (Or.inr ⟨rfl, rfl⟩))) u2 (ha.keep (v2 _ (by decide) (by decide)) (v2 _ (by decide) (by decide))) (by rw [v93]; exact f3.neg.mono (by decide)) (by rw [v94]; exact f1) (by rw [v94]; exact f0) (by omega)
    have w1 : rM_sum m 411 412 (rm_w aS aL aG M S2 L2 G2) = _ := w1
    rw [v93, v94] at w3
    have f3' : ∀ q, q ≠ 389 → q ≠ 390 → q ≠ 393 → q ≠ 394 → q ≠ 411 → q ≠ 412 → V3 q = V q := fun q h1 h2 h3 h4 h5 h6 => by rw [w4 q h5 h6 h1 h2, v2 q h3 h4]
    have e394 : V3 394 = V (360 + P) := by rw [w4 _ (by decide) (by decide) (by decide) (by decide)]; exact v94
    -- calling
    have ew : V3 (320 + 2 * P + 1) = V (320 + 2 * P + 1) := f3' _ (by omega) (by omega) (by omega) (by omega) (by omega) (by omega)
    obtain ⟨S4, L4, G4, x1, x2⟩ := rm_copyV H0 (a := 320 + 2 * P + 1) (c := 393) (by omega) (by omega) (by decide) w2 (by rw [ew]; exact f3.mono (by decide))
    rw [ew] at x2
    have x1 : rM_copy m (nI (320 + 2 * P + 1)) 393 (rm_w aS aL aG M S3 L3 G3) = _ := x1
    have bts : rM_beats (nI k) (nI j) (rm_w aS aL aG M S4 L4 G4) = some (if j < k then 1 else -1, rm_w aS aL aG M S4 L4 G4) := rm_beats (by omega) (by omega)
    obtain ⟨S5, L5, G5, y1, y2⟩ := rm_scaleV H0 (a := 393) (k := 17) (by decide) (by decide) (by decide) (by decide) x2 ((2 : Int32) * (if j < k then 1 else -1 : Int32)).toInt64 (by rw [rg_up_eq]; exact f3) (by decide)
    rw [s2, rg_up_eq] at y2
    have y1 : rM_scale m 393 ((2 : Int32) * (if j < k then 1 else -1 : Int32)).toInt64 (rm_w aS aL aG M S4 L4 G4) = _ := y1
    obtain ⟨V5, hV5⟩ : ∃ V5, V5 = va_up (va_up (va_up (va_up V3 393 (V (320 + 2 * P + 1))) 417 (2 * btz k j)) 416 (V (320 + 2 * P + 1) * (2 * btz k j))) 393 (V (320 + 2 * P + 1) * (2 * btz k j)) := ⟨_, rfl⟩
    rw [← hV5] at y2
    have v5 : ∀ q, q ≠ 393 → q ≠ 416 → q ≠ 417 → V5 q = V3 q := fun q a b c => by rw [hV5, rg_up_ne a, rg_up_ne b, rg_up_ne c, rg_up_ne a]
    have v593 : V5 393 = V (320 + 2 * P + 1) * (2 * btz k j) := by rw [hV5, rg_up_eq]
    have v594 : V5 394 = V (360 + P) := by rw [v5 _ (by decide) (by decide) (by decide)]; exact e394
    have hb5 : acc V5 384 385 z k1 := hb.keep (by rw [v5 _ (by decide) (by decide) (by decide), f3' _ (by decide) (by decide) (by decide) (by decide) (by decide) (by decide)]) (by rw [v5 _ (by decide) (by decide) (by decide), f3' _ (by decide) (by decide) (by decide) (by decide) (by decide) (by decide)])
    obtain ⟨S6, L6, G6, V6, z1, z2, z3, z4⟩ := rm_sumA H0 (n := 384) (d := 385) (l := 18) (Or.inr (Or.inl ⟨rfl, rfl⟩)) y2 hb5 (by rw [v593]; exact f3.mul (rm_lt_small (by omega))) (by rw [v594]; exact f1) (by rw [v594]; exact f0) (by omega)
    have z1 : rM_sum m 384 385 (rm_w aS aL aG M S5 L5 G5) = _ := z1
    rw [v593, v594] at z3
    have c393 : (393 : Int32).toNatClampNeg = 393 := by decide
    have i393 : (0 : Int32) ≤ 393 := by decide
    rw [rM_bestBehind_54_e]
    simp only [rm_wK, rm_wR, rm_wL, hK, hG, kG, lG, if_true, Option.bind_some, and_self, rm_rG d2 d3, rm_wG d2 d3, rm_w1, t1, c393, i393, show (393 : Nat) < 420 by decide, eb, u1, w1, x1, bts, y1, z1, rM_bestBehind_149_e, nI_1]
    refine ⟨S6, L6, G6, V6, rfl, z2, ((w3.to ?_).mono (by omega)).keep (by rw [z4 _ (by decide) (by decide) (by decide) (by decide), v5 _ (by decide) (by decide) (by decide)]) (by rw [z4 _ (by decide) (by decide) (by decide) (by decide), v5 _ (by decide) (by decide) (by decide)]), (z3.to ?_).mono (by omega), fun q hq => by rw [z4 q (by omega) (by omega) (by omega) (by omega), v5 q (by omega) (by omega) (by omega), f3' q (by omega) (by omega) (by omega) (by omega) (by omega) (by omega)]⟩
    · rw [← hw.q hP4 (by decide), Int.mul_neg, Int.mul_one]
    · rw [← hw.q hP4 (by decide)]
/-- behind a bet: the better of giving up and calling -/
theorem rm_bhM (H : rm_F m aS aL aG aN aB M) {d k : Nat} {isA : Int32} {mu : Nat → Nat → Rat} (hd : d ≤ 5) (hdk : rg_I M 118 m = nI d) (hk5 : k < d) (hV : rm_V S L G V) (hw : wOk d mu V) : ∃ (S' L' G' : Nat → Int32) (V' : Nat → Int), rM_bestBehind m (nI k) isA (rm_w aS aL aG M S L G) = some (rm_w aS aL aG M S' L' G') ∧ rm_V S' L' G' V' ∧ acc V' 411 412 (qx (qs (bhZ mu isA k) d) (qs (bhT mu isA k) d)) 96 ∧ ∀ q, (q < 384 ∨ (394 < q ∧ q ≠ 411 ∧ q ≠ 412 ∧ q ≠ 416 ∧ q ≠ 417)) → V' q = V q := by
  have hK := H.1
  obtain ⟨S1, L1, G1, V1, a1, a2, a3, a4⟩ := rm_sum0A H (n := 411) (d := 412) (Or.inr (Or.inr (Or.inr ⟨rfl, rfl⟩))) hV
  have a1 : rM_sum0 m 411 412 (rm_w aS aL aG M S L G) = _ := a1
  obtain ⟨S2, L2, G2, V2, b1, b2, b3, b4⟩ := rm_sum0A H (n := 384) (d := 385) (Or.inr (Or.inl ⟨rfl, rfl⟩)) a2
  have b1 : rM_sum0 m 384 385 (rm_w aS aL aG M S1 L1 G1) = _ := b1
  have f2 : ∀ q, q ≠ 384 → q ≠ 385 → q ≠ 411 → q ≠ 412 → V2 q = V q := fun q h1 h2 h3 h4 => by rw [b4 q h1 h2, a4 q h3 h4]
  have go : ∀ e j : Nat, d - j = e → j ≤ d → ∀ (S L G : Nat → Int32) (V : Nat → Int), rm_V S L G V → wOk d mu V → acc V 411 412 (qs (bhZ mu isA k) j) (1 + 19 * j) → acc V 384 385 (qs (bhT mu isA k) j) (1 + 19 * j) → ∃ (S' L' G' : Nat → Int32) (V' : Nat → Int), rM_bestBehind_22 m (nI k) isA (nI j) (rm_w aS aL aG M S L G) = rM_bestBehind_22 m (nI k) isA (nI d) (rm_w aS aL aG M S' L' G') ∧ rm_V S' L' G' V' ∧ acc V' 411 412 (qs (bhZ mu isA k) d) (1 + 19 * d) ∧ acc V' 384 385 (qs (bhT mu isA k) d) (1 + 19 * d) ∧ ∀ q, (q < 384 ∨ (394 < q ∧ q ≠ 411 ∧ q ≠ 412 ∧ q ≠ 416 ∧ q ≠ 417)) → V' q = V q := by
    intro e
    induction e with
    | zero =>
      intro j he hj S L G V hV hw ha hb
      have e : j = d := by omega
      subst e
      exact ⟨S, L, G, V, rfl, hV, ha, hb, fun _ _ => rfl⟩
    | succ e ih =>
      intro j he hj S L G V hV hw ha hb
      obtain ⟨S1, L1, G1, V1, b1, b2, b3, b4, b5⟩ := rm_bh1 H (k := k) (j := j) (isA := isA) hd hdk hk5 (by omega) hV hw ha hb (by omega)
      obtain ⟨S2, L2, G2, V2, c1, c2, c3, c4, c5⟩ := ih (j + 1) (by omega) (by omega) S1 L1 G1 V1 b2 (hw.keep hd (fun q _ h2 => b5 q (by omega))) (b3.mono (by omega)) (b4.mono (by omega))
      exact ⟨S2, L2, G2, V2, by rw [b1, c1], c2, c3, c4, fun q hq => by rw [c5 q hq, b5 q hq]⟩
  obtain ⟨S3, L3, G3, V3, c1, c2, c3, c4, c5⟩ := go _ 0 rfl (Nat.zero_le _) S2 L2 G2 V2 b2 (hw.keep hd (fun q _ h2 => f2 q (by omega) (by omega) (by omega) (by omega))) (a3.keep (b4 _ (by decide) (by decide)) (b4 _ (by decide) (by decide))) b3
  have c1 : rM_bestBehind_22 m (nI k) isA 0 (rm_w aS aL aG M S2 L2 G2) = _ := c1
  obtain ⟨S4, L4, G4, S5, L5, G5, V5, f, x1, x2, x3, x4, x5⟩ := rm_maxA H (n := 411) (d := 412) (n' := 384) (d' := 385) (k := 96) (Or.inl ⟨rfl, rfl⟩) ⟨rfl, rfl⟩ c2 (c3.mono (by omega)) (c4.mono (by omega)) (by decide)
  have x1 : rM_isMore m 384 385 411 412 (rm_w aS aL aG M S3 L3 G3) = _ := x1
  have fr : ∀ q, (q < 384 ∨ (394 < q ∧ q ≠ 411 ∧ q ≠ 412 ∧ q ≠ 416 ∧ q ≠ 417)) → V5 q = V q := fun q hq => by rw [x5 q (by omega) (by omega) (by omega) (by omega) (by omega), c5 q hq, f2 q (by omega) (by omega) (by omega) (by omega)]
  rw [rM_bestBehind_u, rM_bestBehind_e]
  simp only [rm_wK, hK, if_true, a1, b1, Option.bind_some, c1]
  rw [rM_bestBehind_22_e]
  simp only [rm_wK, rm_wI, hK, hdk, if_true, Int32.le_refl, x1, Option.bind_some]
  rcases x2 with ⟨f0, e1, e2, e3⟩ | ⟨f1, S6, L6, G6, y1, y2⟩
  · subst e1 e2 e3
    rw [if_pos f0]
    exact ⟨S5, L5, G5, V5, rfl, x3, x4, fr⟩
  · have y1 : rM_copy m 384 411 (rm_w aS aL aG M S4 L4 G4) = _ := y1
    have y2 : rM_copy m 385 412 (rm_w aS aL aG M S6 L6 G6) = _ := y2
    rw [if_neg (by rw [f1]; decide)]
    simp only [rm_wK, hK, if_true, y1, y2, Option.bind_some]
    exact ⟨S5, L5, G5, V5, rfl, x3, x4, fr⟩
/-- into: T1 / T2 goes to Z1 / Z2 -/
theorem rm_intoM (H : rm_F m aS aL aG aN aB M) {k l : Nat} {x z : Rat} (hV : rm_V S L G V) (ha : acc V 382 383 x l) (hz : acc V 409 410 z k) (hk : k + l + 1 ≤ 4200) : ∃ (S' L' G' : Nat → Int32) (V' : Nat → Int), rM_into m (rm_w aS aL aG M S L G) = some (rm_w aS aL aG M S' L' G') ∧ rm_V S' L' G' V' ∧ acc V' 409 410 (z + x) (k + l + 1) ∧ ∀ q, (q < 382 ∨ (394 < q ∧ q ≠ 409 ∧ q ≠ 410)) → V' q = V q := by
  have hK := H.1
  obtain ⟨S1, L1, G1, V1, a1, a2, a3, a4, a5, a6⟩ := rm_lowA H (n := 382) (d := 383) (Or.inl ⟨rfl, rfl⟩) hV ha
  have a1 : rM_lower m 382 383 (rm_w aS aL aG M S L G) = _ := a1
  obtain ⟨g1, g2, g3, g4⟩ := a3
  obtain ⟨S2, L2, G2, b1, b2⟩ := rm_copyV H (a := 382) (c := 393) (by decide) (by decide) (by decide) a2 (g2.mono (by rw [show rm_cap 393 = 4200 by decide]; omega))
  have b1 : rM_copy m 382 393 (rm_w aS aL aG M S1 L1 G1) = _ := b1
  have e83 : va_up V1 393 (V1 382) 383 = V1 383 := rg_up_ne (by decide)
  obtain ⟨S3, L3, G3, c1, c2⟩ := rm_copyV H (a := 383) (c := 394) (by decide) (by decide) (by decide) b2 (by rw [e83]; exact g3.mono (by rw [show rm_cap 394 = 4200 by decide]; omega))
  rw [e83] at c2
  have c1 : rM_copy m 383 394 (rm_w aS aL aG M S2 L2 G2) = _ := c1
  have v3 : ∀ q, q ≠ 393 → q ≠ 394 → va_up (va_up V1 393 (V1 382)) 394 (V1 383) q = V1 q := fun q a b => by rw [rg_up_ne b, rg_up_ne a]
  have v93 : va_up (va_up V1 393 (V1 382)) 394 (V1 383) 393 = V1 382 := by rw [rg_up_ne (by decide), rg_up_eq]
  have v94 : va_up (va_up V1 393 (V1 382)) 394 (V1 383) 394 = V1 383 := rg_up_eq
  obtain ⟨S4, L4, G4, V4, d1, d2, d3, d4⟩ := rm_sumA H (n := 409) (d := 410) (l := l) (Or.inr (Or.inr (Or.inl ⟨rfl, rfl⟩))) c2 (hz.keep (by rw [v3 _ (by decide) (by decide), a6 _ (by decide) (by decide) (by decide)]) (by rw [v3 _ (by decide) (by decide), a6 _ (by decide) (by decide) (by decide)])) (by rw [v93]; exact g2) (by rw [v94]; exact g3) (by rw [v94]; exact g1) hk
  have d1 : rM_sum m 409 410 (rm_w aS aL aG M S3 L3 G3) = _ := d1
  rw [v93, v94, g4] at d3
  obtain ⟨S5, L5, G5, V5, e1, e2, e3, e4, e5, e6⟩ := rm_lowA H (n := 409) (d := 410) (Or.inr (Or.inr (Or.inl ⟨rfl, rfl⟩))) d2 d3
  have e1 : rM_lower m 409 410 (rm_w aS aL aG M S4 L4 G4) = _ := e1
  refine ⟨S5, L5, G5, V5, ?_, e2, e3, fun q hq => by rw [e6 q (by omega) (by omega) (by omega), d4 q (by omega) (by omega) (by omega) (by omega), v3 q (by omega) (by omega), a6 q (by omega) (by omega) (by omega)]⟩
  rw [rM_into_u, rM_into_e]
  simp only [rm_wK, hK, if_true, a1, b1, c1, d1, e1, Option.bind_some]
  rfl
end

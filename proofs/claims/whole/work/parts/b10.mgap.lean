/-! the reference: A's and B's best answers at a card; the best answer; the gap -/
def oaT1 (mu : Nat → Nat → Rat) (k j : Nat) : Rat := if j = k then 0 else mu (4 * j + 1) 0 * ((btz k j : Int) : Rat)
def oaT3 (mu : Nat → Nat → Rat) (k j : Nat) : Rat := if j = k then 0 else mu (4 * j + 2) 1 * ((2 * btz k j : Int) : Rat) + mu (4 * j + 2) 0
def obT1 (mu : Nat → Nat → Rat) (k j : Nat) : Rat := if j = k then 0 else mu (4 * j) 0 * ((btz k j : Int) : Rat)
def obT3 (mu : Nat → Nat → Rat) (k j : Nat) : Rat := if j = k then 0 else mu (4 * j) 0 * (mu (4 * j + 3) 1 * ((2 * btz k j : Int) : Rat) + mu (4 * j + 3) 0)
/-- these are the worths -/
theorem w_bh {mu : Nat → Nat → Rat} {d k : Nat} : qs (bhZ mu 1 k) d = wM mu d k 6 ∧ qs (bhT mu 1 k) d = wM mu d k 7 ∧ qs (bhZ mu 0 k) d = wM mu d k 4 ∧ qs (bhT mu 0 k) d = wM mu d k 5 := by
  have r2 : ((2 : Int) : Rat) = 2 := rfl
  refine ⟨?_, ?_, ?_, ?_⟩
  · show _ = aM mu k 3 (-1) (-1) d
    refine qs_cong (fun j _ => ?_)
    unfold bhZ
    by_cases c : j = k
    · rw [if_pos c, if_pos c]
    · rw [if_neg c, if_neg c, ite_self]; rfl
  · show _ = aM mu k 3 2 (-2) d
    refine qs_cong (fun j _ => ?_)
    unfold bhT
    by_cases c : j = k
    · rw [if_pos c, if_pos c]
    · rw [if_neg c, if_neg c, btz_w (a := 2) (b := -2) rfl, c2, r2]; rfl
  · show _ = aM mu k 1 (-1) (-1) d
    refine qs_cong (fun j _ => ?_)
    unfold bhZ
    by_cases c : j = k
    · rw [if_pos c, if_pos c]
    · rw [if_neg c, if_neg c, ite_self]; rfl
  · show _ = aM mu k 1 2 (-2) d
    refine qs_cong (fun j _ => ?_)
    unfold bhT
    by_cases c : j = k
    · rw [if_pos c, if_pos c]
    · rw [if_neg c, if_neg c, btz_w (a := 2) (b := -2) rfl, c2, r2]; rfl
theorem w_oa {mu : Nat → Nat → Rat} {d k : Nat} : qs (oaT1 mu k) d = wM mu d k 0 ∧ qs (oaT3 mu k) d = wM mu d k 1 ∧ qs (obT1 mu k) d = wM mu d k 2 ∧ qs (obT3 mu k) d = wM mu d k 3 := by
  have r1 : ((1 : Int) : Rat) = 1 := rfl
  have r2 : ((2 : Int) : Rat) = 2 := rfl
  refine ⟨?_, ?_, ?_, ?_⟩
  · show _ = aM mu k 2 1 (-1) d
    refine qs_cong (fun j _ => ?_)
    unfold oaT1
    by_cases c : j = k
    · rw [if_pos c, if_pos c]
    · rw [if_neg c, if_neg c, btz_w (a := 1) (b := -1) rfl, r1, Rat.one_mul]; rfl
  · show _ = aM mu k 4 1 1 d + aM mu k 5 2 (-2) d
    unfold aM
    rw [← qs_add]
    refine qs_cong (fun j _ => ?_)
    unfold oaT3
    by_cases c : j = k
    · simp only [c, if_true, Rat.add_zero]
    · rw [if_neg c, if_neg c, if_neg c, btz_w (a := 2) (b := -2) rfl, ite_self, c2, r1, r2]
      show _ = mu (4 * j + 2) 0 * 1 + mu (4 * j + 2) 1 * _
      grind
  · show _ = aM mu k 0 1 (-1) d
    refine qs_cong (fun j _ => ?_)
    unfold obT1
    by_cases c : j = k
    · rw [if_pos c, if_pos c]
    · rw [if_neg c, if_neg c, btz_w (a := 1) (b := -1) rfl, r1, Rat.one_mul]; rfl
  · show _ = aM mu k 6 1 1 d + aM mu k 7 2 (-2) d
    unfold aM
    rw [← qs_add]
    refine qs_cong (fun j _ => ?_)
    unfold obT3
    by_cases c : j = k
    · simp only [c, if_true, Rat.add_zero]
    · rw [if_neg c, if_neg c, if_neg c, btz_w (a := 2) (b := -2) rfl, ite_self, c2, r1, r2]
      show _ = mu (4 * j + 3) 0 * mu (4 * j) 0 * 1 + mu (4 * j + 3) 1 * mu (4 * j) 0 * _
      grind
section
variable {m aS aL aG aN aB : Nat} {M : rg_M}
variable {S L G : Nat → Int32} {V : Nat → Int}
/-- A's first pass and A's bet, against one card -/
theorem rm_oa1 (H : rm_F m aS aL aG aN aB M) {d j k k1 : Nat} {mu : Nat → Nat → Rat} {x z : Rat} (hd : d ≤ 5) (hdk : rg_I M 118 m = nI d) (hk5 : k < d) (hj : j < d) (hV : rm_V S L G V) (hw : wOk d mu V) (ha : acc V 382 383 x k1) (hb : acc V 384 385 z k1) (hk : k1 + 20 ≤ 4200) : ∃ (S' L' G' : Nat → Int32) (V' : Nat → Int), rM_bestOfA_38 m (nI k) (nI j) (rm_w aS aL aG M S L G) = rM_bestOfA_38 m (nI k) (nI (j + 1)) (rm_w aS aL aG M S' L' G') ∧ rm_V S' L' G' V' ∧ acc V' 382 383 (x + oaT1 mu k j) (k1 + 20) ∧ acc V' 384 385 (z + oaT3 mu k j) (k1 + 20) ∧ ∀ q, (q < 382 ∨ (396 < q ∧ q ≠ 416 ∧ q ≠ 417)) → V' q = V q := by
  have hK := H.1
  obtain ⟨s1, s2, s3, s4⟩ := btz_i k j
  have pd : ¬ nI d ≤ nI j := by rw [nI_leI (by omega) (by omega)]; omega
  rw [rM_bestOfA_38_e]
  simp only [rm_wK, rm_wI, hK, hdk, if_true, pd, if_false]
  unfold oaT1 oaT3
  by_cases cj : j = k
  · rw [if_pos (by rw [cj]), rM_bestOfA_186_e, nI_1, if_pos cj, if_pos cj]
    exact ⟨S, L, G, V, rfl, hV, (ha.to (Rat.add_zero _).symm).mono (by omega), (hb.to (Rat.add_zero _).symm).mono (by omega), fun _ _ => rfl⟩
  · rw [if_neg (fun q => cj ((nI_eq (by omega) (by omega)).mp q)), if_neg cj, if_neg cj]
    obtain ⟨f0, f1, f2⟩ := hw (4 * j + 1) (by omega)
    obtain ⟨h0, h1, h2⟩ := hw (4 * j + 2) (by omega)
    obtain ⟨h3, h4⟩ := h2 0 (by decide)
    obtain ⟨h5, h6⟩ := h2 1 (by decide)
    have l2b : rm_lt (2 * btz k j) 1 := rm_lt_small (by omega)
    have bts : rM_beats (nI k) (nI j) (rm_w aS aL aG M S L G) = some (if j < k then 1 else -1, rm_w aS aL aG M S L G) := rm_beats (by omega) (by omega)
    obtain ⟨S1, L1, G1, S2, L2, G2, S3, L3, G3, S4, L4, G4, V4, b1, b2, b3, b4, b5, b6, b7, b8⟩ := rm_tA H (A := 320 + 2 * (4 * j + 1)) (B := 360 + (4 * j + 1)) (n := 382) (d := 383) (Or.inl ⟨rfl, rfl⟩) (by omega) (by omega) s1 (by omega) hV ha (f2 0 (by decide)).1 f1 f0 (by omega)
    have b4 : rM_sum m 382 383 (rm_w aS aL aG M S3 L3 G3) = _ := b4
    have e6 : qv (V (320 + 2 * (4 * j + 1)) * btz k j) (V (360 + (4 * j + 1))) = mu (4 * j + 1) 0 * ((btz k j : Int) : Rat) := hw.q (p := 4 * j + 1) (w := 0) (by omega) (by decide) _
    rw [e6] at b6
    have i1 : (4 : Int32) * nI j + (1 : Int32) = nI (4 * j + 1) := by rw [rm_l4, rm_l1]
    have i2 : (4 : Int32) * nI j + (2 : Int32) = nI (4 * j + 2) := by rw [rm_l4, show (2 : Int32) = nI 2 from rfl, nI_add]
    have i3 : (360 : Int32) + (4 : Int32) * nI j + (1 : Int32) = nI (360 + (4 * j + 1)) := by rw [rm_l4, rm_l360, rm_l1]; rfl
    have i4 : (360 : Int32) + (4 : Int32) * nI j + (2 : Int32) = nI (360 + (4 * j + 2)) := by rw [rm_l4, rm_l360, show (2 : Int32) = nI 2 from rfl, nI_add]; rfl
    have f4 : ∀ q, q ≠ 382 → q ≠ 383 → q ≠ 389 → q ≠ 390 → q ≠ 393 → q ≠ 394 → q ≠ 416 → q ≠ 417 → V4 q = V q := b8
    -- the bet
    have e7 := f4 (320 + 2 * (4 * j + 2) + 1) (by omega) (by omega) (by omega) (by omega) (by omega) (by omega) (by omega) (by omega)
    obtain ⟨S5, L5, G5, t1, t2⟩ := rm_copyV H (a := 320 + 2 * (4 * j + 2) + 1) (c := 395) (by omega) (by omega) (by decide) b5 (by rw [e7]; exact h5.mono (by decide))
    rw [e7] at t2
    have t1 : rM_copy m (nI (320 + 2 * (4 * j + 2) + 1)) 395 (rm_w aS aL aG M S4 L4 G4) = _ := t1
    obtain ⟨S6, L6, G6, u1, u2⟩ := rm_scaleV H (a := 395) (k := 17) (by decide) (by decide) (by decide) (by decide) t2 ((2 : Int32) * (if j < k then 1 else -1 : Int32)).toInt64 (by rw [rg_up_eq]; exact h5) (by decide)
    rw [s2, rg_up_eq] at u2
    have u1 : rM_scale m 395 ((2 : Int32) * (if j < k then 1 else -1 : Int32)).toInt64 (rm_w aS aL aG M S5 L5 G5) = _ := u1
    obtain ⟨V6, hV6⟩ : ∃ V6, V6 = va_up (va_up (va_up (va_up V4 395 (V (320 + 2 * (4 * j + 2) + 1))) 417 (2 * btz k j)) 416 (V (320 + 2 * (4 * j + 2) + 1) * (2 * btz k j))) 395 (V (320 + 2 * (4 * j + 2) + 1) * (2 * btz k j)) := ⟨_, rfl⟩
    rw [← hV6] at u2
    have v6 : ∀ q, q ≠ 395 → q ≠ 416 → q ≠ 417 → V6 q = V4 q := fun q a b c => by rw [hV6, rg_up_ne a, rg_up_ne b, rg_up_ne c, rg_up_ne a]
    have v695 : V6 395 = V (320 + 2 * (4 * j + 2) + 1) * (2 * btz k j) := by rw [hV6, rg_up_eq]
    have l695 : rm_lt (V (320 + 2 * (4 * j + 2) + 1) * (2 * btz k j)) 18 := h5.mul l2b
    have e8 : V6 (320 + 2 * (4 * j + 2)) = V (320 + 2 * (4 * j + 2) + 0) := by rw [v6 _ (by omega) (by omega) (by omega), f4 _ (by omega) (by omega) (by omega) (by omega) (by omega) (by omega) (by omega) (by omega)]; rfl
    obtain ⟨S7, L7, G7, w1, w2⟩ := rm_plusV H (a := 395) (b := 320 + 2 * (4 * j + 2)) (c := 393) (by decide) (by decide) (by omega) (by omega) (by decide) u2 (by rw [v695]; exact l695.mono (by decide)) (by rw [e8]; exact h3.mono (by decide))
    rw [v695, e8] at w2
    have w1 : rM_plus m 395 (nI (320 + 2 * (4 * j + 2))) 393 (rm_w aS aL aG M S6 L6 G6) = _ := w1
    obtain ⟨P3, hP3⟩ : ∃ P3, P3 = V (320 + 2 * (4 * j + 2) + 1) * (2 * btz k j) + V (320 + 2 * (4 * j + 2) + 0) := ⟨_, rfl⟩
    have lP3 : rm_lt P3 19 := by rw [hP3]; exact l695.add (h3.mono (by decide))
    rw [← hP3] at w2
    have e9 : va_up V6 393 P3 (360 + (4 * j + 2)) = V (360 + (4 * j + 2)) := by rw [rg_up_ne (by omega), v6 _ (by omega) (by omega) (by omega), f4 _ (by omega) (by omega) (by omega) (by omega) (by omega) (by omega) (by omega) (by omega)]
    obtain ⟨S8, L8, G8, x1, x2⟩ := rm_copyV H (a := 360 + (4 * j + 2)) (c := 394) (by omega) (by omega) (by decide) w2 (by rw [e9]; exact h1.mono (by decide))
    rw [e9] at x2
    have x1 : rM_copy m (nI (360 + (4 * j + 2))) 394 (rm_w aS aL aG M S7 L7 G7) = _ := x1
    have v8 : ∀ q, q ≠ 393 → q ≠ 394 → q ≠ 395 → q ≠ 416 → q ≠ 417 → va_up (va_up V6 393 P3) 394 (V (360 + (4 * j + 2))) q = V4 q := fun q a b c d e => by rw [rg_up_ne b, rg_up_ne a, v6 q c d e]
    have v93 : va_up (va_up V6 393 P3) 394 (V (360 + (4 * j + 2))) 393 = P3 := by rw [rg_up_ne (by decide), rg_up_eq]
    have v94 : va_up (va_up V6 393 P3) 394 (V (360 + (4 * j + 2))) 394 = V (360 + (4 * j + 2)) := rg_up_eq
    have hb8 : acc (va_up (va_up V6 393 P3) 394 (V (360 + (4 * j + 2)))) 384 385 z k1 := hb.keep (by rw [v8 _ (by decide) (by decide) (by decide) (by decide) (by decide), f4 _ (by decide) (by decide) (by decide) (by decide) (by decide) (by decide) (by decide) (by decide)]) (by rw [v8 _ (by decide) (by decide) (by decide) (by decide) (by decide), f4 _ (by decide) (by decide) (by decide) (by decide) (by decide) (by decide) (by decide) (by decide)])
    obtain ⟨S9, L9, G9, V9, y1, y2, y3, y4⟩ := rm_sumA H (n := 384) (d := 385) (l := 19) (Or.inr (Or.inl ⟨rfl, rfl⟩)) x2 hb8 (by rw [v93]; exact lP3) (by rw [v94]; exact h1.mono (by decide)) (by rw [v94]; exact h0) (by omega)
    have y1 : rM_sum m 384 385 (rm_w aS aL aG M S8 L8 G8) = _ := y1
    rw [v93, v94] at y3
    simp only [rm_wK, hK, if_true, bts, Option.bind_some, i1, i2, i3, i4, rm_w0, rm_w1, b1, b2, b3, b4, t1, u1, w1, x1, y1, rM_bestOfA_186_e, nI_1]
    refine ⟨S9, L9, G9, V9, rfl, y2, (b6.mono (by omega)).keep (by rw [y4 _ (by decide) (by decide) (by decide) (by decide), v8 _ (by decide) (by decide) (by decide) (by decide) (by decide)]) (by rw [y4 _ (by decide) (by decide) (by decide) (by decide), v8 _ (by decide) (by decide) (by decide) (by decide) (by decide)]), (y3.to ?_).mono (by omega), fun q hq => by rw [y4 q (by omega) (by omega) (by omega) (by omega), v8 q (by omega) (by omega) (by omega) (by omega) (by omega), f4 q (by omega) (by omega) (by omega) (by omega) (by omega) (by omega) (by omega) (by omega)]⟩
    refine congrArg (fun t => z + t) ?_
    refine (qv_eq h0 ?_).symm
    rw [hP3]
    simp only [Rat.intCast_mul, Rat.intCast_add]
    rw [← h4, ← h6]
    grind
/-- A's best at a card -/
theorem rm_bestA (H : rm_F m aS aL aG aN aB M) {d k k1 : Nat} {mu : Nat → Nat → Rat} {z : Rat} (hd : d ≤ 5) (hdk : rg_I M 118 m = nI d) (hk5 : k < d) (hV : rm_V S L G V) (hw : wOk d mu V) (hz : acc V 409 410 z k1) (hk : k1 + 206 ≤ 4200) : ∃ (S' L' G' : Nat → Int32) (V' : Nat → Int), rM_bestOfA m (nI k) (rm_w aS aL aG M S L G) = some (rm_w aS aL aG M S' L' G') ∧ rm_V S' L' G' V' ∧ acc V' 409 410 (z + fA mu d k) (k1 + 206) ∧ ∀ q, (q < 382 ∨ q = 413 ∨ q = 414 ∨ q = 415) → V' q = V q := by
  have hK := H.1
  obtain ⟨z6, z7, -, -⟩ := w_bh (mu := mu) (d := d) (k := k)
  obtain ⟨z0, z1, -, -⟩ := w_oa (mu := mu) (d := d) (k := k)
  obtain ⟨S1, L1, G1, V1, a1, a2, a3, a4⟩ := rm_bhM H (k := k) (isA := 1) hd hdk hk5 hV hw
  rw [z6, z7] at a3
  obtain ⟨S2, L2, G2, V2, b1, b2, b3, b4, b5, b6⟩ := rm_lowA H (n := 411) (d := 412) (Or.inr (Or.inr (Or.inr ⟨rfl, rfl⟩))) a2 a3
  have b1 : rM_lower m 411 412 (rm_w aS aL aG M S1 L1 G1) = _ := b1
  obtain ⟨S3, L3, G3, V3, c1, c2, c3, c4⟩ := rm_sum0A H (n := 382) (d := 383) (Or.inl ⟨rfl, rfl⟩) b2
  have c1 : rM_sum0 m 382 383 (rm_w aS aL aG M S2 L2 G2) = _ := c1
  obtain ⟨S4, L4, G4, V4, d1, d2, d3, d4⟩ := rm_sum0A H (n := 384) (d := 385) (Or.inr (Or.inl ⟨rfl, rfl⟩)) c2
  have d1 : rM_sum0 m 384 385 (rm_w aS aL aG M S3 L3 G3) = _ := d1
  have f4 : ∀ q, (q < 382 ∨ (396 < q ∧ q ≠ 411 ∧ q ≠ 412 ∧ q ≠ 416 ∧ q ≠ 417)) → V4 q = V q := fun q hq => by rw [d4 q (by omega) (by omega), c4 q (by omega) (by omega), b6 q (by omega) (by omega) (by omega), a4 q (by omega)]
  have go : ∀ e j : Nat, d - j = e → j ≤ d → ∀ (S L G : Nat → Int32) (V : Nat → Int), rm_V S L G V → wOk d mu V → acc V 382 383 (qs (oaT1 mu k) j) (1 + 20 * j) → acc V 384 385 (qs (oaT3 mu k) j) (1 + 20 * j) → ∃ (S' L' G' : Nat → Int32) (V' : Nat → Int), rM_bestOfA_38 m (nI k) (nI j) (rm_w aS aL aG M S L G) = rM_bestOfA_38 m (nI k) (nI d) (rm_w aS aL aG M S' L' G') ∧ rm_V S' L' G' V' ∧ acc V' 382 383 (qs (oaT1 mu k) d) (1 + 20 * d) ∧ acc V' 384 385 (qs (oaT3 mu k) d) (1 + 20 * d) ∧ ∀ q, (q < 382 ∨ (396 < q ∧ q ≠ 416 ∧ q ≠ 417)) → V' q = V q := by
    intro e
    induction e with
    | zero =>
      intro j he hj S L G V hV hw ha hb
      have e : j = d := by omega
      subst e
      exact ⟨S, L, G, V, rfl, hV, ha, hb, fun _ _ => rfl⟩
    | succ e ih =>
      intro j he hj S L G V hV hw ha hb
      obtain ⟨S1, L1, G1, V1, b1, b2, b3, b4, b5⟩ := rm_oa1 H (k := k) (j := j) hd hdk hk5 (by omega) hV hw ha hb (by omega)
      obtain ⟨S2, L2, G2, V2, c1, c2, c3, c4, c5⟩ := ih (j + 1) (by omega) (by omega) S1 L1 G1 V1 b2 (hw.keep hd (fun q _ h2 => b5 q (by omega))) (b3.mono (by omega)) (b4.mono (by omega))
      exact ⟨S2, L2, G2, V2, by rw [b1, c1], c2, c3, c4, fun q hq => by rw [c5 q hq, b5 q hq]⟩
  obtain ⟨S5, L5, G5, V5, e1, e2, e3, e4, e5⟩ := go _ 0 rfl (Nat.zero_le _) S4 L4 G4 V4 d2 (hw.keep hd (fun q _ h2 => f4 q (by omega))) (c3.keep (d4 _ (by decide) (by decide)) (d4 _ (by decide) (by decide))) d3
  have e1 : rM_bestOfA_38 m (nI k) 0 (rm_w aS aL aG M S4 L4 G4) = _ := e1
  rw [z0] at e3
  rw [z1] at e4
  -- Z3 / Z4 goes to T1 / T2
  have b3' : acc V5 411 412 (qx (wM mu d k 6) (wM mu d k 7)) 96 := b3.keep (by rw [e5 _ (by omega), d4 _ (by decide) (by decide), c4 _ (by decide) (by decide)]) (by rw [e5 _ (by omega), d4 _ (by decide) (by decide), c4 _ (by decide) (by decide)])
  obtain ⟨g1, g2, g3, g4⟩ := b3'
  obtain ⟨S6, L6, G6, t1, t2⟩ := rm_copyV H (a := 411) (c := 393) (by decide) (by decide) (by decide) e2 (g2.mono (by decide))
  have t1 : rM_copy m 411 393 (rm_w aS aL aG M S5 L5 G5) = _ := t1
  have e12 : va_up V5 393 (V5 411) 412 = V5 412 := rg_up_ne (by decide)
  obtain ⟨S7, L7, G7, u1, u2⟩ := rm_copyV H (a := 412) (c := 394) (by decide) (by decide) (by decide) t2 (by rw [e12]; exact g3.mono (by decide))
  rw [e12] at u2
  have u1 : rM_copy m 412 394 (rm_w aS aL aG M S6 L6 G6) = _ := u1
  have v7 : ∀ q, q ≠ 393 → q ≠ 394 → va_up (va_up V5 393 (V5 411)) 394 (V5 412) q = V5 q := fun q a b => by rw [rg_up_ne b, rg_up_ne a]
  have v93 : va_up (va_up V5 393 (V5 411)) 394 (V5 412) 393 = V5 411 := by rw [rg_up_ne (by decide), rg_up_eq]
  have v94 : va_up (va_up V5 393 (V5 411)) 394 (V5 412) 394 = V5 412 := rg_up_eq
  obtain ⟨S8, L8, G8, V8, w1, w2, w3, w4⟩ := rm_sumA H (n := 382) (d := 383) (k := 101) (l := 96) (Or.inl ⟨rfl, rfl⟩) u2 ((e3.mono (by omega)).keep (v7 _ (by decide) (by decide)) (v7 _ (by decide) (by decide))) (by rw [v93]; exact g2) (by rw [v94]; exact g3) (by rw [v94]; exact g1) (by decide)
  have w1 : rM_sum m 382 383 (rm_w aS aL aG M S7 L7 G7) = _ := w1
  rw [v93, v94, g4] at w3
  obtain ⟨S9, L9, G9, S10, L10, G10, V10, f, x1, x2, x3, x4, x5⟩ := rm_maxA H (n := 382) (d := 383) (n' := 384) (d' := 385) (k := 198) (Or.inr ⟨rfl, rfl⟩) ⟨rfl, rfl⟩ w2 (w3.mono (by decide)) ((e4.mono (by omega)).keep (by rw [w4 _ (by decide) (by decide) (by decide) (by decide), v7 _ (by decide) (by decide)]) (by rw [w4 _ (by decide) (by decide) (by decide) (by decide), v7 _ (by decide) (by decide)])) (by decide)
  have x1 : rM_isMore m 384 385 382 383 (rm_w aS aL aG M S8 L8 G8) = _ := x1
  have f10 : ∀ q, (q < 382 ∨ (396 < q ∧ q ≠ 411 ∧ q ≠ 412 ∧ q ≠ 416 ∧ q ≠ 417)) → V10 q = V q := fun q hq => by rw [x5 q (by omega) (by omega) (by omega) (by omega) (by omega), w4 q (by omega) (by omega) (by omega) (by omega), v7 q (by omega) (by omega), e5 q (by omega), f4 q hq]
  obtain ⟨S11, L11, G11, V11, y1, y2, y3, y4⟩ := rm_intoM H (k := k1) (l := 198) x3 x4 (hz.keep (f10 _ (by omega)) (f10 _ (by omega))) (by omega)
  have hfin : ∀ q, (q < 382 ∨ q = 413 ∨ q = 414 ∨ q = 415) → V11 q = V q := fun q hq => by rw [y4 q (by omega), f10 q (by omega)]
  rw [rM_bestOfA_u, rM_bestOfA_e]
  simp only [rm_wK, hK, if_true, a1, b1, c1, d1, e1, Option.bind_some]
  rw [rM_bestOfA_38_e]
  simp only [rm_wK, rm_wI, hK, hdk, if_true, Int32.le_refl, t1, u1, w1, x1, Option.bind_some]
  rcases x2 with ⟨f0, p1, p2, p3⟩ | ⟨f1, S12, L12, G12, q1, q2⟩
  · subst p1 p2 p3
    rw [if_pos f0, rM_bestOfA_261_e]
    simp only [rm_wK, hK, if_true, y1, Option.bind_some]
    exact ⟨S11, L11, G11, V11, rfl, y2, y3.mono (by omega), hfin⟩
  · have q1 : rM_copy m 384 382 (rm_w aS aL aG M S9 L9 G9) = _ := q1
    have q2 : rM_copy m 385 383 (rm_w aS aL aG M S12 L12 G12) = _ := q2
    rw [if_neg (by rw [f1]; decide)]
    simp only [rm_wK, hK, if_true, q1, q2, Option.bind_some, rM_bestOfA_261_e, y1]
    exact ⟨S11, L11, G11, V11, rfl, y2, y3.mono (by omega), hfin⟩
/-- B's pass and B's bet behind A's pass, against one card -/
theorem rm_ob1 (H : rm_F m aS aL aG aN aB M) {d j k k1 : Nat} {mu : Nat → Nat → Rat} {x z : Rat} (hd : d ≤ 5) (hdk : rg_I M 118 m = nI d) (hk5 : k < d) (hj : j < d) (hV : rm_V S L G V) (hw : wOk d mu V) (ha : acc V 382 383 x k1) (hb : acc V 384 385 z k1) (hk : k1 + 38 ≤ 4200) : ∃ (S' L' G' : Nat → Int32) (V' : Nat → Int), rM_bestOfB_52 m (nI k) (nI j) (rm_w aS aL aG M S L G) = rM_bestOfB_52 m (nI k) (nI (j + 1)) (rm_w aS aL aG M S' L' G') ∧ rm_V S' L' G' V' ∧ acc V' 382 383 (x + obT1 mu k j) (k1 + 38) ∧ acc V' 384 385 (z + obT3 mu k j) (k1 + 38) ∧ ∀ q, (q < 382 ∨ (396 < q ∧ q ≠ 416 ∧ q ≠ 417)) → V' q = V q := by
  have hK := H.1
  obtain ⟨s1, s2, s3, s4⟩ := btz_i k j
  have pd : ¬ nI d ≤ nI j := by rw [nI_leI (by omega) (by omega)]; omega
  rw [rM_bestOfB_52_e]
  simp only [rm_wK, rm_wI, hK, hdk, if_true, pd, if_false]
  unfold obT1 obT3
  by_cases cj : j = k
  · rw [if_pos (by rw [cj]), rM_bestOfB_222_e, nI_1, if_pos cj, if_pos cj]
    exact ⟨S, L, G, V, rfl, hV, (ha.to (Rat.add_zero _).symm).mono (by omega), (hb.to (Rat.add_zero _).symm).mono (by omega), fun _ _ => rfl⟩
  · rw [if_neg (fun q => cj ((nI_eq (by omega) (by omega)).mp q)), if_neg cj, if_neg cj]
    obtain ⟨f0, f1, f2⟩ := hw (4 * j) (by omega)
    obtain ⟨f3, f4'⟩ := f2 0 (by decide)
    obtain ⟨h0, h1, h2⟩ := hw (4 * j + 3) (by omega)
    obtain ⟨h3, h4⟩ := h2 0 (by decide)
    obtain ⟨h5, h6⟩ := h2 1 (by decide)
    have l2b : rm_lt (2 * btz k j) 1 := rm_lt_small (by omega)
    have bts : rM_beats (nI k) (nI j) (rm_w aS aL aG M S L G) = some (if j < k then 1 else -1, rm_w aS aL aG M S L G) := rm_beats (by omega) (by omega)
    obtain ⟨S1, L1, G1, S2, L2, G2, S3, L3, G3, S4, L4, G4, V4, b1, b2, b3, b4, b5, b6, b7, b8⟩ := rm_tA H (A := 320 + 2 * (4 * j)) (B := 360 + 4 * j) (n := 382) (d := 383) (Or.inl ⟨rfl, rfl⟩) (by omega) (by omega) s1 (by omega) hV ha f3 f1 f0 (by omega)
    have b4 : rM_sum m 382 383 (rm_w aS aL aG M S3 L3 G3) = _ := b4
    have e6 : qv (V (320 + 2 * (4 * j)) * btz k j) (V (360 + 4 * j)) = mu (4 * j) 0 * ((btz k j : Int) : Rat) := hw.q (p := 4 * j) (w := 0) (by omega) (by decide) _
    rw [e6] at b6
    have f4 : ∀ q, q ≠ 382 → q ≠ 383 → q ≠ 389 → q ≠ 390 → q ≠ 393 → q ≠ 394 → q ≠ 416 → q ≠ 417 → V4 q = V q := b8
    have e7 := f4 (320 + 2 * (4 * j + 3) + 1) (by omega) (by omega) (by omega) (by omega) (by omega) (by omega) (by omega) (by omega)
    obtain ⟨S5, L5, G5, t1, t2⟩ := rm_copyV H (a := 320 + 2 * (4 * j + 3) + 1) (c := 395) (by omega) (by omega) (by decide) b5 (by rw [e7]; exact h5.mono (by decide))
    rw [e7] at t2
    have t1 : rM_copy m (nI (320 + 2 * (4 * j + 3) + 1)) 395 (rm_w aS aL aG M S4 L4 G4) = _ := t1
    obtain ⟨S6, L6, G6, u1, u2⟩ := rm_scaleV H (a := 395) (k := 17) (by decide) (by decide) (by decide) (by decide) t2 ((2 : Int32) * (if j < k then 1 else -1 : Int32)).toInt64 (by rw [rg_up_eq]; exact h5) (by decide)
    rw [s2, rg_up_eq] at u2
    have u1 : rM_scale m 395 ((2 : Int32) * (if j < k then 1 else -1 : Int32)).toInt64 (rm_w aS aL aG M S5 L5 G5) = _ := u1
    obtain ⟨V6, hV6⟩ : ∃ V6, V6 = va_up (va_up (va_up (va_up V4 395 (V (320 + 2 * (4 * j + 3) + 1))) 417 (2 * btz k j)) 416 (V (320 + 2 * (4 * j + 3) + 1) * (2 * btz k j))) 395 (V (320 + 2 * (4 * j + 3) + 1) * (2 * btz k j)) := ⟨_, rfl⟩
    rw [← hV6] at u2
    have v6 : ∀ q, q ≠ 395 → q ≠ 416 → q ≠ 417 → V6 q = V4 q := fun q a b c => by rw [hV6, rg_up_ne a, rg_up_ne b, rg_up_ne c, rg_up_ne a]
    have v695 : V6 395 = V (320 + 2 * (4 * j + 3) + 1) * (2 * btz k j) := by rw [hV6, rg_up_eq]
    have l695 : rm_lt (V (320 + 2 * (4 * j + 3) + 1) * (2 * btz k j)) 18 := h5.mul l2b
    have e8 : V6 (320 + 2 * (4 * j + 3)) = V (320 + 2 * (4 * j + 3) + 0) := by rw [v6 _ (by omega) (by omega) (by omega), f4 _ (by omega) (by omega) (by omega) (by omega) (by omega) (by omega) (by omega) (by omega)]; rfl
    obtain ⟨S7, L7, G7, w1, w2⟩ := rm_plusV H (a := 395) (b := 320 + 2 * (4 * j + 3)) (c := 396) (by decide) (by decide) (by omega) (by omega) (by decide) u2 (by rw [v695]; exact l695.mono (by decide)) (by rw [e8]; exact h3.mono (by decide))
    rw [v695, e8] at w2
    have w1 : rM_plus m 395 (nI (320 + 2 * (4 * j + 3))) 396 (rm_w aS aL aG M S6 L6 G6) = _ := w1
    obtain ⟨P3, hP3⟩ : ∃ P3, P3 = V (320 + 2 * (4 * j + 3) + 1) * (2 * btz k j) + V (320 + 2 * (4 * j + 3) + 0) := ⟨_, rfl⟩
    have lP3 : rm_lt P3 19 := by rw [hP3]; exact l695.add (h3.mono (by decide))
    rw [← hP3] at w2
    have e9 : va_up V6 396 P3 (320 + 2 * (4 * j)) = V (320 + 2 * (4 * j) + 0) := by rw [rg_up_ne (by omega), v6 _ (by omega) (by omega) (by omega), f4 _ (by omega) (by omega) (by omega) (by omega) (by omega) (by omega) (by omega) (by omega)]; rfl
    obtain ⟨S8, L8, G8, x1, x2⟩ := rm_mulV H (a := 320 + 2 * (4 * j)) (b := 396) (c := 393) (ka := 17) (kb := 19) (by omega) (by omega) (by decide) (by decide) (by decide) (by omega) (by decide) w2 (by rw [e9]; exact f3) (by rw [rg_up_eq]; exact lP3) (by decide)
    rw [e9, rg_up_eq] at x2
    have x1 : rM_multiply m (nI (320 + 2 * (4 * j))) 396 393 (rm_w aS aL aG M S7 L7 G7) = _ := x1
    have v8 : ∀ q, q ≠ 393 → q ≠ 395 → q ≠ 396 → q ≠ 416 → q ≠ 417 → va_up (va_up V6 396 P3) 393 (V (320 + 2 * (4 * j) + 0) * P3) q = V4 q := fun q a b c d e => by rw [rg_up_ne a, rg_up_ne c, v6 q b d e]
    have e10 : va_up (va_up V6 396 P3) 393 (V (320 + 2 * (4 * j) + 0) * P3) (360 + 4 * j) = V (360 + 4 * j) := by rw [v8 _ (by omega) (by omega) (by omega) (by omega) (by omega), f4 _ (by omega) (by omega) (by omega) (by omega) (by omega) (by omega) (by omega) (by omega)]
    have e11 : va_up (va_up V6 396 P3) 393 (V (320 + 2 * (4 * j) + 0) * P3) (360 + (4 * j + 3)) = V (360 + (4 * j + 3)) := by rw [v8 _ (by omega) (by omega) (by omega) (by omega) (by omega), f4 _ (by omega) (by omega) (by omega) (by omega) (by omega) (by omega) (by omega) (by omega)]
    obtain ⟨S9, L9, G9, y1, y2⟩ := rm_mulV H (a := 360 + 4 * j) (b := 360 + (4 * j + 3)) (c := 394) (ka := 18) (kb := 18) (by omega) (by omega) (by omega) (by omega) (by decide) (by omega) (by omega) x2 (by rw [e10]; exact f1) (by rw [e11]; exact h1) (by decide)
    rw [e10, e11] at y2
    have y1 : rM_multiply m (nI (360 + 4 * j)) (nI (360 + (4 * j + 3))) 394 (rm_w aS aL aG M S8 L8 G8) = _ := y1
    have v9 : ∀ q, q ≠ 393 → q ≠ 394 → q ≠ 395 → q ≠ 396 → q ≠ 416 → q ≠ 417 → va_up (va_up (va_up V6 396 P3) 393 (V (320 + 2 * (4 * j) + 0) * P3)) 394 (V (360 + 4 * j) * V (360 + (4 * j + 3))) q = V4 q := fun q a f b c d e => by rw [rg_up_ne f, v8 q a b c d e]
    have v93 : va_up (va_up (va_up V6 396 P3) 393 (V (320 + 2 * (4 * j) + 0) * P3)) 394 (V (360 + 4 * j) * V (360 + (4 * j + 3))) 393 = V (320 + 2 * (4 * j) + 0) * P3 := by rw [rg_up_ne (by decide), rg_up_eq]
    have v94 : va_up (va_up (va_up V6 396 P3) 393 (V (320 + 2 * (4 * j) + 0) * P3)) 394 (V (360 + 4 * j) * V (360 + (4 * j + 3))) 394 = V (360 + 4 * j) * V (360 + (4 * j + 3)) := rg_up_eq
    have hb9 : acc (va_up (va_up (va_up V6 396 P3) 393 (V (320 + 2 * (4 * j) + 0) * P3)) 394 (V (360 + 4 * j) * V (360 + (4 * j + 3)))) 384 385 z k1 := hb.keep (by rw [v9 _ (by decide) (by decide) (by decide) (by decide) (by decide) (by decide), f4 _ (by decide) (by decide) (by decide) (by decide) (by decide) (by decide) (by decide) (by decide)]) (by rw [v9 _ (by decide) (by decide) (by decide) (by decide) (by decide) (by decide), f4 _ (by decide) (by decide) (by decide) (by decide) (by decide) (by decide) (by decide) (by decide)])
    obtain ⟨S10, L10, G10, V10, z1, z2, z3, z4⟩ := rm_sumA H (n := 384) (d := 385) (l := 36) (Or.inr (Or.inl ⟨rfl, rfl⟩)) y2 hb9 (by rw [v93]; exact f3.mul lP3) (by rw [v94]; exact f1.mul h1) (by rw [v94]; exact Int.mul_pos f0 h0) (by omega)
    have z1 : rM_sum m 384 385 (rm_w aS aL aG M S9 L9 G9) = _ := z1
    rw [v93, v94] at z3
    simp only [rm_wK, hK, if_true, bts, Option.bind_some, rm_first, rm_behind, rm_w0, rm_w1, rm_l360, b1, b2, b3, b4, t1, u1, w1, x1, y1, z1, rM_bestOfB_222_e, nI_1]
    refine ⟨S10, L10, G10, V10, rfl, z2, (b6.mono (by omega)).keep (by rw [z4 _ (by decide) (by decide) (by decide) (by decide), v9 _ (by decide) (by decide) (by decide) (by decide) (by decide) (by decide)]) (by rw [z4 _ (by decide) (by decide) (by decide) (by decide), v9 _ (by decide) (by decide) (by decide) (by decide) (by decide) (by decide)]), (z3.to ?_).mono (by omega), fun q hq => by rw [z4 q (by omega) (by omega) (by omega) (by omega), v9 q (by omega) (by omega) (by omega) (by omega) (by omega) (by omega), f4 q (by omega) (by omega) (by omega) (by omega) (by omega) (by omega) (by omega) (by omega)]⟩
    refine congrArg (fun t => z + t) ?_
    refine (qv_eq (Int.mul_pos f0 h0) ?_).symm
    rw [hP3]
    simp only [Rat.intCast_mul, Rat.intCast_add]
    rw [← h4, ← h6, ← f4']
    grind
/-- B's best at a card -/
theorem rm_bestB (H : rm_F m aS aL aG aN aB M) {d k k1 : Nat} {mu : Nat → Nat → Rat} {z : Rat} (hd : d ≤ 5) (hdk : rg_I M 118 m = nI d) (hk5 : k < d) (hV : rm_V S L G V) (hw : wOk d mu V) (hz : acc V 409 410 z k1) (hk : k1 + 300 ≤ 4200) : ∃ (S' L' G' : Nat → Int32) (V' : Nat → Int), rM_bestOfB m (nI k) (rm_w aS aL aG M S L G) = some (rm_w aS aL aG M S' L' G') ∧ rm_V S' L' G' V' ∧ acc V' 409 410 (z + fB mu d k) (k1 + 300) ∧ ∀ q, (q < 382 ∨ q = 413 ∨ q = 414 ∨ q = 415) → V' q = V q := by
  have hK := H.1
  obtain ⟨-, -, z4, z5⟩ := w_bh (mu := mu) (d := d) (k := k)
  obtain ⟨-, -, z2, z3⟩ := w_oa (mu := mu) (d := d) (k := k)
  obtain ⟨S1, L1, G1, V1, a1, a2, a3, a4⟩ := rm_bhM H (k := k) (isA := 0) hd hdk hk5 hV hw
  rw [z4, z5] at a3
  obtain ⟨g1, g2, g3, g4⟩ := a3
  obtain ⟨S2, L2, G2, t1, t2⟩ := rm_copyV H (a := 411) (c := 382) (by decide) (by decide) (by decide) a2 (g2.mono (by decide))
  have t1 : rM_copy m 411 382 (rm_w aS aL aG M S1 L1 G1) = _ := t1
  have e12 : va_up V1 382 (V1 411) 412 = V1 412 := rg_up_ne (by decide)
  obtain ⟨S3, L3, G3, u1, u2⟩ := rm_copyV H (a := 412) (c := 383) (by decide) (by decide) (by decide) t2 (by rw [e12]; exact g3.mono (by decide))
  rw [e12] at u2
  have u1 : rM_copy m 412 383 (rm_w aS aL aG M S2 L2 G2) = _ := u1
  have v3 : ∀ q, q ≠ 382 → q ≠ 383 → va_up (va_up V1 382 (V1 411)) 383 (V1 412) q = V1 q := fun q a b => by rw [rg_up_ne b, rg_up_ne a]
  have ac3 : acc (va_up (va_up V1 382 (V1 411)) 383 (V1 412)) 382 383 (qx (wM mu d k 4) (wM mu d k 5)) 96 := by
    refine ⟨?_, ?_, ?_, ?_⟩
    · rw [rg_up_eq]; exact g1
    · rw [rg_up_ne (by decide), rg_up_eq]; exact g2
    · rw [rg_up_eq]; exact g3
    · rw [rg_up_ne (by decide), rg_up_eq, rg_up_eq]; exact g4
  obtain ⟨S4, L4, G4, V4, b1, b2, b3, b4⟩ := rm_intoM H (k := k1) (l := 96) u2 ac3 (hz.keep (by rw [v3 _ (by decide) (by decide), a4 _ (by omega)]) (by rw [v3 _ (by decide) (by decide), a4 _ (by omega)])) (by omega)
  obtain ⟨S5, L5, G5, V5, c1, c2, c3, c4⟩ := rm_sum0A H (n := 382) (d := 383) (Or.inl ⟨rfl, rfl⟩) b2
  have c1 : rM_sum0 m 382 383 (rm_w aS aL aG M S4 L4 G4) = _ := c1
  obtain ⟨S6, L6, G6, V6, d1, d2, d3, d4⟩ := rm_sum0A H (n := 384) (d := 385) (Or.inr (Or.inl ⟨rfl, rfl⟩)) c2
  have d1 : rM_sum0 m 384 385 (rm_w aS aL aG M S5 L5 G5) = _ := d1
  have f6 : ∀ q, (q < 382 ∨ (396 < q ∧ q ≠ 409 ∧ q ≠ 410 ∧ q ≠ 411 ∧ q ≠ 412 ∧ q ≠ 416 ∧ q ≠ 417)) → V6 q = V q := fun q hq => by rw [d4 q (by omega) (by omega), c4 q (by omega) (by omega), b4 q (by omega), v3 q (by omega) (by omega), a4 q (by omega)]
  have z6 : acc V6 409 410 (z + qx (wM mu d k 4) (wM mu d k 5)) (k1 + 96 + 1) := b3.keep (by rw [d4 _ (by decide) (by decide), c4 _ (by decide) (by decide)]) (by rw [d4 _ (by decide) (by decide), c4 _ (by decide) (by decide)])
  have go : ∀ e j : Nat, d - j = e → j ≤ d → ∀ (S L G : Nat → Int32) (V : Nat → Int), rm_V S L G V → wOk d mu V → acc V 382 383 (qs (obT1 mu k) j) (1 + 38 * j) → acc V 384 385 (qs (obT3 mu k) j) (1 + 38 * j) → ∃ (S' L' G' : Nat → Int32) (V' : Nat → Int), rM_bestOfB_52 m (nI k) (nI j) (rm_w aS aL aG M S L G) = rM_bestOfB_52 m (nI k) (nI d) (rm_w aS aL aG M S' L' G') ∧ rm_V S' L' G' V' ∧ acc V' 382 383 (qs (obT1 mu k) d) (1 + 38 * d) ∧ acc V' 384 385 (qs (obT3 mu k) d) (1 + 38 * d) ∧ ∀ q, (q < 382 ∨ (396 < q ∧ q ≠ 416 ∧ q ≠ 417)) → V' q = V q := by
    intro e
    induction e with
    | zero =>
      intro j he hj S L G V hV hw ha hb
      have e : j = d := by omega
      subst e
      exact ⟨S, L, G, V, rfl, hV, ha, hb, fun _ _ => rfl⟩
    | succ e ih =>
      intro j he hj S L G V hV hw ha hb
      obtain ⟨S1, L1, G1, V1, b1, b2, b3, b4, b5⟩ := rm_ob1 H (k := k) (j := j) hd hdk hk5 (by omega) hV hw ha hb (by omega)
      obtain ⟨S2, L2, G2, V2, c1, c2, c3, c4, c5⟩ := ih (j + 1) (by omega) (by omega) S1 L1 G1 V1 b2 (hw.keep hd (fun q _ h2 => b5 q (by omega))) (b3.mono (by omega)) (b4.mono (by omega))
      exact ⟨S2, L2, G2, V2, by rw [b1, c1], c2, c3, c4, fun q hq => by rw [c5 q hq, b5 q hq]⟩
  obtain ⟨S7, L7, G7, V7, e1, e2, e3, e4, e5⟩ := go _ 0 rfl (Nat.zero_le _) S6 L6 G6 V6 d2 (hw.keep hd (fun q _ h2 => f6 q (by omega))) (c3.keep (d4 _ (by decide) (by decide)) (d4 _ (by decide) (by decide))) d3
  have e1 : rM_bestOfB_52 m (nI k) 0 (rm_w aS aL aG M S6 L6 G6) = _ := e1
  rw [z2] at e3
  rw [z3] at e4
  obtain ⟨S8, L8, G8, S9, L9, G9, V9, f, x1, x2, x3, x4, x5⟩ := rm_maxA H (n := 382) (d := 383) (n' := 384) (d' := 385) (k := 191) (Or.inr ⟨rfl, rfl⟩) ⟨rfl, rfl⟩ e2 (e3.mono (by omega)) (e4.mono (by omega)) (by decide)
  have x1 : rM_isMore m 384 385 382 383 (rm_w aS aL aG M S7 L7 G7) = _ := x1
  have f9 : ∀ q, (q < 382 ∨ (396 < q ∧ q ≠ 416 ∧ q ≠ 417)) → V9 q = V6 q := fun q hq => by rw [x5 q (by omega) (by omega) (by omega) (by omega) (by omega), e5 q hq]
  obtain ⟨S10, L10, G10, V10, y1, y2, y3, y4⟩ := rm_intoM H (k := k1 + 96 + 1) (l := 191) x3 x4 (z6.keep (f9 _ (by omega)) (f9 _ (by omega))) (by omega)
  have hfin : ∀ q, (q < 382 ∨ q = 413 ∨ q = 414 ∨ q = 415) → V10 q = V q := fun q hq => by rw [y4 q (by omega), f9 q (by omega), f6 q (by omega)]
  have hval : acc V10 409 410 (z + fB mu d k) (k1 + 300) := (y3.to (by unfold fB fB1 fB2; grind)).mono (by omega)
  rw [rM_bestOfB_u, rM_bestOfB_e]
  simp only [rm_wK, hK, if_true, a1, t1, u1, b1, c1, d1, e1, Option.bind_some]
  rw [rM_bestOfB_52_e]
  simp only [rm_wK, rm_wI, hK, hdk, if_true, Int32.le_refl, x1, Option.bind_some]
  rcases x2 with ⟨f0, p1, p2, p3⟩ | ⟨f1, S12, L12, G12, q1, q2⟩
  · subst p1 p2 p3
    rw [if_pos f0, rM_bestOfB_267_e]
    simp only [rm_wK, hK, if_true, y1, Option.bind_some]
    exact ⟨S10, L10, G10, V10, rfl, y2, hval, hfin⟩
  · have q1 : rM_copy m 384 382 (rm_w aS aL aG M S8 L8 G8) = _ := q1
    have q2 : rM_copy m 385 383 (rm_w aS aL aG M S12 L12 G12) = _ := q2
    rw [if_neg (by rw [f1]; decide)]
    simp only [rm_wK, hK, if_true, q1, q2, Option.bind_some, rM_bestOfB_267_e, y1]
    exact ⟨S10, L10, G10, V10, rfl, y2, hval, hfin⟩
end

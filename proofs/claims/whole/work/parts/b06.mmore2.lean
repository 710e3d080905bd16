/-! the reference: more -/
section
variable {m aS aL aG aN aB : Nat} {M : rg_M}
variable {S L G : Nat → Int32} {V : Nat → Int}
/-- moreFirst: A's pass (times the total behind it) and A's bet, against one card -/
theorem rm_mfi (H : rm_F m aS aL aG aN aB M) {d j k k1 : Nat} {mu : Nat → Nat → Rat} {x z : Rat} (hd : d ≤ 5) (hj : j < d) (hk5 : k < d) (hV : rm_V S L G V) (hw : wOk d mu V) (ha : acc V 382 383 x k1) (hb : acc V 384 385 z k1) (hk : k1 + 39 ≤ 4200) : ∃ (S' L' G' : Nat → Int32) (V' : Nat → Int), rM_moreFirst m (nI k) (nI j) (if j < k then 1 else -1) (rm_w aS aL aG M S L G) = some (rm_w aS aL aG M S' L' G') ∧ rm_V S' L' G' V' ∧ acc V' 382 383 (x + ((V (360 + (4 * k + 3)) : Int) : Rat) * (mu (4 * j + 1) 0 * ((btz k j : Int) : Rat) + mu (4 * j + 1) 1 * (mu (4 * k + 3) 1 * ((2 * btz k j : Int) : Rat) - mu (4 * k + 3) 0))) (k1 + 39) ∧ acc V' 384 385 (z + (mu (4 * j + 2) 1 * ((2 * btz k j : Int) : Rat) + mu (4 * j + 2) 0)) (k1 + 39) ∧ ∀ q, (q < 382 ∨ (396 < q ∧ q ≠ 416 ∧ q ≠ 417)) → V' q = V q := by
  obtain ⟨s1, s2, -, s4⟩ := btz_i k j
  obtain ⟨f0, f1, f2⟩ := hw (4 * j + 1) (by omega)
  obtain ⟨g0, g1, g2⟩ := hw (4 * k + 3) (by omega)
  obtain ⟨h0, h1, h2⟩ := hw (4 * j + 2) (by omega)
  obtain ⟨f3, f4⟩ := f2 0 (by decide)
  obtain ⟨f5, f6⟩ := f2 1 (by decide)
  obtain ⟨g3, g4⟩ := g2 0 (by decide)
  obtain ⟨g5, g6⟩ := g2 1 (by decide)
  obtain ⟨h3, h4⟩ := h2 0 (by decide)
  obtain ⟨h5, h6⟩ := h2 1 (by decide)
  have lb : rm_lt (btz k j) 1 := rm_lt_small (by omega)
  have l2b : rm_lt (2 * btz k j) 1 := rm_lt_small (by omega)
  -- Y3 := TOTAL(behind k) * s
  obtain ⟨S1, L1, G1, t1, t2⟩ := rm_copyV H (a := 360 + (4 * k + 3)) (c := 395) (by omega) (by omega) (by decide) hV (g1.mono (by decide))
  have t1 : rM_copy m (nI (360 + (4 * k + 3))) 395 (rm_w aS aL aG M S L G) = _ := t1
  obtain ⟨S2, L2, G2, u1, u2⟩ := rm_scaleV H (a := 395) (k := 18) (by decide) (by decide) (by decide) (by decide) t2 ((if j < k then 1 else -1 : Int32)).toInt64 (by rw [rg_up_eq]; exact g1) (by decide)
  rw [s1, rg_up_eq] at u2
  have u1 : rM_scale m 395 ((if j < k then 1 else -1 : Int32)).toInt64 (rm_w aS aL aG M S1 L1 G1) = _ := u1
  obtain ⟨V2, hV2⟩ : ∃ V2, V2 = va_up (va_up (va_up (va_up V 395 (V (360 + (4 * k + 3)))) 417 (btz k j)) 416 (V (360 + (4 * k + 3)) * btz k j)) 395 (V (360 + (4 * k + 3)) * btz k j) := ⟨_, rfl⟩
  rw [← hV2] at u2
  have v2 : ∀ q, q ≠ 395 → q ≠ 416 → q ≠ 417 → V2 q = V q := fun q a b c => by rw [hV2, rg_up_ne a, rg_up_ne b, rg_up_ne c, rg_up_ne a]
  have v95 : V2 395 = V (360 + (4 * k + 3)) * btz k j := by rw [hV2, rg_up_eq]
  have l95 : rm_lt (V (360 + (4 * k + 3)) * btz k j) 19 := g1.mul lb
  -- Y1 := w(b,0) * Y3
  have e1 : V2 (320 + 2 * (4 * j + 1)) = V (320 + 2 * (4 * j + 1) + 0) := v2 _ (by omega) (by omega) (by omega)
  obtain ⟨S3, L3, G3, w1, w2⟩ := rm_mulV H (a := 320 + 2 * (4 * j + 1)) (b := 395) (c := 393) (ka := 17) (kb := 19) (by omega) (by omega) (by decide) (by decide) (by decide) (by omega) (by decide) u2 (by rw [e1]; exact f3) (by rw [v95]; exact l95) (by decide)
  rw [v95, e1] at w2
  have w1 : rM_multiply m (nI (320 + 2 * (4 * j + 1))) 395 393 (rm_w aS aL aG M S2 L2 G2) = _ := w1
  obtain ⟨P1, hP1⟩ : ∃ P1, P1 = V (320 + 2 * (4 * j + 1) + 0) * (V (360 + (4 * k + 3)) * btz k j) := ⟨_, rfl⟩
  have lP1 : rm_lt P1 36 := by rw [hP1]; exact f3.mul l95
  rw [← hP1] at w2
  -- Y3 := w(behind k,1) * 2 s
  have e2 : va_up V2 393 P1 (320 + 2 * (4 * k + 3) + 1) = V (320 + 2 * (4 * k + 3) + 1) := by rw [rg_up_ne (by omega)]; exact v2 _ (by omega) (by omega) (by omega)
  obtain ⟨S4, L4, G4, x1, x2⟩ := rm_copyV H (a := 320 + 2 * (4 * k + 3) + 1) (c := 395) (by omega) (by omega) (by decide) w2 (by rw [e2]; exact g5.mono (by decide))
  rw [e2] at x2
  have x1 : rM_copy m (nI (320 + 2 * (4 * k + 3) + 1)) 395 (rm_w aS aL aG M S3 L3 G3) = _ := x1
  obtain ⟨S5, L5, G5, y1, y2⟩ := rm_scaleV H (a := 395) (k := 17) (by decide) (by decide) (by decide) (by decide) x2 ((2 : Int32) * (if j < k then 1 else -1 : Int32)).toInt64 (by rw [rg_up_eq]; exact g5) (by decide)
  rw [s2, rg_up_eq] at y2
  have y1 : rM_scale m 395 ((2 : Int32) * (if j < k then 1 else -1 : Int32)).toInt64 (rm_w aS aL aG M S4 L4 G4) = _ := y1
  obtain ⟨V5, hV5⟩ : ∃ V5, V5 = va_up (va_up (va_up (va_up (va_up V2 393 P1) 395 (V (320 + 2 * (4 * k + 3) + 1))) 417 (2 * btz k j)) 416 (V (320 + 2 * (4 * k + 3) + 1) * (2 * btz k j))) 395 (V (320 + 2 * (4 * k + 3) + 1) * (2 * btz k j)) := ⟨_, rfl⟩
  rw [← hV5] at y2
  have v5 : ∀ q, q ≠ 393 → q ≠ 395 → q ≠ 416 → q ≠ 417 → V5 q = V q := fun q b a c d => by rw [hV5, rg_up_ne a, rg_up_ne c, rg_up_ne d, rg_up_ne a, rg_up_ne b, v2 q a c d]
  have v595 : V5 395 = V (320 + 2 * (4 * k + 3) + 1) * (2 * btz k j) := by rw [hV5, rg_up_eq]
  have v593 : V5 393 = P1 := by rw [hV5, rg_up_ne (by decide), rg_up_ne (by decide), rg_up_ne (by decide), rg_up_ne (by decide), rg_up_eq]
  have l595 : rm_lt (V (320 + 2 * (4 * k + 3) + 1) * (2 * btz k j)) 18 := g5.mul l2b
  -- Y4 := Y3 - w(behind k,0)
  have e3 : V5 (320 + 2 * (4 * k + 3)) = V (320 + 2 * (4 * k + 3) + 0) := v5 _ (by omega) (by omega) (by omega) (by omega)
  obtain ⟨S6, L6, G6, z1, z2⟩ := rm_minusV H (a := 395) (b := 320 + 2 * (4 * k + 3)) (c := 396) (by decide) (by decide) (by omega) (by omega) (by decide) y2 (by rw [v595]; exact l595.mono (by decide)) (by rw [e3]; exact g3.mono (by decide))
  rw [v595, e3] at z2
  have z1 : rM_minus m 395 (nI (320 + 2 * (4 * k + 3))) 396 (rm_w aS aL aG M S5 L5 G5) = _ := z1
  obtain ⟨Y, hY⟩ : ∃ Y, Y = V (320 + 2 * (4 * k + 3) + 1) * (2 * btz k j) - V (320 + 2 * (4 * k + 3) + 0) := ⟨_, rfl⟩
  have lY : rm_lt Y 19 := by rw [hY]; exact l595.sub (g3.mono (by decide))
  rw [← hY] at z2
  -- Y3 := w(b,1) * Y4
  have e4 : va_up V5 396 Y (320 + 2 * (4 * j + 1) + 1) = V (320 + 2 * (4 * j + 1) + 1) := by rw [rg_up_ne (by omega)]; exact v5 _ (by omega) (by omega) (by omega) (by omega)
  obtain ⟨S7, L7, G7, a1, a2⟩ := rm_mulV H (a := 320 + 2 * (4 * j + 1) + 1) (b := 396) (c := 395) (ka := 17) (kb := 19) (by omega) (by omega) (by decide) (by decide) (by decide) (by omega) (by decide) z2 (by rw [e4]; exact f5) (by rw [rg_up_eq]; exact lY) (by decide)
  rw [e4, rg_up_eq] at a2
  have a1 : rM_multiply m (nI (320 + 2 * (4 * j + 1) + 1)) 396 395 (rm_w aS aL aG M S6 L6 G6) = _ := a1
  obtain ⟨P2, hP2⟩ : ∃ P2, P2 = V (320 + 2 * (4 * j + 1) + 1) * Y := ⟨_, rfl⟩
  have lP2 : rm_lt P2 36 := by rw [hP2]; exact f5.mul lY
  rw [← hP2] at a2
  -- Y1 := Y1 + Y3
  have e5 : va_up (va_up V5 396 Y) 395 P2 393 = P1 := by rw [rg_up_ne (by decide), rg_up_ne (by decide)]; exact v593
  obtain ⟨S8, L8, G8, b1, b2⟩ := rm_plusV H (a := 393) (b := 395) (c := 393) (by decide) (by decide) (by decide) (by decide) (by decide) a2 (by rw [e5]; exact lP1.mono (by decide)) (by rw [rg_up_eq]; exact lP2.mono (by decide))
  rw [e5, rg_up_eq] at b2
  have b1 : rM_plus m 393 395 393 (rm_w aS aL aG M S7 L7 G7) = _ := b1
  obtain ⟨V8, hV8⟩ : ∃ V8, V8 = va_up (va_up (va_up V5 396 Y) 395 P2) 393 (P1 + P2) := ⟨_, rfl⟩
  rw [← hV8] at b2
  have v8 : ∀ q, q ≠ 393 → q ≠ 395 → q ≠ 396 → q ≠ 416 → q ≠ 417 → V8 q = V q := fun q a b c d e => by rw [hV8, rg_up_ne a, rg_up_ne b, rg_up_ne c, v5 q a b d e]
  -- Y2 := TOTAL b
  have e6 := v8 (360 + (4 * j + 1)) (by omega) (by omega) (by omega) (by omega) (by omega)
  obtain ⟨S9, L9, G9, c1, c2⟩ := rm_copyV H (a := 360 + (4 * j + 1)) (c := 394) (by omega) (by omega) (by decide) b2 (by rw [e6]; exact f1.mono (by decide))
  rw [e6] at c2
  have c1 : rM_copy m (nI (360 + (4 * j + 1))) 394 (rm_w aS aL aG M S8 L8 G8) = _ := c1
  have v9 : ∀ q, q ≠ 393 → q ≠ 394 → q ≠ 395 → q ≠ 396 → q ≠ 416 → q ≠ 417 → va_up V8 394 (V (360 + (4 * j + 1))) q = V q := fun q a f b c d e => by rw [rg_up_ne f, v8 q a b c d e]
  have v993 : va_up V8 394 (V (360 + (4 * j + 1))) 393 = P1 + P2 := by rw [rg_up_ne (by decide), hV8, rg_up_eq]
  have v994 : va_up V8 394 (V (360 + (4 * j + 1))) 394 = V (360 + (4 * j + 1)) := rg_up_eq
  obtain ⟨S10, L10, G10, V10, d1, d2, d3, d4⟩ := rm_sumA H (l := 37) (Or.inl ⟨rfl, rfl⟩) c2 (ha.keep (v9 _ (by decide) (by decide) (by decide) (by decide) (by decide) (by decide)) (v9 _ (by decide) (by decide) (by decide) (by decide) (by decide) (by decide))) (by rw [v993]; exact lP1.add lP2) (by rw [v994]; exact f1.mono (by decide)) (by rw [v994]; exact f0) (by omega)
  have d1 : rM_sum m 382 383 (rm_w aS aL aG M S9 L9 G9) = _ := d1
  rw [v993, v994] at d3
  have v10 : ∀ q, q ≠ 382 → q ≠ 383 → q ≠ 389 → q ≠ 390 → q ≠ 393 → q ≠ 394 → q ≠ 395 → q ≠ 396 → q ≠ 416 → q ≠ 417 → V10 q = V q := fun q i1 i2 i3 i4 i5 i6 i7 i8 i9 i10 => by rw [d4 q i1 i2 i3 i4, v9 q i5 i6 i7 i8 i9 i10]
  -- Y3 := w(b+1,1) * 2 s; Y1 := Y3 + w(b+1,0); Y2 := TOTAL(b+1)
  have e7 := v10 (320 + 2 * (4 * j + 1 + 1) + 1) (by omega) (by omega) (by omega) (by omega) (by omega) (by omega) (by omega) (by omega) (by omega) (by omega)
  have n2 : 4 * j + 1 + 1 = 4 * j + 2 := by omega
  obtain ⟨S11, L11, G11, i1, i2⟩ := rm_copyV H (a := 320 + 2 * (4 * j + 1 + 1) + 1) (c := 395) (by omega) (by omega) (by decide) d2 (by rw [e7, n2]; exact h5.mono (by decide))
  rw [e7] at i2
  have i1 : rM_copy m (nI (320 + 2 * (4 * j + 1 + 1) + 1)) 395 (rm_w aS aL aG M S10 L10 G10) = _ := i1
  obtain ⟨S12, L12, G12, j1, j2⟩ := rm_scaleV H (a := 395) (k := 17) (by decide) (by decide) (by decide) (by decide) i2 ((2 : Int32) * (if j < k then 1 else -1 : Int32)).toInt64 (by rw [rg_up_eq, n2]; exact h5) (by decide)
  rw [s2, rg_up_eq] at j2
  have j1 : rM_scale m 395 ((2 : Int32) * (if j < k then 1 else -1 : Int32)).toInt64 (rm_w aS aL aG M S11 L11 G11) = _ := j1
  obtain ⟨V12, hV12⟩ : ∃ V12, V12 = va_up (va_up (va_up (va_up V10 395 (V (320 + 2 * (4 * j + 1 + 1) + 1))) 417 (2 * btz k j)) 416 (V (320 + 2 * (4 * j + 1 + 1) + 1) * (2 * btz k j))) 395 (V (320 + 2 * (4 * j + 1 + 1) + 1) * (2 * btz k j)) := ⟨_, rfl⟩
  rw [← hV12] at j2
  have v12 : ∀ q, q ≠ 395 → q ≠ 416 → q ≠ 417 → V12 q = V10 q := fun q a b c => by rw [hV12, rg_up_ne a, rg_up_ne b, rg_up_ne c, rg_up_ne a]
  have v1295 : V12 395 = V (320 + 2 * (4 * j + 1 + 1) + 1) * (2 * btz k j) := by rw [hV12, rg_up_eq]
  have l1295 : rm_lt (V (320 + 2 * (4 * j + 1 + 1) + 1) * (2 * btz k j)) 18 := by rw [n2]; exact h5.mul l2b
  have e8 : V12 (320 + 2 * (4 * j + 1 + 1)) = V (320 + 2 * (4 * j + 2) + 0) := by
    rw [v12 _ (by omega) (by omega) (by omega), v10 _ (by omega) (by omega) (by omega) (by omega) (by omega) (by omega) (by omega) (by omega) (by omega) (by omega)]
    rfl
  obtain ⟨S13, L13, G13, k1', k2'⟩ := rm_plusV H (a := 395) (b := 320 + 2 * (4 * j + 1 + 1)) (c := 393) (by decide) (by decide) (by omega) (by omega) (by decide) j2 (by rw [v1295]; exact l1295.mono (by decide)) (by rw [e8]; exact h3.mono (by decide))
  rw [v1295, e8] at k2'
  have k1' : rM_plus m 395 (nI (320 + 2 * (4 * j + 1 + 1))) 393 (rm_w aS aL aG M S12 L12 G12) = _ := k1'
  obtain ⟨P3, hP3⟩ : ∃ P3, P3 = V (320 + 2 * (4 * j + 1 + 1) + 1) * (2 * btz k j) + V (320 + 2 * (4 * j + 2) + 0) := ⟨_, rfl⟩
  have lP3 : rm_lt P3 19 := by rw [hP3]; exact l1295.add (h3.mono (by decide))
  rw [← hP3] at k2'
  have e9 : va_up V12 393 P3 (360 + (4 * j + 1) + 1) = V (360 + (4 * j + 2)) := by
    rw [rg_up_ne (by omega), v12 _ (by omega) (by omega) (by omega), v10 _ (by omega) (by omega) (by omega) (by omega) (by omega) (by omega) (by omega) (by omega) (by omega) (by omega)]
    congr 1
  obtain ⟨S14, L14, G14, m1, m2⟩ := rm_copyV H (a := 360 + (4 * j + 1) + 1) (c := 394) (by omega) (by omega) (by decide) k2' (by rw [e9]; exact h1.mono (by decide))
  rw [e9] at m2
  have m1 : rM_copy m (nI (360 + (4 * j + 1) + 1)) 394 (rm_w aS aL aG M S13 L13 G13) = _ := m1
  have v14 : ∀ q, q ≠ 393 → q ≠ 394 → q ≠ 395 → q ≠ 416 → q ≠ 417 → va_up (va_up V12 393 P3) 394 (V (360 + (4 * j + 2))) q = V10 q := fun q a b c d e => by rw [rg_up_ne b, rg_up_ne a, v12 q c d e]
  have v1493 : va_up (va_up V12 393 P3) 394 (V (360 + (4 * j + 2))) 393 = P3 := by rw [rg_up_ne (by decide), rg_up_eq]
  have v1494 : va_up (va_up V12 393 P3) 394 (V (360 + (4 * j + 2))) 394 = V (360 + (4 * j + 2)) := rg_up_eq
  have hb14 : acc (va_up (va_up V12 393 P3) 394 (V (360 + (4 * j + 2)))) 384 385 z k1 := hb.keep (by rw [v14 _ (by decide) (by decide) (by decide) (by decide) (by decide), v10 _ (by decide) (by decide) (by decide) (by decide) (by decide) (by decide) (by decide) (by decide) (by decide) (by decide)]) (by rw [v14 _ (by decide) (by decide) (by decide) (by decide) (by decide), v10 _ (by decide) (by decide) (by decide) (by decide) (by decide) (by decide) (by decide) (by decide) (by decide) (by decide)])
  obtain ⟨S15, L15, G15, V15, o1, o2, o3, o4⟩ := rm_sumA H (l := 19) (Or.inr (Or.inl ⟨rfl, rfl⟩)) m2 hb14 (by rw [v1493]; exact lP3) (by rw [v1494]; exact h1.mono (by decide)) (by rw [v1494]; exact h0) (by omega)
  have o1 : rM_sum m 384 385 (rm_w aS aL aG M S14 L14 G14) = _ := o1
  rw [v1493, v1494] at o3
  have hK := H.1
  refine ⟨S15, L15, G15, V15, ?_, o2, ?_, ?_, fun q hq => ?_⟩
  · rw [rM_moreFirst_u, rM_moreFirst_e]
    simp only [rm_wK, hK, if_true, rm_behind, rm_w0, rm_w1, rm_l4, rm_l1, rm_l360, t1, u1, w1, x1, y1, z1, a1, b1, c1, d1, i1, j1, k1', m1, o1, Option.bind_some]
    rfl
  · refine ((d3.to ?_).mono (by omega)).keep (by rw [o4 _ (by decide) (by decide) (by decide) (by decide), v14 _ (by decide) (by decide) (by decide) (by decide) (by decide)]) (by rw [o4 _ (by decide) (by decide) (by decide) (by decide), v14 _ (by decide) (by decide) (by decide) (by decide) (by decide)])
    congr 1
    refine (qv_eq f0 ?_).symm
    rw [hP1, hP2, hY]
    simp only [Rat.intCast_mul, Rat.intCast_sub, Rat.intCast_add]
    rw [← f4, ← f6, ← g4, ← g6]
    grind
  · refine (o3.to ?_).mono (by omega)
    congr 1
    refine (qv_eq h0 ?_).symm
    rw [hP3]
    simp only [Rat.intCast_mul, Rat.intCast_add]
    rw [n2, ← h4, ← h6]
    grind
  · rw [o4 q (by omega) (by omega) (by omega) (by omega), v14 q (by omega) (by omega) (by omega) (by omega) (by omega), v10 q (by omega) (by omega) (by omega) (by omega) (by omega) (by omega) (by omega) (by omega) (by omega) (by omega)]
theorem p4_i : ∀ p : Nat, p < 20 → nI p / (4 : Int32) = nI (p / 4) ∧ nI p - nI p / (4 : Int32) * (4 : Int32) = nI (p % 4) := by decide
theorem nI4 {a : Nat} (h : a < 4) : (nI a = (0 : Int32) ↔ a = 0) ∧ (nI a = (1 : Int32) ↔ a = 1) ∧ (nI a = (3 : Int32) ↔ a = 3) := ⟨nI_eq (b := 0) (by omega) (by decide), nI_eq (b := 1) (by omega) (by decide), nI_eq (b := 3) (by omega) (by decide)⟩
/-- what one other card adds to T1 / T2 and to T3 / T4 -/
def mT1 (mu : Nat → Nat → Rat) (p j : Nat) (Tb : Rat) : Rat := if j = p / 4 then 0 else if p % 4 = 0 then Tb * (mu (4 * j + 1) 0 * ((btz (p / 4) j : Int) : Rat) + mu (4 * j + 1) 1 * (mu (4 * (p / 4) + 3) 1 * ((2 * btz (p / 4) j : Int) : Rat) - mu (4 * (p / 4) + 3) 0)) else if p % 4 = 1 then mu (4 * j) 0 * (((btz (p / 4) j : Int) : Rat) - mu (4 * j + 3) 0 - mu (4 * j + 3) 1 * ((2 * btz (p / 4) j : Int) : Rat)) else if p % 4 = 3 then mu (4 * j + 1) 1 * ((-1 - 2 * btz (p / 4) j : Int) : Rat) else mu (4 * j) 1 * ((-1 - 2 * btz (p / 4) j : Int) : Rat)
def mT3 (mu : Nat → Nat → Rat) (p j : Nat) : Rat := if j = p / 4 then 0 else if p % 4 = 0 then mu (4 * j + 2) 1 * ((2 * btz (p / 4) j : Int) : Rat) + mu (4 * j + 2) 0 else 0
/-- one other card -/
theorem rm_mone (H : rm_F m aS aL aG aN aB M) {d p j k1 : Nat} {mu : Nat → Nat → Rat} {x z : Rat} (hd : d ≤ 5) (hdk : rg_I M 118 m = nI d) (hp : p < 4 * d) (hj : j < d) (hV : rm_V S L G V) (hw : wOk d mu V) (ha : acc V 382 383 x k1) (hb : acc V 384 385 z k1) (hk : k1 + 39 ≤ 4200) : ∃ (S' L' G' : Nat → Int32) (V' : Nat → Int), rM_more_26 m (nI p) (nI (p / 4)) (nI j) (rm_w aS aL aG M S L G) = rM_more_26 m (nI p) (nI (p / 4)) (nI (j + 1)) (rm_w aS aL aG M S' L' G') ∧ rm_V S' L' G' V' ∧ acc V' 382 383 (x + mT1 mu p j ((V (360 + (4 * (p / 4) + 3)) : Int) : Rat)) (k1 + 39) ∧ acc V' 384 385 (z + mT3 mu p j) (k1 + 39) ∧ ∀ q, (q < 382 ∨ (396 < q ∧ q ≠ 416 ∧ q ≠ 417)) → V' q = V q := by
  have hK := H.1
  obtain ⟨i1, i2⟩ := p4_i p (by omega)
  obtain ⟨q0, q1, q3⟩ := nI4 (a := p % 4) (by omega)
  obtain ⟨s1, s2, s3, s4⟩ := btz_i (p / 4) j
  have e40 : ¬ ((4 : Int32) = 0) := by decide
  have pd : ¬ nI d ≤ nI j := by rw [nI_leI (by omega) (by omega)]; omega
  rw [rM_more_26_e]
  simp only [rm_wK, rm_wI, hK, hdk, if_true, pd, if_false, i2, e40]
  unfold mT1 mT3
  by_cases cj : j = p / 4
  · rw [if_pos (by rw [cj]), rM_more_173_e, nI_1, if_pos cj, if_pos cj]
    exact ⟨S, L, G, V, rfl, hV, (ha.to (Rat.add_zero _).symm).mono (by omega), (hb.to (Rat.add_zero _).symm).mono (by omega), fun _ _ => rfl⟩
  · rw [if_neg (fun q => cj ((nI_eq (by omega) (by omega)).mp q)), if_neg cj, if_neg cj]
    have bts : ∀ (S L G : Nat → Int32), rM_beats (nI (p / 4)) (nI j) (rm_w aS aL aG M S L G) = some (if j < p / 4 then 1 else -1, rm_w aS aL aG M S L G) := fun S L G => rm_beats (by omega) (by omega)
    simp only [bts, Option.bind_some]
    by_cases c0 : p % 4 = 0
    · rw [if_pos (q0.mpr c0), if_pos c0, if_pos c0]
      obtain ⟨S', L', G', V', b1, b2, b3, b4, b5⟩ := rm_mfi H (k := p / 4) hd hj (by omega) hV hw ha hb hk
      simp only [rm_wK, hK, if_true, b1, Option.bind_some, rM_more_173_e, nI_1]
      exact ⟨S', L', G', V', rfl, b2, b3, b4, b5⟩
    · rw [if_neg (fun q => c0 (q0.mp q)), if_neg c0, if_neg c0]
      by_cases c1 : p % 4 = 1
      · rw [if_pos (q1.mpr c1), if_pos c1]
        obtain ⟨S', L', G', V', b1, b2, b3, b4⟩ := rm_mbp H (k := p / 4) hd hj hV hw ha hk
        simp only [rm_wK, hK, if_true, b1, Option.bind_some, rM_more_173_e, nI_1]
        exact ⟨S', L', G', V', rfl, b2, b3, ((hb.to (Rat.add_zero _).symm).mono (by omega)).keep (b4 _ (by omega)) (b4 _ (by omega)), fun q hq => b4 q (by omega)⟩
      · rw [if_neg (fun q => c1 (q1.mp q)), if_neg c1]
        -- one weight, times -1 - 2 s, over its total
        have fin : ∀ P : Nat, P < 4 * d → ∃ (S1 L1 G1 S2 L2 G2 S3 L3 G3 S' L' G' : Nat → Int32) (V' : Nat → Int), rM_copy m (nI (320 + 2 * P + 1)) 393 (rm_w aS aL aG M S L G) = some (rm_w aS aL aG M S1 L1 G1) ∧ rM_scale m 393 ((-1 : Int32) - ((2 : Int32) * (if j < p / 4 then 1 else -1 : Int32))).toInt64 (rm_w aS aL aG M S1 L1 G1) = some (rm_w aS aL aG M S2 L2 G2) ∧ rM_copy m (nI (360 + P)) 394 (rm_w aS aL aG M S2 L2 G2) = some (rm_w aS aL aG M S3 L3 G3) ∧ rM_sum m 382 383 (rm_w aS aL aG M S3 L3 G3) = some (rm_w aS aL aG M S' L' G') ∧ rm_V S' L' G' V' ∧ acc V' 382 383 (x + mu P 1 * ((-1 - 2 * btz (p / 4) j : Int) : Rat)) (k1 + 39) ∧ acc V' 384 385 (z + 0) (k1 + 39) ∧ ∀ q, (q < 382 ∨ (396 < q ∧ q ≠ 416 ∧ q ≠ 417)) → V' q = V q := by
          intro P hP
          obtain ⟨f0, f1, f2⟩ := hw P hP
          obtain ⟨S1, L1, G1, S2, L2, G2, S3, L3, G3, S', L', G', V', b1, b2, b3, b4, b5, b6, b7, b8⟩ := rm_tA H (A := 320 + 2 * P + 1) (B := 360 + P) (Or.inl ⟨rfl, rfl⟩) (by omega) (by omega) s3 (by omega) hV ha (f2 1 (by decide)).1 f1 f0 (by omega)
          rw [hw.q hP (by decide)] at b6
          exact ⟨S1, L1, G1, S2, L2, G2, S3, L3, G3, S', L', G', V', b1, b2, b3, b4, b5, b6.mono (by omega), ((hb.to (Rat.add_zero _).symm).mono (by omega)).keep (b8 _ (by decide) (by decide) (by decide) (by decide) (by decide) (by decide) (by decide) (by decide)) (b8 _ (by decide) (by decide) (by decide) (by decide) (by decide) (by decide) (by decide) (by decide)), fun q hq => b8 q (by omega) (by omega) (by omega) (by omega) (by omega) (by omega) (by omega) (by omega)⟩
        by_cases c3 : p % 4 = 3
        · rw [if_pos (q3.mpr c3), if_pos c3]
          obtain ⟨S1, L1, G1, S2, L2, G2, S3, L3, G3, S', L', G', V', b1, b2, b3, b4, b5, b6, b7, b8⟩ := fin (4 * j + 1) (by omega)
          have q3' : nI (p % 4) = (3 : Int32) := q3.mpr c3
          simp only [rm_wK, hK, if_true, rm_l4, rm_l1, rm_w1, Option.bind_some, rM_more_113_e, b1, b2, e40, if_false, i2, q3', rM_more_156_e, rm_l360, b3, b4, rM_more_173_e, nI_1]
          exact ⟨S', L', G', V', rfl, b5, b6, b7, b8⟩
        · rw [if_neg (fun q => c3 (q3.mp q)), if_neg c3]
          obtain ⟨S1, L1, G1, S2, L2, G2, S3, L3, G3, S', L', G', V', b1, b2, b3, b4, b5, b6, b7, b8⟩ := fin (4 * j) (by omega)
          have q3' : ¬ nI (p % 4) = (3 : Int32) := fun q => c3 (q3.mp q)
          simp only [rm_wK, hK, if_true, rm_first, rm_w1, Option.bind_some, rM_more_113_e, b1, b2, e40, if_false, i2, q3', rM_more_156_e, rm_l360, b3, b4, rM_more_173_e, nI_1]
          exact ⟨S', L', G', V', rfl, b5, b6, b7, b8⟩
end

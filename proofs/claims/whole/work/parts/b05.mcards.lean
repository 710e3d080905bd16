/-! the reference: the cards: what a place's first way gets more than its second -/
/-- the weights hold the mixes mu -/
def wOk (d : Nat) (mu : Nat → Nat → Rat) (V : Nat → Int) : Prop := ∀ p, p < 4 * d → 0 < V (360 + p) ∧ rm_lt (V (360 + p)) 18 ∧ ∀ w, w < 2 → rm_lt (V (320 + 2 * p + w)) 17 ∧ mu p w * ((V (360 + p) : Int) : Rat) = ((V (320 + 2 * p + w) : Int) : Rat)
theorem wOk.keep {d : Nat} {mu : Nat → Nat → Rat} {V V' : Nat → Int} (h : wOk d mu V) (hd : d ≤ 5) (h1 : ∀ q, 320 ≤ q → q < 380 → V' q = V q) : wOk d mu V' := fun p hp => by
  rw [h1 _ (by omega) (by omega)]
  refine ⟨(h p hp).1, (h p hp).2.1, fun w hw => ?_⟩
  rw [h1 _ (by omega) (by omega)]
  exact (h p hp).2.2 w hw
/-- n / d is x, in fewer than k words -/
def acc (V : Nat → Int) (n d : Nat) (x : Rat) (k : Nat) : Prop := 0 < V d ∧ rm_lt (V n) k ∧ rm_lt (V d) k ∧ qv (V n) (V d) = x
theorem acc.keep {V V' : Nat → Int} {n d k : Nat} {x : Rat} (h : acc V n d x k) (h1 : V' n = V n) (h2 : V' d = V d) : acc V' n d x k := by
  unfold acc; rw [h1, h2]; exact h
theorem acc.mono {V : Nat → Int} {n d k l : Nat} {x : Rat} (h : acc V n d x k) (hl : k ≤ l) : acc V n d x l := ⟨h.1, h.2.1.mono hl, h.2.2.1.mono hl, h.2.2.2⟩
theorem acc.to {V : Nat → Int} {n d k : Nat} {x y : Rat} (h : acc V n d x k) (e : x = y) : acc V n d y k := by rw [← e]; exact h
/-- the pairs of registers -/
def prs (n d : Nat) : Prop := (n = 382 ∧ d = 383) ∨ (n = 384 ∧ d = 385) ∨ (n = 409 ∧ d = 410) ∨ (n = 411 ∧ d = 412)
section
variable {m aS aL aG aN aB : Nat} {M : rg_M}
variable {S L G : Nat → Int32} {V : Nat → Int}
theorem rm_sumA (H : rm_F m aS aL aG aN aB M) {n d k l : Nat} {x : Rat} (hp : prs n d) (hV : rm_V S L G V) (ha : acc V n d x k) (h1 : rm_lt (V 393) l) (h2 : rm_lt (V 394) l) (h0 : 0 < V 394) (hkl : k + l + 1 ≤ 4200) : ∃ (S' L' G' : Nat → Int32) (V' : Nat → Int), rM_sum m (nI n) (nI d) (rm_w aS aL aG M S L G) = some (rm_w aS aL aG M S' L' G') ∧ rm_V S' L' G' V' ∧ acc V' n d (x + qv (V 393) (V 394)) (k + l + 1) ∧ ∀ q, q ≠ n → q ≠ d → q ≠ 389 → q ≠ 390 → V' q = V q := by
  unfold prs at hp
  obtain ⟨a1, a2, a3, a4⟩ := ha
  obtain ⟨S', L', G', V', b1, b2, b3, b4, b5⟩ := rm_sumV H (n := n) (d := d) (k := k) (l := l) (by omega) (by omega) (by omega) (by omega) (by omega) (by omega) (by omega) (by omega) (by omega) (by omega) (by omega) (by omega) (by omega) (by omega) hV a2 a3 h1 h2 hkl
  refine ⟨S', L', G', V', b1, b2, ⟨?_, ?_, ?_, ?_⟩, b5⟩
  · rw [b4]; exact Int.mul_pos a1 h0
  · rw [b3]; exact ((a2.mul h2).add ((h1.mul a3).mono (by omega)))
  · rw [b4]; exact (a3.mul h2).mono (by omega)
  · rw [b3, b4, ← a4, qv_add a1 h0]
theorem rm_sum0A (H : rm_F m aS aL aG aN aB M) {n d : Nat} (hp : prs n d) (hV : rm_V S L G V) : ∃ (S' L' G' : Nat → Int32) (V' : Nat → Int), rM_sum0 m (nI n) (nI d) (rm_w aS aL aG M S L G) = some (rm_w aS aL aG M S' L' G') ∧ rm_V S' L' G' V' ∧ acc V' n d 0 1 ∧ ∀ q, q ≠ n → q ≠ d → V' q = V q := by
  unfold prs at hp
  obtain ⟨S', L', G', b1, b2⟩ := rm_sum0V H (n := n) (d := d) (by omega) (by omega) hV
  refine ⟨S', L', G', _, b1, b2, ⟨?_, ?_, ?_, ?_⟩, fun q h1 h2 => by rw [rg_up_ne h2, rg_up_ne h1]⟩
  · rw [rg_up_eq]; decide
  · rw [rg_up_ne (by omega), rg_up_eq]; exact rm_lt_zero
  · rw [rg_up_eq]; exact rm_lt_one (by decide)
  · rw [rg_up_ne (by omega), rg_up_eq, rg_up_eq, qv_1]; rfl
/-- lowest terms -/
theorem rm_lowA (H : rm_F m aS aL aG aN aB M) {n d k : Nat} {x : Rat} (hp : prs n d) (hV : rm_V S L G V) (ha : acc V n d x k) : ∃ (S' L' G' : Nat → Int32) (V' : Nat → Int), rM_lower m (nI n) (nI d) (rm_w aS aL aG M S L G) = some (rm_w aS aL aG M S' L' G') ∧ rm_V S' L' G' V' ∧ acc V' n d x k ∧ V' n = x.num ∧ V' d = (x.den : Int) ∧ ∀ q, q ≠ n → q ≠ d → q ≠ 386 → V' q = V q := by
  unfold prs at hp
  obtain ⟨a1, a2, a3, a4⟩ := ha
  obtain ⟨g, S', L', G', b1, b2⟩ := rm_lowerV H (n := n) (d := d) (by omega) (by omega) (by omega) (by omega) (by omega) (by omega) (by omega) hV a1
  have l1' := a2.div (Int.gcd_dvd_left (V n) (V d))
  have l2' := a3.div (Int.gcd_dvd_right (V n) (V d))
  obtain ⟨l1, l2⟩ := low_uni (n := V n) (d := V d) a1
  rw [a4] at l1 l2
  rw [l1] at b2 l1'
  rw [l2] at b2 l2'
  refine ⟨S', L', G', _, b1, b2, ⟨?_, ?_, ?_, ?_⟩, ?_, rg_up_eq, fun q h1 h2 h3 => by rw [rg_up_ne h2, rg_up_ne h1, rg_up_ne h3]⟩
  · rw [rg_up_eq]; exact q_den x
  · rw [rg_up_ne (by omega), rg_up_eq]; exact l1'
  · rw [rg_up_eq]; exact l2'
  · rw [rg_up_ne (by omega), rg_up_eq, rg_up_eq]; exact qv_nd x
  · rw [rg_up_ne (by omega), rg_up_eq]
/-- A times c, over B, goes to n / d -/
theorem rm_tA (H : rm_F m aS aL aG aN aB M) {A B n d k : Nat} {c : Int} {z : Int64} {x : Rat} (hp : prs n d) (hA : A < 380) (hB : B < 380) (hz : z.toInt = c) (hc : c.natAbs ≤ 4) (hV : rm_V S L G V) (ha : acc V n d x k) (lA : rm_lt (V A) 17) (lB : rm_lt (V B) 18) (B0 : 0 < V B) (hk : k + 19 ≤ 4200) : ∃ (S1 L1 G1 S2 L2 G2 S3 L3 G3 S' L' G' : Nat → Int32) (V' : Nat → Int), rM_copy m (nI A) 393 (rm_w aS aL aG M S L G) = some (rm_w aS aL aG M S1 L1 G1) ∧ rM_scale m 393 z (rm_w aS aL aG M S1 L1 G1) = some (rm_w aS aL aG M S2 L2 G2) ∧ rM_copy m (nI B) 394 (rm_w aS aL aG M S2 L2 G2) = some (rm_w aS aL aG M S3 L3 G3) ∧ rM_sum m (nI n) (nI d) (rm_w aS aL aG M S3 L3 G3) = some (rm_w aS aL aG M S' L' G') ∧ rm_V S' L' G' V' ∧ acc V' n d (x + qv (V A * c) (V B)) (k + 19) ∧ V' 394 = V B ∧ ∀ q, q ≠ n → q ≠ d → q ≠ 389 → q ≠ 390 → q ≠ 393 → q ≠ 394 → q ≠ 416 → q ≠ 417 → V' q = V q := by
  have hp0 := hp
  unfold prs at hp0
  obtain ⟨S1, L1, G1, t1, t2⟩ := rm_copyV H (a := A) (c := 393) (by omega) (by omega) (by decide) hV (lA.mono (by decide))
  obtain ⟨S2, L2, G2, u1, u2⟩ := rm_scaleV H (a := 393) (k := 17) (by decide) (by decide) (by decide) (by decide) t2 z (by rw [rg_up_eq]; exact lA) (by decide)
  rw [hz, rg_up_eq] at u2
  obtain ⟨V2, hV2⟩ : ∃ V2, V2 = va_up (va_up (va_up (va_up V 393 (V A)) 417 c) 416 (V A * c)) 393 (V A * c) := ⟨_, rfl⟩
  rw [← hV2] at u2
  have v2 : ∀ q, q ≠ 393 → q ≠ 416 → q ≠ 417 → V2 q = V q := fun q a b c => by rw [hV2, rg_up_ne a, rg_up_ne b, rg_up_ne c, rg_up_ne a]
  have v93 : V2 393 = V A * c := by rw [hV2, rg_up_eq]
  obtain ⟨S3, L3, G3, w1, w2⟩ := rm_copyV H (a := B) (c := 394) (by omega) (by omega) (by decide) u2 (by rw [v2 B (by omega) (by omega) (by omega)]; exact lB.mono (by decide))
  rw [v2 B (by omega) (by omega) (by omega)] at w2
  have e93 : va_up V2 394 (V B) 393 = V A * c := by rw [rg_up_ne (by decide)]; exact v93
  have e94 : va_up V2 394 (V B) 394 = V B := rg_up_eq
  obtain ⟨S4, L4, G4, V4, x1, x2, x3, x4⟩ := rm_sumA H (l := 18) hp w2 (ha.keep (by rw [rg_up_ne (by omega), v2 _ (by omega) (by omega) (by omega)]) (by rw [rg_up_ne (by omega), v2 _ (by omega) (by omega) (by omega)])) (by rw [e93]; exact lA.mul (rm_lt_small (by omega))) (by rw [e94]; exact lB) (by rw [e94]; exact B0) (by omega)
  rw [e93, e94] at x3
  refine ⟨S1, L1, G1, S2, L2, G2, S3, L3, G3, S4, L4, G4, V4, t1, u1, w1, x1, x2, x3, ?_, fun q h1 h2 h3 h4 h5 h6 h7 h8 => ?_⟩
  · rw [x4 394 (by omega) (by omega) (by decide) (by decide)]; exact e94
  · rw [x4 q h1 h2 h3 h4, rg_up_ne h6, v2 q h5 h7 h8]
theorem wOk.q {d p w : Nat} {mu : Nat → Nat → Rat} (h : wOk d mu V) (hp : p < 4 * d) (hw : w < 2) (c : Int) : qv (V (320 + 2 * p + w) * c) (V (360 + p)) = mu p w * (c : Rat) := by
  refine (qv_eq (h p hp).1 ?_).symm
  rw [Rat.intCast_mul, ← ((h p hp).2.2 w hw).2]
  grind
end
/-- beats, as a number -/
def btz (k j : Nat) : Int := if j < k then 1 else -1
theorem btz_i (k j : Nat) : ((if j < k then 1 else -1 : Int32)).toInt64.toInt = btz k j ∧ ((2 : Int32) * (if j < k then 1 else -1 : Int32)).toInt64.toInt = 2 * btz k j ∧ (((-1 : Int32) - ((2 : Int32) * (if j < k then 1 else -1 : Int32))).toInt64).toInt = -1 - 2 * btz k j ∧ (btz k j).natAbs ≤ 1 := by
  unfold btz
  by_cases h : j < k
  · rw [if_pos h, if_pos h]; exact ⟨by decide, by decide, by decide, by decide⟩
  · rw [if_neg h, if_neg h]; exact ⟨by decide, by decide, by decide, by decide⟩
section
variable {m aS aL aG aN aB : Nat} {M : rg_M}
variable {S L G : Nat → Int32} {V : Nat → Int}
/-- moreBehindPass: what B's pass gets more than B's bet, against one card -/
theorem rm_mbp (H : rm_F m aS aL aG aN aB M) {d j k1 : Nat} {mu : Nat → Nat → Rat} {k : Nat} {x : Rat} (hd : d ≤ 5) (hj : j < d) (hV : rm_V S L G V) (hw : wOk d mu V) (ha : acc V 382 383 x k1) (hk : k1 + 39 ≤ 4200) : ∃ (S' L' G' : Nat → Int32) (V' : Nat → Int), rM_moreBehindPass m (nI j) (if j < k then 1 else -1) (rm_w aS aL aG M S L G) = some (rm_w aS aL aG M S' L' G') ∧ rm_V S' L' G' V' ∧ acc V' 382 383 (x + mu (4 * j) 0 * (((btz k j : Int) : Rat) - mu (4 * j + 3) 0 - mu (4 * j + 3) 1 * ((2 * btz k j : Int) : Rat))) (k1 + 39) ∧ ∀ q, (q < 382 ∨ q = 384 ∨ q = 385 ∨ (396 < q ∧ q ≠ 416 ∧ q ≠ 417)) → V' q = V q := by
  obtain ⟨s1, s2, -, s4⟩ := btz_i k j
  obtain ⟨f0, f1, f2⟩ := hw (4 * j) (by omega)
  obtain ⟨g0, g1, g2⟩ := hw (4 * j + 3) (by omega)
  obtain ⟨f3, f4⟩ := f2 0 (by decide)
  obtain ⟨g3, g4⟩ := g2 0 (by decide)
  obtain ⟨g5, g6⟩ := g2 1 (by decide)
  obtain ⟨S1, L1, G1, t1, t2⟩ := rm_copyV H (a := 360 + (4 * j + 3)) (c := 395) (by omega) (by omega) (by decide) hV (g1.mono (by decide))
  have t1 : rM_copy m (nI (360 + (4 * j + 3))) 395 (rm_w aS aL aG M S L G) = _ := t1
  obtain ⟨S2, L2, G2, u1, u2⟩ := rm_scaleV H (a := 395) (k := 18) (by decide) (by decide) (by decide) (by decide) t2 ((if j < k then 1 else -1 : Int32)).toInt64 (by rw [rg_up_eq]; exact g1) (by decide)
  rw [s1, rg_up_eq] at u2
  have u1 : rM_scale m 395 ((if j < k then 1 else -1 : Int32)).toInt64 (rm_w aS aL aG M S1 L1 G1) = _ := u1
  obtain ⟨V2, hV2⟩ : ∃ V2, V2 = va_up (va_up (va_up (va_up V 395 (V (360 + (4 * j + 3)))) 417 (btz k j)) 416 (V (360 + (4 * j + 3)) * btz k j)) 395 (V (360 + (4 * j + 3)) * btz k j) := ⟨_, rfl⟩
  rw [← hV2] at u2
  have v2 : ∀ q, q ≠ 395 → q ≠ 416 → q ≠ 417 → V2 q = V q := fun q a b c => by rw [hV2, rg_up_ne a, rg_up_ne b, rg_up_ne c, rg_up_ne a]
  have v95 : V2 395 = V (360 + (4 * j + 3)) * btz k j := by rw [hV2, rg_up_eq]
  have lb : rm_lt (btz k j) 1 := rm_lt_small (by omega)
  have l95 : rm_lt (V (360 + (4 * j + 3)) * btz k j) 19 := g1.mul lb
  have e1 : V2 (320 + 2 * (4 * j + 3)) = V (320 + 2 * (4 * j + 3) + 0) := v2 _ (by omega) (by omega) (by omega)
  obtain ⟨S3, L3, G3, w1, w2⟩ := rm_minusV H (a := 395) (b := 320 + 2 * (4 * j + 3)) (c := 396) (by decide) (by decide) (by omega) (by omega) (by decide) u2 (by rw [v95]; exact l95.mono (by decide)) (by rw [e1]; exact g3.mono (by decide))
  rw [v95, e1] at w2
  have w1 : rM_minus m 395 (nI (320 + 2 * (4 * j + 3))) 396 (rm_w aS aL aG M S2 L2 G2) = _ := w1
  have e2 : va_up V2 396 (V (360 + (4 * j + 3)) * btz k j - V (320 + 2 * (4 * j + 3) + 0)) (320 + 2 * (4 * j + 3) + 1) = V (320 + 2 * (4 * j + 3) + 1) := by rw [rg_up_ne (by omega)]; exact v2 _ (by omega) (by omega) (by omega)
  obtain ⟨S4, L4, G4, x1, x2⟩ := rm_copyV H (a := 320 + 2 * (4 * j + 3) + 1) (c := 395) (by omega) (by omega) (by decide) w2 (by rw [e2]; exact g5.mono (by decide))
  rw [e2] at x2
  have x1 : rM_copy m (nI (320 + 2 * (4 * j + 3) + 1)) 395 (rm_w aS aL aG M S3 L3 G3) = _ := x1
  obtain ⟨S5, L5, G5, y1, y2⟩ := rm_scaleV H (a := 395) (k := 17) (by decide) (by decide) (by decide) (by decide) x2 ((2 : Int32) * (if j < k then 1 else -1 : Int32)).toInt64 (by rw [rg_up_eq]; exact g5) (by decide)
  rw [s2, rg_up_eq] at y2
  have y1 : rM_scale m 395 ((2 : Int32) * (if j < k then 1 else -1 : Int32)).toInt64 (rm_w aS aL aG M S4 L4 G4) = _ := y1
  obtain ⟨V5, hV5⟩ : ∃ V5, V5 = va_up (va_up (va_up (va_up (va_up V2 396 (V (360 + (4 * j + 3)) * btz k j - V (320 + 2 * (4 * j + 3) + 0))) 395 (V (320 + 2 * (4 * j + 3) + 1))) 417 (2 * btz k j)) 416 (V (320 + 2 * (4 * j + 3) + 1) * (2 * btz k j))) 395 (V (320 + 2 * (4 * j + 3) + 1) * (2 * btz k j)) := ⟨_, rfl⟩
  rw [← hV5] at y2
  have v5 : ∀ q, q ≠ 395 → q ≠ 396 → q ≠ 416 → q ≠ 417 → V5 q = V q := fun q a b c d => by rw [hV5, rg_up_ne a, rg_up_ne c, rg_up_ne d, rg_up_ne a, rg_up_ne b, v2 q a c d]
  have v595 : V5 395 = V (320 + 2 * (4 * j + 3) + 1) * (2 * btz k j) := by rw [hV5, rg_up_eq]
  have v596 : V5 396 = V (360 + (4 * j + 3)) * btz k j - V (320 + 2 * (4 * j + 3) + 0) := by rw [hV5, rg_up_ne (by decide), rg_up_ne (by decide), rg_up_ne (by decide), rg_up_ne (by decide), rg_up_eq]
  have l96 : rm_lt (V (360 + (4 * j + 3)) * btz k j - V (320 + 2 * (4 * j + 3) + 0)) 20 := l95.sub (g3.mono (by decide))
  have l2b : rm_lt (2 * btz k j) 1 := rm_lt_small (by omega)
  have l595 : rm_lt (V (320 + 2 * (4 * j + 3) + 1) * (2 * btz k j)) 18 := g5.mul l2b
  obtain ⟨S6, L6, G6, z1, z2⟩ := rm_minusV H (a := 396) (b := 395) (c := 396) (by decide) (by decide) (by decide) (by decide) (by decide) y2 (by rw [v596]; exact l96.mono (by decide)) (by rw [v595]; exact l595.mono (by decide))
  rw [v596, v595] at z2
  have z1 : rM_minus m 396 395 396 (rm_w aS aL aG M S5 L5 G5) = _ := z1
  obtain ⟨Y, hY⟩ : ∃ Y, Y = V (360 + (4 * j + 3)) * btz k j - V (320 + 2 * (4 * j + 3) + 0) - V (320 + 2 * (4 * j + 3) + 1) * (2 * btz k j) := ⟨_, rfl⟩
  have lY : rm_lt Y 21 := by rw [hY]; exact l96.sub (l595.mono (by decide))
  rw [← hY] at z2
  have v6 : ∀ q, q ≠ 395 → q ≠ 396 → q ≠ 416 → q ≠ 417 → va_up V5 396 Y q = V q := fun q a b c d => by rw [rg_up_ne b, v5 q a b c d]
  have e3 : va_up V5 396 Y (320 + 2 * (4 * j)) = V (320 + 2 * (4 * j) + 0) := v6 _ (by omega) (by omega) (by omega) (by omega)
  obtain ⟨S7, L7, G7, a1, a2⟩ := rm_mulV H (a := 320 + 2 * (4 * j)) (b := 396) (c := 393) (ka := 17) (kb := 21) (by omega) (by omega) (by decide) (by decide) (by decide) (by omega) (by decide) z2 (by rw [e3]; exact f3) (by rw [rg_up_eq]; exact lY) (by decide)
  rw [e3, rg_up_eq] at a2
  have a1 : rM_multiply m (nI (320 + 2 * (4 * j))) 396 393 (rm_w aS aL aG M S6 L6 G6) = _ := a1
  have v7 : ∀ q, q ≠ 393 → q ≠ 395 → q ≠ 396 → q ≠ 416 → q ≠ 417 → va_up (va_up V5 396 Y) 393 (V (320 + 2 * (4 * j) + 0) * Y) q = V q := fun q e a b c d => by rw [rg_up_ne e, v6 q a b c d]
  have e4 := v7 (360 + 4 * j) (by omega) (by omega) (by omega) (by omega) (by omega)
  have e5 := v7 (360 + (4 * j + 3)) (by omega) (by omega) (by omega) (by omega) (by omega)
  obtain ⟨S8, L8, G8, b1, b2⟩ := rm_mulV H (a := 360 + 4 * j) (b := 360 + (4 * j + 3)) (c := 394) (ka := 18) (kb := 18) (by omega) (by omega) (by omega) (by omega) (by decide) (by omega) (by omega) a2 (by rw [e4]; exact f1) (by rw [e5]; exact g1) (by decide)
  rw [e4, e5] at b2
  have b1 : rM_multiply m (nI (360 + 4 * j)) (nI (360 + (4 * j + 3))) 394 (rm_w aS aL aG M S7 L7 G7) = _ := b1
  obtain ⟨V8, hV8⟩ : ∃ V8, V8 = va_up (va_up (va_up V5 396 Y) 393 (V (320 + 2 * (4 * j) + 0) * Y)) 394 (V (360 + 4 * j) * V (360 + (4 * j + 3))) := ⟨_, rfl⟩
  rw [← hV8] at b2
  have v8 : ∀ q, q ≠ 393 → q ≠ 394 → q ≠ 395 → q ≠ 396 → q ≠ 416 → q ≠ 417 → V8 q = V q := fun q e f a b c d => by rw [hV8, rg_up_ne f, v7 q e a b c d]
  have v93 : V8 393 = V (320 + 2 * (4 * j) + 0) * Y := by rw [hV8, rg_up_ne (by decide), rg_up_eq]
  have v94 : V8 394 = V (360 + 4 * j) * V (360 + (4 * j + 3)) := by rw [hV8, rg_up_eq]
  obtain ⟨S9, L9, G9, V9, c1, c2, c3, c4⟩ := rm_sumA H (l := 38) (Or.inl ⟨rfl, rfl⟩) b2 (ha.keep (v8 _ (by decide) (by decide) (by decide) (by decide) (by decide) (by decide)) (v8 _ (by decide) (by decide) (by decide) (by decide) (by decide) (by decide))) (by rw [v93]; exact f3.mul lY) (by rw [v94]; exact (f1.mul g1).mono (by decide)) (by rw [v94]; exact Int.mul_pos f0 g0) (by omega)
  have c1 : rM_sum m 382 383 (rm_w aS aL aG M S8 L8 G8) = _ := c1
  rw [v93, v94] at c3
  have hK := H.1
  refine ⟨S9, L9, G9, V9, ?_, c2, c3.to ?_, fun q hq => by rw [c4 q (by omega) (by omega) (by omega) (by omega), v8 q (by omega) (by omega) (by omega) (by omega) (by omega) (by omega)]⟩
  · rw [rM_moreBehindPass_u, rM_moreBehindPass_e]
    simp only [rm_wK, hK, if_true, rm_behind, rm_first, rm_w0, rm_w1, rm_l4, rm_l1, rm_l360, t1, u1, w1, x1, y1, z1, a1, b1, c1, Option.bind_some]
    rfl
  · congr 1
    refine (qv_eq (Int.mul_pos f0 g0) ?_).symm
    rw [hY]
    simp only [Rat.intCast_mul, Rat.intCast_sub]
    rw [← f4, ← g4, ← g6]
    grind
end

/-! the reference: more, to its end; a round of cards -/
theorem qs_lin3 (f g h : Nat → Rat) (a b : Rat) : ∀ n, qs f n + qs g n * a + qs h n * b = qs (fun j => f j + g j * a + h j * b) n
  | 0 => by show (0 : Rat) + 0 * a + 0 * b = 0; rw [Rat.zero_mul, Rat.zero_mul, Rat.add_zero, Rat.add_zero]
  | n + 1 => by rw [qs_s, qs_s, qs_s, qs_s, ← qs_lin3 f g h a b n]; grind
theorem qs_sub (f g : Nat → Rat) : ∀ n, qs f n - qs g n = qs (fun j => f j - g j) n
  | 0 => by show (0 : Rat) - 0 = 0; grind
  | n + 1 => by rw [qs_s, qs_s, qs_s, ← qs_sub f g n]; grind
theorem btz_w {k j : Nat} {a b : Int} (h : b = -a) : ((if j < k then a else b : Int) : Rat) = ((a : Int) : Rat) * ((btz k j : Int) : Rat) := by
  unfold btz
  by_cases c : j < k
  · rw [if_pos c, if_pos c, Rat.intCast_one, Rat.mul_one]
  · rw [if_neg c, if_neg c, h, Rat.intCast_neg, Rat.intCast_neg, Rat.intCast_one, Rat.mul_neg, Rat.mul_one]
theorem c2 (x : Int) : ((2 * x : Int) : Rat) = 2 * (x : Rat) := by rw [Rat.intCast_mul]; rfl
theorem cm1 (x : Int) : ((-1 - 2 * x : Int) : Rat) = -1 - 2 * (x : Rat) := by rw [Rat.intCast_sub, c2]; rfl
/-- what the first way gets more than the second -/
theorem more_v {mu : Nat → Nat → Rat} {d p : Nat} (hp : p < 4 * d) : qs (fun j => mT1 mu p j 1) d - qs (mT3 mu p) d = vM mu d (p / 4) (2 * (p % 4)) - vM mu d (p / 4) (2 * (p % 4) + 1) := by
  obtain ⟨k, hk⟩ : ∃ k, k = p / 4 := ⟨_, rfl⟩
  have r1 : ((1 : Int) : Rat) = 1 := rfl
  have r2 : ((2 : Int) : Rat) = 2 := rfl
  have rm1 : ((-1 : Int) : Rat) = -1 := rfl
  rcases (show p % 4 = 0 ∨ p % 4 = 1 ∨ p % 4 = 2 ∨ p % 4 = 3 by omega) with e | e | e | e
  · rw [e, ← hk]
    show _ = vM mu d k 0 - vM mu d k 1
    have h0 : vM mu d k 0 = aM mu k 2 1 (-1) d + aM mu k 3 (-1) (-1) d * mu (4 * k + 3) 0 + aM mu k 3 2 (-2) d * mu (4 * k + 3) 1 := rfl
    have h1 : vM mu d k 1 = aM mu k 4 1 1 d + aM mu k 5 2 (-2) d := rfl
    rw [h0, h1]
    unfold aM
    rw [qs_lin3, ← qs_add, qs_sub, qs_sub]
    refine qs_cong (fun j hj => ?_)
    unfold mT1 mT3
    rw [← hk]
    by_cases c : j = k
    · simp only [c, if_true, Rat.zero_mul, Rat.add_zero]
    · rw [if_neg c, if_neg c, if_neg c, if_neg c, if_neg c, if_neg c, if_neg c, if_pos e, if_pos e, btz_w (a := 1) (b := -1) rfl, btz_w (a := 2) (b := -2) rfl, ite_self, ite_self, c2, r1, r2, rm1]
      show 1 * (mu (4 * j + 1) 0 * _ + mu (4 * j + 1) 1 * _) - _ = mu (4 * j + 1) 0 * _ + mu (4 * j + 1) 1 * _ * _ + mu (4 * j + 1) 1 * _ * _ - (mu (4 * j + 2) 0 * _ + mu (4 * j + 2) 1 * _)
      grind
  · rw [e, ← hk]
    show _ = vM mu d k 2 - vM mu d k 3
    have h0 : vM mu d k 2 = aM mu k 0 1 (-1) d := rfl
    have h1 : vM mu d k 3 = aM mu k 6 1 1 d + aM mu k 7 2 (-2) d := rfl
    rw [h0, h1]
    unfold aM
    rw [← qs_add, qs_sub, qs_sub]
    refine qs_cong (fun j hj => ?_)
    unfold mT1 mT3
    rw [← hk]
    by_cases c : j = k
    · simp only [c, if_true, Rat.add_zero]
    · rw [if_neg c, if_neg c, if_neg c, if_neg c, if_neg c, if_neg (by omega), if_pos e, if_neg (by omega), btz_w (a := 1) (b := -1) rfl, btz_w (a := 2) (b := -2) rfl, ite_self, c2, r1, r2]
      show mu (4 * j) 0 * _ - 0 = mu (4 * j) 0 * _ - (mu (4 * j + 3) 0 * mu (4 * j) 0 * _ + mu (4 * j + 3) 1 * mu (4 * j) 0 * _)
      grind
  · rw [e, ← hk]
    show _ = vM mu d k 4 - vM mu d k 5
    have h0 : vM mu d k 4 = aM mu k 1 (-1) (-1) d := rfl
    have h1 : vM mu d k 5 = aM mu k 1 2 (-2) d := rfl
    rw [h0, h1]
    unfold aM
    rw [qs_sub, qs_sub]
    refine qs_cong (fun j hj => ?_)
    unfold mT1 mT3
    rw [← hk]
    by_cases c : j = k
    · simp only [c, if_true]
    · rw [if_neg c, if_neg c, if_neg c, if_neg c, if_neg (by omega), if_neg (by omega), if_neg (by omega), if_neg (by omega), btz_w (a := 2) (b := -2) rfl, ite_self, cm1, r2, rm1]
      show mu (4 * j) 1 * _ - 0 = mu (4 * j) 1 * _ - mu (4 * j) 1 * _
      grind
  · rw [e, ← hk]
    show _ = vM mu d k 6 - vM mu d k 7
    have h0 : vM mu d k 6 = aM mu k 3 (-1) (-1) d := rfl
    have h1 : vM mu d k 7 = aM mu k 3 2 (-2) d := rfl
    rw [h0, h1]
    unfold aM
    rw [qs_sub, qs_sub]
    refine qs_cong (fun j hj => ?_)
    unfold mT1 mT3
    rw [← hk]
    by_cases c : j = k
    · simp only [c, if_true]
    · rw [if_neg c, if_neg c, if_neg c, if_neg c, if_neg (by omega), if_neg (by omega), if_pos e, if_neg (by omega), btz_w (a := 2) (b := -2) rfl, ite_self, cm1, r2, rm1]
      show mu (4 * j + 1) 1 * _ - 0 = mu (4 * j + 1) 1 * _ - mu (4 * j + 1) 1 * _
      grind
theorem mT1_Tb (mu : Nat → Nat → Rat) (p j : Nat) (Tb : Rat) : (p % 4 = 0 → mT1 mu p j Tb = Tb * mT1 mu p j 1) ∧ (p % 4 ≠ 0 → mT1 mu p j Tb = mT1 mu p j 1) := by
  unfold mT1
  refine ⟨fun h => ?_, fun h => ?_⟩
  · by_cases c : j = p / 4
    · rw [if_pos c, if_pos c, Rat.mul_zero]
    · rw [if_neg c, if_neg c, if_pos h, if_pos h, Rat.one_mul]
  · by_cases c : j = p / 4
    · rw [if_pos c, if_pos c]
    · rw [if_neg c, if_neg c, if_neg h, if_neg h]
section
variable {m aS aL aG aN aB : Nat} {M : rg_M}
variable {S L G : Nat → Int32} {V : Nat → Int}
/-- the deck's pairs, as a long -/
theorem dk64 {d : Nat} (h3 : 3 ≤ d) (h5 : d ≤ 5) : ((nI d).toInt64 * (nI d - (1 : Int32)).toInt64).toInt = ((d * (d - 1) : Nat) : Int) := by
  rcases (show d = 3 ∨ d = 4 ∨ d = 5 by omega) with e | e | e <;> subst e <;> decide
/-- T2 times the deck's pairs -/
theorem qv_ch {n e : Int} {d : Nat} (h3 : 3 ≤ d) (he : 0 < e) : qv n (e * ((d * (d - 1) : Nat) : Int)) = qv n e * chN d := by
  have hp : 0 < d * (d - 1) := Nat.mul_pos (by omega) (by omega)
  have hr : (0 : Rat) < ((d * (d - 1) : Nat) : Rat) := Rat.natCast_pos.mpr hp
  have hz : ((d * (d - 1) : Nat) : Rat) ≠ 0 := fun e => by rw [e] at hr; exact absurd hr (by decide)
  have hm : chN d * ((d * (d - 1) : Nat) : Rat) = 1 := by unfold chN; rw [Rat.div_mul_cancel hz, Rat.intCast_one]
  refine (qv_eq (Int.mul_pos he (by omega)) ?_).symm
  have e1 := qv_mul (n := n) he
  rw [Rat.intCast_mul, Rat.intCast_natCast, ← e1]
  generalize ((d * (d - 1) : Nat) : Rat) = D at *
  have : qv n e * chN d * ((e : Rat) * D) = qv n e * (e : Rat) * (chN d * D) := by grind
  rw [this, hm, Rat.mul_one]
theorem rm_chA (H : rm_F m aS aL aG aN aB M) {n d' d k : Nat} {x : Rat} (hp : prs n d') (h3 : 3 ≤ d) (h5 : d ≤ 5) (hV : rm_V S L G V) (ha : acc V n d' x k) (hk : k + 2 ≤ 4200) : ∃ (S' L' G' : Nat → Int32) (V' : Nat → Int), rM_scale m (nI d') ((nI d).toInt64 * (nI d - (1 : Int32)).toInt64) (rm_w aS aL aG M S L G) = some (rm_w aS aL aG M S' L' G') ∧ rm_V S' L' G' V' ∧ acc V' n d' (x * chN d) (k + 1) ∧ ∀ q, q ≠ d' → q ≠ 416 → q ≠ 417 → V' q = V q := by
  unfold prs at hp
  obtain ⟨a1, a2, a3, a4⟩ := ha
  have cc : rm_cap d' = 4200 := by unfold rm_cap; rw [if_neg (by omega)]
  obtain ⟨S', L', G', b1, b2⟩ := rm_scaleV H (a := d') (k := k) (by omega) (by omega) (by omega) (by omega) hV ((nI d).toInt64 * (nI d - (1 : Int32)).toInt64) a3 (by omega)
  rw [dk64 h3 h5] at b2
  have hpos : 0 < d * (d - 1) := Nat.mul_pos (by omega) (by omega)
  have hle : d * (d - 1) ≤ 5 * 4 := Nat.mul_le_mul h5 (by omega)
  refine ⟨S', L', G', _, b1, b2, ⟨?_, ?_, ?_, ?_⟩, fun q h1 h2 h3 => by rw [rg_up_ne h1, rg_up_ne h2, rg_up_ne h3]⟩
  · rw [rg_up_eq]; exact Int.mul_pos a1 (by omega)
  · rw [rg_up_ne (by omega), rg_up_ne (by omega), rg_up_ne (by omega)]; exact a2.mono (by omega)
  · rw [rg_up_eq]; exact a3.mul (rm_lt_small (by rw [Int.natAbs_natCast]; omega))
  · rw [rg_up_eq, rg_up_ne (by omega), rg_up_ne (by omega), rg_up_ne (by omega), qv_ch h3 a1, a4]
/-- more, from card j on -/
theorem rm_mloop (H : rm_F m aS aL aG aN aB M) {d p : Nat} {mu : Nat → Nat → Rat} (hd : d ≤ 5) (hdk : rg_I M 118 m = nI d) (hp : p < 4 * d) {Tb : Int} : ∀ e j : Nat, d - j = e → j ≤ d → ∀ (S L G : Nat → Int32) (V : Nat → Int), rm_V S L G V → wOk d mu V → V (360 + (4 * (p / 4) + 3)) = Tb → acc V 382 383 (qs (fun j => mT1 mu p j (Tb : Rat)) j) (1 + 39 * j) → acc V 384 385 (qs (mT3 mu p) j) (1 + 39 * j) → ∃ (S' L' G' : Nat → Int32) (V' : Nat → Int), rM_more_26 m (nI p) (nI (p / 4)) (nI j) (rm_w aS aL aG M S L G) = rM_more_26 m (nI p) (nI (p / 4)) (nI d) (rm_w aS aL aG M S' L' G') ∧ rm_V S' L' G' V' ∧ acc V' 382 383 (qs (fun j => mT1 mu p j (Tb : Rat)) d) (1 + 39 * d) ∧ acc V' 384 385 (qs (mT3 mu p) d) (1 + 39 * d) ∧ ∀ q, (q < 382 ∨ (396 < q ∧ q ≠ 416 ∧ q ≠ 417)) → V' q = V q := by
  intro e
  induction e with
  | zero =>
    intro j he hj S L G V hV hw hTb ha hb
    have e : j = d := by omega
    subst e
    exact ⟨S, L, G, V, rfl, hV, ha, hb, fun _ _ => rfl⟩
  | succ e ih =>
    intro j he hj S L G V hV hw hTb ha hb
    obtain ⟨S1, L1, G1, V1, b1, b2, b3, b4, b5⟩ := rm_mone H (p := p) (j := j) hd hdk hp (by omega) hV hw ha hb (by omega)
    rw [hTb] at b3
    obtain ⟨S2, L2, G2, V2, c1, c2, c3, c4, c5⟩ := ih (j + 1) (by omega) (by omega) S1 L1 G1 V1 b2 (hw.keep hd (fun q _ h2 => b5 q (by omega))) (by rw [b5 _ (by omega)]; exact hTb) (b3.mono (by omega)) (b4.mono (by omega))
    exact ⟨S2, L2, G2, V2, by rw [b1, c1], c2, c3, c4, fun q hq => by rw [c5 q hq, b5 q hq]⟩
/-- more: the difference of a place's two worths, in lowest terms -/
theorem rm_moreM (H : rm_F m aS aL aG aN aB M) {d p : Nat} {mu : Nat → Nat → Rat} (h3 : 3 ≤ d) (hd : d ≤ 5) (hdk : rg_I M 118 m = nI d) (hp : p < 4 * d) (hV : rm_V S L G V) (hw : wOk d mu V) : ∃ (S' L' G' : Nat → Int32) (V' : Nat → Int), rM_more m (nI p) (rm_w aS aL aG M S L G) = some (rm_w aS aL aG M S' L' G') ∧ rm_V S' L' G' V' ∧ acc V' 382 383 (vC mu d p 0 - vC mu d p 1) 700 ∧ ∀ q, (q < 382 ∨ (396 < q ∧ q ≠ 416 ∧ q ≠ 417)) → V' q = V q := by
  have H0 := H
  obtain ⟨hK, hS, hL, hG, -, -, kS, kL, kG, -, -, lS, lL, lG, -, -, d1, d2, d3, -⟩ := H
  obtain ⟨i1, i2⟩ := p4_i p (by omega)
  obtain ⟨q0, q1, q3⟩ := nI4 (a := p % 4) (by omega)
  have e40 : ¬ ((4 : Int32) = 0) := by decide
  obtain ⟨S1, L1, G1, V1, a1, a2, a3, a4⟩ := rm_sum0A H0 (n := 382) (d := 383) (Or.inl ⟨rfl, rfl⟩) hV
  have a1 : rM_sum0 m 382 383 (rm_w aS aL aG M S L G) = _ := a1
  obtain ⟨S2, L2, G2, V2, b1, b2, b3, b4⟩ := rm_sum0A H0 (n := 384) (d := 385) (Or.inr (Or.inl ⟨rfl, rfl⟩)) a2
  have b1 : rM_sum0 m 384 385 (rm_w aS aL aG M S1 L1 G1) = _ := b1
  have f2 : ∀ q, q < 382 ∨ 385 < q → V2 q = V q := fun q hq => by rw [b4 q (by omega) (by omega), a4 q (by omega) (by omega)]
  obtain ⟨Tb, hTb⟩ : ∃ Tb, Tb = V2 (360 + (4 * (p / 4) + 3)) := ⟨_, rfl⟩
  obtain ⟨S3, L3, G3, V3, c1, c2, c3, c4, c5⟩ := rm_mloop H0 (p := p) (mu := mu) hd hdk hp (Tb := Tb) _ 0 rfl (Nat.zero_le _) S2 L2 G2 V2 b2 (hw.keep hd (fun q _ h2 => f2 q (by omega))) hTb.symm (a3.keep (b4 _ (by decide) (by decide)) (b4 _ (by decide) (by decide))) b3
  have c1 : rM_more_26 m (nI p) (nI (p / 4)) 0 (rm_w aS aL aG M S2 L2 G2) = _ := c1
  have hw3 : wOk d mu V3 := hw.keep hd (fun q _ h2 => by rw [c5 q (by omega), f2 q (by omega)])
  have hT3 : V3 (360 + (4 * (p / 4) + 3)) = Tb := by rw [c5 _ (by omega), hTb]
  -- the last steps
  have fin : ∀ (S L G : Nat → Int32) (V : Nat → Int), rm_V S L G V → acc V 382 383 (vM mu d (p / 4) (2 * (p % 4)) - vM mu d (p / 4) (2 * (p % 4) + 1)) 690 → (∀ q, (q < 382 ∨ (396 < q ∧ q ≠ 416 ∧ q ≠ 417)) → V q = V3 q) → ∃ (S' L' G' : Nat → Int32) (V' : Nat → Int), rM_more_260 m (rm_w aS aL aG M S L G) = some (none, rm_w aS aL aG M S' L' G') ∧ rm_V S' L' G' V' ∧ acc V' 382 383 (vC mu d p 0 - vC mu d p 1) 700 ∧ ∀ q, (q < 382 ∨ (396 < q ∧ q ≠ 416 ∧ q ≠ 417)) → V' q = V3 q := by
    intro S L G V hV ha hf
    obtain ⟨S4, L4, G4, V4, x1, x2, x3, x4⟩ := rm_chA H0 (n := 382) (d' := 383) (d := d) (Or.inl ⟨rfl, rfl⟩) h3 hd hV ha (by decide)
    have x1 : rM_scale m 383 ((nI d).toInt64 * (nI d - (1 : Int32)).toInt64) (rm_w aS aL aG M S L G) = _ := x1
    obtain ⟨S5, L5, G5, V5, y1, y2, y3, y4, y5, y6⟩ := rm_lowA H0 (n := 382) (d := 383) (Or.inl ⟨rfl, rfl⟩) x2 x3
    have y1 : rM_lower m 382 383 (rm_w aS aL aG M S4 L4 G4) = _ := y1
    rw [rM_more_260_e]
    simp only [rm_wK, rm_wI, hK, hdk, if_true, x1, y1, Option.bind_some]
    refine ⟨S5, L5, G5, V5, rfl, y2, (y3.to ?_).mono (by decide), fun q hq => by rw [y6 q (by omega) (by omega) (by omega), x4 q (by omega) (by omega) (by omega), hf q hq]⟩
    unfold vC
    rw [Nat.add_zero]
    grind
  rw [rM_more_u, rM_more_e]
  simp only [e40, if_false, rm_wK, hK, if_true, a1, b1, i1, Option.bind_some, c1]
  rw [rM_more_26_e]
  simp only [rm_wK, rm_wI, hK, hdk, if_true, Int32.le_refl, e40, if_false, i2]
  by_cases c0 : p % 4 = 0
  · rw [if_pos (q0.mpr c0)]
    obtain ⟨g0, g1, -⟩ := hw3 (4 * (p / 4) + 3) (by omega)
    rw [hT3] at g0 g1
    have eb : (360 : Int32) + nI (4 * (p / 4) + 3) = nI (360 + (4 * (p / 4) + 3)) := rm_l360 _
    obtain ⟨x0, x1, x2, x3⟩ := c3
    obtain ⟨S4, L4, G4, t1, t2⟩ := rm_mulV H0 (a := 383) (b := 360 + (4 * (p / 4) + 3)) (c := 389) (ka := 196) (kb := 18) (by decide) (by decide) (by omega) (by omega) (by decide) (by decide) (by omega) c2 (x2.mono (by omega)) (by rw [hT3]; exact g1) (by decide)
    rw [hT3] at t2
    have t1 : rM_multiply m 383 (nI (360 + (4 * (p / 4) + 3))) 389 (rm_w aS aL aG M S3 L3 G3) = _ := t1
    obtain ⟨S5, L5, G5, u1, u2⟩ := rm_copyV H0 (a := 389) (c := 383) (by decide) (by decide) (by decide) t2 (by rw [rg_up_eq]; exact ((x2.mono (show 1 + 39 * d ≤ 196 by omega)).mul g1).mono (by decide))
    rw [rg_up_eq] at u2
    have u1 : rM_copy m 389 383 (rm_w aS aL aG M S4 L4 G4) = _ := u1
    obtain ⟨V5, hV5⟩ : ∃ V5, V5 = va_up (va_up V3 389 (V3 383 * Tb)) 383 (V3 383 * Tb) := ⟨_, rfl⟩
    rw [← hV5] at u2
    have v5 : ∀ q, q ≠ 383 → q ≠ 389 → V5 q = V3 q := fun q a b => by rw [hV5, rg_up_ne a, rg_up_ne b]
    have a5 : acc V5 382 383 (qs (fun j => mT1 mu p j 1) d) 214 := by
      refine ⟨?_, ?_, ?_, ?_⟩
      · rw [hV5, rg_up_eq]; exact Int.mul_pos x0 g0
      · rw [v5 _ (by decide) (by decide)]; exact x1.mono (by omega)
      · rw [hV5, rg_up_eq]; exact ((x2.mono (show 1 + 39 * d ≤ 196 by omega)).mul g1)
      · rw [v5 382 (by decide) (by decide), hV5, rg_up_eq]
        refine (qv_eq (Int.mul_pos x0 g0) ?_).symm
        have e1 := qv_mul (n := V3 382) x0
        have e2 : qs (fun j => mT1 mu p j (Tb : Rat)) d = (Tb : Rat) * qs (fun j => mT1 mu p j 1) d := by
          rw [← qs_mul]; exact qs_cong (fun j _ => (mT1_Tb mu p j _).1 c0)
        rw [x3, e2] at e1
        rw [Rat.intCast_mul, ← e1]
        grind
    obtain ⟨z0, z1, z2, z3⟩ := c4
    obtain ⟨S6, L6, G6, w1, w2⟩ := rm_copyV H0 (a := 384) (c := 393) (by decide) (by decide) (by decide) u2 (by rw [v5 _ (by decide) (by decide)]; exact z1.mono (by rw [show rm_cap 393 = 4200 by decide]; omega))
    rw [v5 384 (by decide) (by decide)] at w2
    have w1 : rM_copy m 384 393 (rm_w aS aL aG M S5 L5 G5) = _ := w1
    have w3 := rm_negV (a := 393) (by decide) (by decide) w2
    rw [rg_up_eq, rg_up_up] at w3
    have e85 : va_up V5 393 (-(V3 384)) 385 = V3 385 := by rw [rg_up_ne (by decide)]; exact v5 _ (by decide) (by decide)
    obtain ⟨S7, L7, G7, y1, y2⟩ := rm_copyV H0 (a := 385) (c := 394) (by decide) (by decide) (by decide) w3 (by rw [e85]; exact z2.mono (by rw [show rm_cap 394 = 4200 by decide]; omega))
    rw [e85] at y2
    have y1 : rM_copy m 385 394 (rm_w aS aL aG M S6 L6 (upd G6 393 (-(G6 393)))) = _ := y1
    have v7 : ∀ q, q ≠ 393 → q ≠ 394 → va_up (va_up V5 393 (-(V3 384))) 394 (V3 385) q = V5 q := fun q a b => by rw [rg_up_ne b, rg_up_ne a]
    have v93 : va_up (va_up V5 393 (-(V3 384))) 394 (V3 385) 393 = -(V3 384) := by rw [rg_up_ne (by decide), rg_up_eq]
    have v94 : va_up (va_up V5 393 (-(V3 384))) 394 (V3 385) 394 = V3 385 := rg_up_eq
    obtain ⟨S8, L8, G8, V8, k1, k2, k3, k4⟩ := rm_sumA H0 (l := 196) (Or.inl ⟨rfl, rfl⟩) y2 (a5.keep (v7 _ (by decide) (by decide)) (v7 _ (by decide) (by decide))) (by rw [v93]; exact z1.neg.mono (by omega)) (by rw [v94]; exact z2.mono (by omega)) (by rw [v94]; exact z0) (by decide)
    have k1 : rM_sum m 382 383 (rm_w aS aL aG M S7 L7 G7) = _ := k1
    rw [v93, v94] at k3
    have c393 : (393 : Int32).toNatClampNeg = 393 := by decide
    have i393 : (0 : Int32) ≤ 393 := by decide
    obtain ⟨S9, L9, G9, V9, n1, n2, n3, n4⟩ := fin S8 L8 G8 V8 k2 ((k3.to (by
      rw [← more_v hp]
      have e1 : qv (-(V3 384)) (V3 385) = -(qs (mT3 mu p) d) := by
        rw [← z3]
        refine (qv_eq z0 ?_).symm
        have e2 := qv_mul (n := V3 384) z0
        rw [Rat.intCast_neg, ← e2, Rat.neg_mul]
      rw [e1, ← Rat.sub_eq_add_neg])).mono (by decide)) (fun q hq => by rw [k4 q (by omega) (by omega) (by omega) (by omega), v7 q (by omega) (by omega), v5 q (by omega) (by omega)])
    simp only [rm_behind, eb, t1, u1, w1, rm_wK, rm_wR, rm_wL, hK, hG, kG, lG, if_true, Option.bind_some, and_self, rm_rG d2 d3, rm_wG d2 d3, c393, i393, show (393 : Nat) < 420 by decide, y1, k1, n1]
    exact ⟨S9, L9, G9, V9, rfl, n2, n3, fun q hq => by rw [n4 q hq, c5 q hq, f2 q (by omega)]⟩
  · rw [if_neg (fun q => c0 (q0.mp q))]
    obtain ⟨S9, L9, G9, V9, n1, n2, n3, n4⟩ := fin S3 L3 G3 V3 c2 ((c3.to (by
      rw [← more_v hp]
      have e1 : qs (mT3 mu p) d = 0 := by
        have : qs (mT3 mu p) d = qs (fun _ => (0 : Rat)) d := qs_cong (fun j _ => by unfold mT3; rw [if_neg c0, ite_self])
        rw [this, qs_const, Rat.mul_zero]
      have e2 : qs (fun j => mT1 mu p j (Tb : Rat)) d = qs (fun j => mT1 mu p j 1) d := qs_cong (fun j _ => (mT1_Tb mu p j _).2 c0)
      rw [e1, e2]
      grind)).mono (by omega)) (fun _ _ => rfl)
    rw [n1]
    exact ⟨S9, L9, G9, V9, rfl, n2, n3, fun q hq => by rw [n4 q hq, c5 q hq, f2 q (by omega)]⟩
end

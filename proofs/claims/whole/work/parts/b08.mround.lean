/-! the reference: a round of cards -/
section
variable {m aS aL aG aN aB : Nat} {M : rg_M}
variable {S L G : Nat → Int32} {V : Nat → Int}
/-- the mix of one place of the cards -/
theorem rm_wcard (H : rm_F m aS aL aG aN aB M) {s : sS} {n0 p o o2 r c : Nat} (hok : ts_ok n0 s) (hg2 : ts_g s = 2) (hg : rg_I M 115 m = nI 2) (hr : rg_I M 116 m = nI r) (hc : rg_I M 117 m = nI c) (hp : p < 4 * ts_d s) (ho : (o = 0 ∧ o2 = 0) ∨ (o = 80 ∧ o2 = 40)) (hV : rm_V S L G V) (hs : mV s V) : ∃ (S' L' G' : Nat → Int32) (V' : Nat → Int), rM_weigh m (nI p) (nI o) (rm_w aS aL aG M S L G) = some (rm_w aS aL aG M S' L' G') ∧ rm_V S' L' G' V' ∧ (0 < V' (360 + p) ∧ rm_lt (V' (360 + p)) 18 ∧ ∀ w, w < 2 → rm_lt (V' (320 + 2 * p + w)) 17 ∧ cmu (ts_y s) o2 p w * ((V' (360 + p) : Int) : Rat) = ((V' (320 + 2 * p + w) : Int) : Rat)) ∧ ∀ q, (q < 320 + 2 * p ∨ (320 + 2 * p + 1 < q ∧ q ≠ 360 + p)) → q ≠ 386 → q ≠ 389 → q ≠ 390 → V' q = V q := by
  have hyB := hok.2.2.2.2.2.2.1
  obtain ⟨d1, d2⟩ := hok.2.2.2.1 hg2
  have esl : ∀ w, rm_sl 2 p w = 2 * p + w := fun w => rfl
  have hwy : rm_wy 2 r c p = 2 := rfl
  obtain ⟨S1, L1, G1, V1, a1, a2, a3, a4, a5, a6⟩ := rm_weighM H (p := p) (o := o) hg hr hc (by decide) (by omega) (by rw [hwy]; decide) (by rw [hwy]; decide) (fun w hw => by rw [hwy] at hw; rw [esl]; omega) (by omega) hV (f := fun w => ts_y s (o2 + (p * 2 + w))) (fun v hv => by
    rw [hwy] at hv
    have := hs.1 (by omega) (2 * p + v) (by omega)
    rcases ho with ⟨q1, q2⟩ | ⟨q1, q2⟩
    · subst q1 q2
      rw [esl, show 0 + (2 * p + v) = 2 * p + v by omega, show 0 + 40 + (2 * p + v) = 40 + (2 * p + v) by omega, show 0 + (p * 2 + v) = 2 * p + v by omega]
      exact ⟨this.1, this.2.1, hyB _ (by omega)⟩
    · subst q1 q2
      rw [esl, show 80 + 40 + (2 * p + v) = 120 + (2 * p + v) by omega, show 40 + (p * 2 + v) = 40 + (2 * p + v) by omega]
      exact ⟨this.2.2.1, this.2.2.2, hyB _ (by omega)⟩)
  rw [hwy] at a3 a5 a6
  refine ⟨S1, L1, G1, V1, a1, a2, ⟨a4, a5, fun w hw2 => ?_⟩, fun q hq h6 h9 h0 => a6 q (fun w hw2 => by rw [esl]; omega) (by omega) h6 h9 h0⟩
  have := a3 w hw2
  rw [esl, ← Nat.add_assoc] at this
  exact ⟨this.2.2, this.1⟩
theorem nI_4d {d : Nat} : (4 : Int32) * nI d = nI (4 * d) := rm_l4 d
/-- all mixes -/
theorem rm_wall (H : rm_F m aS aL aG aN aB M) {s : sS} {n0 r c : Nat} (hok : ts_ok n0 s) (hg2 : ts_g s = 2) (hg : rg_I M 115 m = nI 2) (hr : rg_I M 116 m = nI r) (hc : rg_I M 117 m = nI c) (hdk : rg_I M 118 m = nI (ts_d s)) : ∀ e j : Nat, 4 * ts_d s - j = e → j ≤ 4 * ts_d s → ∀ (S L G : Nat → Int32) (V1 : Nat → Int), rm_V S L G V1 → mV s V1 → (∀ p, p < j → 0 < V1 (360 + p) ∧ rm_lt (V1 (360 + p)) 18 ∧ ∀ w, w < 2 → rm_lt (V1 (320 + 2 * p + w)) 17 ∧ cmu (ts_y s) 0 p w * ((V1 (360 + p) : Int) : Rat) = ((V1 (320 + 2 * p + w) : Int) : Rat)) → ∃ (S' L' G' : Nat → Int32) (V' : Nat → Int), rM_allOfCards_2 m (nI j) (rm_w aS aL aG M S L G) = rM_allOfCards_28 m 1 0 (rm_w aS aL aG M S' L' G') ∧ rm_V S' L' G' V' ∧ mV s V' ∧ wOk (ts_d s) (cmu (ts_y s) 0) V' := by
  have hK := H.1
  obtain ⟨d1, d2⟩ := hok.2.2.2.1 hg2
  intro e
  induction e with
  | zero =>
    intro j he hj S L G V1 hV1 hs hdone
    have e : j = 4 * ts_d s := by omega
    rw [rM_allOfCards_2_e]
    simp only [rm_wK, rm_wI, hK, hdk, if_true, nI_4d, e, Int32.le_refl]
    rw [e] at hdone
    exact ⟨S, L, G, V1, rfl, hV1, hs, hdone⟩
  | succ e ih =>
    intro j he hj S L G V1 hV1 hs hdone
    have hjd : j < 4 * ts_d s := by omega
    obtain ⟨S2, L2, G2, V2, a1, a2, a3, a4⟩ := rm_wcard H (p := j) (o := 0) (o2 := 0) hok hg2 hg hr hc hjd (Or.inl ⟨rfl, rfl⟩) hV1 hs
    have a1 : rM_weigh m (nI j) 0 (rm_w aS aL aG M S L G) = _ := a1
    rw [rM_allOfCards_2_e]
    simp only [rm_wK, rm_wI, hK, hdk, if_true, nI_4d, show ¬ nI (4 * ts_d s) ≤ nI j by rw [nI_leI (by omega) (by omega)]; omega, if_false, a1, Option.bind_some, nI_1]
    refine ih (j + 1) (by omega) (by omega) S2 L2 G2 V2 a2 (hs.keep (fun q hq => a4 q (by omega) (by omega) (by omega) (by omega)) (a4 _ (by omega) (by omega) (by omega) (by omega)) (a4 _ (by omega) (by omega) (by omega) (by omega)) (a4 _ (by omega) (by omega) (by omega) (by omega))) (fun p hp => ?_)
    by_cases e : p = j
    · rw [e]; exact a3
    · rw [a4 (360 + p) (by omega) (by omega) (by omega) (by omega)]
      refine ⟨(hdone p (by omega)).1, (hdone p (by omega)).2.1, fun w hw => ?_⟩
      rw [a4 (320 + 2 * p + w) (by omega) (by omega) (by omega) (by omega)]
      exact (hdone p (by omega)).2.2 w hw
/-- DN / DD: the difference times the other way's part -/
theorem qv_dd {T1 T2 u T : Int} {X mu : Rat} (h2 : 0 < T2) (hT : 0 < T) (hX : qv T1 T2 = X) (hm : mu * (T : Rat) = (u : Rat)) : qv (T1 * u) (T2 * T) = X * mu := by
  have e1 := qv_mul (n := T1) h2
  rw [hX] at e1
  refine (qv_eq (Int.mul_pos h2 hT) ?_).symm
  rw [Rat.intCast_mul, Rat.intCast_mul, ← e1, ← hm]
  grind
theorem qv_ddn {T1 T2 u T : Int} {X mu : Rat} (h2 : 0 < T2) (hT : 0 < T) (hX : qv T1 T2 = X) (hm : mu * (T : Rat) = (u : Rat)) : qv (-(T1 * u)) (T2 * T) = -(X * mu) := by
  have e1 := qv_mul (n := T1) h2
  rw [hX] at e1
  refine (qv_eq (Int.mul_pos h2 hT) ?_).symm
  rw [Rat.intCast_neg, Rat.intCast_mul, Rat.intCast_mul, ← e1, ← hm]
  grind
/-- the regret of a way of the cards, by the difference -/
theorem kR_dif {y : Nat → Rat} {d p : Nat} : kR y d p 0 = y (p * 2 + 0) + (vC (cmu y 0) d p 0 - vC (cmu y 0) d p 1) * cmu y 0 p 1 ∧ kR y d p 1 = y (p * 2 + 1) + -((vC (cmu y 0) d p 0 - vC (cmu y 0) d p 1) * cmu y 0 p 0) := by
  have hs := cmu_sum y 0 p
  have hk : kav (cmu y 0) d p = cmu y 0 p 0 * vC (cmu y 0) d p 0 + cmu y 0 p 1 * vC (cmu y 0) d p 1 := by
    unfold kav
    rw [qs_s, qs_s]
    show (0 : Rat) + _ + _ = _
    rw [Rat.zero_add]
  have h0 : cmu y 0 p 0 = 1 - cmu y 0 p 1 := by rw [← hs]; grind
  unfold kR
  rw [hk, h0]
  constructor <;> grind
/-- one way's regret of a place -/
theorem rm_cadd (H : rm_F m aS aL aG aN aB M) {s : sS} {n0 p w : Nat} {X : Rat} {D N : Int} (hok : ts_ok n0 s) (hg0 : ts_g s ≠ 0) (hp : p < 20) (hw : w < 2) (hV : rm_V S L G V) (hs : mV s V) (h407 : V 407 = N) (lN : rm_lt N 720) (h383 : V 383 = D) (hD : 0 < D) (lD : rm_lt D 700) (hT : 0 < V (360 + p)) (lT : rm_lt (V (360 + p)) 18) (hX : ts_y s (p * 2 + w) + qv N (D * V (360 + p)) = X) : ∃ (S' L' G' : Nat → Int32) (V' : Nat → Int), rM_allOfCards_98 m (nI p) (nI w) (rm_w aS aL aG M S L G) = rM_allOfCards_49 m (if qB X ≤ 256 then 1 else 0) (nI p) (nI (w + 1)) (rm_w aS aL aG M S' L' G') ∧ rm_V S' L' G' V' ∧ (qB X ≤ 256 → V' (160 + (2 * p + w)) = X.num ∧ V' (200 + (2 * p + w)) = (X.den : Int)) ∧ ∀ q, q ≠ 160 + (2 * p + w) → q ≠ 200 + (2 * p + w) → q ≠ 386 → (q < 389 ∨ 392 < q) → q ≠ 408 → V' q = V q := by
  have hK := H.1
  have hyB := hok.2.2.2.2.2.2.1
  have eb : (360 : Int32) + nI p = nI (360 + p) := rm_l360 p
  have ei : (2 : Int32) * nI p + nI w = nI (2 * p + w) := by rw [show (2 : Int32) = nI 2 from rfl, pk_mul, nI_add]
  obtain ⟨S1, L1, G1, t1, t2⟩ := rm_mulV H (a := 383) (b := 360 + p) (c := 408) (ka := 700) (kb := 18) (by decide) (by decide) (by omega) (by omega) (by decide) (by decide) (by omega) hV (by rw [h383]; exact lD) lT (by decide)
  rw [h383] at t2
  have t1 : rM_multiply m 383 (nI (360 + p)) 408 (rm_w aS aL aG M S L G) = _ := t1
  have e7 : va_up V 408 (D * V (360 + p)) 407 = N := by rw [rg_up_ne (by decide)]; exact h407
  have e8 : va_up V 408 (D * V (360 + p)) 408 = D * V (360 + p) := rg_up_eq
  have hsw := hs.1 hg0 (2 * p + w) (by omega)
  obtain ⟨S2, L2, G2, V2, b1, b2, b3, b4⟩ := rm_addsM H (o := 0) (s := 2 * p + w) (k := 720) (Or.inl rfl) (by omega) t2 (x := ts_y s (2 * p + w)) (by rw [rg_up_ne (by omega), Nat.zero_add]; exact hsw.1) (by rw [rg_up_ne (by omega), Nat.zero_add]; exact hsw.2.1) (hyB _ (by omega)) (by rw [e7]; exact lN) (by rw [e8]; exact (lD.mul lT).mono (by decide)) (by rw [e8]; exact Int.mul_pos hD hT) (by decide)
  have b1 : rM_adds m 0 (nI (2 * p + w)) (rm_w aS aL aG M S1 L1 G1) = _ := b1
  rw [e7, e8, show 2 * p + w = p * 2 + w by omega, hX] at b1 b3
  rw [show p * 2 + w = 2 * p + w by omega] at b1 b3
  rw [rM_allOfCards_98_e]
  simp only [rm_wK, hK, if_true, eb, t1, ei, b1, Option.bind_some, nI_1]
  refine ⟨S2, L2, G2, V2, rfl, b2, fun q => ?_, fun q h1 h2 h3 h4 h5 => by rw [b4 q (by omega) (by omega) h3 h4, rg_up_ne h5]⟩
  have := b3 q
  rw [show 160 + 0 + (2 * p + w) = 160 + (2 * p + w) by omega, show 200 + 0 + (2 * p + w) = 200 + (2 * p + w) by omega] at this
  exact this
/-- the sums of a place -/
theorem rm_csums (H : rm_F m aS aL aG aN aB M) {s : sS} {n0 p r c : Nat} (hok : ts_ok n0 s) (hg2 : ts_g s = 2) (hg : rg_I M 115 m = nI 2) (hr : rg_I M 116 m = nI r) (hc : rg_I M 117 m = nI c) (hp : p < 4 * ts_d s) (hV : rm_V S L G V) (hs : mV s V) (hw : wOk (ts_d s) (cmu (ts_y s) 0) V) (f : Int32) (hf : f = 0 ∨ f = 1) : ∃ (S' L' G' : Nat → Int32) (V' : Nat → Int) (f' : Int32), rM_allOfCards_130 m f (nI p) (rm_w aS aL aG M S L G) = rM_allOfCards_28 m f' (nI (p + 1)) (rm_w aS aL aG M S' L' G') ∧ rm_V S' L' G' V' ∧ (∀ q, q ≠ 240 + 2 * p → q ≠ 240 + 2 * p + 1 → q ≠ 280 + 2 * p → q ≠ 280 + 2 * p + 1 → q ≠ 386 → (q < 389 ∨ 392 < q) → q ≠ 395 → q ≠ 396 → q ≠ 407 → q ≠ 408 → V' q = V q) ∧ ((f = 0 ∧ f' = 0) ∨ (f = 1 ∧ f' = 1 ∧ ∀ w, w < 2 → qB (kS (ts_y s) p w) ≤ 256 ∧ V' (240 + (2 * p + w)) = (kS (ts_y s) p w).num ∧ V' (280 + (2 * p + w)) = ((kS (ts_y s) p w).den : Int)) ∨ (f = 1 ∧ f' = 0 ∧ ∃ w, w < 2 ∧ ¬ qB (kS (ts_y s) p w) ≤ 256)) := by
  have hK := H.1
  have hyB := hok.2.2.2.2.2.2.1
  obtain ⟨d1, d2⟩ := hok.2.2.2.1 hg2
  obtain ⟨i1, i2⟩ := p4_i p (by omega)
  obtain ⟨q0, q1, q3⟩ := nI4 (a := p % 4) (by omega)
  have e40 : ¬ ((4 : Int32) = 0) := by decide
  -- Y3 / Y4
  obtain ⟨S2, L2, G2, V2, a, b, y0, y1, y2, y3, y4, la, lb, hb0, hq⟩ : ∃ (S2 L2 G2 : Nat → Int32) (V2 : Nat → Int) (a b : Int), rM_allOfCards_130 m f (nI p) (rm_w aS aL aG M S L G) = rM_allOfCards_202 m f (nI p) (rm_w aS aL aG M S2 L2 G2) ∧ rm_V S2 L2 G2 V2 ∧ (∀ q, q ≠ 395 → q ≠ 396 → V2 q = V q) ∧ V2 395 = a ∧ V2 396 = b ∧ rm_lt a 18 ∧ rm_lt b 18 ∧ 0 < b ∧ ∀ w, w < 2 → cmu (ts_y s) 0 p w * qv a b = pM (cmu (ts_y s) 0) (p / 4) (2 * (p % 4) + w) := by
    rw [rM_allOfCards_130_e]
    simp only [e40, if_false, i2]
    by_cases c3 : p % 4 = 3
    · rw [if_pos (q3.mpr c3), rM_allOfCards_142_e, if_neg (by decide)]
      obtain ⟨f0, f1, f2⟩ := hw (p - 3) (by omega)
      obtain ⟨f3, f4⟩ := f2 0 (by decide)
      have e3 : nI p - (3 : Int32) = nI (p - 3) := pk_sub (a := p) (b := 3) (by omega)
      have e33 : (360 : Int32) + nI p - (3 : Int32) = nI (360 + (p - 3)) := by rw [rm_l360, show (3 : Int32) = nI 3 from rfl, pk_sub (by omega)]; congr 1; omega
      obtain ⟨S1, L1, G1, t1, t2⟩ := rm_copyV H (a := 320 + 2 * (p - 3)) (c := 395) (by omega) (by omega) (by decide) hV (f3.mono (by decide))
      have t1 : rM_copy m (nI (320 + 2 * (p - 3))) 395 (rm_w aS aL aG M S L G) = _ := t1
      have e0 : va_up V 395 (V (320 + 2 * (p - 3))) (360 + (p - 3)) = V (360 + (p - 3)) := rg_up_ne (by omega)
      obtain ⟨S2, L2, G2, u1, u2⟩ := rm_copyV H (a := 360 + (p - 3)) (c := 396) (by omega) (by omega) (by decide) t2 (by rw [e0]; exact f1.mono (by decide))
      rw [e0] at u2
      have u1 : rM_copy m (nI (360 + (p - 3))) 396 (rm_w aS aL aG M S1 L1 G1) = _ := u1
      simp only [rm_wK, hK, if_true, e3, rm_w0, t1, Option.bind_some]
      rw [rM_allOfCards_173_e, if_neg (by decide)]
      simp only [rm_wK, hK, if_true, e33, u1, Option.bind_some]
      refine ⟨S2, L2, G2, _, V (320 + 2 * (p - 3)), V (360 + (p - 3)), rfl, u2, fun q h1 h2 => by rw [rg_up_ne h2, rg_up_ne h1], by rw [rg_up_ne (by decide), rg_up_eq], rg_up_eq, f3.mono (by decide), f1, f0, fun w hw2 => ?_⟩
      have e5 : qv (V (320 + 2 * (p - 3))) (V (360 + (p - 3))) = cmu (ts_y s) 0 (p - 3) 0 := (qv_eq f0 f4).symm
      rw [e5]
      unfold pM
      rw [if_neg (by omega), show 4 * (p / 4) + 3 = p by omega, show 2 * (p % 4) + w - 6 = w by omega, show 4 * (p / 4) = p - 3 by omega]
    · rw [if_neg (fun q => c3 (q3.mp q)), rM_allOfCards_142_e, if_pos rfl]
      obtain ⟨S1, L1, G1, t1, t2⟩ := rm_isV H (c := 395) (by decide) hV 1
      have t1 : rM_is m 395 1 (rm_w aS aL aG M S L G) = _ := t1
      have t2 : rm_V S1 L1 G1 (va_up V 395 1) := t2
      obtain ⟨S2, L2, G2, u1, u2⟩ := rm_isV H (c := 396) (by decide) t2 1
      have u1 : rM_is m 396 1 (rm_w aS aL aG M S1 L1 G1) = _ := u1
      have u2 : rm_V S2 L2 G2 (va_up (va_up V 395 1) 396 1) := u2
      simp only [rm_wK, hK, if_true, t1, Option.bind_some]
      rw [rM_allOfCards_173_e, if_pos rfl]
      simp only [rm_wK, hK, if_true, u1, Option.bind_some]
      refine ⟨S2, L2, G2, _, 1, 1, rfl, u2, fun q h1 h2 => by rw [rg_up_ne h2, rg_up_ne h1], by rw [rg_up_ne (by decide), rg_up_eq], rg_up_eq, rm_lt_one (by decide), rm_lt_one (by decide), by decide, fun w hw2 => ?_⟩
      rw [qv_1, Rat.intCast_one, Rat.mul_one]
      unfold pM
      rw [if_pos (by omega)]
      congr 1
      · omega
      · omega
  rw [y0, rM_allOfCards_202_e]
  rcases hf with hf0 | hf1
  · rw [if_pos hf0, rM_allOfCards_218_e, rM_allOfCards_219_e, nI_1]
    exact ⟨S2, L2, G2, V2, 0, rfl, y1, fun q _ _ _ _ _ _ h5 h6 _ _ => y2 q h5 h6, Or.inl ⟨hf0, rfl⟩⟩
  · rw [if_neg (by rw [hf1]; decide)]
    have esl : ∀ w, rm_sl 2 p w = 2 * p + w := fun w => rfl
    have hwy : rm_wy 2 r c p = 2 := rfl
    obtain ⟨f0, f1, f2⟩ := hw p hp
    have hs2 : mV s V2 := hs.keep (fun q hq => y2 q (by omega) (by omega)) (y2 _ (by decide) (by decide)) (y2 _ (by decide) (by decide)) (y2 _ (by decide) (by decide))
    obtain ⟨zs, hzs⟩ : ∃ zs : Nat → Rat, zs = fun w => ts_y s (40 + (p * 2 + w)) := ⟨_, rfl⟩
    obtain ⟨S7, L7, G7, V7, f', x1, x2, x3, x4⟩ := rm_sumsM H (p := p) (k := 18) hg hr hc (by decide) (by omega) (by rw [hwy]; decide) (fun w hw => by rw [hwy] at hw; rw [esl]; omega) (z := zs) (u := fun w => V (320 + 2 * p + w)) (T := V (360 + p)) (a := a) (b := b) f0 hb0 (fun w hw2 => by rw [hwy] at hw2; exact (f2 w hw2).1.mono (by decide)) f1 la lb (by decide) (fun w hw2 => by rw [hwy] at hw2; rw [hzs]; exact hyB _ (by omega)) y1 (fun w hw2 => by
      rw [hwy] at hw2
      have := hs2.1 (by omega) (2 * p + w) (by omega)
      refine ⟨?_, ?_, ?_⟩
      · rw [esl, hzs, this.2.2.1, show 40 + (2 * p + w) = 40 + (p * 2 + w) by omega]
      · rw [esl, hzs, this.2.2.2, show 40 + (2 * p + w) = 40 + (p * 2 + w) by omega]
      · rw [esl, ← Nat.add_assoc, y2 _ (by omega) (by omega)]) (y2 _ (by omega) (by omega)) y3 y4
    rw [hwy] at x3 x4
    have eS : ∀ w, w < 2 → zs w + qv (V (320 + 2 * p + w) * a) (V (360 + p) * b) = kS (ts_y s) p w := fun w hw2 => by
      rw [← qv_mulq f0 hb0, ← qv_eq f0 (f2 w hw2).2, hq w hw2, hzs]; rfl
    simp only [rm_wK, hK, if_true, x1, Option.bind_some]
    have f7 : ∀ q, q ≠ 240 + 2 * p → q ≠ 240 + 2 * p + 1 → q ≠ 280 + 2 * p → q ≠ 280 + 2 * p + 1 → q ≠ 386 → (q < 389 ∨ 392 < q) → q ≠ 395 → q ≠ 396 → q ≠ 407 → q ≠ 408 → V7 q = V q := fun q k1 k2 k3 k4 k5 k6 k7 k8 k9 k10 => by rw [x3 q (fun w hw2 => by rw [esl]; omega) k5 k6 k9 k10, y2 q k7 k8]
    rcases x4 with ⟨g1, v2⟩ | ⟨g0, w, hw2, v2⟩
    · rw [if_neg (by rw [g1]; decide), rM_allOfCards_219_e, nI_1]
      refine ⟨S7, L7, G7, V7, 1, rfl, x2, f7, Or.inr (Or.inl ⟨hf1, rfl, fun w hw2 => ?_⟩)⟩
      obtain ⟨k1, k2, k3⟩ := v2 w hw2
      rw [eS w hw2] at k1 k2 k3
      exact ⟨k1, k2, k3⟩
    · rw [if_pos g0, rM_allOfCards_218_e, rM_allOfCards_219_e, nI_1]
      rw [eS w hw2] at v2
      exact ⟨S7, L7, G7, V7, 0, rfl, x2, f7, Or.inr (Or.inr ⟨hf1, rfl, w, hw2, v2⟩)⟩
/-- one place of a round of cards -/
theorem rm_cplace (H : rm_F m aS aL aG aN aB M) {s : sS} {n0 p r c : Nat} (hok : ts_ok n0 s) (hg2 : ts_g s = 2) (hg : rg_I M 115 m = nI 2) (hr : rg_I M 116 m = nI r) (hc : rg_I M 117 m = nI c) (hdk : rg_I M 118 m = nI (ts_d s)) (hp : p < 4 * ts_d s) (hV : rm_V S L G V) (hs : mV s V) (hw : wOk (ts_d s) (cmu (ts_y s) 0) V) : ∃ (S' L' G' : Nat → Int32) (V' : Nat → Int) (f : Int32), rM_allOfCards_28 m 1 (nI p) (rm_w aS aL aG M S L G) = rM_allOfCards_28 m f (nI (p + 1)) (rm_w aS aL aG M S' L' G') ∧ rm_V S' L' G' V' ∧ mV s V' ∧ wOk (ts_d s) (cmu (ts_y s) 0) V' ∧ (∀ q, 160 ≤ q → q < 320 → (∀ w, w < 2 → q ≠ 160 + (2 * p + w) ∧ q ≠ 200 + (2 * p + w) ∧ q ≠ 240 + (2 * p + w) ∧ q ≠ 280 + (2 * p + w)) → V' q = V q) ∧ ((f = 1 ∧ ∀ w, w < 2 → (qB (kR (ts_y s) (ts_d s) p w) ≤ 256 ∧ qB (kS (ts_y s) p w) ≤ 256) ∧ V' (160 + (2 * p + w)) = (kR (ts_y s) (ts_d s) p w).num ∧ V' (200 + (2 * p + w)) = ((kR (ts_y s) (ts_d s) p w).den : Int) ∧ V' (240 + (2 * p + w)) = (kS (ts_y s) p w).num ∧ V' (280 + (2 * p + w)) = ((kS (ts_y s) p w).den : Int)) ∨ (f = 0 ∧ ¬ ∀ w, w < 2 → qB (kR (ts_y s) (ts_d s) p w) ≤ 256 ∧ qB (kS (ts_y s) p w) ≤ 256)) := by
  have H0 := H
  obtain ⟨hK, hS, hL, hG, -, -, kS', kL, kG, -, -, lS, lL, lG, -, -, d1', d2', d3', -⟩ := H
  obtain ⟨d1, d2⟩ := hok.2.2.2.1 hg2
  obtain ⟨S1, L1, G1, V1, a1, a2, a3, a4⟩ := rm_moreM H0 (p := p) d1 d2 hdk hp hV hw
  have w1 : wOk (ts_d s) (cmu (ts_y s) 0) V1 := hw.keep d2 (fun q _ h2 => a4 q (by omega))
  have m1 : mV s V1 := hs.keep (fun q hq => a4 q (by omega)) (a4 _ (by omega)) (a4 _ (by omega)) (a4 _ (by omega))
  obtain ⟨x0, x1, x2, x3⟩ := a3
  obtain ⟨g0, g1, g2⟩ := w1 p hp
  obtain ⟨g3, g4⟩ := g2 0 (by decide)
  obtain ⟨g5, g6⟩ := g2 1 (by decide)
  obtain ⟨kr0, kr1⟩ := kR_dif (y := ts_y s) (d := ts_d s) (p := p)
  -- the first way
  obtain ⟨S2, L2, G2, t1, t2⟩ := rm_mulV H0 (a := 382) (b := 320 + 2 * p + 1) (c := 407) (ka := 700) (kb := 17) (by decide) (by decide) (by omega) (by omega) (by decide) (by decide) (by omega) a2 x1 g5 (by decide)
  have t1 : rM_multiply m 382 (nI (320 + 2 * p + 1)) 407 (rm_w aS aL aG M S1 L1 G1) = _ := t1
  have f2 : ∀ q, q ≠ 407 → va_up V1 407 (V1 382 * V1 (320 + 2 * p + 1)) q = V1 q := fun q h => rg_up_ne h
  have m2 : mV s (va_up V1 407 (V1 382 * V1 (320 + 2 * p + 1))) := m1.keep (fun q hq => f2 q (by omega)) (f2 _ (by decide)) (f2 _ (by decide)) (f2 _ (by decide))
  obtain ⟨S3, L3, G3, V3, b1, b2, b3, b4⟩ := rm_cadd H0 (p := p) (w := 0) (X := kR (ts_y s) (ts_d s) p 0) hok (by omega) (by omega) (by decide) t2 m2 rg_up_eq ((x1.mul g5).mono (by decide)) (f2 383 (by decide)) x0 x2 (by rw [f2 _ (by omega)]; exact g0) (by rw [f2 _ (by omega)]; exact g1) (by rw [f2 _ (by omega), qv_dd x0 g0 x3 g6, kr0])
  have b1 : rM_allOfCards_98 m (nI p) 0 (rm_w aS aL aG M S2 L2 G2) = rM_allOfCards_49 m (if qB (kR (ts_y s) (ts_d s) p 0) ≤ 256 then 1 else 0) (nI p) 1 (rm_w aS aL aG M S3 L3 G3) := b1
  have f3 : ∀ q, q ≠ 160 + 2 * p → q ≠ 200 + 2 * p → q ≠ 386 → (q < 389 ∨ 392 < q) → q ≠ 407 → q ≠ 408 → V3 q = V1 q := fun q h1 h2 h3 h4 h5 h6 => by rw [b4 q h1 h2 h3 h4 h6, f2 q h5]
  have m3 : mV s V3 := m1.keep (fun q hq => f3 q (by omega) (by omega) (by omega) (by omega) (by omega) (by omega)) (f3 _ (by omega) (by omega) (by omega) (by omega) (by omega) (by omega)) (f3 _ (by omega) (by omega) (by omega) (by omega) (by omega) (by omega)) (f3 _ (by omega) (by omega) (by omega) (by omega) (by omega) (by omega))
  have w3 : wOk (ts_d s) (cmu (ts_y s) 0) V3 := w1.keep d2 (fun q h1 h2 => f3 q (by omega) (by omega) (by omega) (by omega) (by omega) (by omega))
  have pd : ¬ nI (4 * ts_d s) ≤ nI p := by rw [nI_leI (by omega) (by omega)]; omega
  have e10 : (1 : Int32) - (0 : Int32) = 1 := by decide
  have e11 : (1 : Int32) - (1 : Int32) = 0 := by decide
  rw [rM_allOfCards_28_e]
  simp only [rm_wK, rm_wI, hK, hdk, if_true, nI_4d, pd, if_false, show ¬ ((1 : Int32) = 0) by decide, a1, Option.bind_some]
  rw [rM_allOfCards_49_e, if_neg (by decide), if_neg (by decide)]
  simp only [rm_wK, hK, if_true, e10, rm_w1, t1, Option.bind_some, show ¬ ((0 : Int32) = (1 : Int32)) by decide, if_false, b1]
  rw [rM_allOfCards_49_e, if_neg (by decide)]
  by_cases cB0 : qB (kR (ts_y s) (ts_d s) p 0) ≤ 256
  · rw [if_pos cB0, if_neg (by decide)]
    -- the second way
    have e82 : V3 382 = V1 382 := f3 _ (by omega) (by omega) (by omega) (by omega) (by omega) (by omega)
    have e83 : V3 383 = V1 383 := f3 _ (by omega) (by omega) (by omega) (by omega) (by omega) (by omega)
    have eT : V3 (360 + p) = V1 (360 + p) := f3 _ (by omega) (by omega) (by omega) (by omega) (by omega) (by omega)
    have ew : V3 (320 + 2 * p) = V1 (320 + 2 * p + 0) := f3 _ (by omega) (by omega) (by omega) (by omega) (by omega) (by omega)
    obtain ⟨S4, L4, G4, u1, u2⟩ := rm_mulV H0 (a := 382) (b := 320 + 2 * p) (c := 407) (ka := 700) (kb := 17) (by decide) (by decide) (by omega) (by omega) (by decide) (by decide) (by omega) b2 (by rw [e82]; exact x1) (by rw [ew]; exact g3) (by decide)
    rw [e82, ew] at u2
    have u1 : rM_multiply m 382 (nI (320 + 2 * p)) 407 (rm_w aS aL aG M S3 L3 G3) = _ := u1
    have u3 := rm_negV (a := 407) (by decide) (by decide) u2
    rw [rg_up_eq, rg_up_up] at u3
    have f4 : ∀ q, q ≠ 407 → va_up V3 407 (-(V1 382 * V1 (320 + 2 * p + 0))) q = V3 q := fun q h => rg_up_ne h
    have m4 : mV s (va_up V3 407 (-(V1 382 * V1 (320 + 2 * p + 0)))) := m3.keep (fun q hq => f4 q (by omega)) (f4 _ (by decide)) (f4 _ (by decide)) (f4 _ (by decide))
    obtain ⟨S5, L5, G5, V5, c1, c2, c3, c4⟩ := rm_cadd H0 (p := p) (w := 1) (X := kR (ts_y s) (ts_d s) p 1) hok (by omega) (by omega) (by decide) u3 m4 rg_up_eq ((x1.mul g3).neg.mono (by decide)) (by rw [f4 383 (by decide)]; exact e83) x0 x2 (by rw [f4 _ (by omega), eT]; exact g0) (by rw [f4 _ (by omega), eT]; exact g1) (by rw [f4 _ (by omega), eT, qv_ddn x0 g0 x3 g4, kr1])
    have c1 : rM_allOfCards_98 m (nI p) 1 (rm_w aS aL aG M S4 L4 (upd G4 407 (-(G4 407)))) = rM_allOfCards_49 m (if qB (kR (ts_y s) (ts_d s) p 1) ≤ 256 then 1 else 0) (nI p) 2 (rm_w aS aL aG M S5 L5 G5) := c1
    have f5 : ∀ q, q ≠ 160 + (2 * p + 1) → q ≠ 200 + (2 * p + 1) → q ≠ 386 → (q < 389 ∨ 392 < q) → q ≠ 407 → q ≠ 408 → V5 q = V3 q := fun q h1 h2 h3 h4 h5 h6 => by rw [c4 q h1 h2 h3 h4 h6, f4 q h5]
    have m5 : mV s V5 := m3.keep (fun q hq => f5 q (by omega) (by omega) (by omega) (by omega) (by omega) (by omega)) (f5 _ (by omega) (by omega) (by omega) (by omega) (by omega) (by omega)) (f5 _ (by omega) (by omega) (by omega) (by omega) (by omega) (by omega)) (f5 _ (by omega) (by omega) (by omega) (by omega) (by omega) (by omega))
    have w5 : wOk (ts_d s) (cmu (ts_y s) 0) V5 := w3.keep d2 (fun q h1 h2 => f5 q (by omega) (by omega) (by omega) (by omega) (by omega) (by omega))
    have c407 : (407 : Int32).toNatClampNeg = 407 := by decide
    have i407 : (0 : Int32) ≤ 407 := by decide
    simp only [rm_wK, rm_wR, rm_wL, hK, hG, kG, lG, if_true, e11, rm_w0, u1, Option.bind_some, and_self, rm_rG d2' d3', rm_wG d2' d3', c407, i407, show (407 : Nat) < 420 by decide, c1]
    rw [rM_allOfCards_49_e, if_pos (by decide)]
    obtain ⟨S6, L6, G6, V6, f', y1, y2, y3, y4⟩ := rm_csums H0 hok hg2 hg hr hc hp c2 m5 w5 (if qB (kR (ts_y s) (ts_d s) p 1) ≤ 256 then 1 else 0) (by split; exact Or.inr rfl; exact Or.inl rfl)
    have m6 : mV s V6 := m5.keep (fun q hq => y3 q (by omega) (by omega) (by omega) (by omega) (by omega) (by omega) (by omega) (by omega) (by omega) (by omega)) (y3 _ (by omega) (by omega) (by omega) (by omega) (by omega) (by omega) (by omega) (by omega) (by omega) (by omega)) (y3 _ (by omega) (by omega) (by omega) (by omega) (by omega) (by omega) (by omega) (by omega) (by omega) (by omega)) (y3 _ (by omega) (by omega) (by omega) (by omega) (by omega) (by omega) (by omega) (by omega) (by omega) (by omega))
    have w6 : wOk (ts_d s) (cmu (ts_y s) 0) V6 := w5.keep d2 (fun q h1 h2 => y3 q (by omega) (by omega) (by omega) (by omega) (by omega) (by omega) (by omega) (by omega) (by omega) (by omega))
    rw [y1]
    refine ⟨S6, L6, G6, V6, f', rfl, y2, m6, w6, fun q h1 h2 h3 => ?_, ?_⟩
    · have h30 := h3 0 (by decide)
      have h31 := h3 1 (by decide)
      rw [y3 q (by omega) (by omega) (by omega) (by omega) (by omega) (by omega) (by omega) (by omega) (by omega) (by omega), f5 q (by omega) (by omega) (by omega) (by omega) (by omega) (by omega), f3 q (by omega) (by omega) (by omega) (by omega) (by omega) (by omega), a4 q (by omega)]
    · by_cases cB1 : qB (kR (ts_y s) (ts_d s) p 1) ≤ 256
      · rw [if_pos cB1] at y4
        rcases y4 with ⟨k1, -⟩ | ⟨-, k2, k3⟩ | ⟨-, k2, w, hw2, k3⟩
        · exact absurd k1 (by decide)
        · refine Or.inl ⟨k2, fun w hw2 => ?_⟩
          obtain ⟨l1, l2, l3⟩ := k3 w hw2
          rcases (show w = 0 ∨ w = 1 by omega) with e | e
          · subst e
            obtain ⟨n1, n2⟩ := b3 cB0
            exact ⟨⟨cB0, l1⟩, by rw [y3 _ (by omega) (by omega) (by omega) (by omega) (by omega) (by omega) (by omega) (by omega) (by omega) (by omega), f5 _ (by omega) (by omega) (by omega) (by omega) (by omega) (by omega)]; exact n1, by rw [y3 _ (by omega) (by omega) (by omega) (by omega) (by omega) (by omega) (by omega) (by omega) (by omega) (by omega), f5 _ (by omega) (by omega) (by omega) (by omega) (by omega) (by omega)]; exact n2, l2, l3⟩
          · subst e
            obtain ⟨n1, n2⟩ := c3 cB1
            exact ⟨⟨cB1, l1⟩, by rw [y3 _ (by omega) (by omega) (by omega) (by omega) (by omega) (by omega) (by omega) (by omega) (by omega) (by omega)]; exact n1, by rw [y3 _ (by omega) (by omega) (by omega) (by omega) (by omega) (by omega) (by omega) (by omega) (by omega) (by omega)]; exact n2, l2, l3⟩
        · exact Or.inr ⟨k2, fun q => k3 (q w hw2).2⟩
      · rw [if_neg cB1] at y4
        rcases y4 with ⟨-, k2⟩ | ⟨k1, -⟩ | ⟨k1, -⟩
        · exact Or.inr ⟨k2, fun q => cB1 (q 1 (by decide)).1⟩
        · exact absurd k1 (by decide)
        · exact absurd k1 (by decide)
  · rw [if_neg cB0, if_pos rfl]
    obtain ⟨S6, L6, G6, V6, f', y1, y2, y3, y4⟩ := rm_csums H0 hok hg2 hg hr hc hp b2 m3 w3 0 (Or.inl rfl)
    have m6 : mV s V6 := m3.keep (fun q hq => y3 q (by omega) (by omega) (by omega) (by omega) (by omega) (by omega) (by omega) (by omega) (by omega) (by omega)) (y3 _ (by omega) (by omega) (by omega) (by omega) (by omega) (by omega) (by omega) (by omega) (by omega) (by omega)) (y3 _ (by omega) (by omega) (by omega) (by omega) (by omega) (by omega) (by omega) (by omega) (by omega) (by omega)) (y3 _ (by omega) (by omega) (by omega) (by omega) (by omega) (by omega) (by omega) (by omega) (by omega) (by omega))
    have w6 : wOk (ts_d s) (cmu (ts_y s) 0) V6 := w3.keep d2 (fun q h1 h2 => y3 q (by omega) (by omega) (by omega) (by omega) (by omega) (by omega) (by omega) (by omega) (by omega) (by omega))
    rw [y1]
    refine ⟨S6, L6, G6, V6, f', rfl, y2, m6, w6, fun q h1 h2 h3 => ?_, ?_⟩
    · have h30 := h3 0 (by decide)
      have h31 := h3 1 (by decide)
      rw [y3 q (by omega) (by omega) (by omega) (by omega) (by omega) (by omega) (by omega) (by omega) (by omega) (by omega), f3 q (by omega) (by omega) (by omega) (by omega) (by omega) (by omega), a4 q (by omega)]
    · rcases y4 with ⟨-, k2⟩ | ⟨k1, -⟩ | ⟨k1, -⟩
      · exact Or.inr ⟨k2, fun q => cB0 (q 0 (by decide)).1⟩
      · exact absurd k1 (by decide)
      · exact absurd k1 (by decide)
/-- a round of cards -/
theorem rm_allM (H : rm_F m aS aL aG aN aB M) {s : sS} {n0 r c : Nat} (hok : ts_ok n0 s) (hg2 : ts_g s = 2) (hg : rg_I M 115 m = nI 2) (hr : rg_I M 116 m = nI r) (hc : rg_I M 117 m = nI c) (hdk : rg_I M 118 m = nI (ts_d s)) (hV : rm_V S L G V) (hs : mV s V) : ∃ (S' L' G' : Nat → Int32) (V' : Nat → Int) (f : Int32), rM_allOfCards m (rm_w aS aL aG M S L G) = some (f, rm_w aS aL aG M S' L' G') ∧ rm_V S' L' G' V' ∧ mV s V' ∧ ((f = 1 ∧ ts_bF s ∧ ∀ p w, p < 4 * ts_d s → w < 2 → V' (160 + (2 * p + w)) = (ts_bR s p w).num ∧ V' (200 + (2 * p + w)) = ((ts_bR s p w).den : Int) ∧ V' (240 + (2 * p + w)) = (ts_bS s p w).num ∧ V' (280 + (2 * p + w)) = ((ts_bS s p w).den : Int)) ∨ (f = 0 ∧ ¬ ts_bF s)) := by
  have hK := H.1
  obtain ⟨d1, d2⟩ := hok.2.2.2.1 hg2
  have eP : ts_P s = 4 * ts_d s := by unfold ts_P; rw [if_pos hg2]
  have eW : ∀ p, ts_w s p = 2 := fun p => by unfold ts_w; rw [if_pos hg2]
  have eR : ∀ p w, ts_bR s p w = kR (ts_y s) (ts_d s) p w := fun p w => by unfold ts_bR; rw [if_pos hg2]
  have eS : ∀ p w, ts_bS s p w = kS (ts_y s) p w := fun p w => by unfold ts_bS; rw [if_pos hg2]
  obtain ⟨S1, L1, G1, V1, a1, a2, a3, a4⟩ := rm_wall H hok hg2 hg hr hc hdk _ 0 rfl (Nat.zero_le _) S L G V hV hs (fun p hp => by omega)
  have a1 : rM_allOfCards_2 m 0 (rm_w aS aL aG M S L G) = _ := a1
  have go : ∀ e j : Nat, 4 * ts_d s - j = e → j ≤ 4 * ts_d s → ∀ (S L G : Nat → Int32) (V : Nat → Int), rm_V S L G V → mV s V → wOk (ts_d s) (cmu (ts_y s) 0) V → (∀ p w, p < j → w < 2 → (qB (kR (ts_y s) (ts_d s) p w) ≤ 256 ∧ qB (kS (ts_y s) p w) ≤ 256) ∧ V (160 + (2 * p + w)) = (kR (ts_y s) (ts_d s) p w).num ∧ V (200 + (2 * p + w)) = ((kR (ts_y s) (ts_d s) p w).den : Int) ∧ V (240 + (2 * p + w)) = (kS (ts_y s) p w).num ∧ V (280 + (2 * p + w)) = ((kS (ts_y s) p w).den : Int)) → ∃ (S' L' G' : Nat → Int32) (V' : Nat → Int) (f : Int32), rM_allOfCards_28 m 1 (nI j) (rm_w aS aL aG M S L G) = some (some (.int f), rm_w aS aL aG M S' L' G') ∧ rm_V S' L' G' V' ∧ mV s V' ∧ ((f = 1 ∧ ts_bF s ∧ ∀ p w, p < 4 * ts_d s → w < 2 → V' (160 + (2 * p + w)) = (ts_bR s p w).num ∧ V' (200 + (2 * p + w)) = ((ts_bR s p w).den : Int) ∧ V' (240 + (2 * p + w)) = (ts_bS s p w).num ∧ V' (280 + (2 * p + w)) = ((ts_bS s p w).den : Int)) ∨ (f = 0 ∧ ¬ ts_bF s)) := by
    intro e
    induction e with
    | zero =>
      intro j he hj S L G V hV hs hw hdone
      have e : j = 4 * ts_d s := by omega
      rw [rM_allOfCards_28_e]
      simp only [rm_wK, rm_wI, hK, hdk, if_true, nI_4d, e, Int32.le_refl, rM_allOfCards_226_e]
      rw [e] at hdone
      rw [if_pos (Or.inr trivial)]
      refine ⟨S, L, G, V, 1, rfl, hV, hs, Or.inl ⟨rfl, fun p hp w hw2 => ?_, fun p w hp hw2 => ?_⟩⟩
      · rw [eP] at hp
        rw [eW] at hw2
        rw [eR, eS]; exact (hdone p w hp hw2).1
      · rw [eR, eS]; exact (hdone p w hp hw2).2
    | succ e ih =>
      intro j he hj S L G V hV hs hw hdone
      obtain ⟨S2, L2, G2, V2, f, b1, b2, b3, b4, b5, b6⟩ := rm_cplace H hok hg2 hg hr hc hdk (p := j) (by omega) hV hs hw
      rw [b1]
      rcases b6 with ⟨k1, k2⟩ | ⟨k1, k2⟩
      · rw [k1]
        refine ih (j + 1) (by omega) (by omega) S2 L2 G2 V2 b2 b3 b4 (fun p w hp hw2 => ?_)
        by_cases e : p = j
        · rw [e]; exact k2 w hw2
        · have hfr : ∀ k, (k = 160 ∨ k = 200 ∨ k = 240 ∨ k = 280) → V2 (k + (2 * p + w)) = V (k + (2 * p + w)) := fun k hk => b5 _ (by omega) (by omega) (fun v hv => by omega)
          rw [hfr 160 (by omega), hfr 200 (by omega), hfr 240 (by omega), hfr 280 (by omega)]
          exact hdone p w (by omega) hw2
      · rw [k1, rM_allOfCards_28_e]
        simp only [rm_wK, rm_wI, hK, hdk, if_true, rM_allOfCards_226_e, ite_self, true_or]
        exact ⟨S2, L2, G2, V2, 0, rfl, b2, b3, Or.inr ⟨rfl, fun q => k2 (fun w hw2 => by have := q j (by rw [eP]; omega) w (by rw [eW]; exact hw2); rw [eR, eS] at this; exact this)⟩⟩
  obtain ⟨S2, L2, G2, V2, f, b1, b2, b3, b4⟩ := go _ 0 rfl (Nat.zero_le _) S1 L1 G1 V1 a2 a3 a4 (fun p w hp _ => by omega)
  have b1 : rM_allOfCards_28 m 1 0 (rm_w aS aL aG M S1 L1 G1) = _ := b1
  refine ⟨S2, L2, G2, V2, f, ?_, b2, b3, b4⟩
  rw [rM_allOfCards_u, rM_allOfCards_e, a1, b1]; rfl
end

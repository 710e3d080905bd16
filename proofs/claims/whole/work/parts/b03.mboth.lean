/-! the reference: a round of both at a table of numbers -/
section
variable {m aS aL aG aN aB : Nat} {M : rg_M}
/-- one way's worth, times the other's total -/
theorem rm_so29 (H : rm_F m aS aL aG aN aB M) {r c p w o n : Nat} (hg : rg_I M 115 m = nI 1) (hr : rg_I M 116 m = nI r) (hc : rg_I M 117 m = nI c) (hp : p < 2) (hwy : rm_wy 1 r c (1 - p) = n) (hn : n ≤ 5) (hw5 : w < 5) (ho : o = 397 ∨ o = 402) (hnum : ∀ i, i < 25 → (rg_A M aN i).toInt.natAbs ≤ 1000) {u : Nat → Int} (hlu : ∀ v, v < n → rm_lt (u v) 41) : ∀ d j : Nat, n - j = d → j ≤ n → ∀ (S L G : Nat → Int32) (V : Nat → Int), rm_V S L G V → (∀ v, v < n → V (320 + rm_sl 1 (1 - p) v) = u v) → V (o + w) = fb_si (fun v => u v * gT (rg_A M aN) p w v) j →
    ∃ (S' L' G' : Nat → Int32) (V' : Nat → Int), rM_sumsOf_29 m (nI p) (nI o) (nI (1 - p)) (nI w) (nI j) (rm_w aS aL aG M S L G) = rM_sumsOf_7 m (nI p) (nI o) (nI (1 - p)) (nI (w + 1)) (rm_w aS aL aG M S' L' G') ∧ rm_V S' L' G' V' ∧ V' (o + w) = fb_si (fun v => u v * gT (rg_A M aN) p w v) n ∧ ∀ q, q ≠ o + w → q ≠ 410 → q ≠ 416 → q ≠ 417 → V' q = V q := by
  have hK := H.1
  intro d
  induction d with
  | zero =>
    intro j hd hj S L G V hV hw hZ
    have e : j = n := by omega
    have wy := rm_ways (m := m) (M := (rm_w aS aL aG M S L G)) hK (p := 1 - p) hg hr hc (by decide) (by omega)
    rw [hwy] at wy
    rw [rM_sumsOf_29_e]
    simp only [rm_wK, hK, if_true, wy, Option.bind_some, e, Int32.le_refl, nI_1]
    rw [e] at hZ
    exact ⟨S, L, G, V, rfl, hV, hZ, fun _ _ _ _ _ => rfl⟩
  | succ d ih =>
    intro j hd hj S L G V hV hw hZ
    have hjn : j < n := by omega
    have esl : rm_sl 1 (1 - p) j = 5 * (1 - p) + j := rfl
    have wy := rm_ways (m := m) (M := (rm_w aS aL aG M S L G)) hK (p := 1 - p) hg hr hc (by decide) (by omega)
    rw [hwy] at wy
    have p0 : ¬ nI n ≤ nI j := by rw [nI_leI (by omega) (by omega)]; omega
    have sl0 := rm_slot (m := m) (M := (rm_w aS aL aG M S L G)) hK (p := 1 - p) (w := j) hg (by decide)
    have ea : (320 : Int32) + nI (rm_sl 1 (1 - p) j) = nI (320 + rm_sl 1 (1 - p) j) := by rw [show (320 : Int32) = nI 320 from rfl, nI_add]
    obtain ⟨g1, g2⟩ := gI_T hnum (p := p) (w := w) (v := j) hw5 (by omega)
    obtain ⟨S1, L1, G1, t1, t2⟩ := rm_copyV H (a := 320 + rm_sl 1 (1 - p) j) (c := 410) (by omega) (by omega) (by omega) hV (by rw [hw j hjn]; exact (hlu j hjn).mono (by decide))
    rw [hw j hjn] at t2
    have t1 : rM_copy m (nI (320 + rm_sl 1 (1 - p) j)) 410 (rm_w aS aL aG M S L G) = _ := t1
    have gt := rm_gets1 H (p := p) (w := w) (v := j) hp hw5 (by omega) S1 L1 G1
    obtain ⟨S2, L2, G2, u1, u2⟩ := rm_scaleV H (a := 410) (k := 41) (by decide) (by decide) (by decide) (by decide) t2 (gI (rg_A M aN) p w j).toInt64 (by rw [rg_up_eq]; exact hlu j hjn) (by decide)
    rw [Int32.toInt_toInt64, g1, rg_up_eq] at u2
    have u1 : rM_scale m 410 (gI (rg_A M aN) p w j).toInt64 (rm_w aS aL aG M S1 L1 G1) = _ := u1
    obtain ⟨V2, hV2⟩ : ∃ V2, V2 = va_up (va_up (va_up (va_up V 410 (u j)) 417 (gT (rg_A M aN) p w j)) 416 (u j * gT (rg_A M aN) p w j)) 410 (u j * gT (rg_A M aN) p w j) := ⟨_, rfl⟩
    rw [← hV2] at u2
    have v10 : V2 410 = u j * gT (rg_A M aN) p w j := by rw [hV2, rg_up_eq]
    have vq : ∀ q, q ≠ 410 → q ≠ 416 → q ≠ 417 → V2 q = V q := fun q a b c => by rw [hV2, rg_up_ne a, rg_up_ne b, rg_up_ne c, rg_up_ne a]
    have hsum : ∀ i, i ≤ n → rm_lt (fb_si (fun v => u v * gT (rg_A M aN) p w v) i) 43 := fun i hi => (si_lt1 (k := 42) (by omega) (fun v hv => (hlu v (by omega)).mul (rm_lt_g (gI_T hnum (p := p) (w := w) (v := v) hw5 (by omega)).2))).mono (by decide)
    have cc : rm_cap (o + w) = 4200 := by unfold rm_cap; rw [if_neg (by omega)]
    obtain ⟨S3, L3, G3, x1, x2⟩ := rm_plusV H (a := o + w) (b := 410) (c := o + w) (by omega) (by omega) (by decide) (by decide) (by omega) u2 (by rw [vq (o + w) (by omega) (by omega) (by omega), hZ, cc]; exact (hsum j (by omega)).mono (by decide)) (by rw [v10, cc]; exact ((hlu j hjn).mul (rm_lt_g g2)).mono (by decide))
    rw [vq (o + w) (by omega) (by omega) (by omega), hZ, v10] at x2
    have x1 : rM_plus m (nI (o + w)) 410 (nI (o + w)) (rm_w aS aL aG M S2 L2 G2) = _ := x1
    rw [rM_sumsOf_29_e]
    simp only [rm_wK, hK, if_true, wy, Option.bind_some, p0, if_false, sl0, ea, t1, gt, u1, nI_add, x1, nI_1]
    obtain ⟨S', L', G', V', y1, y2, y3, y4⟩ := ih (j + 1) (by omega) (by omega) S3 L3 G3 _ x2 (fun v hv => by
      have esw : rm_sl 1 (1 - p) v = 5 * (1 - p) + v := rfl
      rw [rg_up_ne (by omega), vq _ (by omega) (by omega) (by omega)]; exact hw v hv) (by rw [rg_up_eq]; rfl)
    exact ⟨S', L', G', V', y1, y2, y3, fun q a b c d => by rw [y4 q a b c d, rg_up_ne a, vq q b c d]⟩
/-- all worths of a player, times the other's total -/
theorem rm_sumsOfM (H : rm_F m aS aL aG aN aB M) {r c p o n n' : Nat} (hg : rg_I M 115 m = nI 1) (hr : rg_I M 116 m = nI r) (hc : rg_I M 117 m = nI c) (hp : p < 2) (hwy : rm_wy 1 r c p = n) (hwy' : rm_wy 1 r c (1 - p) = n') (hn : n ≤ 5) (hn' : n' ≤ 5) (ho : o = 397 ∨ o = 402) (hnum : ∀ i, i < 25 → (rg_A M aN i).toInt.natAbs ≤ 1000) {u : Nat → Int} (hlu : ∀ v, v < n' → rm_lt (u v) 41) {S L G : Nat → Int32} {V : Nat → Int} (hV : rm_V S L G V) (hu : ∀ v, v < n' → V (320 + rm_sl 1 (1 - p) v) = u v) :
    ∃ (S' L' G' : Nat → Int32) (V' : Nat → Int), rM_sumsOf m (nI p) (nI o) (rm_w aS aL aG M S L G) = some (rm_w aS aL aG M S' L' G') ∧ rm_V S' L' G' V' ∧ (∀ w, w < n → V' (o + w) = fb_si (fun v => u v * gT (rg_A M aN) p w v) n') ∧ ∀ q, (q < o ∨ o + 5 ≤ q) → q ≠ 410 → q ≠ 416 → q ≠ 417 → V' q = V q := by
  have hK := H.1
  have go : ∀ d j : Nat, n - j = d → j ≤ n → ∀ (S L G : Nat → Int32) (V1 : Nat → Int), rm_V S L G V1 → (∀ w, w < j → V1 (o + w) = fb_si (fun v => u v * gT (rg_A M aN) p w v) n') → (∀ q, (q < o ∨ o + 5 ≤ q) → q ≠ 410 → q ≠ 416 → q ≠ 417 → V1 q = V q) → ∃ (S' L' G' : Nat → Int32) (V' : Nat → Int), rM_sumsOf_7 m (nI p) (nI o) (nI (1 - p)) (nI j) (rm_w aS aL aG M S L G) = some (none, rm_w aS aL aG M S' L' G') ∧ rm_V S' L' G' V' ∧ (∀ w, w < n → V' (o + w) = fb_si (fun v => u v * gT (rg_A M aN) p w v) n') ∧ ∀ q, (q < o ∨ o + 5 ≤ q) → q ≠ 410 → q ≠ 416 → q ≠ 417 → V' q = V q := by
    intro d
    induction d with
    | zero =>
      intro j hd hj S L G V1 hV1 hdone hfr
      have e : j = n := by omega
      have wy := rm_ways (m := m) (M := (rm_w aS aL aG M S L G)) hK (p := p) hg hr hc (by decide) (by omega)
      rw [hwy] at wy
      rw [rM_sumsOf_7_e]
      simp only [rm_wK, hK, if_true, wy, Option.bind_some, e, Int32.le_refl]
      rw [e] at hdone
      exact ⟨S, L, G, V1, rfl, hV1, hdone, hfr⟩
    | succ d ih =>
      intro j hd hj S L G V1 hV1 hdone hfr
      have hjn : j < n := by omega
      have wy := rm_ways (m := m) (M := (rm_w aS aL aG M S L G)) hK (p := p) hg hr hc (by decide) (by omega)
      rw [hwy] at wy
      have p0 : ¬ nI n ≤ nI j := by rw [nI_leI (by omega) (by omega)]; omega
      obtain ⟨S1, L1, G1, t1, t2⟩ := rm_isV H (c := o + j) (by omega) hV1 0
      have t2 : rm_V S1 L1 G1 (va_up V1 (o + j) 0) := t2
      obtain ⟨S2, L2, G2, V2, x1, x2, x3, x4⟩ := rm_so29 H (w := j) hg hr hc hp hwy' hn' (by omega) ho hnum hlu _ 0 rfl (Nat.zero_le _) S1 L1 G1 _ t2 (fun v hv => by
        have esw : rm_sl 1 (1 - p) v = 5 * (1 - p) + v := rfl
        rw [rg_up_ne (by omega), hfr _ (by omega) (by omega) (by omega) (by omega)]; exact hu v hv) rg_up_eq
      have x1 : rM_sumsOf_29 m (nI p) (nI o) (nI (1 - p)) (nI j) 0 (rm_w aS aL aG M S1 L1 G1) = _ := x1
      rw [rM_sumsOf_7_e]
      simp only [rm_wK, hK, if_true, wy, Option.bind_some, p0, if_false, nI_add, t1, x1]
      have f2 : ∀ q, q ≠ o + j → q ≠ 410 → q ≠ 416 → q ≠ 417 → V2 q = V1 q := fun q a b c d => by rw [x4 q a b c d, rg_up_ne a]
      refine ih (j + 1) (by omega) (by omega) S2 L2 G2 V2 x2 (fun w hw => ?_) (fun q a b c d => by rw [f2 q (by omega) b c d]; exact hfr q a b c d)
      by_cases e : w = j
      · rw [e]; exact x3
      · rw [f2 _ (by omega) (by omega) (by omega) (by omega)]; exact hdone w (by omega)
  obtain ⟨S', L', G', V', y1, y2, y3, y4⟩ := go _ 0 rfl (Nat.zero_le _) S L G V hV (fun w hw => by omega) (fun _ _ _ _ _ => rfl)
  have y1 : rM_sumsOf_7 m (nI p) (nI o) (nI (1 - p)) 0 (rm_w aS aL aG M S L G) = _ := y1
  have e1 : (1 : Int32) - nI p = nI (1 - p) := by rcases (show p = 0 ∨ p = 1 by omega) with e | e <;> subst e <;> rfl
  refine ⟨S', L', G', V', ?_, y2, y3, y4⟩
  rw [rM_sumsOf_u, rM_sumsOf_e, e1, y1]; rfl
/-- Z1 := what the mix gets, times both totals; Z3 := both totals -/
theorem rm_bt66 (H : rm_F m aS aL aG aN aB M) {r c p o n : Nat} {f : Int32} (hg : rg_I M 115 m = nI 1) (hr : rg_I M 116 m = nI r) (hc : rg_I M 117 m = nI c) (hp : p < 2) (hwy : rm_wy 1 r c p = n) (hn : n ≤ 5) (ho : o = 397 ∨ o = 402) {u F : Nat → Int} {T0 T1 : Int} (hlu : ∀ w, w < n → rm_lt (u w) 41) (hlF : ∀ w, w < n → rm_lt (F w) 43) (hl0 : rm_lt T0 42) (hl1 : rm_lt T1 42) : ∀ d j : Nat, n - j = d → j ≤ n → ∀ (S L G : Nat → Int32) (V : Nat → Int), rm_V S L G V → (∀ w, w < n → V (320 + rm_sl 1 p w) = u w ∧ V (o + w) = F w) → V 360 = T0 → V 361 = T1 → V 409 = fb_si (fun w => u w * F w) j →
    ∃ (S' L' G' : Nat → Int32) (V' : Nat → Int), rM_bothOfTable_66 m f (nI p) (nI o) (nI j) (rm_w aS aL aG M S L G) = rM_bothOfTable_133 m f (nI p) (nI o) 0 (rm_w aS aL aG M S' L' G') ∧ rm_V S' L' G' V' ∧ V' 409 = fb_si (fun w => u w * F w) n ∧ V' 411 = T0 * T1 ∧ ∀ q, q ≠ 409 → q ≠ 410 → q ≠ 411 → V' q = V q := by
  have hK := H.1
  intro d
  induction d with
  | zero =>
    intro j hd hj S L G V hV hw h0 h1 hZ
    have e : j = n := by omega
    have wy := rm_ways (m := m) (M := (rm_w aS aL aG M S L G)) hK (p := p) hg hr hc (by decide) (by omega)
    rw [hwy] at wy
    obtain ⟨S1, L1, G1, t1, t2⟩ := rm_mulV H (a := 360) (b := 361) (c := 411) (ka := 42) (kb := 42) (by decide) (by decide) (by decide) (by decide) (by decide) (by decide) (by decide) hV (by rw [h0]; exact hl0) (by rw [h1]; exact hl1) (by decide)
    rw [h0, h1] at t2
    have t1 : rM_multiply m 360 361 411 (rm_w aS aL aG M S L G) = _ := t1
    rw [rM_bothOfTable_66_e]
    simp only [rm_wK, hK, if_true, wy, Option.bind_some, e, Int32.le_refl, t1]
    rw [e] at hZ
    exact ⟨S1, L1, G1, _, rfl, t2, by rw [rg_up_ne (by decide)]; exact hZ, rg_up_eq, fun q _ _ a => rg_up_ne a⟩
  | succ d ih =>
    intro j hd hj S L G V hV hw h0 h1 hZ
    have hjn : j < n := by omega
    have esl : rm_sl 1 p j = 5 * p + j := rfl
    have wy := rm_ways (m := m) (M := (rm_w aS aL aG M S L G)) hK (p := p) hg hr hc (by decide) (by omega)
    rw [hwy] at wy
    have p0 : ¬ nI n ≤ nI j := by rw [nI_leI (by omega) (by omega)]; omega
    have sl0 := rm_slot (m := m) (M := (rm_w aS aL aG M S L G)) hK (p := p) (w := j) hg (by decide)
    have ea : (320 : Int32) + nI (rm_sl 1 p j) = nI (320 + rm_sl 1 p j) := by rw [show (320 : Int32) = nI 320 from rfl, nI_add]
    obtain ⟨w1, w2⟩ := hw j hjn
    obtain ⟨S1, L1, G1, t1, t2⟩ := rm_mulV H (a := 320 + rm_sl 1 p j) (b := o + j) (c := 410) (ka := 41) (kb := 43) (by omega) (by omega) (by omega) (by omega) (by decide) (by omega) (by omega) hV (by rw [w1]; exact hlu j hjn) (by rw [w2]; exact hlF j hjn) (by decide)
    rw [w1, w2] at t2
    have t1 : rM_multiply m (nI (320 + rm_sl 1 p j)) (nI (o + j)) 410 (rm_w aS aL aG M S L G) = _ := t1
    have hsum : ∀ i, i ≤ n → rm_lt (fb_si (fun w => u w * F w) i) 85 := fun i hi => (si_lt1 (k := 84) (by omega) (fun w hw' => (hlu w (by omega)).mul (hlF w (by omega)))).mono (by decide)
    have e9 : va_up V 410 (u j * F j) 409 = fb_si (fun w => u w * F w) j := by rw [rg_up_ne (by decide)]; exact hZ
    obtain ⟨S2, L2, G2, x1, x2⟩ := rm_plusV H (a := 409) (b := 410) (c := 409) (by decide) (by decide) (by decide) (by decide) (by decide) t2 (by rw [e9]; exact (hsum j (by omega)).mono (by decide)) (by rw [rg_up_eq]; exact ((hlu j hjn).mul (hlF j hjn)).mono (by decide))
    rw [e9, rg_up_eq] at x2
    have x1 : rM_plus m 409 410 409 (rm_w aS aL aG M S1 L1 G1) = _ := x1
    rw [rM_bothOfTable_66_e]
    simp only [rm_wK, hK, if_true, wy, Option.bind_some, p0, if_false, sl0, ea, nI_add, t1, x1, nI_1]
    have f2 : ∀ q, q ≠ 409 → q ≠ 410 → va_up (va_up V 410 (u j * F j)) 409 (fb_si (fun w => u w * F w) j + u j * F j) q = V q := fun q a b => by rw [rg_up_ne a, rg_up_ne b]
    obtain ⟨S', L', G', V', y1, y2, y3, y4, y5⟩ := ih (j + 1) (by omega) (by omega) S2 L2 G2 _ x2 (fun w hw' => by
      have esw : rm_sl 1 p w = 5 * p + w := rfl
      rw [f2 _ (by omega) (by omega), f2 _ (by omega) (by omega)]; exact hw w hw') (by rw [f2 _ (by decide) (by decide)]; exact h0) (by rw [f2 _ (by decide) (by decide)]; exact h1) (by rw [rg_up_eq]; rfl)
    exact ⟨S', L', G', V', y1, y2, y3, y4, fun q a b c => by rw [y5 q a b c, f2 q a b]⟩
/-- the regrets of a round of both -/
theorem rm_bt133 (H : rm_F m aS aL aG aN aB M) {r c p o n : Nat} (hg : rg_I M 115 m = nI 1) (hr : rg_I M 116 m = nI r) (hc : rg_I M 117 m = nI c) (hp : p < 2) (hwy : rm_wy 1 r c p = n) (hn : n ≤ 5) (ho : o = 397 ∨ o = 402) {F : Nat → Int} {T Z D : Int} {z : Nat → Rat} (hlT : rm_lt T 42) (hlF : ∀ w, w < n → rm_lt (F w) 43) (hlZ : rm_lt Z 85) (hD : 0 < D) (hlD : rm_lt D 84) (hz : ∀ w, w < n → qB (z w) ≤ 256) : ∀ d j : Nat, n - j = d → j ≤ n → ∀ (S L G : Nat → Int32) (V : Nat → Int), rm_V S L G V → (∀ w, w < n → V (rm_sl 1 p w) = (z w).num ∧ V (40 + rm_sl 1 p w) = ((z w).den : Int) ∧ V (o + w) = F w) → V (360 + p) = T → V 409 = Z → V 411 = D → (∀ w, w < j → qB (z w + qv (T * F w - Z) D) ≤ 256 ∧ V (160 + rm_sl 1 p w) = (z w + qv (T * F w - Z) D).num ∧ V (200 + rm_sl 1 p w) = ((z w + qv (T * F w - Z) D).den : Int)) →
    ∃ (S' L' G' : Nat → Int32) (V' : Nat → Int) (f : Int32), rM_bothOfTable_133 m 1 (nI p) (nI o) (nI j) (rm_w aS aL aG M S L G) = rM_bothOfTable_205 m f (nI p) (rm_w aS aL aG M S' L' G') ∧ rm_V S' L' G' V' ∧ (∀ q, (∀ w, w < n → q ≠ 160 + rm_sl 1 p w ∧ q ≠ 200 + rm_sl 1 p w) → q ≠ 386 → (q < 389 ∨ 392 < q) → q ≠ 407 → q ≠ 408 → q ≠ 410 → V' q = V q) ∧ ((f = 1 ∧ ∀ w, w < n → qB (z w + qv (T * F w - Z) D) ≤ 256 ∧ V' (160 + rm_sl 1 p w) = (z w + qv (T * F w - Z) D).num ∧ V' (200 + rm_sl 1 p w) = ((z w + qv (T * F w - Z) D).den : Int)) ∨ (f = 0 ∧ ∃ w, w < n ∧ ¬ qB (z w + qv (T * F w - Z) D) ≤ 256)) := by
  have hK := H.1
  intro d
  induction d with
  | zero =>
    intro j hd hj S L G V hV hw hTv hZ hDv hdone
    have e : j = n := by omega
    have wy := rm_ways (m := m) (M := (rm_w aS aL aG M S L G)) hK (p := p) hg hr hc (by decide) (by omega)
    rw [hwy] at wy
    rw [rM_bothOfTable_133_e]
    simp only [rm_wK, hK, if_true, wy, Option.bind_some, e, Int32.le_refl]
    rw [e] at hdone
    exact ⟨S, L, G, V, 1, rfl, hV, fun _ _ _ _ _ _ _ => rfl, Or.inl ⟨rfl, hdone⟩⟩
  | succ d ih =>
    intro j hd hj S L G V hV hw hTv hZ hDv hdone
    have hjn : j < n := by omega
    have esl : rm_sl 1 p j = 5 * p + j := rfl
    have wy := rm_ways (m := m) (M := (rm_w aS aL aG M S L G)) hK (p := p) hg hr hc (by decide) (by omega)
    rw [hwy] at wy
    have p0 : ¬ nI n ≤ nI j := by rw [nI_leI (by omega) (by omega)]; omega
    have sl0 : ∀ S L G, rM_slot m (nI p) (nI j) (rm_w aS aL aG M S L G) = some (nI (rm_sl 1 p j), (rm_w aS aL aG M S L G)) := fun S L G => rm_slot (m := m) (M := (rm_w aS aL aG M S L G)) hK hg (by decide)
    have eb : (360 : Int32) + nI p = nI (360 + p) := by rw [show (360 : Int32) = nI 360 from rfl, nI_add]
    obtain ⟨w1, w2, w3⟩ := hw j hjn
    obtain ⟨S1, L1, G1, t1, t2⟩ := rm_mulV H (a := 360 + p) (b := o + j) (c := 410) (ka := 42) (kb := 43) (by omega) (by omega) (by omega) (by omega) (by decide) (by omega) (by omega) hV (by rw [hTv]; exact hlT) (by rw [w3]; exact hlF j hjn) (by decide)
    rw [hTv, w3] at t2
    have t1 : rM_multiply m (nI (360 + p)) (nI (o + j)) 410 (rm_w aS aL aG M S L G) = _ := t1
    have lTF : rm_lt (T * F j) 85 := hlT.mul (hlF j hjn)
    have e9 : va_up V 410 (T * F j) 409 = Z := by rw [rg_up_ne (by decide)]; exact hZ
    obtain ⟨S3, L3, G3, x1, x2⟩ := rm_minusV H (a := 410) (b := 409) (c := 407) (by decide) (by decide) (by decide) (by decide) (by decide) t2 (by rw [rg_up_eq]; exact lTF.mono (by decide)) (by rw [e9]; exact hlZ.mono (by decide))
    rw [e9, rg_up_eq] at x2
    have x1 : rM_minus m 410 409 407 (rm_w aS aL aG M S1 L1 G1) = _ := x1
    have e11 : va_up (va_up V 410 (T * F j)) 407 (T * F j - Z) 411 = D := by rw [rg_up_ne (by decide), rg_up_ne (by decide)]; exact hDv
    obtain ⟨S4, L4, G4, a1, a2⟩ := rm_copyV H (a := 411) (c := 408) (by omega) (by omega) (by omega) x2 (by rw [e11]; exact hlD.mono (by decide))
    rw [e11] at a2
    have a1 : rM_copy m 411 408 (rm_w aS aL aG M S3 L3 G3) = _ := a1
    obtain ⟨V4, hV4⟩ : ∃ V4, V4 = va_up (va_up (va_up V 410 (T * F j)) 407 (T * F j - Z)) 408 D := ⟨_, rfl⟩
    rw [← hV4] at a2
    have v7 : V4 407 = T * F j - Z := by rw [hV4, rg_up_ne (by decide), rg_up_eq]
    have v8 : V4 408 = D := by rw [hV4, rg_up_eq]
    have vq4 : ∀ q, q ≠ 407 → q ≠ 408 → q ≠ 410 → V4 q = V q := fun q a b c => by rw [hV4, rg_up_ne b, rg_up_ne a, rg_up_ne c]
    obtain ⟨S5, L5, G5, V5, b1, b2, b3, b4⟩ := rm_addsM H (o := 0) (s := rm_sl 1 p j) (k := 86) (Or.inl rfl) (by omega) a2 (x := z j) (by rw [vq4 _ (by omega) (by omega) (by omega), Nat.zero_add]; exact w1) (by rw [vq4 _ (by omega) (by omega) (by omega), Nat.zero_add]; exact w2) (hz j hjn) (by rw [v7]; exact (lTF.sub hlZ)) (by rw [v8]; exact hlD.mono (by decide)) (by rw [v8]; exact hD) (by decide)
    have b1 : rM_adds m 0 (nI (rm_sl 1 p j)) (rm_w aS aL aG M S4 L4 G4) = _ := b1
    rw [v7, v8] at b1 b3
    rw [rM_bothOfTable_133_e]
    simp only [rm_wK, hK, if_true, wy, Option.bind_some, p0, if_false, sl0, eb, nI_add, t1, x1, a1, b1, show ¬ ((1 : Int32) = 0) by decide, nI_1]
    have f5 : ∀ q, q ≠ 160 + rm_sl 1 p j → q ≠ 200 + rm_sl 1 p j → q ≠ 386 → (q < 389 ∨ 392 < q) → q ≠ 407 → q ≠ 408 → q ≠ 410 → V5 q = V q := fun q a1 a2 a3 a4 a5 a6 a7 => by rw [b4 q (by omega) (by omega) a3 a4, vq4 q a5 a6 a7]
    by_cases cB : qB (z j + qv (T * F j - Z) D) ≤ 256
    · rw [if_pos cB]
      have hx3 := b3 cB
      obtain ⟨S', L', G', V', f, y1, y2, y3, y4⟩ := ih (j + 1) (by omega) (by omega) S5 L5 G5 V5 b2 (fun w hw' => by
        have esw : rm_sl 1 p w = 5 * p + w := rfl
        rw [f5 _ (by omega) (by omega) (by omega) (by omega) (by omega) (by omega) (by omega), f5 _ (by omega) (by omega) (by omega) (by omega) (by omega) (by omega) (by omega), f5 _ (by omega) (by omega) (by omega) (by omega) (by omega) (by omega) (by omega)]; exact hw w hw') (by rw [f5 _ (by omega) (by omega) (by omega) (by omega) (by omega) (by omega) (by omega)]; exact hTv) (by rw [f5 _ (by omega) (by omega) (by omega) (by omega) (by omega) (by omega) (by omega)]; exact hZ) (by rw [f5 _ (by omega) (by omega) (by omega) (by omega) (by omega) (by omega) (by omega)]; exact hDv) (fun w hw' => by
        have esw : rm_sl 1 p w = 5 * p + w := rfl
        by_cases e : w = j
        · subst e
          exact ⟨cB, hx3.1, hx3.2⟩
        · rw [f5 _ (by omega) (by omega) (by omega) (by omega) (by omega) (by omega) (by omega), f5 _ (by omega) (by omega) (by omega) (by omega) (by omega) (by omega) (by omega)]
          exact hdone w (by omega))
      refine ⟨S', L', G', V', f, y1, y2, fun q a1 a2 a3 a4 a5 a6 => ?_, y4⟩
      rw [y3 q a1 a2 a3 a4 a5 a6, f5 q (a1 j hjn).1 (a1 j hjn).2 a2 a3 a4 a5 a6]
    · rw [if_neg cB, rM_bothOfTable_133_e]
      have wy3 := rm_ways (m := m) (M := (rm_w aS aL aG M S5 L5 G5)) hK (p := p) hg hr hc (by decide) (by omega)
      simp only [rm_wK, hK, if_true, wy3, Option.bind_some, ite_self]
      exact ⟨S5, L5, G5, V5, 0, rfl, b2, fun q a1 a2 a3 a4 a5 a6 => f5 q (a1 j hjn).1 (a1 j hjn).2 a2 a3 a4 a5 a6, Or.inr ⟨rfl, j, hjn, cB⟩⟩
/-- one player's half of a round of both -/
theorem rm_bt54 (H : rm_F m aS aL aG aN aB M) {s : sS} {n0 p o : Nat} (hok : ts_ok n0 s) (hg1 : ts_g s = 1) (hg : rg_I M 115 m = nI 1) (hr : rg_I M 116 m = nI (ts_a s)) (hc : rg_I M 117 m = nI (ts_e s)) (hp : p < 2) (ho : o = if p = 0 then 397 else 402) {u F : Nat → Int} {T T' : Int} (hT : 0 < T) (hT' : 0 < T') (hlT : rm_lt T 42) (hlT' : rm_lt T' 42) (hlu : ∀ w, w < wyc (ts_a s) (ts_e s) p → rm_lt (u w) 41) (hlF : ∀ w, w < wyc (ts_a s) (ts_e s) p → rm_lt (F w) 43) (hmu : ∀ w, w < wyc (ts_a s) (ts_e s) p → tMx (ts_y s) 0 (ts_a s) (ts_e s) p w * (T : Rat) = (u w : Rat)) (hF : ∀ w, w < wyc (ts_a s) (ts_e s) p → tWr (tMx (ts_y s) 0 (ts_a s) (ts_e s) (1 - p)) (ts_num s) p w (wyc (ts_a s) (ts_e s) (1 - p)) * (T' : Rat) = (F w : Rat)) {S L G : Nat → Int32} {V : Nat → Int} (hV : rm_V S L G V) (hs : mV s V) (huV : ∀ w, w < wyc (ts_a s) (ts_e s) p → V (320 + rm_sl 1 p w) = u w ∧ V (o + w) = F w) (hTV : V (360 + p) = T) (hT'V : V (360 + (1 - p)) = T') :
    ∃ (S' L' G' : Nat → Int32) (V' : Nat → Int) (f : Int32), rM_bothOfTable_54 m 1 (nI p) (nI o) (rm_w aS aL aG M S L G) = rM_bothOfTable_32 m f (nI (p + 1)) (rm_w aS aL aG M S' L' G') ∧ rm_V S' L' G' V' ∧ mV s V' ∧ (∀ q, ((160 ≤ q ∧ q < 320 ∧ ∀ w, w < wyc (ts_a s) (ts_e s) p → q ≠ 160 + rm_sl 1 p w ∧ q ≠ 200 + rm_sl 1 p w ∧ q ≠ 240 + rm_sl 1 p w ∧ q ≠ 280 + rm_sl 1 p w) ∨ (320 ≤ q ∧ q < 380) ∨ (397 ≤ q ∧ q < 407)) → V' q = V q) ∧ ((f = 1 ∧ ∀ w, w < wyc (ts_a s) (ts_e s) p → (qB (ts_bR s p w) ≤ 256 ∧ qB (ts_bS s p w) ≤ 256) ∧ V' (160 + rm_sl 1 p w) = (ts_bR s p w).num ∧ V' (200 + rm_sl 1 p w) = ((ts_bR s p w).den : Int) ∧ V' (240 + rm_sl 1 p w) = (ts_bS s p w).num ∧ V' (280 + rm_sl 1 p w) = ((ts_bS s p w).den : Int)) ∨ (f = 0 ∧ ¬ ∀ w, w < wyc (ts_a s) (ts_e s) p → qB (ts_bR s p w) ≤ 256 ∧ qB (ts_bS s p w) ≤ 256)) := by
  have hK := H.1
  have g2 : ts_g s ≠ 2 := by omega
  obtain ⟨n, hn⟩ : ∃ n, n = wyc (ts_a s) (ts_e s) p := ⟨_, rfl⟩
  have hw := hok.w hg1 p
  rw [← hn] at hw hlu hlF hmu hF huV ⊢
  have hwy : rm_wy 1 (ts_a s) (ts_e s) p = n := by rw [hn]; rfl
  have hyB := hok.2.2.2.2.2.2.1
  have esl : ∀ w, rm_sl 1 p w = 5 * p + w := fun w => rfl
  have ho2 : o = 397 ∨ o = 402 := by rw [ho]; split <;> omega
  -- Z1, Z3
  obtain ⟨S1, L1, G1, a1, a2⟩ := rm_isV H (c := 409) (by decide) hV 0
  have a1 : rM_is m 409 0 (rm_w aS aL aG M S L G) = _ := a1
  have a2 : rm_V S1 L1 G1 (va_up V 409 0) := a2
  obtain ⟨T0, T1, h0, h1, hD, hl0, hl1⟩ : ∃ T0 T1 : Int, V 360 = T0 ∧ V 361 = T1 ∧ T0 * T1 = T * T' ∧ rm_lt T0 42 ∧ rm_lt T1 42 := by
    rcases (show p = 0 ∨ p = 1 by omega) with e | e
    · subst e; exact ⟨T, T', hTV, hT'V, rfl, hlT, hlT'⟩
    · subst e; exact ⟨T', T, hT'V, hTV, Int.mul_comm _ _, hlT', hlT⟩
  obtain ⟨S2, L2, G2, V2, b1, b2, b3, b4, b5⟩ := rm_bt66 H (f := 1) hg hr hc hp hwy hw.2 ho2 hlu hlF hl0 hl1 _ 0 rfl (Nat.zero_le _) S1 L1 G1 _ a2 (fun w hw' => by rw [rg_up_ne (by rw [esl]; omega), rg_up_ne (by omega)]; exact huV w hw') (by rw [rg_up_ne (by decide)]; exact h0) (by rw [rg_up_ne (by decide)]; exact h1) rg_up_eq
  have b1 : rM_bothOfTable_66 m 1 (nI p) (nI o) 0 (rm_w aS aL aG M S1 L1 G1) = _ := b1
  rw [hD] at b4
  have f2 : ∀ q, q ≠ 409 → q ≠ 410 → q ≠ 411 → V2 q = V q := fun q x1 x2 x3 => by rw [b5 q x1 x2 x3, rg_up_ne x1]
  have lZ : rm_lt (fb_si (fun w => u w * F w) n) 85 := si_lt1 (k := 84) hw.2 (fun w hw' => (hlu w hw').mul (hlF w hw'))
  obtain ⟨z, hz⟩ : ∃ z : Nat → Rat, z = fun w => ts_y s (p * 5 + w) := ⟨_, rfl⟩
  obtain ⟨S3, L3, G3, V3, f, d1, d2, d3, d4⟩ := rm_bt133 H hg hr hc hp hwy hw.2 ho2 (z := z) hlT hlF lZ (Int.mul_pos hT hT') (hlT.mul hlT') (fun w hw2 => by rw [hz]; exact hyB _ (by omega)) _ 0 rfl (Nat.zero_le _) S2 L2 G2 V2 b2 (fun w hw2 => by
    have := hs.1 (by omega) (5 * p + w) (by omega)
    rw [f2 _ (by rw [esl]; omega) (by rw [esl]; omega) (by rw [esl]; omega), f2 _ (by rw [esl]; omega) (by rw [esl]; omega) (by rw [esl]; omega), f2 _ (by omega) (by omega) (by omega), esl, hz]
    show _ = (ts_y s (p * 5 + w)).num ∧ _ = ((ts_y s (p * 5 + w)).den : Int) ∧ _
    rw [show p * 5 + w = 5 * p + w by omega]
    exact ⟨this.1, this.2.1, (huV w hw2).2⟩) (by rw [f2 _ (by omega) (by omega) (by omega)]; exact hTV) b3 b4 (fun w hw2 => by omega)
  have d1 : rM_bothOfTable_133 m 1 (nI p) (nI o) 0 (rm_w aS aL aG M S2 L2 G2) = _ := d1
  -- the numbers are those of the state
  have eA : tAv (tMx (ts_y s) 0 (ts_a s) (ts_e s) p) (tMx (ts_y s) 0 (ts_a s) (ts_e s) (1 - p)) (ts_num s) p n (wyc (ts_a s) (ts_e s) (1 - p)) * ((T : Rat) * (T' : Rat)) = ((fb_si (fun w => u w * F w) n : Int) : Rat) := by
    rw [si_qs]
    unfold tAv
    rw [Rat.mul_comm, ← qs_mul]
    refine qs_cong (fun w hw2 => ?_)
    rw [Rat.intCast_mul, ← hmu w hw2, ← hF w hw2]
    grind
  have eR : ∀ w, w < n → z w + qv (T * F w - fb_si (fun w => u w * F w) n) (T * T') = ts_bR s p w := fun w hw2 => by
    rw [qv_sub2 hT hT' (hF w hw2) eA, hz]
    unfold ts_bR
    rw [if_neg g2]
    unfold tR
    rw [← hn]
  have f3 : ∀ q, q < 160 ∨ (160 ≤ q ∧ q < 320 ∧ ∀ w, w < n → q ≠ 160 + rm_sl 1 p w ∧ q ≠ 200 + rm_sl 1 p w) ∨ (320 ≤ q ∧ q < 386) ∨ (392 < q ∧ q ≠ 407 ∧ q ≠ 408 ∧ q ≠ 410) → V3 q = V2 q := fun q hq => d3 q (fun w hw2 => by
    rcases hq with q1 | ⟨-, -, q1⟩ | q1 | q1
    · rw [esl]; omega
    · exact q1 w hw2
    · rw [esl]; omega
    · rw [esl]; omega) (by omega) (by omega) (by omega) (by omega) (by omega)
  obtain ⟨S5, L5, G5, e1, e2⟩ := rm_isV H (c := 395) (by decide) d2 1
  obtain ⟨S6, L6, G6, g1, g2'⟩ := rm_isV H (c := 396) (by decide) e2 1
  have e1 : rM_is m 395 1 (rm_w aS aL aG M S3 L3 G3) = _ := e1
  have g1 : rM_is m 396 1 (rm_w aS aL aG M S5 L5 G5) = _ := g1
  have g2' : rm_V S6 L6 G6 (va_up (va_up V3 395 1) 396 1) := g2'
  obtain ⟨V6, hV6⟩ : ∃ V6, V6 = va_up (va_up V3 395 1) 396 1 := ⟨_, rfl⟩
  rw [← hV6] at g2'
  have f6 : ∀ q, q ≠ 395 → q ≠ 396 → V6 q = V3 q := fun q x1 x2 => by rw [hV6, rg_up_ne x2, rg_up_ne x1]
  have m6 : mV s V6 := hs.keep (fun q hq => by rw [f6 q (by omega) (by omega), f3 q (by omega), f2 q (by omega) (by omega) (by omega)]) (by rw [f6 _ (by decide) (by decide), f3 _ (by omega), f2 _ (by decide) (by decide) (by decide)]) (by rw [f6 _ (by decide) (by decide), f3 _ (by omega), f2 _ (by decide) (by decide) (by decide)]) (by rw [f6 _ (by decide) (by decide), f3 _ (by omega), f2 _ (by decide) (by decide) (by decide)])
  rw [rM_bothOfTable_54_e]
  simp only [rm_wK, hK, if_true, a1, b1, d1, Option.bind_some]
  rw [rM_bothOfTable_205_e]
  simp only [rm_wK, hK, if_true, e1, g1, Option.bind_some]
  rcases d4 with ⟨r1, v1⟩ | ⟨r0, w, hw2, v0⟩
  · rw [if_neg (by rw [r1]; decide)]
    obtain ⟨zs, hzs⟩ : ∃ zs : Nat → Rat, zs = fun w => ts_y s (40 + (p * 5 + w)) := ⟨_, rfl⟩
    obtain ⟨S7, L7, G7, V7, f', x1, x2, x3, x4⟩ := rm_sumsM H (p := p) (k := 42) hg hr hc (by decide) (by omega) (by rw [hwy]; omega) (fun w hw => by rw [hwy] at hw; rw [esl]; omega) (z := zs) (u := u) (T := T) (a := 1) (b := 1) hT (by decide) (fun w hw2 => by rw [hwy] at hw2; exact (hlu w hw2).mono (by decide)) hlT (rm_lt_one (by decide)) (rm_lt_one (by decide)) (by decide) (fun w hw2 => by rw [hwy] at hw2; rw [hzs]; exact hyB _ (by omega)) g2' (fun w hw2 => by
      rw [hwy] at hw2
      have := m6.1 (by omega) (5 * p + w) (by omega)
      refine ⟨?_, ?_, ?_⟩
      · rw [esl, hzs, this.2.2.1, show 40 + (5 * p + w) = 40 + (p * 5 + w) by omega]
      · rw [esl, hzs, this.2.2.2, show 40 + (5 * p + w) = 40 + (p * 5 + w) by omega]
      · rw [f6 _ (by rw [esl]; omega) (by rw [esl]; omega), f3 _ (by rw [esl]; omega), f2 _ (by rw [esl]; omega) (by rw [esl]; omega) (by rw [esl]; omega)]; exact (huV w hw2).1) (by rw [f6 _ (by omega) (by omega), f3 _ (by omega), f2 _ (by omega) (by omega) (by omega)]; exact hTV) (by rw [hV6, rg_up_ne (by decide), rg_up_eq]) (by rw [hV6, rg_up_eq])
    rw [hwy] at x3 x4
    have eS : ∀ w, w < n → zs w + qv (u w * 1) (T * 1) = ts_bS s p w := fun w hw2 => by
      rw [Int.mul_one, Int.mul_one, ← qv_eq hT (hmu w hw2), hzs]
      unfold ts_bS
      rw [if_neg g2]; rfl
    have f7 : ∀ q, q < 240 ∨ (240 ≤ q ∧ q < 320 ∧ ∀ w, w < n → q ≠ 240 + rm_sl 1 p w ∧ q ≠ 280 + rm_sl 1 p w) ∨ (320 ≤ q ∧ q < 386) ∨ (392 < q ∧ q ≠ 407 ∧ q ≠ 408) → V7 q = V6 q := fun q hq => x3 q (fun w hw2 => by
      rcases hq with q1 | ⟨-, -, q1⟩ | q1 | q1
      · rw [esl]; omega
      · exact q1 w hw2
      · rw [esl]; omega
      · rw [esl]; omega) (by omega) (by omega) (by omega) (by omega)
    have m7 : mV s V7 := m6.keep (fun q hq => f7 q (by omega)) (f7 _ (by omega)) (f7 _ (by omega)) (f7 _ (by omega))
    have ffr : ∀ q, ((160 ≤ q ∧ q < 320 ∧ ∀ w, w < n → q ≠ 160 + rm_sl 1 p w ∧ q ≠ 200 + rm_sl 1 p w ∧ q ≠ 240 + rm_sl 1 p w ∧ q ≠ 280 + rm_sl 1 p w) ∨ (320 ≤ q ∧ q < 380) ∨ (397 ≤ q ∧ q < 407)) → V7 q = V q := fun q hq => by
      rcases hq with ⟨q1, q2, q3⟩ | q1 | q1
      · have hq7 : q < 240 ∨ (240 ≤ q ∧ q < 320 ∧ ∀ w, w < n → q ≠ 240 + rm_sl 1 p w ∧ q ≠ 280 + rm_sl 1 p w) := by
          rcases (show q < 240 ∨ 240 ≤ q by omega) with k1 | k1
          · exact Or.inl k1
          · exact Or.inr ⟨k1, q2, fun w hw2 => (q3 w hw2).2.2⟩
        rw [f7 q (by rcases hq7 with k | k; exact Or.inl k; exact Or.inr (Or.inl k)), f6 q (by omega) (by omega), f3 q (Or.inr (Or.inl ⟨q1, q2, fun w hw2 => ⟨(q3 w hw2).1, (q3 w hw2).2.1⟩⟩)), f2 q (by omega) (by omega) (by omega)]
      · rw [f7 q (by omega), f6 q (by omega) (by omega), f3 q (by omega), f2 q (by omega) (by omega) (by omega)]
      · rw [f7 q (by omega), f6 q (by omega) (by omega), f3 q (by omega), f2 q (by omega) (by omega) (by omega)]
    simp only [x1, Option.bind_some]
    rcases x4 with ⟨q1, v2⟩ | ⟨q0, w, hw2, v2⟩
    · rw [if_neg (by rw [q1]; decide), rM_bothOfTable_238_e, nI_1]
      refine ⟨S7, L7, G7, V7, 1, rfl, x2, m7, ffr, Or.inl ⟨rfl, fun w hw2 => ?_⟩⟩
      obtain ⟨h0, h1, h2⟩ := v1 w hw2
      obtain ⟨h5, h3, h4⟩ := v2 w hw2
      rw [eR w hw2] at h0 h1 h2
      rw [eS w hw2] at h3 h4 h5
      refine ⟨⟨h0, h5⟩, ?_, ?_, h3, h4⟩
      · rw [f7 _ (by rw [esl]; omega), f6 _ (by rw [esl]; omega) (by rw [esl]; omega)]; exact h1
      · rw [f7 _ (by rw [esl]; omega), f6 _ (by rw [esl]; omega) (by rw [esl]; omega)]; exact h2
    · rw [if_pos q0, rM_bothOfTable_237_e, rM_bothOfTable_238_e, nI_1]
      refine ⟨S7, L7, G7, V7, 0, rfl, x2, m7, ffr, Or.inr ⟨rfl, fun q => v2 ?_⟩⟩
      rw [eS w hw2]
      exact (q w hw2).2
  · rw [if_pos r0, rM_bothOfTable_237_e, rM_bothOfTable_238_e, nI_1]
    refine ⟨S6, L6, G6, V6, 0, rfl, g2', m6, fun q hq => ?_, Or.inr ⟨rfl, fun q => v0 ?_⟩⟩
    · rcases hq with ⟨q1, q2, q3⟩ | q1 | q1
      · rw [f6 q (by omega) (by omega), f3 q (Or.inr (Or.inl ⟨q1, q2, fun w hw2 => ⟨(q3 w hw2).1, (q3 w hw2).2.1⟩⟩)), f2 q (by omega) (by omega) (by omega)]
      · rw [f6 q (by omega) (by omega), f3 q (by omega), f2 q (by omega) (by omega) (by omega)]
      · rw [f6 q (by omega) (by omega), f3 q (by omega), f2 q (by omega) (by omega) (by omega)]
    · rw [eR w hw2]
      exact (q w hw2).1
end

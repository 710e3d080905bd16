/-! the reference: bound, times -/
section
variable {m aS aL aG aN aB : Nat} {M : rg_M}
theorem rm_cmpV (H : rm_F m aS aL aG aN aB M) {a b : Nat} (ha : a < 420) (hb : b < 420) (a7 : a ≠ 387) (b7 : b ≠ 387) {S L G : Nat → Int32} {V : Nat → Int} (hV : rm_V S L G V) : ∃ r, rM_compare m (nI a) (nI b) (rm_w aS aL aG M S L G) = some (r, rm_w aS aL aG M S L G) ∧ (0 < r ↔ (V b).natAbs < (V a).natAbs) := by
  refine ⟨_, rm_compR H ha hb (hV a ha a7) (hV b hb b7), ?_⟩
  by_cases h1 : (V a).natAbs < (V b).natAbs
  · rw [if_pos h1]; exact ⟨fun h => absurd h (by decide), fun h => by omega⟩
  · rw [if_neg h1]
    by_cases h2 : (V a).natAbs = (V b).natAbs
    · rw [if_pos h2]; exact ⟨fun h => absurd h (by decide), fun h => by omega⟩
    · rw [if_neg h2]; exact ⟨fun _ => by omega, fun _ => by decide⟩
/-- the square of n / d against a bound -/
theorem rm_sqw (H : rm_F m aS aL aG aN aB M) {n d l : Nat} {x : Rat} {z : Int64} (hn : n < 160) (hd : d < 160) (hz : z.toInt = (l : Int)) {S L G : Nat → Int32} {V : Nat → Int} (hV : rm_V S L G V) (h1 : V n = x.num) (h2 : V d = (x.den : Int)) (hx : qB x ≤ 256) : ∃ (S' L' G' : Nat → Int32) (V' : Nat → Int), rM_isSquareWithin m (nI n) (nI d) z (rm_w aS aL aG M S L G) = some (if x.num ≤ 0 ∨ q_under x 1 l then 1 else 0, rm_w aS aL aG M S' L' G') ∧ rm_V S' L' G' V' ∧ ∀ q, q ≠ 411 → q ≠ 412 → q ≠ 416 → q ≠ 417 → V' q = V q := by
  have H0 := H
  obtain ⟨hK, hS, hL, hG, -, -, kS, kL, kG, -, -, lS, lL, lG, -, -, z1, z2, z3, -⟩ := H
  have l8 := qB_lt8 hx
  have sg := hV.sg (a := n) (by omega) (by omega)
  rw [h1] at sg
  have cn := nI_clamp (n := n) (by omega)
  have ci := rm_i0 (a := n) (by omega)
  have c4 : n < 420 := by omega
  rw [rM_isSquareWithin_u, rM_isSquareWithin_e]
  simp only [rm_wK, rm_wR, rm_wL, hK, hG, kG, lG, if_true, Option.bind_some, cn, ci, c4, and_self, rm_rG z2 z3, sg, rm_sg_gt]
  by_cases cp : 0 < x.num
  · rw [if_pos cp]
    obtain ⟨S1, L1, G1, t1, t2⟩ := rm_mulV H0 (a := n) (b := n) (c := 411) (ka := 8) (kb := 8) (by omega) (by omega) (by omega) (by omega) (by decide) (by omega) (by omega) hV (by rw [h1]; exact l8.1) (by rw [h1]; exact l8.1) (by decide)
    rw [h1] at t2
    have t1 : rM_multiply m (nI n) (nI n) 411 (rm_w aS aL aG M S L G) = _ := t1
    have ed : va_up V 411 (x.num * x.num) d = (x.den : Int) := by rw [rg_up_ne (by omega)]; exact h2
    obtain ⟨S2, L2, G2, u1, u2⟩ := rm_mulV H0 (a := d) (b := d) (c := 412) (ka := 8) (kb := 8) (by omega) (by omega) (by omega) (by omega) (by decide) (by omega) (by omega) t2 (by rw [ed]; exact l8.2) (by rw [ed]; exact l8.2) (by decide)
    rw [ed] at u2
    have u1 : rM_multiply m (nI d) (nI d) 412 (rm_w aS aL aG M S1 L1 G1) = _ := u1
    obtain ⟨S3, L3, G3, w1, w2⟩ := rm_scaleV H0 (a := 412) (k := 16) (by decide) (by decide) (by decide) (by decide) u2 z (by rw [rg_up_eq]; exact l8.2.mul l8.2) (by decide)
    rw [hz, rg_up_eq] at w2
    have w1 : rM_scale m 412 z (rm_w aS aL aG M S2 L2 G2) = _ := w1
    obtain ⟨V3, hV3⟩ : ∃ V3, V3 = va_up (va_up (va_up (va_up (va_up V 411 (x.num * x.num)) 412 ((x.den : Int) * (x.den : Int))) 417 (l : Int)) 416 ((x.den : Int) * (x.den : Int) * (l : Int))) 412 ((x.den : Int) * (x.den : Int) * (l : Int)) := ⟨_, rfl⟩
    rw [← hV3] at w2
    have v11 : V3 411 = x.num * x.num := by rw [hV3, rg_up_ne (by decide), rg_up_ne (by decide), rg_up_ne (by decide), rg_up_ne (by decide), rg_up_eq]
    have v12 : V3 412 = (x.den : Int) * (x.den : Int) * (l : Int) := by rw [hV3, rg_up_eq]
    obtain ⟨r, r1, r2⟩ := rm_cmpV H0 (a := 411) (b := 412) (by decide) (by decide) (by decide) (by decide) w2
    have r1 : rM_compare m 411 412 (rm_w aS aL aG M S3 L3 G3) = _ := r1
    rw [v11, v12] at r2
    have e1 : (x.num * x.num).natAbs = x.num.natAbs * x.num.natAbs * 1 := by rw [Int.natAbs_mul, Nat.mul_one]
    have e2 : ((x.den : Int) * (x.den : Int) * (l : Int)).natAbs = x.den * x.den * l := by rw [Int.natAbs_mul, Int.natAbs_mul, Int.natAbs_natCast, Int.natAbs_natCast]
    rw [e1, e2] at r2
    simp only [rm_wK, hK, if_true, t1, u1, w1, r1, Option.bind_some, rM_isSquareWithin_55_e]
    have fr : ∀ q, q ≠ 411 → q ≠ 412 → q ≠ 416 → q ≠ 417 → V3 q = V q := fun q a b c d => by rw [hV3, rg_up_ne b, rg_up_ne c, rg_up_ne d, rg_up_ne b, rg_up_ne a]
    by_cases cu : q_under x 1 l
    · rw [if_neg (fun q => by have := r2.mp q; unfold q_under at cu; omega), if_pos (Or.inr cu)]
      exact ⟨S3, L3, G3, V3, rfl, w2, fr⟩
    · rw [if_pos (r2.mpr (by unfold q_under at cu; omega)), if_neg (show ¬ (x.num ≤ 0 ∨ q_under x 1 l) from fun q => by rcases q with q | q; omega; exact cu q)]
      exact ⟨S3, L3, G3, V3, rfl, w2, fr⟩
  · rw [if_neg cp, if_pos (Or.inl (by omega))]
    exact ⟨S, L, G, V, rfl, hV, fun _ _ _ _ _ => rfl⟩
/-- the regrets under their bound -/
theorem rm_b183 (H : rm_F m aS aL aG aN aB M) {s : sS} {n p l : Nat} {z : Int64} (hok : ts_ok n s) (hg : ts_g s = 1) (hI : mInt m s M) (hp : p < 2) (hz : z.toInt = (l : Int)) {V0 : Nat → Int} (hs : mV s V0) : ∀ d j : Nat, wyc (ts_a s) (ts_e s) p - j = d → j ≤ wyc (ts_a s) (ts_e s) p → ∀ (S L G : Nat → Int32) (V : Nat → Int), rm_V S L G V → (∀ q, q ≠ 411 → q ≠ 412 → q ≠ 416 → q ≠ 417 → V q = V0 q) → (∀ w, w < j → (ts_y s (p * 5 + w)).num ≤ 0 ∨ q_under (ts_y s (p * 5 + w)) 1 l) → ∃ (S' L' G' : Nat → Int32) (V' : Nat → Int) (r : Int32), rM_bound_183 m (nI p) z (nI j) (rm_w aS aL aG M S L G) = some (some (.int r), rm_w aS aL aG M S' L' G') ∧ rm_V S' L' G' V' ∧ (∀ q, q ≠ 411 → q ≠ 412 → q ≠ 416 → q ≠ 417 → V' q = V0 q) ∧ ((r = 1 ∧ ∀ w, w < wyc (ts_a s) (ts_e s) p → (ts_y s (p * 5 + w)).num ≤ 0 ∨ q_under (ts_y s (p * 5 + w)) 1 l) ∨ (r = 0 ∧ ¬ ∀ w, w < wyc (ts_a s) (ts_e s) p → (ts_y s (p * 5 + w)).num ≤ 0 ∨ q_under (ts_y s (p * 5 + w)) 1 l)) := by
  have hK := H.1
  obtain ⟨i1, i2, i3, i4, i5, i6, i7⟩ := hI
  rw [hg] at i1
  have hw := hok.w hg p
  have hyB := hok.2.2.2.2.2.2.1
  have esl : ∀ w, rm_sl 1 p w = 5 * p + w := fun w => rfl
  intro d
  induction d with
  | zero =>
    intro j hd hj S L G V hV hf hdone
    have e : j = wyc (ts_a s) (ts_e s) p := by omega
    have wy : rM_ways m (nI p) (rm_w aS aL aG M S L G) = some (nI (wyc (ts_a s) (ts_e s) p), rm_w aS aL aG M S L G) := rm_ways (m := m) (M := (rm_w aS aL aG M S L G)) hK (p := p) (g := 1) i1 i2 i3 (by decide) (by omega)
    rw [rM_bound_183_e]
    simp only [rm_wK, hK, if_true, wy, Option.bind_some, e, Int32.le_refl]
    rw [e] at hdone
    exact ⟨S, L, G, V, 1, rfl, hV, hf, Or.inl ⟨rfl, hdone⟩⟩
  | succ d ih =>
    intro j hd hj S L G V hV hf hdone
    have hjn : j < wyc (ts_a s) (ts_e s) p := by omega
    have wy : rM_ways m (nI p) (rm_w aS aL aG M S L G) = some (nI (wyc (ts_a s) (ts_e s) p), rm_w aS aL aG M S L G) := rm_ways (m := m) (M := (rm_w aS aL aG M S L G)) hK (p := p) (g := 1) i1 i2 i3 (by decide) (by omega)
    have sl0 : rM_slot m (nI p) (nI j) (rm_w aS aL aG M S L G) = some (nI (5 * p + j), rm_w aS aL aG M S L G) := rm_slot (m := m) (M := (rm_w aS aL aG M S L G)) hK (p := p) (w := j) (g := 1) i1 (by decide)
    have p0 : ¬ nI (wyc (ts_a s) (ts_e s) p) ≤ nI j := by rw [nI_leI (by omega) (by omega)]; omega
    have e0 : (0 : Int32) + nI (5 * p + j) = nI (5 * p + j) := by rw [show (0 : Int32) = nI 0 from rfl, nI_add, Nat.zero_add]
    have e40 : (40 : Int32) + nI (5 * p + j) = nI (40 + (5 * p + j)) := by rw [show (40 : Int32) = nI 40 from rfl, nI_add]
    have hsj := hs.1 (by omega) (5 * p + j) (by omega)
    obtain ⟨S1, L1, G1, V1, a1, a2, a3⟩ := rm_sqw H (n := 5 * p + j) (d := 40 + (5 * p + j)) (l := l) (x := ts_y s (p * 5 + j)) (by omega) (by omega) hz hV (by rw [hf _ (by omega) (by omega) (by omega) (by omega), show p * 5 + j = 5 * p + j by omega]; exact hsj.1) (by rw [hf _ (by omega) (by omega) (by omega) (by omega), show p * 5 + j = 5 * p + j by omega]; exact hsj.2.1) (hyB _ (by omega))
    rw [rM_bound_183_e]
    simp only [rm_wK, hK, if_true, wy, Option.bind_some, p0, if_false, sl0, e0, e40, a1, nI_1]
    have f1 : ∀ q, q ≠ 411 → q ≠ 412 → q ≠ 416 → q ≠ 417 → V1 q = V0 q := fun q a b c d => by rw [a3 q a b c d, hf q a b c d]
    by_cases cu : (ts_y s (p * 5 + j)).num ≤ 0 ∨ q_under (ts_y s (p * 5 + j)) 1 l
    · rw [if_pos cu, if_neg (by decide)]
      refine ih (j + 1) (by omega) (by omega) S1 L1 G1 V1 a2 f1 (fun w hw2 => ?_)
      by_cases e : w = j
      · rw [e]; exact cu
      · exact hdone w (by omega)
    · rw [if_neg cu, if_pos rfl]
      exact ⟨S1, L1, G1, V1, 0, rfl, a2, f1, Or.inr ⟨rfl, fun q => cu (q j hjn)⟩⟩
theorem mM_boundR {s : sS} {n p k : Nat} (h : mI m aS aL aG aN aB s M) (hok : ts_ok n s) (hn : n < 2 ^ 20) (hp : p < 2) (hk : k < 2 ^ 20) (hg : ts_g s = 1) : ∃ M', rg_ui (rM_bound_146 m (nI p) (nI k) M) = some (if k = ts_n s then (if ts_bd s p then 1 else 0) else -1, M') ∧ mI m aS aL aG aN aB s M' ∧ mX aS aL aG aN aB M M' := by
  have h0 := h
  obtain ⟨H, hI, ⟨V, hV, hs⟩, hN, hB⟩ := h
  have hI0 := hI
  have hK := H.1
  obtain ⟨i1, i2, i3, i4, i5, i6, i7⟩ := hI
  obtain ⟨w1, w2, w3, w4⟩ := hok.2.1 hg
  have hw := hok.w hg p
  have hnn : ts_n s ≤ n := hok.2.2.2.2.2.2.2.2.1.1
  rw [rM_bound_146_e, if_pos hK, i5]
  by_cases ck : k = ts_n s
  · rw [if_pos (by rw [ck]), if_pos ck]
    have sp := rm_spanM H (by rw [i1, hg]) i2 i3 w2 w4
    rw [spn_cong (hN hg) w2 w4] at sp
    have wy : rM_ways m (nI p) M = some (nI (wyc (ts_a s) (ts_e s) p), M) := rm_ways (m := m) (M := M) hK (p := p) (g := 1) (by rw [i1, hg]) i2 i3 (by decide) (by omega)
    obtain ⟨S', L', G', V', r, a1, a2, a3, a4⟩ := rm_b183 H (p := p) (l := ts_lim s p) (z := ((spn (ts_num s) (ts_a s) (ts_e s)).toInt64 * (spn (ts_num s) (ts_a s) (ts_e s)).toInt64 * (nI (wyc (ts_a s) (ts_e s) p)).toInt64) * (nI (ts_n s)).toInt64) hok hg hI0 hp (lim64 (spn_in hok.2.2.2.2.2.1 w2 w4) hw.2 (by omega)) hs _ 0 rfl (Nat.zero_le _) (rg_A M aS) (rg_A M aL) (rg_A M aG) V hV (fun _ _ _ _ _ => rfl) (fun w hw2 => by omega)
    rw [rm_wid] at a1
    have a1 : rM_bound_183 m (nI p) (((spn (ts_num s) (ts_a s) (ts_e s)).toInt64 * (spn (ts_num s) (ts_a s) (ts_e s)).toInt64 * (nI (wyc (ts_a s) (ts_e s) p)).toInt64) * (nI (ts_n s)).toInt64) 0 M = _ := a1
    simp only [hK, if_true, sp, wy, Option.bind_some, i5, a1]
    have m' : mI m aS aL aG aN aB s (rm_w aS aL aG M S' L' G') := mI_w h0 a2 (hs.keep (fun q hq => a3 q (by omega) (by omega) (by omega) (by omega)) (a3 _ (by decide) (by decide) (by decide) (by decide)) (a3 _ (by decide) (by decide) (by decide) (by decide)) (a3 _ (by decide) (by decide) (by decide) (by decide))) rfl rfl rfl (fun _ q => q)
    rcases a4 with ⟨r1, v⟩ | ⟨r0, v⟩
    · rw [if_pos v, r1]
      exact ⟨_, rfl, m', mX_w _ _ _ _⟩
    · rw [if_neg v, r0]
      exact ⟨_, rfl, m', mX_w _ _ _ _⟩
  · rw [if_neg (fun q => ck ((nI_eq (by omega) (by omega)).mp q)), rM_bound_153_e, if_neg ck]
    exact ⟨M, rfl, h0, mX.rf M⟩
theorem mM_bound {s : sS} {n : Nat} (h : mI m aS aL aG aN aB s M) (hok : ts_ok n s) (hn : n < 2 ^ 20) (x : Int32) : ∃ M', rM_bound m x M = some (ts_bound s x, M') ∧ mI m aS aL aG aN aB s M' ∧ mX aS aL aG aN aB M M' := by
  have h0 := h
  obtain ⟨H, hI, ⟨V, hV, hs⟩, hN, hB⟩ := h
  have hI0 := hI
  have H0 := H
  obtain ⟨hK, hS, hL, hG, -, -, kS, kL, kG, -, -, lS, lL, lG, -, -, z1, z2, z3, -⟩ := H
  obtain ⟨i1, i2, i3, i4, i5, i6, i7⟩ := hI
  obtain ⟨n1, n2, n3⟩ := hok.2.2.2.2.2.2.2.2.1
  have gi : ∀ k : Nat, k < 3 → (nI (ts_g s) = nI k ↔ ts_g s = k) := fun k hk => nI_eq (by have := hok.1; omega) (by omega)
  have gi1 : (nI (ts_g s) = (1 : Int32)) ↔ ts_g s = 1 := gi 1 (by decide)
  have gi2 : (nI (ts_g s) = (2 : Int32)) ↔ ts_g s = 2 := gi 2 (by decide)
  have no : rg_ui (rM_bound_153 M) = some (-1, M) := by rw [rM_bound_153_e]; rfl
  have no21 : rg_ui (rM_bound_21 M) = some (-1, M) := by rw [rM_bound_21_e]; rfl
  rw [rM_bound_u, rM_bound_e]
  unfold ts_bound
  by_cases c2 : x = 2
  · rw [if_pos c2, if_neg (show ¬ x = 0 by rw [c2]; decide), if_neg (show ¬ x = 1 by rw [c2]; decide), if_pos c2, if_pos hK, i1]
    by_cases cg2 : ts_g s = 2
    · rw [if_pos (gi2.mpr cg2), if_pos hK, i4]
      obtain ⟨d1, d2⟩ := hok.2.2.2.1 cg2
      have gi3 : (nI (ts_d s) = (3 : Int32)) ↔ ts_d s = 3 := nI_eq (b := 3) (by omega) (by decide)
      by_cases cd : ts_d s = 3
      · rw [if_pos (gi3.mpr cd), if_pos hK, i5, if_pos (show ts_g s = 2 ∧ ts_d s = 3 from ⟨cg2, cd⟩)]
        have gin : (nI (ts_n s) = (0 : Int32)) ↔ ts_n s = 0 := nI_eq (b := 0) (by omega) (by decide)
        by_cases cn : ts_n s = 0
        · rw [if_pos (gin.mpr cn), if_pos (Or.inr (by unfold q_under; rw [cn, Nat.mul_zero]; exact Nat.zero_le _))]
          exact ⟨M, rfl, h0, mX.rf M⟩
        · rw [if_neg (fun q => cn (gin.mp q)), if_pos hK]
          have hg0 : ts_g s ≠ 0 := by omega
          have l := ts_best_L hok hg0 2
          have l1 := cL_rm l.1
          have l2 := cL_rm l.2
          obtain ⟨x, hx⟩ : ∃ x, x = ts_best s 2 := ⟨_, rfl⟩
          rw [← hx] at l1 l2 ⊢
          obtain ⟨S1, L1, G1, V1, a1, a2, a3, a4, a5⟩ := rm_gapM H0 hok hg0 hI0 hN hV hs
          rw [rm_wid] at a1
          rw [← hx] at a4 a5
          obtain ⟨S2, L2, G2, t1, t2⟩ := rm_mulV H0 (a := 409) (b := 409) (c := 411) (ka := 425) (kb := 425) (by decide) (by decide) (by decide) (by decide) (by decide) (by decide) (by decide) a2 (by rw [a4]; exact l1) (by rw [a4]; exact l1) (by decide)
          rw [a4] at t2
          have t1 : rM_multiply m 409 409 411 (rm_w aS aL aG M S1 L1 G1) = _ := t1
          obtain ⟨S3, L3, G3, u1, u2⟩ := rm_scaleV H0 (a := 411) (k := 425 + 425) (by decide) (by decide) (by decide) (by decide) t2 (nI (ts_n s)).toInt64 (by rw [rg_up_eq]; exact l1.mul l1) (by decide)
          rw [Int32.toInt_toInt64, nI_toInt (by omega), rg_up_eq] at u2
          have u1 : rM_scale m 411 (nI (ts_n s)).toInt64 (rm_w aS aL aG M S2 L2 G2) = _ := u1
          obtain ⟨V3, hV3⟩ : ∃ V3, V3 = va_up (va_up (va_up (va_up V1 411 (x.num * x.num)) 417 (ts_n s : Int)) 416 (x.num * x.num * (ts_n s : Int))) 411 (x.num * x.num * (ts_n s : Int)) := ⟨_, rfl⟩
          rw [← hV3] at u2
          have v3 : ∀ q, q ≠ 411 → q ≠ 416 → q ≠ 417 → V3 q = V1 q := fun q a b c => by rw [hV3, rg_up_ne a, rg_up_ne b, rg_up_ne c, rg_up_ne a]
          have v311 : V3 411 = x.num * x.num * (ts_n s : Int) := by rw [hV3, rg_up_eq]
          have e10 : V3 410 = (x.den : Int) := by rw [v3 _ (by decide) (by decide) (by decide)]; exact a5
          obtain ⟨S4, L4, G4, w1, w2⟩ := rm_mulV H0 (a := 410) (b := 410) (c := 412) (ka := 425) (kb := 425) (by decide) (by decide) (by decide) (by decide) (by decide) (by decide) (by decide) u2 (by rw [e10]; exact l2) (by rw [e10]; exact l2) (by decide)
          rw [e10] at w2
          have w1 : rM_multiply m 410 410 412 (rm_w aS aL aG M S3 L3 G3) = _ := w1
          obtain ⟨S5, L5, G5, x1, x2⟩ := rm_scaleV H0 (a := 412) (k := 425 + 425) (by decide) (by decide) (by decide) (by decide) w2 4608 (by rw [rg_up_eq]; exact l2.mul l2) (by decide)
          rw [show (4608 : Int64).toInt = 4608 from rfl, rg_up_eq] at x2
          have x1 : rM_scale m 412 4608 (rm_w aS aL aG M S4 L4 G4) = _ := x1
          obtain ⟨V5, hV5⟩ : ∃ V5, V5 = va_up (va_up (va_up (va_up V3 412 ((x.den : Int) * (x.den : Int))) 417 4608) 416 ((x.den : Int) * (x.den : Int) * 4608)) 412 ((x.den : Int) * (x.den : Int) * 4608) := ⟨_, rfl⟩
          rw [← hV5] at x2
          have v5 : ∀ q, q ≠ 412 → q ≠ 416 → q ≠ 417 → V5 q = V3 q := fun q a b c => by rw [hV5, rg_up_ne a, rg_up_ne b, rg_up_ne c, rg_up_ne a]
          have v512 : V5 412 = (x.den : Int) * (x.den : Int) * 4608 := by rw [hV5, rg_up_eq]
          have v511 : V5 411 = x.num * x.num * (ts_n s : Int) := by rw [v5 _ (by decide) (by decide) (by decide)]; exact v311
          have v509 : V5 409 = x.num := by rw [v5 _ (by decide) (by decide) (by decide), v3 _ (by decide) (by decide) (by decide)]; exact a4
          have sg := x2.sg (a := 409) (by decide) (by decide)
          rw [v509] at sg
          obtain ⟨r, r1, r2⟩ := rm_cmpV H0 (a := 411) (b := 412) (by decide) (by decide) (by decide) (by decide) x2
          have r1 : rM_compare m 411 412 (rm_w aS aL aG M S5 L5 G5) = _ := r1
          rw [v511, v512] at r2
          have e1 : (x.num * x.num * (ts_n s : Int)).natAbs = x.num.natAbs * x.num.natAbs * ts_n s := by rw [Int.natAbs_mul, Int.natAbs_mul, Int.natAbs_natCast]
          have e2 : ((x.den : Int) * (x.den : Int) * 4608).natAbs = x.den * x.den * 4608 := by rw [Int.natAbs_mul, Int.natAbs_mul, Int.natAbs_natCast]; rfl
          rw [e1, e2] at r2
          have m' : mI m aS aL aG aN aB s (rm_w aS aL aG M S5 L5 G5) := mI_w h0 x2 (a3.keep (fun q hq => by rw [v5 q (by omega) (by omega) (by omega), v3 q (by omega) (by omega) (by omega)]) (by rw [v5 _ (by decide) (by decide) (by decide), v3 _ (by decide) (by decide) (by decide)]) (by rw [v5 _ (by decide) (by decide) (by decide), v3 _ (by decide) (by decide) (by decide)]) (by rw [v5 _ (by decide) (by decide) (by decide), v3 _ (by decide) (by decide) (by decide)])) rfl rfl rfl (fun _ q => q)
          have c409 : (409 : Int32).toNatClampNeg = 409 := by decide
          have i409 : (0 : Int32) ≤ 409 := by decide
          simp only [a1, rm_wK, rm_wI, rm_wR, rm_wL, hK, hG, kG, lG, if_true, Option.bind_some, t1, i5, u1, w1, x1, c409, i409, show (409 : Nat) < 420 by decide, and_self, rm_rG z2 z3, sg, rm_sg_le, r1]
          by_cases cs : x.num ≤ 0
          · rw [if_pos cs, rM_bound_108_e, rM_bound_113_e, if_pos (Or.inl cs)]
            exact ⟨_, rfl, m', mX_w _ _ _ _⟩
          · rw [if_neg cs]
            by_cases cu : q_under x (ts_n s) 4608
            · rw [if_neg (fun q => by have := r2.mp q; unfold q_under at cu; omega), rM_bound_108_e, rM_bound_113_e, if_pos (Or.inr cu)]
              exact ⟨_, rfl, m', mX_w _ _ _ _⟩
            · rw [if_pos (r2.mpr (by unfold q_under at cu; omega)), rM_bound_113_e, if_neg (fun q => by rcases q with q | q; exact cs q; exact cu q)]
              exact ⟨_, rfl, m', mX_w _ _ _ _⟩
      · rw [if_neg (fun q => cd (gi3.mp q)), no21, if_neg (fun q => cd q.2)]
        exact ⟨M, rfl, h0, mX.rf M⟩
    · rw [if_neg (fun q => cg2 (gi2.mp q)), no21, if_neg (fun q => cg2 q.1)]
      exact ⟨M, rfl, h0, mX.rf M⟩
  rw [if_neg c2]
  by_cases c0 : x = 0
  · rw [if_pos c0, if_pos c0, rM_bound_123_e, if_pos hK, i1]
    by_cases cg1 : ts_g s = 1
    · rw [if_pos (gi1.mpr cg1), if_pos c0, if_pos hK, i6]
      obtain ⟨M', a1, a2, a3⟩ := mM_boundR h0 hok hn (p := 0) (k := ts_na s) (by decide) (by omega) cg1
      have a1 : rg_ui (rM_bound_146 m 0 (nI (ts_na s)) M) = _ := a1
      rw [c0, a1]
      by_cases ck : ts_na s = ts_n s
      · rw [if_pos ck, if_pos (show ts_g s = 1 ∧ ts_na s = ts_n s from ⟨cg1, ck⟩)]; exact ⟨M', rfl, a2, a3⟩
      · rw [if_neg ck, if_neg (fun q => ck q.2)]; exact ⟨M', rfl, a2, a3⟩
    · rw [if_neg (fun q => cg1 (gi1.mp q)), no, if_neg (fun q => cg1 q.1)]
      exact ⟨M, rfl, h0, mX.rf M⟩
  rw [if_neg c0, if_neg c0]
  by_cases c1 : x = 1
  · rw [if_pos c1, if_pos c1, rM_bound_123_e, if_pos hK, i1]
    by_cases cg1 : ts_g s = 1
    · rw [if_pos (gi1.mpr cg1), if_neg c0, if_pos hK, i7]
      obtain ⟨M', a1, a2, a3⟩ := mM_boundR h0 hok hn (p := 1) (k := ts_nb s) (by decide) (by omega) cg1
      have a1 : rg_ui (rM_bound_146 m 1 (nI (ts_nb s)) M) = _ := a1
      rw [c1, a1]
      by_cases ck : ts_nb s = ts_n s
      · rw [if_pos ck, if_pos (show ts_g s = 1 ∧ ts_nb s = ts_n s from ⟨cg1, ck⟩)]; exact ⟨M', rfl, a2, a3⟩
      · rw [if_neg ck, if_neg (fun q => ck q.2)]; exact ⟨M', rfl, a2, a3⟩
    · rw [if_neg (fun q => cg1 (gi1.mp q)), no, if_neg (fun q => cg1 q.1)]
      exact ⟨M, rfl, h0, mX.rf M⟩
  rw [if_neg c1, if_neg c1, if_neg c2, no]
  exact ⟨M, rfl, h0, mX.rf M⟩
/-- bit by bit: the quotient -/
theorem rm_t117 (H : rm_F m aS aL aG aN aB M) {s : sS} {N D : Nat} {sg : Int32} (hD : 0 < D) (lD : rm_lt (D : Int) 425) {V0 : Nat → Int} (hD0 : V0 381 = (D : Int)) (hN0 : (V0 409).natAbs = N) : ∀ k : Nat, k ≤ 63 → ∀ (v : Nat) (S L G : Nat → Int32) (V : Nat → Int), rm_V S L G V → (∀ q, q ≠ 389 → q ≠ 410 → V q = V0 q) → v % 2 ^ k = 0 → v + 2 ^ k ≤ 2 ^ 63 → v * D ≤ N → N < (v + 2 ^ k) * D → ∃ (S' L' G' : Nat → Int32) (V' : Nat → Int), rM_times_117 m sg (lN v) (nI k - 1) (rm_w aS aL aG M S L G) = some (some (.long (if 0 ≤ sg then lN (N / D) else -(lN (N / D)))), rm_w aS aL aG M S' L' G') ∧ rm_V S' L' G' V' ∧ ∀ q, q ≠ 389 → q ≠ 410 → V' q = V0 q := by
  have hK := H.1
  intro k
  induction k with
  | zero =>
    intro _ v S L G V hV hf hm hle h1 h2
    rw [Nat.pow_zero] at h2
    have e : N / D = v := by
      rw [Nat.div_eq_iff hD]
      rw [Nat.add_mul, Nat.one_mul] at h2
      refine ⟨h1, by omega⟩
    rw [rM_times_117_e, if_pos (by decide), e]
    by_cases c : 0 ≤ sg
    · rw [if_pos c, if_pos c, rM_times_184_e]
      exact ⟨S, L, G, V, rfl, hV, hf⟩
    · rw [if_neg c, if_neg c, rM_times_184_e]
      exact ⟨S, L, G, V, rfl, hV, hf⟩
  | succ k ih =>
    intro hk v S L G V hV hf hm hle h1 h2
    have hk63 : k < 63 := by omega
    have ek : nI (k + 1) - 1 = nI k := pk_sub (a := k + 1) (b := 1) (by omega)
    have p0 : ¬ nI k < 0 := by rw [Int32.not_lt]; exact nI_pos' (by omega)
    have hpw : 2 ^ (k + 1) = 2 ^ k + 2 ^ k := by rw [Nat.pow_succ]; omega
    obtain ⟨q, hq⟩ : ∃ q, v = 2 ^ (k + 1) * q := ⟨v / 2 ^ (k + 1), by rw [Nat.mul_div_cancel' (Nat.dvd_of_mod_eq_zero hm)]⟩
    have eor : lN v ||| ((1 : Int64) <<< ((nI k).toInt64 &&& 63)) = lN (v + 2 ^ k) := by
      have e1 : (1 : Int64) <<< ((nI k).toInt64 &&& 63) = lN (2 ^ k) := by
        have := wb_shl 1 (k := k) (by omega)
        rw [Nat.one_mul] at this; exact this
      rw [e1, hq]
      exact fb_or_sumL (a := 2 ^ k) (k := k + 1) q (by rw [hpw]; have := Nat.pow_pos (n := k) (show 0 < 2 by decide); omega)
    have hpk : 0 < 2 ^ k := Nat.pow_pos (by decide)
    have hv63 : v + 2 ^ k < 2 ^ 63 := by omega
    have et : (lN (v + 2 ^ k)).toInt = ((v + 2 ^ k : Nat) : Int) := by rw [iL_n]; exact iL_t (by omega) (by omega)
    obtain ⟨S1, L1, G1, a1, a2⟩ := rm_isV H (c := 410) (by decide) hV (lN (v + 2 ^ k))
    rw [et] at a2
    have a1 : rM_is m 410 (lN (v + 2 ^ k)) (rm_w aS aL aG M S L G) = _ := a1
    have e81 : va_up V 410 ((v + 2 ^ k : Nat) : Int) 381 = (D : Int) := by rw [rg_up_ne (by decide), hf _ (by decide) (by decide)]; exact hD0
    have lv : rm_lt ((v + 2 ^ k : Nat) : Int) 2 := by unfold rm_lt; rw [Int.natAbs_natCast]; exact Nat.lt_of_lt_of_le hv63 (by decide)
    obtain ⟨S2, L2, G2, b1, b2⟩ := rm_mulV H (a := 410) (b := 381) (c := 389) (ka := 2) (kb := 425) (by decide) (by decide) (by decide) (by decide) (by decide) (by decide) (by decide) a2 (by rw [rg_up_eq]; exact lv) (by rw [e81]; exact lD) (by decide)
    rw [rg_up_eq, e81] at b2
    have b1 : rM_multiply m 410 381 389 (rm_w aS aL aG M S1 L1 G1) = _ := b1
    obtain ⟨r, r1, r2⟩ := rm_cmpV H (a := 389) (b := 409) (by decide) (by decide) (by decide) (by decide) b2
    have r1 : rM_compare m 389 409 (rm_w aS aL aG M S2 L2 G2) = _ := r1
    have e9 : (va_up (va_up V 410 ((v + 2 ^ k : Nat) : Int)) 389 (((v + 2 ^ k : Nat) : Int) * (D : Int)) 409).natAbs = N := by rw [rg_up_ne (by decide), rg_up_ne (by decide), hf _ (by decide) (by decide)]; exact hN0
    have e8 : (((v + 2 ^ k : Nat) : Int) * (D : Int)).natAbs = (v + 2 ^ k) * D := by rw [Int.natAbs_mul, Int.natAbs_natCast, Int.natAbs_natCast]
    rw [e9, rg_up_eq, e8] at r2
    have f2 : ∀ q, q ≠ 389 → q ≠ 410 → va_up (va_up V 410 ((v + 2 ^ k : Nat) : Int)) 389 (((v + 2 ^ k : Nat) : Int) * (D : Int)) q = V0 q := fun q x1 x2 => by rw [rg_up_ne x1, rg_up_ne x2, hf q x1 x2]
    have em : nI k + (-1) = nI k - 1 := by rw [Int32.sub_eq_add_neg]
    rw [ek, rM_times_117_e, if_neg p0]
    simp only [rm_wK, hK, if_true, eor, a1, b1, r1, Option.bind_some]
    have hmk : v % 2 ^ k = 0 := by rw [hq, hpw, Nat.add_mul, ← Nat.mul_add]; exact Nat.mul_mod_right _ _
    by_cases c : N < (v + 2 ^ k) * D
    · rw [if_pos (r2.mpr c), rM_times_168_e, em]
      exact ih (by omega) v S2 L2 G2 _ b2 f2 hmk (by omega) h1 c
    · rw [if_neg (fun q => c (r2.mp q)), rM_times_168_e, em]
      exact ih (by omega) (v + 2 ^ k) S2 L2 G2 _ b2 f2 (by rw [Nat.add_mod_right]; exact hmk) (by omega) (by omega) (by rw [Nat.add_assoc, ← hpw]; exact h2)
theorem mM_times {s : sS} {n : Nat} (h : mI m aS aL aG aN aB s M) (hok : ts_ok n s) (x : Int32) : ∃ M', rM_times m x M = some (ts_times s x, M') ∧ mI m aS aL aG aN aB s M' ∧ mX aS aL aG aN aB M M' := by
  have h0 := h
  obtain ⟨H, hI, ⟨V, hV, hs⟩, hN, hB⟩ := h
  have H0 := H
  obtain ⟨hK, hS, hL, hG, -, -, kS, kL, kG, -, -, lS, lL, lG, -, -, z1, z2, z3, -⟩ := H
  have hq := hok.2.2.2.2.2.2.2.1
  have no : ¬ (1 ≤ x ∧ x ≤ 1000000000) → ∃ M', rg_ul (rM_times_11 M) = some (ts_times s x, M') ∧ mI m aS aL aG aN aB s M' ∧ mX aS aL aG aN aB M M' := fun q => by
    rw [rM_times_11_e, show ts_times s x = -9223372036854775808 from if_neg q]
    exact ⟨M, rfl, h0, mX.rf M⟩
  rw [rM_times_u, rM_times_e]
  by_cases c1 : x < 1
  · rw [if_pos c1]; exact no (fun q => absurd c1 ((i32_rng _ _ _).mp q).1)
  rw [if_neg c1]
  by_cases c2 : x ≤ 1000000000
  · have cx : 1 ≤ x ∧ x ≤ 1000000000 := ⟨Int32.not_lt.mp c1, c2⟩
    rw [if_pos c2, if_pos hK, show ts_times s x = qCut (ts_v s) x.toInt from if_pos cx]
    obtain ⟨f, hf1, hf2, hf3⟩ : ∃ f : Nat, x.toInt = (f : Int) ∧ 1 ≤ f ∧ f ≤ 1000000000 := by
      obtain ⟨q1, q2⟩ := cx
      rw [Int32.le_iff_toInt_le] at q1 q2
      have q1 : (1 : Int) ≤ x.toInt := q1
      have q2 : x.toInt ≤ (1000000000 : Int) := q2
      exact ⟨x.toInt.toNat, by omega, by omega, by omega⟩
    obtain ⟨v, hv⟩ : ∃ v, v = ts_v s := ⟨_, rfl⟩
    rw [← hv] at hq ⊢
    have l1 := cL_rm hq.1
    have l2 := cL_rm hq.2
    have e80 : V 380 = v.num := by rw [hv]; exact hs.2.1
    have e81 : V 381 = (v.den : Int) := by rw [hv]; exact hs.2.2.1
    obtain ⟨S1, L1, G1, a1, a2⟩ := rm_copyV H0 (a := 380) (c := 409) (by decide) (by decide) (by decide) hV (by rw [e80]; exact l1.mono (by decide))
    rw [rm_wid] at a1
    rw [e80] at a2
    have a1 : rM_copy m 380 409 M = _ := a1
    obtain ⟨S2, L2, G2, b1, b2⟩ := rm_scaleV H0 (a := 409) (k := 425) (by decide) (by decide) (by decide) (by decide) a2 x.toInt64 (by rw [rg_up_eq]; exact l1) (by decide)
    rw [Int32.toInt_toInt64, rg_up_eq, hf1] at b2
    have b1 : rM_scale m 409 x.toInt64 (rm_w aS aL aG M S1 L1 G1) = _ := b1
    obtain ⟨V2, hV2⟩ : ∃ V2, V2 = va_up (va_up (va_up (va_up V 409 v.num) 417 (f : Int)) 416 (v.num * (f : Int))) 409 (v.num * (f : Int)) := ⟨_, rfl⟩
    rw [← hV2] at b2
    have v2 : ∀ q, q ≠ 409 → q ≠ 416 → q ≠ 417 → V2 q = V q := fun q a b c => by rw [hV2, rg_up_ne a, rg_up_ne b, rg_up_ne c, rg_up_ne a]
    have v209 : V2 409 = v.num * (f : Int) := by rw [hV2, rg_up_eq]
    have sg := b2.sg (a := 409) (by decide) (by decide)
    rw [v209] at sg
    have c409 : (409 : Int32).toNatClampNeg = 409 := by decide
    have i409 : (0 : Int32) ≤ 409 := by decide
    have mk : ∀ (S L G : Nat → Int32) (V' : Nat → Int), rm_V S L G V' → (∀ q, (q < 382 ∨ q = 413) → V' q = V q) → mI m aS aL aG aN aB s (rm_w aS aL aG M S L G) := fun S L G V' h1 h2 => mI_w h0 h1 (hs.keep (fun q hq => h2 q (by omega)) (h2 _ (by omega)) (h2 _ (by omega)) (h2 _ (by omega))) rfl rfl rfl (fun _ q => q)
    simp only [a1, b1, rm_wK, rm_wR, rm_wL, hK, hG, kG, lG, if_true, Option.bind_some, c409, i409, show (409 : Nat) < 420 by decide, and_self, rm_rG z2 z3, sg]
    have hden := v.den_pos
    have hfI : (f : Int) ≠ 0 := by omega
    by_cases cz : v.num = 0
    · have e0 : v.num * (f : Int) = 0 := by rw [cz, Int.zero_mul]
      rw [e0, if_pos (show rm_sg 0 = 0 from rfl)]
      refine ⟨_, ?_, mk S2 L2 G2 V2 b2 (fun q hq => v2 q (by omega) (by omega) (by omega)), mX_w _ _ _ _⟩
      have eq : qCut v x.toInt = 0 := by
        unfold qCut
        rw [cz, Int.zero_mul, Int.natAbs_zero, Nat.zero_div, if_pos (by decide)]
        rfl
      rw [eq]; rfl
    · have hne : v.num * (f : Int) ≠ 0 := Int.mul_ne_zero cz hfI
      have hsg : ¬ rm_sg (v.num * (f : Int)) = 0 := fun q => by
        rcases (show v.num * (f : Int) < 0 ∨ 0 < v.num * (f : Int) by omega) with e | e
        · rw [rm_sg_n e] at q; exact absurd q (by decide)
        · rw [rm_sg_p e] at q; exact absurd q (by decide)
      rw [if_neg hsg]
      -- the number without its sign
      obtain ⟨N, hN'⟩ : ∃ N, N = (v.num * (f : Int)).natAbs := ⟨_, rfl⟩
      have hR := b2 409 (by decide) (by decide)
      have b3 : rm_V S2 L2 (upd G2 409 1) (va_up V2 409 (N : Int)) := by
        intro a ha h7
        by_cases e : a = 409
        · subst e
          obtain ⟨nn, r1, r2, r3, r4, r5⟩ := hR
          refine ⟨nn, r1, r2, r3, ?_, ?_⟩
          · rw [rg_up_eq, rm_sg_p (by omega)]; unfold upd; rw [if_pos rfl]
          · rw [rg_up_eq, Int.natAbs_natCast, hN', ← v209]; exact r5
        · obtain ⟨nn, r1, r2, r3, r4, r5⟩ := b2 a ha h7
          refine ⟨nn, r1, r2, r3, ?_, ?_⟩
          · rw [rg_up_ne e]; unfold upd; rw [if_neg e]; exact r4
          · rw [rg_up_ne e]; exact r5
      simp only [rm_wG z2 z3]
      obtain ⟨S3, L3, G3, d1, d2⟩ := rm_isV H0 (c := 410) (by decide) b3 9223372036854775807
      rw [show (9223372036854775807 : Int64).toInt = 9223372036854775807 from rfl] at d2
      have d1 : rM_is m 410 9223372036854775807 (rm_w aS aL aG M S2 L2 (upd G2 409 1)) = _ := d1
      have f3 : ∀ q, q ≠ 409 → q ≠ 410 → va_up (va_up V2 409 (N : Int)) 410 9223372036854775807 q = V2 q := fun q a b => by rw [rg_up_ne b, rg_up_ne a]
      have e13 : va_up (va_up V2 409 (N : Int)) 410 9223372036854775807 413 = 1 := by rw [f3 _ (by decide) (by decide), v2 _ (by decide) (by decide) (by decide)]; exact hs.2.2.2
      obtain ⟨S4, L4, G4, x1, x2⟩ := rm_plusV H0 (a := 410) (b := 413) (c := 410) (by decide) (by decide) (by decide) (by decide) (by decide) d2 (by rw [rg_up_eq]; exact (show rm_lt 9223372036854775807 2 by unfold rm_lt; decide).mono (by decide)) (by rw [e13]; exact rm_lt_one (by decide))
      rw [rg_up_eq, e13, rg_up_up] at x2
      have x1 : rM_plus m 410 413 410 (rm_w aS aL aG M S3 L3 G3) = _ := x1
      have x2 : rm_V S4 L4 G4 (va_up (va_up V2 409 (N : Int)) 410 9223372036854775808) := x2
      have e81' : va_up (va_up V2 409 (N : Int)) 410 9223372036854775808 381 = (v.den : Int) := by rw [rg_up_ne (by decide), rg_up_ne (by decide), v2 _ (by decide) (by decide) (by decide)]; exact e81
      obtain ⟨S5, L5, G5, y1, y2⟩ := rm_mulV H0 (a := 410) (b := 381) (c := 389) (ka := 2) (kb := 425) (by decide) (by decide) (by decide) (by decide) (by decide) (by decide) (by decide) x2 (by rw [rg_up_eq]; unfold rm_lt; decide) (by rw [e81']; exact l2) (by decide)
      rw [rg_up_eq, e81'] at y2
      have y1 : rM_multiply m 410 381 389 (rm_w aS aL aG M S4 L4 G4) = _ := y1
      obtain ⟨V5, hV5⟩ : ∃ V5, V5 = va_up (va_up (va_up V2 409 (N : Int)) 410 9223372036854775808) 389 (9223372036854775808 * (v.den : Int)) := ⟨_, rfl⟩
      rw [← hV5] at y2
      have v5 : ∀ q, q ≠ 389 → q ≠ 409 → q ≠ 410 → V5 q = V2 q := fun q a b c => by rw [hV5, rg_up_ne a, rg_up_ne c, rg_up_ne b]
      have v509 : V5 409 = (N : Int) := by rw [hV5, rg_up_ne (by decide), rg_up_ne (by decide), rg_up_eq]
      have v589 : V5 389 = 9223372036854775808 * (v.den : Int) := by rw [hV5, rg_up_eq]
      have v581 : V5 381 = (v.den : Int) := by rw [v5 _ (by decide) (by decide) (by decide), v2 _ (by decide) (by decide) (by decide)]; exact e81
      obtain ⟨r, r1, r2⟩ := rm_cmpV H0 (a := 389) (b := 409) (by decide) (by decide) (by decide) (by decide) y2
      have r1 : rM_compare m 389 409 (rm_w aS aL aG M S5 L5 G5) = _ := r1
      have e8 : (9223372036854775808 * (v.den : Int)).natAbs = 2 ^ 63 * v.den := by rw [Int.natAbs_mul, Int.natAbs_natCast]; rfl
      rw [v509, v589, Int.natAbs_natCast, e8] at r2
      simp only [d1, x1, y1, r1, rm_wK, hK, if_true, Option.bind_some]
      have eqc : qCut v x.toInt = if N / v.den < 9223372036854775808 then iL (sgm v.num (N / v.den)) else -9223372036854775808 := by
        unfold qCut; rw [hf1, ← hN']
      rw [eqc]
      have f5 : ∀ q, (q < 382 ∨ q = 413) → V5 q = V q := fun q hq => by rw [v5 q (by omega) (by omega) (by omega), v2 q (by omega) (by omega) (by omega)]
      by_cases cb : N < 2 ^ 63 * v.den
      · rw [if_pos (r2.mpr cb), if_pos (show N / v.den < 9223372036854775808 from (Nat.div_lt_iff_lt_mul hden).mpr cb)]
        obtain ⟨S6, L6, G6, V6, t1, t2, t3⟩ := rm_t117 H0 (s := s) (N := N) (D := v.den) (sg := rm_sg (v.num * (f : Int))) hden l2 v581 (by rw [v509, Int.natAbs_natCast]) 63 (Nat.le_refl _) 0 S5 L5 G5 V5 y2 (fun _ _ _ => rfl) (Nat.zero_mod _) (by decide) (by rw [Nat.zero_mul]; exact Nat.zero_le _) (by rw [Nat.zero_add]; exact cb)
        have t1 : rM_times_117 m (rm_sg (v.num * (f : Int))) 0 62 (rm_w aS aL aG M S5 L5 G5) = _ := t1
        rw [t1]
        refine ⟨_, ?_, mk S6 L6 G6 V6 t2 (fun q hq => by rw [t3 q (by omega) (by omega), f5 q hq]), mX_w _ _ _ _⟩
        have hq63 : N / v.den < 9223372036854775808 := (Nat.div_lt_iff_lt_mul hden).mpr cb
        have es : (if 0 ≤ rm_sg (v.num * (f : Int)) then lN (N / v.den) else -(lN (N / v.den))) = iL (sgm v.num (N / v.den)) := by
          unfold sgm
          rcases (show v.num < 0 ∨ 0 < v.num by omega) with e | e
          · have e2 : v.num * (f : Int) < 0 := Int.mul_neg_of_neg_of_pos e (by omega)
            rw [rm_sg_n e2, if_neg (by decide), if_pos e, iL_n, iL_neg]
          · have e2 : 0 < v.num * (f : Int) := Int.mul_pos e (by omega)
            rw [rm_sg_p e2, if_pos (by decide), if_neg (by omega), iL_n]
        rw [es]; rfl
      · rw [if_neg (fun q => cb (r2.mp q)), if_neg (fun q => cb ((Nat.div_lt_iff_lt_mul hden).mp q))]
        exact ⟨_, rfl, mk S5 L5 G5 V5 y2 f5, mX_w _ _ _ _⟩
  · rw [if_neg c2]; exact no (fun q => c2 q.2)
end

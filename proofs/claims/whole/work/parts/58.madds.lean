section
variable {m aS aL aG aN aB : Nat} {M : rg_M}
theorem rm_lt_bits {v : Int} (h : rm_bits v.natAbs ≤ 256) : rm_lt v 8 := by
  unfold rm_lt
  have h1 := rm_bits_lt v.natAbs
  have h2 : rm_B ^ 8 = 2 ^ 256 := by decide
  rw [h2]
  exact Nat.lt_of_lt_of_le h1 (Nat.pow_le_pow_right (by decide) h)
theorem rm_bits_words {v : Int} {k : Nat} (h : rm_lt v k) : rm_bits v.natAbs ≤ 32 * k := by
  unfold rm_lt at h
  rw [show rm_B = 2 ^ 32 from rfl, ← Nat.pow_mul] at h
  exact rm_bits_mono h
/-- a fraction and DN / DD: the sum in lowest terms, kept as the next one if it isn't GREAT -/
theorem rm_addsV (H : rm_F m aS aL aG aN aB M) {o s k : Nat} (ho : o = 0 ∨ o = 80) (hs : s < 40) {S L G : Nat → Int32} {V : Nat → Int} (hV : rm_V S L G V) (hn8 : rm_lt (V (o + s)) 8) (hd8 : rm_lt (V (o + 40 + s)) 8) (hd0 : 0 < V (o + 40 + s)) (hDN : rm_lt (V 407) k) (hDD : rm_lt (V 408) k) (hDD0 : 0 < V 408) (hk : k ≤ 4000) :
    ∃ (x y : Int) (S' L' G' : Nat → Int32) (V' : Nat → Int), x = (V (o + s) * V 408 + V (o + 40 + s) * V 407) / (Int.gcd (V (o + s) * V 408 + V (o + 40 + s) * V 407) (V (o + 40 + s) * V 408) : Int) ∧ y = (V (o + 40 + s) * V 408) / (Int.gcd (V (o + s) * V 408 + V (o + 40 + s) * V 407) (V (o + 40 + s) * V 408) : Int) ∧
      rM_adds m (nI o) (nI s) (rm_w aS aL aG M S L G) = some (if rm_bits x.natAbs ≤ 256 ∧ rm_bits y.natAbs ≤ 256 then 1 else 0, (rm_w aS aL aG M S' L' G')) ∧ rm_V S' L' G' V' ∧ (rm_bits x.natAbs ≤ 256 ∧ rm_bits y.natAbs ≤ 256 → V' (160 + o + s) = x ∧ V' (200 + o + s) = y) ∧ ∀ q, q ≠ 160 + o + s → q ≠ 200 + o + s → q ≠ 386 → (q < 389 ∨ 392 < q) → V' q = V q := by
  have hK := H.1
  have c89 : rm_cap 389 = 4200 := by decide
  have c90 : rm_cap 390 = 4200 := by decide
  have c91 : rm_cap 391 = 4200 := by decide
  have c92 : rm_cap 392 = 4200 := by decide
  obtain ⟨S1, L1, G1, t1, t2⟩ := rm_mulV H (a := o + s) (b := 408) (c := 389) (ka := 8) (kb := k) (by omega) (by omega) (by omega) (by omega) (by omega) (by omega) (by omega) hV hn8 hDD (by omega)
  have f1 : ∀ q, q ≠ 389 → va_up V 389 (V (o + s) * V 408) q = V q := fun q h => rg_up_ne h
  obtain ⟨S2, L2, G2, u1, u2⟩ := rm_mulV H (a := o + 40 + s) (b := 407) (c := 390) (ka := 8) (kb := k) (by omega) (by omega) (by omega) (by omega) (by omega) (by omega) (by omega) t2 (by rw [f1 _ (by omega)]; exact hd8) (by rw [f1 _ (by omega)]; exact hDN) (by omega)
  rw [f1 _ (by omega), f1 407 (by omega)] at u2
  have e1 : va_up (va_up V 389 (V (o + s) * V 408)) 390 (V (o + 40 + s) * V 407) 389 = V (o + s) * V 408 := by rw [rg_up_ne (by omega), rg_up_eq]
  obtain ⟨S3, L3, G3, v1, v2⟩ := rm_plusV H (a := 389) (b := 390) (c := 391) (by omega) (by omega) (by omega) (by omega) (by omega) u2 (by rw [e1]; exact (hn8.mul hDD).mono (by omega)) (by rw [rg_up_eq]; exact (hd8.mul hDN).mono (by omega))
  rw [e1, rg_up_eq] at v2
  have f3 : ∀ q, q ≠ 389 → q ≠ 390 → q ≠ 391 → va_up (va_up (va_up V 389 (V (o + s) * V 408)) 390 (V (o + 40 + s) * V 407)) 391 (V (o + s) * V 408 + V (o + 40 + s) * V 407) q = V q := fun q a b c => by rw [rg_up_ne c, rg_up_ne b, rg_up_ne a]
  obtain ⟨S4, L4, G4, w1, w2⟩ := rm_mulV H (a := o + 40 + s) (b := 408) (c := 392) (ka := 8) (kb := k) (by omega) (by omega) (by omega) (by omega) (by omega) (by omega) (by omega) v2 (by rw [f3 _ (by omega) (by omega) (by omega)]; exact hd8) (by rw [f3 _ (by omega) (by omega) (by omega)]; exact hDD) (by omega)
  rw [f3 _ (by omega) (by omega) (by omega), f3 408 (by omega) (by omega) (by omega)] at w2
  obtain ⟨V4, hV4⟩ : ∃ V4, V4 = va_up (va_up (va_up (va_up V 389 (V (o + s) * V 408)) 390 (V (o + 40 + s) * V 407)) 391 (V (o + s) * V 408 + V (o + 40 + s) * V 407)) 392 (V (o + 40 + s) * V 408) := ⟨_, rfl⟩
  rw [← hV4] at w2
  have g91 : V4 391 = V (o + s) * V 408 + V (o + 40 + s) * V 407 := by rw [hV4, rg_up_ne (by omega), rg_up_eq]
  have g92 : V4 392 = V (o + 40 + s) * V 408 := by rw [hV4, rg_up_eq]
  have f4 : ∀ q, (q < 389 ∨ 392 < q) → V4 q = V q := fun q h => by rw [hV4, rg_up_ne (by omega), f3 q (by omega) (by omega) (by omega)]
  obtain ⟨g, S5, L5, G5, x1, x2⟩ := rm_lowerV H (n := 391) (d := 392) (by omega) (by omega) (by omega) (by omega) (by omega) (by omega) (by omega) w2 (by rw [g92]; exact Int.mul_pos hd0 hDD0)
  rw [g91, g92] at x2
  obtain ⟨x, hx⟩ : ∃ x, x = (V (o + s) * V 408 + V (o + 40 + s) * V 407) / (Int.gcd (V (o + s) * V 408 + V (o + 40 + s) * V 407) (V (o + 40 + s) * V 408) : Int) := ⟨_, rfl⟩
  obtain ⟨y, hy⟩ : ∃ y, y = (V (o + 40 + s) * V 408) / (Int.gcd (V (o + s) * V 408 + V (o + 40 + s) * V 407) (V (o + 40 + s) * V 408) : Int) := ⟨_, rfl⟩
  rw [← hx, ← hy] at x2
  have xl : rm_lt x 4100 := by
    rw [hx]
    exact ((((hn8.mul hDD).add (hd8.mul hDN)).mono (by omega)).div (Int.gcd_dvd_left _ _))
  have yl : rm_lt y 4100 := by
    rw [hy]
    exact (((hd8.mul hDD).mono (by omega)).div (Int.gcd_dvd_right _ _))
  have b1 := rm_bitsOf H (a := 391) (by omega) (x2 391 (by omega) (by omega))
  have b2 := rm_bitsOf H (a := 392) (by omega) (x2 392 (by omega) (by omega))
  rw [rg_up_ne (by omega), rg_up_eq] at b1
  rw [rg_up_eq] at b2
  have bx := rm_bits_words xl
  have by_ := rm_bits_words yl
  have e256 : (256 : Int32) = nI 256 := rfl
  have ea : nI o + nI s = nI (o + s) := nI_add o s
  have eb : nI o + (40 : Int32) + nI s = nI (o + 40 + s) := by rw [show (40 : Int32) = nI 40 from rfl, nI_add, nI_add]
  have ec : (160 : Int32) + nI o + nI s = nI (160 + o + s) := by rw [show (160 : Int32) = nI 160 from rfl, nI_add, nI_add]
  have ed : (160 : Int32) + nI o + (40 : Int32) + nI s = nI (200 + o + s) := by rw [show (160 : Int32) = nI 160 from rfl, show (40 : Int32) = nI 40 from rfl, nI_add, nI_add, nI_add, show 160 + o + 40 + s = 200 + o + s by omega]
  have t1 : rM_multiply m (nI (o + s)) 408 389 (rm_w aS aL aG M S L G) = _ := t1
  have u1 : rM_multiply m (nI (o + 40 + s)) 407 390 (rm_w aS aL aG M S1 L1 G1) = _ := u1
  have v1 : rM_plus m 389 390 391 (rm_w aS aL aG M S2 L2 G2) = _ := v1
  have w1 : rM_multiply m (nI (o + 40 + s)) 408 392 (rm_w aS aL aG M S3 L3 G3) = _ := w1
  have x1 : rM_lower m 391 392 (rm_w aS aL aG M S4 L4 G4) = _ := x1
  have b1 : rM_bitsOf m 391 (rm_w aS aL aG M S5 L5 G5) = _ := b1
  have b2 : rM_bitsOf m 392 (rm_w aS aL aG M S5 L5 G5) = _ := b2
  have f5 : ∀ q, q ≠ 386 → (q < 389 ∨ 392 < q) → va_up (va_up (va_up V4 386 g) 391 x) 392 y q = V q := fun q a b => by rw [rg_up_ne (by omega), rg_up_ne (by omega), rg_up_ne a, f4 q b]
  refine ⟨x, y, ?_⟩
  rw [rM_adds_u, rM_adds_e]
  simp only [rm_wK, hK, if_true, ea, eb, ec, ed, t1, u1, v1, w1, x1, b1, Option.bind_some]
  by_cases h1 : rm_bits x.natAbs ≤ 256
  · rw [if_neg (by rw [e256, nI_ltI (by omega) (by omega)]; omega)]
    simp only [rm_wK, hK, if_true, b2, Option.bind_some]
    by_cases h2 : rm_bits y.natAbs ≤ 256
    · rw [if_pos (by rw [e256, nI_leI (by omega) (by omega)]; exact h2)]
      have ca : rm_cap (160 + o + s) = 260 := by unfold rm_cap; rw [if_pos (by omega)]
      have cb : rm_cap (200 + o + s) = 260 := by unfold rm_cap; rw [if_pos (by omega)]
      have g1 : va_up (va_up (va_up V4 386 g) 391 x) 392 y 391 = x := by rw [rg_up_ne (by omega), rg_up_eq]
      obtain ⟨S6, L6, G6, y1, y2⟩ := rm_copyV H (a := 391) (c := 160 + o + s) (by omega) (by omega) (by omega) x2 (by rw [g1, ca]; exact (rm_lt_bits h1).mono (by omega))
      rw [g1] at y2
      have g2 : va_up (va_up (va_up (va_up V4 386 g) 391 x) 392 y) (160 + o + s) x 392 = y := by rw [rg_up_ne (by omega), rg_up_eq]
      obtain ⟨S7, L7, G7, z1, z2⟩ := rm_copyV H (a := 392) (c := 200 + o + s) (by omega) (by omega) (by omega) y2 (by rw [g2, cb]; exact (rm_lt_bits h2).mono (by omega))
      rw [g2] at z2
      have y1 : rM_copy m 391 (nI (160 + o + s)) (rm_w aS aL aG M S5 L5 G5) = _ := y1
      have z1 : rM_copy m 392 (nI (200 + o + s)) (rm_w aS aL aG M S6 L6 G6) = _ := z1
      simp only [rm_wK, hK, if_true, y1, z1, Option.bind_some]
      refine ⟨S7, L7, G7, _, hx, hy, by rw [if_pos ⟨h1, h2⟩]; rfl, z2, fun _ => ⟨?_, rg_up_eq⟩, fun q a b c d => ?_⟩
      · rw [rg_up_ne (by omega), rg_up_eq]
      · rw [rg_up_ne b, rg_up_ne a, f5 q c d]
    · rw [if_neg (by rw [e256, nI_leI (by omega) (by omega)]; exact h2), rM_adds_94_e]
      exact ⟨S5, L5, G5, _, hx, hy, by rw [if_neg (fun h => h2 h.2)]; rfl, x2, fun h => absurd h.2 h2, fun q _ _ c d => f5 q c d⟩
  · rw [if_pos (by rw [e256, nI_ltI (by omega) (by omega)]; omega), rM_adds_94_e]
    exact ⟨S5, L5, G5, _, hx, hy, by rw [if_neg (fun h => h1 h.1)]; rfl, x2, fun h => absurd h.1 h1, fun q _ _ c d => f5 q c d⟩
end

/-! the reference: a table of numbers -/
theorem qs_ind {f : Nat → Rat} {m : Nat} : ∀ {n : Nat}, m < n → qs (fun v => (if v = m then 1 else 0) * f v) n = f m
  | 0, h => by omega
  | n + 1, h => by
    rw [qs_s]
    by_cases c : m = n
    · have h0 : qs (fun v => (if v = m then 1 else 0) * f v) n = qs (fun _ => (0 : Rat)) n := qs_cong (fun k hk => by rw [if_neg (by omega), Rat.zero_mul])
      rw [h0, qs_const, Rat.mul_zero, Rat.zero_add, if_pos c.symm, Rat.one_mul, c]
    · rw [qs_ind (n := n) (by omega), if_neg (fun e => c e.symm), Rat.zero_mul, Rat.add_zero]
theorem qv_sub1 {T G Z : Int} {A : Rat} (hT : 0 < T) (h : A * (T : Rat) = (Z : Rat)) : qv (T * G - Z) T = (G : Rat) - A := by
  refine (qv_eq hT ?_).symm
  rw [Rat.intCast_sub, Rat.intCast_mul, ← h]
  grind
theorem qv_sub2 {T T' F Z : Int} {A W : Rat} (hT : 0 < T) (hT' : 0 < T') (hF : W * (T' : Rat) = (F : Rat)) (h : A * ((T : Rat) * (T' : Rat)) = (Z : Rat)) : qv (T * F - Z) (T * T') = W - A := by
  refine (qv_eq (Int.mul_pos hT hT') ?_).symm
  rw [Rat.intCast_sub, Rat.intCast_mul, Rat.intCast_mul, ← h, ← hF]
  grind
section
variable {m aS aL aG aN aB : Nat} {M : rg_M}
theorem rm_gets1 (H : rm_F m aS aL aG aN aB M) {p w v : Nat} (hp : p < 2) (hw : w < 5) (hv : v < 5) (S L G : Nat → Int32) : rM_gets m (nI p) (nI w) (nI v) (rm_w aS aL aG M S L G) = some (gI (rg_A M aN) p w v, rm_w aS aL aG M S L G) := by
  obtain ⟨hK, -, -, -, hN, -, -, -, -, kN, -, -, -, -, lN, -, -, -, -, n1, n2, n3⟩ := H
  have eA : rg_A (rm_w aS aL aG M S L G) aN = rg_A M aN := (if_neg n1).trans ((if_neg n2).trans (if_neg n3))
  have i1 : (5 : Int32) * nI w + nI v = nI (w * 5 + v) := by rw [show (5 : Int32) = nI 5 from rfl, pk_mul, nI_add, Nat.mul_comm]
  have i2 : (5 : Int32) * nI v + nI w = nI (v * 5 + w) := by rw [show (5 : Int32) = nI 5 from rfl, pk_mul, nI_add, Nat.mul_comm]
  have k1 := nI_clamp (n := w * 5 + v) (by omega)
  have k2 := rm_i0 (a := w * 5 + v) (by omega)
  have k3 : w * 5 + v < 25 := by omega
  have l1 := nI_clamp (n := v * 5 + w) (by omega)
  have l2 := rm_i0 (a := v * 5 + w) (by omega)
  have l3 : v * 5 + w < 25 := by omega
  rw [rM_gets_u, rM_gets_e]
  unfold gI
  rcases (show p = 0 ∨ p = 1 by omega) with e | e
  · subst e
    rw [if_pos (show nI 0 = (0 : Int32) from rfl), if_pos rfl]
    simp only [rm_wK, rm_wR, rm_wL, hK, hN, kN, lN, if_true, Option.bind_some, i1, k1, k2, k3, and_self, eA, rM_gets_28_e]
    rfl
  · subst e
    rw [if_neg (show ¬ nI 1 = (0 : Int32) by decide), if_neg (show ¬ (1 : Nat) = 0 by decide)]
    simp only [rm_wK, rm_wR, rm_wL, hK, hN, kN, lN, if_true, Option.bind_some, i2, l1, l2, l3, and_self, eA, rM_gets_28_e]
    rfl
theorem rm_lt_g {g : Int} (h : g.natAbs ≤ 1000) : rm_lt g 1 := rm_lt_small (by omega)
/-- Z1 := what the mix gets, against a told move -/
theorem rm_ag16 (H : rm_F m aS aL aG aN aB M) {r c p k n : Nat} (hg : rg_I M 115 m = nI 1) (hr : rg_I M 116 m = nI r) (hc : rg_I M 117 m = nI c) (hp : p < 2) (hwy : rm_wy 1 r c p = n) (hn : n ≤ 5) (hk : k < 5) (hnum : ∀ i, i < 25 → (rg_A M aN i).toInt.natAbs ≤ 1000) {u : Nat → Int} (hlu : ∀ w, w < n → rm_lt (u w) 41) : ∀ d j : Nat, n - j = d → j ≤ n → ∀ (S L G : Nat → Int32) (V : Nat → Int), rm_V S L G V → (∀ w, w < n → V (320 + rm_sl 1 p w) = u w) → V 409 = fb_si (fun w => u w * gT (rg_A M aN) p w k) j →
    ∃ (S' L' G' : Nat → Int32) (V' : Nat → Int), rM_against_16 m (nI p) (nI k) (nI j) (rm_w aS aL aG M S L G) = rM_against_81 m (nI p) (nI k) 1 0 (rm_w aS aL aG M S' L' G') ∧ rm_V S' L' G' V' ∧ V' 409 = fb_si (fun w => u w * gT (rg_A M aN) p w k) n ∧ ∀ q, q ≠ 409 → q ≠ 410 → q ≠ 416 → q ≠ 417 → V' q = V q := by
  have hK := H.1
  intro d
  induction d with
  | zero =>
    intro j hd hj S L G V hV hw hZ
    have e : j = n := by omega
    have wy := rm_ways (m := m) (M := (rm_w aS aL aG M S L G)) hK (p := p) hg hr hc (by decide) (by omega)
    rw [hwy] at wy
    rw [rM_against_16_e]
    simp only [rm_wK, hK, if_true, wy, Option.bind_some, e, Int32.le_refl]
    rw [e] at hZ
    exact ⟨S, L, G, V, rfl, hV, hZ, fun _ _ _ _ _ => rfl⟩
  | succ d ih =>
    intro j hd hj S L G V hV hw hZ
    have hjn : j < n := by omega
    have esl : rm_sl 1 p j = 5 * p + j := rfl
    have wy := rm_ways (m := m) (M := (rm_w aS aL aG M S L G)) hK (p := p) hg hr hc (by decide) (by omega)
    rw [hwy] at wy
    have p0 : ¬ nI n ≤ nI j := by rw [nI_leI (by omega) (by omega)]; omega
    have sl0 := rm_slot (m := m) (M := (rm_w aS aL aG M S L G)) hK (p := p) (w := j) hg (by decide)
    have ea : (320 : Int32) + nI (rm_sl 1 p j) = nI (320 + rm_sl 1 p j) := by rw [show (320 : Int32) = nI 320 from rfl, nI_add]
    obtain ⟨g1, g2⟩ := gI_T hnum (p := p) (w := j) (v := k) (by omega) hk
    obtain ⟨S1, L1, G1, t1, t2⟩ := rm_copyV H (a := 320 + rm_sl 1 p j) (c := 410) (by omega) (by omega) (by omega) hV (by rw [hw j hjn]; exact (hlu j hjn).mono (by decide))
    rw [hw j hjn] at t2
    have t1 : rM_copy m (nI (320 + rm_sl 1 p j)) 410 (rm_w aS aL aG M S L G) = _ := t1
    have gt := rm_gets1 H (p := p) (w := j) (v := k) hp (by omega) hk S1 L1 G1
    obtain ⟨S2, L2, G2, u1, u2⟩ := rm_scaleV H (a := 410) (k := 41) (by decide) (by decide) (by decide) (by decide) t2 (gI (rg_A M aN) p j k).toInt64 (by rw [rg_up_eq]; exact hlu j hjn) (by decide)
    rw [Int32.toInt_toInt64, g1, rg_up_eq] at u2
    have u1 : rM_scale m 410 (gI (rg_A M aN) p j k).toInt64 (rm_w aS aL aG M S1 L1 G1) = _ := u1
    obtain ⟨V2, hV2⟩ : ∃ V2, V2 = va_up (va_up (va_up (va_up V 410 (u j)) 417 (gT (rg_A M aN) p j k)) 416 (u j * gT (rg_A M aN) p j k)) 410 (u j * gT (rg_A M aN) p j k) := ⟨_, rfl⟩
    rw [← hV2] at u2
    have v10 : V2 410 = u j * gT (rg_A M aN) p j k := by rw [hV2, rg_up_eq]
    have vq : ∀ q, q ≠ 410 → q ≠ 416 → q ≠ 417 → V2 q = V q := fun q a b c => by rw [hV2, rg_up_ne a, rg_up_ne b, rg_up_ne c, rg_up_ne a]
    have hsum : ∀ i, i ≤ n → rm_lt (fb_si (fun w => u w * gT (rg_A M aN) p w k) i) 43 := fun i hi => (si_lt1 (k := 42) (by omega) (fun w hw' => (hlu w (by omega)).mul (rm_lt_g (gI_T hnum (p := p) (w := w) (v := k) (by omega) hk).2))).mono (by decide)
    obtain ⟨S3, L3, G3, x1, x2⟩ := rm_plusV H (a := 409) (b := 410) (c := 409) (by decide) (by decide) (by decide) (by decide) (by decide) u2 (by rw [vq 409 (by decide) (by decide) (by decide), hZ]; exact (hsum j (by omega)).mono (by decide)) (by rw [v10]; exact ((hlu j hjn).mul (rm_lt_g g2)).mono (by decide))
    rw [vq 409 (by decide) (by decide) (by decide), hZ, v10] at x2
    have x1 : rM_plus m 409 410 409 (rm_w aS aL aG M S2 L2 G2) = _ := x1
    rw [rM_against_16_e]
    simp only [rm_wK, hK, if_true, wy, Option.bind_some, p0, if_false, sl0, ea, t1, gt, u1, x1, nI_1]
    obtain ⟨S', L', G', V', y1, y2, y3, y4⟩ := ih (j + 1) (by omega) (by omega) S3 L3 G3 _ x2 (fun w hw' => by
      have esw : rm_sl 1 p w = 5 * p + w := rfl
      rw [rg_up_ne (by omega), vq _ (by omega) (by omega) (by omega)]; exact hw w hw') (by rw [rg_up_eq]; rfl)
    exact ⟨S', L', G', V', y1, y2, y3, fun q a b c d => by rw [y4 q a b c d, rg_up_ne a, vq q b c d]⟩
/-- the regrets against a told move -/
theorem rm_ag81 (H : rm_F m aS aL aG aN aB M) {r c p k n : Nat} (hg : rg_I M 115 m = nI 1) (hr : rg_I M 116 m = nI r) (hc : rg_I M 117 m = nI c) (hp : p < 2) (hwy : rm_wy 1 r c p = n) (hn : n ≤ 5) (hk : k < 5) (hnum : ∀ i, i < 25 → (rg_A M aN i).toInt.natAbs ≤ 1000) {T Z : Int} {z : Nat → Rat} (hT : 0 < T) (hlT : rm_lt T 42) (hlZ : rm_lt Z 43) (hz : ∀ w, w < n → qB (z w) ≤ 256) : ∀ d j : Nat, n - j = d → j ≤ n → ∀ (S L G : Nat → Int32) (V : Nat → Int), rm_V S L G V → (∀ w, w < n → V (rm_sl 1 p w) = (z w).num ∧ V (40 + rm_sl 1 p w) = ((z w).den : Int)) → V (360 + p) = T → V 409 = Z → (∀ w, w < j → qB (z w + qv (T * gT (rg_A M aN) p w k - Z) T) ≤ 256 ∧ V (160 + rm_sl 1 p w) = (z w + qv (T * gT (rg_A M aN) p w k - Z) T).num ∧ V (200 + rm_sl 1 p w) = ((z w + qv (T * gT (rg_A M aN) p w k - Z) T).den : Int)) →
    ∃ (S' L' G' : Nat → Int32) (V' : Nat → Int) (f : Int32), rM_against_81 m (nI p) (nI k) 1 (nI j) (rm_w aS aL aG M S L G) = rM_against_167 m (nI p) f (rm_w aS aL aG M S' L' G') ∧ rm_V S' L' G' V' ∧ (∀ q, (∀ w, w < n → q ≠ 160 + rm_sl 1 p w ∧ q ≠ 200 + rm_sl 1 p w) → q ≠ 386 → (q < 389 ∨ 392 < q) → q ≠ 407 → q ≠ 408 → q ≠ 410 → q ≠ 416 → q ≠ 417 → V' q = V q) ∧ ((f = 1 ∧ ∀ w, w < n → qB (z w + qv (T * gT (rg_A M aN) p w k - Z) T) ≤ 256 ∧ V' (160 + rm_sl 1 p w) = (z w + qv (T * gT (rg_A M aN) p w k - Z) T).num ∧ V' (200 + rm_sl 1 p w) = ((z w + qv (T * gT (rg_A M aN) p w k - Z) T).den : Int)) ∨ (f = 0 ∧ ∃ w, w < n ∧ ¬ qB (z w + qv (T * gT (rg_A M aN) p w k - Z) T) ≤ 256)) := by
  have hK := H.1
  intro d
  induction d with
  | zero =>
    intro j hd hj S L G V hV hw hTv hZ hdone
    have e : j = n := by omega
    have wy := rm_ways (m := m) (M := (rm_w aS aL aG M S L G)) hK (p := p) hg hr hc (by decide) (by omega)
    rw [hwy] at wy
    rw [rM_against_81_e]
    simp only [rm_wK, hK, if_true, wy, Option.bind_some, e, Int32.le_refl]
    rw [e] at hdone
    exact ⟨S, L, G, V, 1, rfl, hV, fun _ _ _ _ _ _ _ _ _ => rfl, Or.inl ⟨rfl, hdone⟩⟩
  | succ d ih =>
    intro j hd hj S L G V hV hw hTv hZ hdone
    have hjn : j < n := by omega
    have esl : rm_sl 1 p j = 5 * p + j := rfl
    have wy := rm_ways (m := m) (M := (rm_w aS aL aG M S L G)) hK (p := p) hg hr hc (by decide) (by omega)
    rw [hwy] at wy
    have p0 : ¬ nI n ≤ nI j := by rw [nI_leI (by omega) (by omega)]; omega
    have sl0 : ∀ S L G, rM_slot m (nI p) (nI j) (rm_w aS aL aG M S L G) = some (nI (rm_sl 1 p j), (rm_w aS aL aG M S L G)) := fun S L G => rm_slot (m := m) (M := (rm_w aS aL aG M S L G)) hK hg (by decide)
    have eb : (360 : Int32) + nI p = nI (360 + p) := by rw [show (360 : Int32) = nI 360 from rfl, nI_add]
    obtain ⟨w1, w2⟩ := hw j hjn
    obtain ⟨g1, g2⟩ := gI_T hnum (p := p) (w := j) (v := k) (by omega) hk
    obtain ⟨S1, L1, G1, t1, t2⟩ := rm_copyV H (a := 360 + p) (c := 410) (by omega) (by omega) (by omega) hV (by rw [hTv]; exact hlT.mono (by decide))
    rw [hTv] at t2
    have t1 : rM_copy m (nI (360 + p)) 410 (rm_w aS aL aG M S L G) = _ := t1
    have gt := rm_gets1 H (p := p) (w := j) (v := k) hp (by omega) hk S1 L1 G1
    obtain ⟨S2, L2, G2, u1, u2⟩ := rm_scaleV H (a := 410) (k := 42) (by decide) (by decide) (by decide) (by decide) t2 (gI (rg_A M aN) p j k).toInt64 (by rw [rg_up_eq]; exact hlT) (by decide)
    rw [Int32.toInt_toInt64, g1, rg_up_eq] at u2
    have u1 : rM_scale m 410 (gI (rg_A M aN) p j k).toInt64 (rm_w aS aL aG M S1 L1 G1) = _ := u1
    obtain ⟨V2, hV2⟩ : ∃ V2, V2 = va_up (va_up (va_up (va_up V 410 T) 417 (gT (rg_A M aN) p j k)) 416 (T * gT (rg_A M aN) p j k)) 410 (T * gT (rg_A M aN) p j k) := ⟨_, rfl⟩
    rw [← hV2] at u2
    have v10 : V2 410 = T * gT (rg_A M aN) p j k := by rw [hV2, rg_up_eq]
    have vq : ∀ q, q ≠ 410 → q ≠ 416 → q ≠ 417 → V2 q = V q := fun q a b c => by rw [hV2, rg_up_ne a, rg_up_ne b, rg_up_ne c, rg_up_ne a]
    have lTg : rm_lt (T * gT (rg_A M aN) p j k) 43 := (hlT.mul (rm_lt_g g2)).mono (by decide)
    obtain ⟨S3, L3, G3, x1, x2⟩ := rm_minusV H (a := 410) (b := 409) (c := 407) (by decide) (by decide) (by decide) (by decide) (by decide) u2 (by rw [v10]; exact lTg.mono (by decide)) (by rw [vq 409 (by decide) (by decide) (by decide), hZ]; exact hlZ.mono (by decide))
    rw [vq 409 (by decide) (by decide) (by decide), hZ, v10] at x2
    have x1 : rM_minus m 410 409 407 (rm_w aS aL aG M S2 L2 G2) = _ := x1
    have e60 : va_up V2 407 (T * gT (rg_A M aN) p j k - Z) (360 + p) = T := by rw [rg_up_ne (by omega), vq _ (by omega) (by omega) (by omega)]; exact hTv
    obtain ⟨S4, L4, G4, a1, a2⟩ := rm_copyV H (a := 360 + p) (c := 408) (by omega) (by omega) (by omega) x2 (by rw [e60]; exact hlT.mono (by decide))
    rw [e60] at a2
    have a1 : rM_copy m (nI (360 + p)) 408 (rm_w aS aL aG M S3 L3 G3) = _ := a1
    obtain ⟨V4, hV4⟩ : ∃ V4, V4 = va_up (va_up V2 407 (T * gT (rg_A M aN) p j k - Z)) 408 T := ⟨_, rfl⟩
    rw [← hV4] at a2
    have v7 : V4 407 = T * gT (rg_A M aN) p j k - Z := by rw [hV4, rg_up_ne (by decide), rg_up_eq]
    have v8 : V4 408 = T := by rw [hV4, rg_up_eq]
    have vq4 : ∀ q, q ≠ 407 → q ≠ 408 → q ≠ 410 → q ≠ 416 → q ≠ 417 → V4 q = V q := fun q a b c d e => by rw [hV4, rg_up_ne b, rg_up_ne a, vq q c d e]
    obtain ⟨S5, L5, G5, V5, b1, b2, b3, b4⟩ := rm_addsM H (o := 0) (s := rm_sl 1 p j) (k := 44) (Or.inl rfl) (by omega) a2 (x := z j) (by rw [vq4 _ (by omega) (by omega) (by omega) (by omega) (by omega), Nat.zero_add]; exact w1) (by rw [vq4 _ (by omega) (by omega) (by omega) (by omega) (by omega), Nat.zero_add]; exact w2) (hz j hjn) (by rw [v7]; exact (lTg.sub hlZ)) (by rw [v8]; exact hlT.mono (by decide)) (by rw [v8]; exact hT) (by decide)
    have b1 : rM_adds m 0 (nI (rm_sl 1 p j)) (rm_w aS aL aG M S4 L4 G4) = _ := b1
    rw [v7, v8] at b1 b3
    rw [rM_against_81_e]
    simp only [rm_wK, hK, if_true, wy, Option.bind_some, p0, if_false, sl0, eb, t1, gt, u1, x1, a1, b1, show ¬ ((1 : Int32) = 0) by decide, nI_1]
    have f5 : ∀ q, q ≠ 160 + rm_sl 1 p j → q ≠ 200 + rm_sl 1 p j → q ≠ 386 → (q < 389 ∨ 392 < q) → q ≠ 407 → q ≠ 408 → q ≠ 410 → q ≠ 416 → q ≠ 417 → V5 q = V q := fun q a1 a2 a3 a4 a5 a6 a7 a8 a9 => by rw [b4 q (by omega) (by omega) a3 a4, vq4 q a5 a6 a7 a8 a9]
    by_cases cB : qB (z j + qv (T * gT (rg_A M aN) p j k - Z) T) ≤ 256
    · rw [if_pos cB]
      have hx3 := b3 cB
      obtain ⟨S', L', G', V', f, y1, y2, y3, y4⟩ := ih (j + 1) (by omega) (by omega) S5 L5 G5 V5 b2 (fun w hw' => by
        have esw : rm_sl 1 p w = 5 * p + w := rfl
        rw [f5 _ (by omega) (by omega) (by omega) (by omega) (by omega) (by omega) (by omega) (by omega) (by omega), f5 _ (by omega) (by omega) (by omega) (by omega) (by omega) (by omega) (by omega) (by omega) (by omega)]; exact hw w hw') (by rw [f5 _ (by omega) (by omega) (by omega) (by omega) (by omega) (by omega) (by omega) (by omega) (by omega)]; exact hTv) (by rw [f5 _ (by omega) (by omega) (by omega) (by omega) (by omega) (by omega) (by omega) (by omega) (by omega)]; exact hZ) (fun w hw' => by
        have esw : rm_sl 1 p w = 5 * p + w := rfl
        by_cases e : w = j
        · subst e
          exact ⟨cB, hx3.1, hx3.2⟩
        · rw [f5 _ (by omega) (by omega) (by omega) (by omega) (by omega) (by omega) (by omega) (by omega) (by omega), f5 _ (by omega) (by omega) (by omega) (by omega) (by omega) (by omega) (by omega) (by omega) (by omega)]
          exact hdone w (by omega))
      refine ⟨S', L', G', V', f, y1, y2, fun q a1 a2 a3 a4 a5 a6 a7 a8 => ?_, y4⟩
      rw [y3 q a1 a2 a3 a4 a5 a6 a7 a8, f5 q (a1 j hjn).1 (a1 j hjn).2 a2 a3 a4 a5 a6 a7 a8]
    · rw [if_neg cB, rM_against_81_e]
      have wy3 := rm_ways (m := m) (M := (rm_w aS aL aG M S5 L5 G5)) hK (p := p) hg hr hc (by decide) (by omega)
      simp only [rm_wK, hK, if_true, wy3, Option.bind_some, ite_self]
      exact ⟨S5, L5, G5, V5, 0, rfl, b2, fun q a1 a2 a3 a4 a5 a6 a7 a8 => f5 q (a1 j hjn).1 (a1 j hjn).2 a2 a3 a4 a5 a6 a7 a8, Or.inr ⟨rfl, j, hjn, cB⟩⟩
/-- the registers hold the state -/
def mV (s : sS) (V : Nat → Int) : Prop := (ts_g s ≠ 0 → ∀ i, i < 40 → V i = (ts_y s i).num ∧ V (40 + i) = ((ts_y s i).den : Int) ∧ V (80 + i) = (ts_y s (40 + i)).num ∧ V (120 + i) = ((ts_y s (40 + i)).den : Int)) ∧ V 380 = (ts_v s).num ∧ V 381 = ((ts_v s).den : Int) ∧ V 413 = 1
theorem mV.keep {s : sS} {V V' : Nat → Int} (h : mV s V) (h1 : ∀ q, q < 160 → V' q = V q) (h2 : V' 380 = V 380) (h3 : V' 381 = V 381) (h4 : V' 413 = V 413) : mV s V' := by
  obtain ⟨a1, a2, a3, a4⟩ := h
  refine ⟨fun hg i hi => ?_, by rw [h2]; exact a2, by rw [h3]; exact a3, by rw [h4]; exact a4⟩
  rw [h1 _ (by omega), h1 _ (by omega), h1 _ (by omega), h1 _ (by omega)]
  exact a1 hg i hi
/-- a round against a told move -/
theorem rm_againstM (H : rm_F m aS aL aG aN aB M) {s : sS} {n0 p k : Nat} (hok : ts_ok n0 s) (hg1 : ts_g s = 1) (hg : rg_I M 115 m = nI 1) (hr : rg_I M 116 m = nI (ts_a s)) (hc : rg_I M 117 m = nI (ts_e s)) (hp : p < 2) (hk : k < wyc (ts_a s) (ts_e s) (1 - p)) (hnum : ∀ i, i < 25 → rg_A M aN i = ts_num s i) {S L G : Nat → Int32} {V : Nat → Int} (hV : rm_V S L G V) (hs : mV s V) :
    ∃ (S' L' G' : Nat → Int32) (V' : Nat → Int) (f : Int32), rM_against m (nI p) (nI k) (rm_w aS aL aG M S L G) = some (f, rm_w aS aL aG M S' L' G') ∧ rm_V S' L' G' V' ∧ mV s V' ∧ ((f = 1 ∧ ts_aF s p k ∧ ∀ w, w < wyc (ts_a s) (ts_e s) p → V' (160 + rm_sl 1 p w) = (ts_aR s p k w).num ∧ V' (200 + rm_sl 1 p w) = ((ts_aR s p k w).den : Int) ∧ V' (240 + rm_sl 1 p w) = (ts_aS s p w).num ∧ V' (280 + rm_sl 1 p w) = ((ts_aS s p w).den : Int)) ∨ (f = 0 ∧ ¬ ts_aF s p k)) := by
  have hK := H.1
  obtain ⟨n, hn⟩ : ∃ n, n = wyc (ts_a s) (ts_e s) p := ⟨_, rfl⟩
  have hw := hok.w hg1 p
  have hw' := hok.w hg1 (1 - p)
  rw [← hn] at hw
  have hwy : rm_wy 1 (ts_a s) (ts_e s) p = n := by rw [hn]; rfl
  have hnumB : ∀ i, i < 25 → (rg_A M aN i).toInt.natAbs ≤ 1000 := fun i hi => by rw [hnum i hi]; exact hok.2.2.2.2.2.1 i hi
  have hyB := hok.2.2.2.2.2.2.1
  have esl : ∀ w, rm_sl 1 p w = 5 * p + w := fun w => rfl
  obtain ⟨S1, L1, G1, V1, a1, a2, a3, a4, a5, a6⟩ := rm_weighM H (p := p) (o := 0) hg hr hc (by decide) (by omega) (by rw [hwy]; omega) (by rw [hwy]; omega) (fun w hw => by rw [hwy] at hw; rw [esl]; omega) (Or.inl rfl) hV (f := fun w => ts_y s (0 + (p * 5 + w))) (fun v hv => by
    rw [hwy] at hv
    have := hs.1 (by omega) (5 * p + v) (by omega)
    rw [esl, show 0 + (5 * p + v) = 5 * p + v by omega, show 0 + 40 + (5 * p + v) = 40 + (5 * p + v) by omega, show 0 + (p * 5 + v) = 5 * p + v by omega]
    exact ⟨this.1, this.2.1, hyB _ (by omega)⟩)
  rw [hwy] at a3 a5 a6
  have a1 : rM_weigh m (nI p) 0 (rm_w aS aL aG M S L G) = _ := a1
  obtain ⟨S2, L2, G2, b1, b2⟩ := rm_isV H (c := 409) (by decide) a2 0
  have b1 : rM_is m 409 0 (rm_w aS aL aG M S1 L1 G1) = _ := b1
  have b2 : rm_V S2 L2 G2 (va_up V1 409 0) := b2
  obtain ⟨u, hu⟩ : ∃ u : Nat → Int, u = fun w => V1 (320 + rm_sl 1 p w) := ⟨_, rfl⟩
  have hlu : ∀ w, w < n → rm_lt (u w) 41 := fun w hw2 => by rw [hu]; exact (a3 w hw2).2.2.mono (by omega)
  obtain ⟨S3, L3, G3, V3, c1, c2, c3, c4⟩ := rm_ag16 H (k := k) hg hr hc hp hwy hw.2 (by omega) hnumB hlu _ 0 rfl (Nat.zero_le _) S2 L2 G2 _ b2 (fun w hw2 => by rw [rg_up_ne (by rw [esl]; omega), hu]) rg_up_eq
  have c1 : rM_against_16 m (nI p) (nI k) 0 (rm_w aS aL aG M S2 L2 G2) = _ := c1
  have f3 : ∀ q, q ≠ 409 → q ≠ 410 → q ≠ 416 → q ≠ 417 → V3 q = V1 q := fun q x1 x2 x3 x4 => by rw [c4 q x1 x2 x3 x4, rg_up_ne x1]
  have f1 : ∀ q, (q < 320 ∨ 380 ≤ q) → q ≠ 386 → q ≠ 389 → q ≠ 390 → V1 q = V q := fun q x1 x2 x3 x4 => a6 q (fun w hw2 => by rw [esl]; omega) (by omega) x2 x3 x4
  have hT3 : V3 (360 + p) = V1 (360 + p) := f3 _ (by omega) (by omega) (by omega) (by omega)
  have lT : rm_lt (V1 (360 + p)) 42 := a5.mono (by omega)
  have lZ : rm_lt (fb_si (fun w => u w * gT (rg_A M aN) p w k) n) 43 := (si_lt1 (k := 42) (by omega) (fun w hw2 => (hlu w (by omega)).mul (rm_lt_g (gI_T hnumB (p := p) (w := w) (v := k) (by omega) (by omega)).2))).mono (by decide)
  obtain ⟨z, hz⟩ : ∃ z : Nat → Rat, z = fun w => ts_y s (p * 5 + w) := ⟨_, rfl⟩
  obtain ⟨S4, L4, G4, V4, f, d1, d2, d3, d4⟩ := rm_ag81 H (k := k) hg hr hc hp hwy hw.2 (by omega) hnumB (z := z) a4 lT lZ (fun w hw2 => by rw [hz]; exact hyB _ (by omega)) _ 0 rfl (Nat.zero_le _) S3 L3 G3 V3 c2 (fun w hw2 => by
    have := hs.1 (by omega) (5 * p + w) (by omega)
    rw [f3 _ (by rw [esl]; omega) (by rw [esl]; omega) (by rw [esl]; omega) (by rw [esl]; omega), f3 _ (by rw [esl]; omega) (by rw [esl]; omega) (by rw [esl]; omega) (by rw [esl]; omega), f1 _ (by rw [esl]; omega) (by rw [esl]; omega) (by rw [esl]; omega) (by rw [esl]; omega), f1 _ (by rw [esl]; omega) (by rw [esl]; omega) (by rw [esl]; omega) (by rw [esl]; omega), esl, hz]
    show _ = (ts_y s (p * 5 + w)).num ∧ _ = ((ts_y s (p * 5 + w)).den : Int)
    rw [show p * 5 + w = 5 * p + w by omega]
    exact ⟨this.1, this.2.1⟩) hT3 c3 (fun w hw2 => by omega)
  have d1 : rM_against_81 m (nI p) (nI k) 1 0 (rm_w aS aL aG M S3 L3 G3) = _ := d1
  -- the numbers are those of the state
  have hmx : ∀ w, w < n → tMx (ts_y s) 0 (ts_a s) (ts_e s) p w * ((V1 (360 + p) : Int) : Rat) = ((u w : Int) : Rat) := fun w hw2 => by
    have := (a3 w hw2).1
    rw [hu]
    show mx (fun w => ts_y s (0 + (p * 5 + w))) (wyc (ts_a s) (ts_e s) p) w * _ = _
    rw [← hn]; exact this
  have hgT : ∀ w, w < n → gT (rg_A M aN) p w k = gT (ts_num s) p w k := fun w hw2 => gT_cong hnum (by omega) (by omega)
  have eW : ∀ w, tWr (fun v => if v = k then 1 else 0) (ts_num s) p w (wyc (ts_a s) (ts_e s) (1 - p)) = ((gT (ts_num s) p w k : Int) : Rat) := fun w => qs_ind (f := fun v => ((gT (ts_num s) p w v : Int) : Rat)) hk
  have eA : tAv (tMx (ts_y s) 0 (ts_a s) (ts_e s) p) (fun v => if v = k then 1 else 0) (ts_num s) p n (wyc (ts_a s) (ts_e s) (1 - p)) * ((V1 (360 + p) : Int) : Rat) = ((fb_si (fun w => u w * gT (rg_A M aN) p w k) n : Int) : Rat) := by
    rw [si_qs]
    unfold tAv
    rw [Rat.mul_comm, ← qs_mul]
    refine qs_cong (fun w hw2 => ?_)
    rw [eW w, Rat.intCast_mul, ← hmx w hw2, hgT w hw2]
    grind
  have eR : ∀ w, w < n → z w + qv (V1 (360 + p) * gT (rg_A M aN) p w k - fb_si (fun w => u w * gT (rg_A M aN) p w k) n) (V1 (360 + p)) = ts_aR s p k w := fun w hw2 => by
    rw [qv_sub1 a4 eA, hgT w hw2, hz]
    unfold ts_aR tR
    rw [eW w, ← hn]
  rw [rM_against_u, rM_against_e]
  simp only [rm_wK, hK, if_true, a1, b1, c1, d1, Option.bind_some]
  have f4 : ∀ q, q < 160 ∨ (320 ≤ q ∧ q < 386) ∨ (392 < q ∧ q ≠ 407 ∧ q ≠ 408 ∧ q ≠ 410 ∧ q ≠ 416 ∧ q ≠ 417) → V4 q = V3 q := fun q hq => d3 q (fun w hw2 => by rw [esl]; omega) (by omega) (by omega) (by omega) (by omega) (by omega) (by omega) (by omega)
  obtain ⟨S5, L5, G5, e1, e2⟩ := rm_isV H (c := 395) (by decide) d2 1
  obtain ⟨S6, L6, G6, g1, g2⟩ := rm_isV H (c := 396) (by decide) e2 1
  have e1 : rM_is m 395 1 (rm_w aS aL aG M S4 L4 G4) = _ := e1
  have g1 : rM_is m 396 1 (rm_w aS aL aG M S5 L5 G5) = _ := g1
  have g2 : rm_V S6 L6 G6 (va_up (va_up V4 395 1) 396 1) := g2
  obtain ⟨V6, hV6⟩ : ∃ V6, V6 = va_up (va_up V4 395 1) 396 1 := ⟨_, rfl⟩
  rw [← hV6] at g2
  have f6 : ∀ q, q ≠ 395 → q ≠ 396 → V6 q = V4 q := fun q x1 x2 => by rw [hV6, rg_up_ne x2, rg_up_ne x1]
  have hk6 : ∀ q, q < 160 → V6 q = V q := fun q hq => by rw [f6 q (by omega) (by omega), f4 q (by omega), f3 q (by omega) (by omega) (by omega) (by omega), f1 q (by omega) (by omega) (by omega) (by omega)]
  have hk6' : ∀ q, q = 380 ∨ q = 381 ∨ q = 413 → V6 q = V q := fun q hq => by rw [f6 q (by omega) (by omega), f4 q (by omega), f3 q (by omega) (by omega) (by omega) (by omega), f1 q (by omega) (by omega) (by omega) (by omega)]
  have m6 : mV s V6 := hs.keep hk6 (hk6' _ (by omega)) (hk6' _ (by omega)) (hk6' _ (by omega))
  rw [rM_against_167_e]
  simp only [rm_wK, hK, if_true, e1, g1, Option.bind_some]
  rcases d4 with ⟨r1, v1⟩ | ⟨r0, w, hw2, v0⟩
  · rw [if_neg (by rw [r1]; decide)]
    obtain ⟨zs, hzs⟩ : ∃ zs : Nat → Rat, zs = fun w => ts_y s (40 + (p * 5 + w)) := ⟨_, rfl⟩
    obtain ⟨S7, L7, G7, V7, f', x1, x2, x3, x4⟩ := rm_sumsM H (p := p) (k := 42) hg hr hc (by decide) (by omega) (by rw [hwy]; omega) (fun w hw => by rw [hwy] at hw; rw [esl]; omega) (z := zs) (u := u) (T := V1 (360 + p)) (a := 1) (b := 1) a4 (by decide) (fun w hw2 => by rw [hwy] at hw2; exact (hlu w hw2).mono (by decide)) lT (rm_lt_one (by decide)) (rm_lt_one (by decide)) (by decide) (fun w hw2 => by rw [hwy] at hw2; rw [hzs]; exact hyB _ (by omega)) g2 (fun w hw2 => by
      rw [hwy] at hw2
      have := m6.1 (by omega) (5 * p + w) (by omega)
      rw [esl, hzs]
      refine ⟨?_, ?_, ?_⟩
      · rw [this.2.2.1, show 40 + (5 * p + w) = 40 + (p * 5 + w) by omega]
      · rw [this.2.2.2, show 40 + (5 * p + w) = 40 + (p * 5 + w) by omega]
      · rw [f6 _ (by omega) (by omega), f4 _ (by omega), f3 _ (by omega) (by omega) (by omega) (by omega), hu]; rfl) (by rw [f6 _ (by omega) (by omega), f4 _ (by omega)]; exact hT3) (by rw [hV6, rg_up_ne (by decide), rg_up_eq]) (by rw [hV6, rg_up_eq])
    rw [hwy] at x3 x4
    have eS : ∀ w, w < n → zs w + qv (u w * 1) (V1 (360 + p) * 1) = ts_aS s p w := fun w hw2 => by
      rw [Int.mul_one, Int.mul_one, ← qv_eq a4 (hmx w hw2), hzs]
      rfl
    have f7 : ∀ q, q < 240 ∨ (320 ≤ q ∧ q < 386) ∨ (392 < q ∧ q ≠ 407 ∧ q ≠ 408) → V7 q = V6 q := fun q hq => x3 q (fun w hw2 => by rw [esl]; omega) (by omega) (by omega) (by omega) (by omega)
    have m7 : mV s V7 := m6.keep (fun q hq => f7 q (by omega)) (f7 _ (by omega)) (f7 _ (by omega)) (f7 _ (by omega))
    simp only [x1, Option.bind_some]
    rcases x4 with ⟨q1, v2⟩ | ⟨q0, w, hw2, v2⟩
    · rw [if_neg (by rw [q1]; decide), rM_against_200_e, if_pos (Or.inr rfl)]
      refine ⟨S7, L7, G7, V7, 1, rfl, x2, m7, Or.inl ⟨rfl, fun w hw2 => ?_, fun w hw2 => ?_⟩⟩
      · rw [← hn] at hw2
        have h1 := (v1 w hw2).1
        have h2 := (v2 w hw2).1
        rw [eR w hw2] at h1
        rw [eS w hw2] at h2
        exact ⟨h1, h2⟩
      · rw [← hn] at hw2
        obtain ⟨-, h1, h2⟩ := v1 w hw2
        obtain ⟨-, h3, h4⟩ := v2 w hw2
        rw [eR w hw2] at h1 h2
        rw [eS w hw2] at h3 h4
        refine ⟨?_, ?_, h3, h4⟩
        · rw [f7 _ (by rw [esl]; omega), f6 _ (by rw [esl]; omega) (by rw [esl]; omega)]; exact h1
        · rw [f7 _ (by rw [esl]; omega), f6 _ (by rw [esl]; omega) (by rw [esl]; omega)]; exact h2
    · rw [if_pos q0, rM_against_199_e, rM_against_200_e, if_pos (Or.inl rfl)]
      refine ⟨S7, L7, G7, V7, 0, rfl, x2, m7, Or.inr ⟨rfl, fun q => v2 ?_⟩⟩
      rw [eS w hw2]
      exact (q w (by rw [← hn]; exact hw2)).2
  · rw [if_pos r0, rM_against_199_e, rM_against_200_e, if_pos (Or.inl rfl)]
    refine ⟨S6, L6, G6, V6, 0, rfl, g2, m6, Or.inr ⟨rfl, fun q => v0 ?_⟩⟩
    rw [eR w hw2]
    exact (q w (by rw [← hn]; exact hw2)).1
end

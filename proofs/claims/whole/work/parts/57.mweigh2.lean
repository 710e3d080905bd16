section
variable {m aS aL aG aN aB : Nat} {M : rg_M}
theorem rm_sl_inj {g p w w' : Nat} (h : rm_sl g p w = rm_sl g p w') : w = w' := by unfold rm_sl at h; split at h <;> omega
theorem wg_raw_lt {x y : Nat → Int} {n w : Nat} (hn : n ≤ 5) (hw : w < n) (hx8 : ∀ v, v < n → rm_lt (x v) 8) (hy8 : ∀ v, v < n → rm_lt (y v) 8) (hy : ∀ v, v < n → 0 < y v) : 0 ≤ wg_raw x y n w ∧ rm_lt (wg_raw x y n w) 41 := by
  unfold wg_raw
  split
  · split
    · rename_i h
      refine ⟨Int.le_of_lt (Int.mul_pos h (wg_pr_pos hy)), ((hx8 w hw).mul (wg_pr_lt (x := x) (w := w) (k := n) hy8)).mono ?_⟩
      rw [if_pos hw]; omega
    · exact ⟨Int.le_refl _, rm_lt_zero⟩
  · exact ⟨by decide, rm_lt_one (by omega)⟩
/-- all weights of a place -/
theorem rm_wg56 (H : rm_F m aS aL aG aN aB M) {g p n o : Nat} (hg : rg_I M 115 m = nI g) (h1 : g < 3) (hp : p < 20) (hn : n ≤ 5) (hsl : ∀ w, w < n → rm_sl g p w < 40) (ho : o = 0 ∨ o = 80) {x y : Nat → Int} (hx8 : ∀ v, v < n → rm_lt (x v) 8) (hy8 : ∀ v, v < n → rm_lt (y v) 8) (f : Int32) (hf : f = if ∃ v, v < n ∧ 0 < x v then 1 else 0) : ∀ d k : Nat, n - k = d → k ≤ n → ∀ (S L G : Nat → Int32) (V : Nat → Int), rm_V S L G V → (∀ v, v < n → V (o + rm_sl g p v) = x v ∧ V (o + 40 + rm_sl g p v) = y v) → (∀ w, w < k → V (320 + rm_sl g p w) = wg_raw x y n w) →
    ∃ S' L' G' V', rM_weigh_56 m (nI p) (nI o) (nI n) f (nI k) (rm_w aS aL aG M S L G) = rM_weigh_56 m (nI p) (nI o) (nI n) f (nI n) (rm_w aS aL aG M S' L' G') ∧ rm_V S' L' G' V' ∧ (∀ w, w < n → V' (320 + rm_sl g p w) = wg_raw x y n w) ∧ ∀ q, (∀ w, w < n → q ≠ 320 + rm_sl g p w) → q ≠ 389 → q ≠ 390 → V' q = V q := by
  have H0 := H
  have hK0 := H.1
  obtain ⟨hK, hS, hL, hG, -, -, kS, kL, kG, -, -, lS, lL, lG, -, -, d1, d2, d3, -⟩ := H
  intro d
  induction d with
  | zero =>
    intro k hd hk S L G V hV hxy hw
    have e : k = n := by omega
    subst e
    exact ⟨S, L, G, V, rfl, hV, hw, fun _ _ _ _ => rfl⟩
  | succ d ih =>
    intro k hd hk S L G V hV hxy hw
    have hkn : k < n := by omega
    have hs := hsl k hkn
    have p0 : ¬ nI n ≤ nI k := by rw [nI_leI (by omega) (by omega)]; omega
    have sl1 := rm_slot (m := m) (M := (rm_w aS aL aG M S L G)) hK0 (p := p) (w := k) hg h1
    have ea : (320 : Int32) + nI (rm_sl g p k) = nI (320 + rm_sl g p k) := by rw [show (320 : Int32) = nI 320 from rfl, nI_add]
    have la : o + rm_sl g p k < 420 := by omega
    have ca := nI_clamp (n := o + rm_sl g p k) (by omega)
    have ia := rm_i0 (a := o + rm_sl g p k) (by omega)
    -- what is left to do behind this weight
    have next : ∀ (S1 L1 G1 : Nat → Int32) (V1 : Nat → Int), rm_V S1 L1 G1 V1 → V1 (320 + rm_sl g p k) = wg_raw x y n k → (∀ q, q ≠ 320 + rm_sl g p k → q ≠ 389 → q ≠ 390 → V1 q = V q) → ∃ S' L' G' V', rM_weigh_209 m (nI p) (nI o) (nI n) f (nI k) (rm_w aS aL aG M S1 L1 G1) = rM_weigh_56 m (nI p) (nI o) (nI n) f (nI n) (rm_w aS aL aG M S' L' G') ∧ rm_V S' L' G' V' ∧ (∀ w, w < n → V' (320 + rm_sl g p w) = wg_raw x y n w) ∧ ∀ q, (∀ w, w < n → q ≠ 320 + rm_sl g p w) → q ≠ 389 → q ≠ 390 → V' q = V q := by
      intro S1 L1 G1 V1 r1 r2 r3
      rw [rM_weigh_209_e, nI_1]
      obtain ⟨S', L', G', V', u1, u2, u3, u4⟩ := ih (k + 1) (by omega) (by omega) S1 L1 G1 V1 r1 (fun v hv => by
        have := hsl v hv
        rw [r3 _ (by omega) (by omega) (by omega), r3 _ (by omega) (by omega) (by omega)]; exact hxy v hv) (fun w h => by
        by_cases e : w = k
        · rw [e]; exact r2
        · have := hsl w (by omega)
          rw [r3 _ (fun e2 => e (rm_sl_inj (g := g) (p := p) (by omega))) (by omega) (by omega)]; exact hw w (by omega))
      exact ⟨S', L', G', V', u1, u2, u3, fun q a b c => by rw [u4 q a b c, r3 q (a k hkn) b c]⟩
    rw [rM_weigh_56_e, if_neg p0]
    simp only [rm_wK, hK0, if_true, sl1, Option.bind_some, ea]
    by_cases hex : ∃ v, v < n ∧ 0 < x v
    · have hf1 : f = 1 := by rw [hf, if_pos hex]
      rw [if_neg (by rw [hf1]; decide), rM_weigh_88_e]
      obtain ⟨S1, L1, G1, t1, t2⟩ := rm_isV H0 (c := 320 + rm_sl g p k) (by omega) hV 0
      have t2 : rm_V S1 L1 G1 (va_up V (320 + rm_sl g p k) 0) := t2
      have ux : va_up V (320 + rm_sl g p k) 0 (o + rm_sl g p k) = x k := by rw [rg_up_ne (by omega)]; exact (hxy k hkn).1
      simp only [rm_wK, rm_wR, rm_wL, rm_wI, hK, hS, hL, hG, kS, kL, kG, lS, lL, lG, if_true, Option.bind_some, and_self, rm_rS, rm_rL d1, rm_rG d2 d3, rm_wS, rm_wLL d1, rm_wG d2 d3, t1, hf1, show ¬ ((1 : Int32) = 0) by decide, if_false, nI_add, ca, ia, la, t2.sg la (by omega), ux, rm_sg_gt]
      by_cases hx : 0 < x k
      · rw [if_pos hx]
        obtain ⟨S2, L2, G2, u1, u2⟩ := rm_copyV H0 (a := o + rm_sl g p k) (c := 389) la (by omega) (by omega) t2 (by rw [ux]; exact (hx8 k hkn).mono (by decide))
        rw [ux] at u2
        have u1 : rM_copy m (nI (o + rm_sl g p k)) 389 (rm_w aS aL aG M S1 L1 G1) = _ := u1
        simp only [u1, Option.bind_some]
        obtain ⟨S3, L3, G3, V3, v1, v2, v3, v4⟩ := rm_wg125 H0 hg h1 hp hn hsl ho hkn 1 hx8 hy8 _ 0 rfl (Nat.zero_le _) S2 L2 G2 _ u2 (fun v hv => by
          have := hsl v hv
          rw [rg_up_ne (by omega), rg_up_ne (by omega), rg_up_ne (by omega), rg_up_ne (by omega)]; exact hxy v hv) (by rw [rg_up_eq, wg_pr, Int.mul_one])
        have v1 : rM_weigh_125 m (nI p) (nI o) (nI n) 1 (nI k) (nI (rm_sl g p k)) 0 (rm_w aS aL aG M S2 L2 G2) = _ := v1
        rw [v1]
        rw [hf1] at next
        exact next S3 L3 G3 V3 v2 (by rw [v3]; unfold wg_raw; rw [if_pos hex, if_pos hx]) (fun q a b c => by rw [v4 q a b c, rg_up_ne b, rg_up_ne a])
      · rw [if_neg hx]
        rw [hf1] at next
        exact next S1 L1 G1 _ t2 (by rw [rg_up_eq]; unfold wg_raw; rw [if_pos hex, if_neg hx]) (fun q a b c => rg_up_ne a)
    · have hf0 : f = 0 := by rw [hf, if_neg hex]
      rw [if_pos hf0, rM_weigh_88_e]
      obtain ⟨S1, L1, G1, t1, t2⟩ := rm_isV H0 (c := 320 + rm_sl g p k) (by omega) hV 1
      have t2 : rm_V S1 L1 G1 (va_up V (320 + rm_sl g p k) 1) := t2
      simp only [rm_wK, rm_wR, rm_wL, rm_wI, hK, hS, hL, hG, kS, kL, kG, lS, lL, lG, if_true, Option.bind_some, and_self, rm_rS, rm_rL d1, rm_rG d2 d3, rm_wS, rm_wLL d1, rm_wG d2 d3, t1]
      rw [if_pos hf0]
      exact next S1 L1 G1 _ t2 (by rw [rg_up_eq]; unfold wg_raw; rw [if_neg hex]) (fun q a b c => rg_up_ne a)
theorem rm_wg238 (H : rm_F m aS aL aG aN aB M) {g p n : Nat} (hg : rg_I M 115 m = nI g) (h1 : g < 3) (hp : p < 20) (hn : n ≤ 5) (hsl : ∀ w, w < n → rm_sl g p w < 40) {u : Nat → Int} (hu : ∀ w, w < n → 0 ≤ u w ∧ rm_lt (u w) 41) : ∀ d k : Nat, n - k = d → k ≤ n → ∀ (S L G : Nat → Int32) (V : Nat → Int), rm_V S L G V → (∀ w, w < n → V (320 + rm_sl g p w) = u w) → V (360 + p) = fb_si u k → rm_lt (fb_si u k) (41 + k) →
    ∃ S' L' G', rM_weigh_238 m (nI p) (nI n) (nI k) (rm_w aS aL aG M S L G) = some (none, (rm_w aS aL aG M S' L' G')) ∧ rm_V S' L' G' (va_up V (360 + p) (fb_si u n)) := by
  have hK := H.1
  intro d
  induction d with
  | zero =>
    intro k hd hk S L G V hV hw hT hl
    have e : k = n := by omega
    rw [rM_weigh_238_e, e, if_pos (Int32.le_refl _)]
    rw [e] at hT
    exact ⟨S, L, G, rfl, by rw [rg_up_id hT]; exact hV⟩
  | succ d ih =>
    intro k hd hk S L G V hV hw hT hl
    have hkn : k < n := by omega
    have hs := hsl k hkn
    have p0 : ¬ nI n ≤ nI k := by rw [nI_leI (by omega) (by omega)]; omega
    have sl1 := rm_slot (m := m) (M := (rm_w aS aL aG M S L G)) hK (p := p) (w := k) hg h1
    have ea : (320 : Int32) + nI (rm_sl g p k) = nI (320 + rm_sl g p k) := by rw [show (320 : Int32) = nI 320 from rfl, nI_add]
    have eb : (360 : Int32) + nI p = nI (360 + p) := by rw [show (360 : Int32) = nI 360 from rfl, nI_add]
    have cc : rm_cap (360 + p) = 260 := by unfold rm_cap; rw [if_pos (by omega)]
    obtain ⟨S1, L1, G1, t1, t2⟩ := rm_plusV H (a := 360 + p) (b := 320 + rm_sl g p k) (c := 360 + p) (by omega) (by omega) (by omega) (by omega) (by omega) hV (by rw [hT]; exact hl.mono (by omega)) (by rw [hw k hkn]; exact (hu k hkn).2.mono (by omega))
    rw [rM_weigh_238_e]
    simp only [rm_wK, hK, if_true, p0, if_false, sl1, ea, eb, t1, Option.bind_some, nI_1]
    rw [hT, hw k hkn, ← fb_si_succ] at t2
    obtain ⟨S', L', G', w1, w2⟩ := ih (k + 1) (by omega) (by omega) S1 L1 G1 _ t2 (fun w h => by have := hsl w h; rw [rg_up_ne (by omega)]; exact hw w h) rg_up_eq (by rw [fb_si_succ]; exact (hl.add ((hu k hkn).2.mono (by omega))).mono (by omega))
    rw [rg_up_up] at w2
    exact ⟨S', L', G', w1, w2⟩
/-- WEIGHT and TOTAL of a place: the mix (of = 0) or the mean (of = 80), times one number -/
theorem rm_weighV (H : rm_F m aS aL aG aN aB M) {g r c p o : Nat} (hg : rg_I M 115 m = nI g) (hr : rg_I M 116 m = nI r) (hc : rg_I M 117 m = nI c) (h1 : g < 3) (hp : p < 20) (hn : rm_wy g r c p ≤ 5) (hsl : ∀ w, w < rm_wy g r c p → rm_sl g p w < 40) (ho : o = 0 ∨ o = 80) {S L G : Nat → Int32} {V x y : Nat → Int} (hV : rm_V S L G V) (hxy : ∀ v, v < rm_wy g r c p → V (o + rm_sl g p v) = x v ∧ V (o + 40 + rm_sl g p v) = y v) (hx8 : ∀ v, v < rm_wy g r c p → rm_lt (x v) 8) (hy8 : ∀ v, v < rm_wy g r c p → rm_lt (y v) 8) (hy0 : ∀ v, v < rm_wy g r c p → 0 < y v) :
    ∃ (C : Int) (u : Nat → Int) (S' L' G' : Nat → Int32) (V' : Nat → Int), rM_weigh m (nI p) (nI o) (rm_w aS aL aG M S L G) = some (rm_w aS aL aG M S' L' G') ∧ rm_V S' L' G' V' ∧ 0 < C ∧ (∀ w, w < rm_wy g r c p → V' (320 + rm_sl g p w) = u w ∧ wg_raw x y (rm_wy g r c p) w = u w * C ∧ 0 ≤ u w ∧ rm_lt (u w) 41) ∧ V' (360 + p) = fb_si u (rm_wy g r c p) ∧ ∀ q, (∀ w, w < rm_wy g r c p → q ≠ 320 + rm_sl g p w) → q ≠ 360 + p → q ≠ 386 → q ≠ 389 → q ≠ 390 → V' q = V q := by
  have hK := H.1
  have wy := rm_ways (m := m) (M := (rm_w aS aL aG M S L G)) hK (p := p) hg hr hc h1 (by omega)
  have e12 := rm_wg12 H hg h1 hp hn hsl ho hV _ 0 rfl (Nat.zero_le _) 0 (by rw [if_neg]; rintro ⟨v, a, -⟩; omega)
  have e12 : rM_weigh_12 m (nI p) (nI o) (nI (rm_wy g r c p)) 0 0 (rm_w aS aL aG M S L G) = _ := e12
  have hiff : (∃ v, v < rm_wy g r c p ∧ 0 < V (o + rm_sl g p v)) ↔ ∃ v, v < rm_wy g r c p ∧ 0 < x v := ⟨fun ⟨v, a, b⟩ => ⟨v, a, by rw [← (hxy v a).1]; exact b⟩, fun ⟨v, a, b⟩ => ⟨v, a, by rw [(hxy v a).1]; exact b⟩⟩
  rw [rg_ip (a := (1 : Int32)) (b := 0) hiff] at e12
  obtain ⟨f, hf⟩ : ∃ f : Int32, f = if ∃ v, v < rm_wy g r c p ∧ 0 < x v then 1 else 0 := ⟨_, rfl⟩
  rw [← hf] at e12
  obtain ⟨S1, L1, G1, V1, t1, t2, t3, t4⟩ := rm_wg56 H hg h1 hp hn hsl ho hx8 hy8 f hf _ 0 rfl (Nat.zero_le _) S L G V hV hxy (fun w h => by omega)
  have t1 : rM_weigh_56 m (nI p) (nI o) (nI (rm_wy g r c p)) f 0 (rm_w aS aL aG M S L G) = _ := t1
  -- the sum of the weights
  have fin : ∀ (S2 L2 G2 : Nat → Int32) (V2 u : Nat → Int), rm_V S2 L2 G2 V2 → (∀ w, w < rm_wy g r c p → V2 (320 + rm_sl g p w) = u w ∧ 0 ≤ u w ∧ rm_lt (u w) 41) → ∃ S' L' G', rM_weigh_225 m (nI p) (nI (rm_wy g r c p)) (rm_w aS aL aG M S2 L2 G2) = some (none, (rm_w aS aL aG M S' L' G')) ∧ rm_V S' L' G' (va_up V2 (360 + p) (fb_si u (rm_wy g r c p))) := by
    intro S2 L2 G2 V2 u r1 r2
    have eb : (360 : Int32) + nI p = nI (360 + p) := by rw [show (360 : Int32) = nI 360 from rfl, nI_add]
    obtain ⟨S3, L3, G3, a1, a2⟩ := rm_isV H (c := 360 + p) (by omega) r1 0
    have a2 : rm_V S3 L3 G3 (va_up V2 (360 + p) 0) := a2
    obtain ⟨S4, L4, G4, b1, b2⟩ := rm_wg238 H hg h1 hp hn hsl (u := u) (fun w h => (r2 w h).2) _ 0 rfl (Nat.zero_le _) S3 L3 G3 _ a2 (fun w h => by have := hsl w h; rw [rg_up_ne (by omega)]; exact (r2 w h).1) rg_up_eq rm_lt_zero
    have b1 : rM_weigh_238 m (nI p) (nI (rm_wy g r c p)) 0 (rm_w aS aL aG M S3 L3 G3) = _ := b1
    rw [rM_weigh_225_e]
    simp only [rm_wK, hK, if_true, eb, a1, b1, Option.bind_some]
    rw [rg_up_up] at b2
    exact ⟨S4, L4, G4, rfl, b2⟩
  rw [rM_weigh_u, rM_weigh_e]
  simp only [rm_wK, hK, if_true, wy, e12, t1, Option.bind_some]
  rw [rM_weigh_56_e, if_pos (Int32.le_refl _)]
  by_cases hex : ∃ v, v < rm_wy g r c p ∧ 0 < x v
  · rw [if_neg (by rw [hf, if_pos hex]; decide)]
    obtain ⟨v, v1, v2⟩ := hex
    obtain ⟨C, S2, L2, G2, V2, u1, u2, u3, u4, u5⟩ := rm_coprimeV H hg hr hc h1 hp hn hsl t2 (fun w h => by rw [t3 w h]; exact wg_raw_lt hn h hx8 hy8 hy0) ⟨v, v1, by
      rw [t3 v v1]; unfold wg_raw
      rw [if_pos ⟨v, v1, v2⟩, if_pos v2]
      exact Int.ne_of_gt (Int.mul_pos v2 (wg_pr_pos hy0))⟩
    have ub : ∀ w, w < rm_wy g r c p → 0 ≤ V2 (320 + rm_sl g p w) ∧ rm_lt (V2 (320 + rm_sl g p w)) 41 := fun w h => by
      obtain ⟨b1, b2⟩ := wg_raw_lt hn h hx8 hy8 hy0
      rw [(u4 w h).2]
      have := (u4 w h).1
      rw [t3 w h] at this ⊢
      exact ⟨Int.ediv_nonneg b1 (Int.le_of_lt u3), b2.div this⟩
    obtain ⟨S3, L3, G3, w1, w2⟩ := fin S2 L2 G2 V2 (fun w => V2 (320 + rm_sl g p w)) u2 (fun w h => ⟨rfl, ub w h⟩)
    simp only [rm_wK, hK, if_true, u1, Option.bind_some, w1]
    refine ⟨C, fun w => V2 (320 + rm_sl g p w), S3, L3, G3, _, rfl, w2, u3, fun w h => ⟨by have := hsl w h; exact rg_up_ne (by omega), ?_, ub w h⟩, rg_up_eq, fun q a b c d e => ?_⟩
    · show _ = V2 (320 + rm_sl g p w) * C
      rw [(u4 w h).2, Int.ediv_mul_cancel (u4 w h).1, t3 w h]
    · rw [rg_up_ne b, u5 q a c d, t4 q a d e]
  · rw [if_pos (by rw [hf, if_neg hex])]
    obtain ⟨S3, L3, G3, w1, w2⟩ := fin S1 L1 G1 V1 (wg_raw x y (rm_wy g r c p)) t2 (fun w h => ⟨t3 w h, wg_raw_lt hn h hx8 hy8 hy0⟩)
    simp only [w1]
    refine ⟨1, wg_raw x y (rm_wy g r c p), S3, L3, G3, _, rfl, w2, by decide, fun w h => ⟨by have := hsl w h; rw [rg_up_ne (by omega)]; exact t3 w h, (Int.mul_one _).symm, wg_raw_lt hn h hx8 hy8 hy0⟩, rg_up_eq, fun q a b c d e => ?_⟩
    rw [rg_up_ne b, t4 q a d e]
end

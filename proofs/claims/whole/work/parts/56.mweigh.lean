/-- the product of the denominators of the others that are above 0 -/
def wg_pr (x y : Nat → Int) (w : Nat) : Nat → Int
  | 0 => 1
  | k + 1 => if k = w ∨ x k ≤ 0 then wg_pr x y w k else wg_pr x y w k * y k
/-- the weights before what they have in common is taken out -/
def wg_raw (x y : Nat → Int) (n : Nat) (w : Nat) : Int := if ∃ v, v < n ∧ 0 < x v then (if 0 < x w then x w * wg_pr x y w n else 0) else 1
theorem wg_pr_pos {x y : Nat → Int} {w : Nat} : ∀ {k : Nat}, (∀ v, v < k → 0 < y v) → 0 < wg_pr x y w k
  | 0, _ => (by decide : (0 : Int) < 1)
  | k + 1, h => by
    unfold wg_pr
    have := wg_pr_pos (x := x) (w := w) (k := k) (fun v hv => h v (by omega))
    split
    · exact this
    · exact Int.mul_pos this (h k (by omega))
theorem wg_pr_lt {x y : Nat → Int} {w : Nat} : ∀ {k : Nat}, (∀ v, v < k → rm_lt (y v) 8) → rm_lt (wg_pr x y w k) (8 * (if w < k then k - 1 else k) + 1)
  | 0, _ => rm_lt_one (by omega)
  | k + 1, h => by
    unfold wg_pr
    have ih := wg_pr_lt (x := x) (w := w) (k := k) (fun v hv => h v (by omega))
    by_cases e : k = w
    · rw [if_pos (Or.inl e)]
      exact ih.mono (by subst e; split <;> split <;> omega)
    · by_cases e2 : x k ≤ 0
      · rw [if_pos (Or.inr e2)]
        exact ih.mono (by split <;> split <;> omega)
      · rw [if_neg (by omega)]
        exact (ih.mul (h k (by omega))).mono (by split <;> split <;> omega)
theorem rm_sg_le {v : Int} : rm_sg v ≤ 0 ↔ v ≤ 0 := by
  rcases (show v = 0 ∨ 0 < v ∨ v < 0 by omega) with p | p | p
  · subst p; exact ⟨fun _ => Int.le_refl _, fun _ => by decide⟩
  · rw [rm_sg_p p]; exact ⟨fun h => absurd h (by decide), fun h => by omega⟩
  · rw [rm_sg_n p]; exact ⟨fun _ => by omega, fun _ => by decide⟩
theorem rm_sg_gt {v : Int} : 0 < rm_sg v ↔ 0 < v := by rw [← Int32.not_le, rm_sg_le]; omega
theorem rm_V.sg {S L G : Nat → Int32} {V : Nat → Int} (h : rm_V S L G V) {a : Nat} (ha : a < 420) (h7 : a ≠ 387) : G a = rm_sg (V a) := (h a ha h7).choose_spec.2.2.2.1
section
variable {m aS aL aG aN aB : Nat} {M : rg_M}
/-- is any above 0? -/
theorem rm_wg12 (H : rm_F m aS aL aG aN aB M) {g p n o : Nat} (hg : rg_I M 115 m = nI g) (h1 : g < 3) (hp : p < 20) (hn : n ≤ 5) (hsl : ∀ w, w < n → rm_sl g p w < 40) (ho : o = 0 ∨ o = 80) {S L G : Nat → Int32} {V : Nat → Int} (hV : rm_V S L G V) : ∀ d k : Nat, n - k = d → k ≤ n → ∀ f : Int32, (f = if ∃ v, v < k ∧ 0 < V (o + rm_sl g p v) then 1 else 0) → rM_weigh_12 m (nI p) (nI o) (nI n) f (nI k) (rm_w aS aL aG M S L G) = rM_weigh_56 m (nI p) (nI o) (nI n) (if ∃ v, v < n ∧ 0 < V (o + rm_sl g p v) then 1 else 0) 0 (rm_w aS aL aG M S L G) := by
  have H0 := H
  have hK0 := H.1
  obtain ⟨hK, hS, hL, hG, -, -, kS, kL, kG, -, -, lS, lL, lG, -, -, d1, d2, d3, -⟩ := H
  intro d
  induction d with
  | zero =>
    intro k hd hk f hf
    have e : k = n := by omega
    rw [rM_weigh_12_e, e, if_pos (Int32.le_refl _), hf, e]
  | succ d ih =>
    intro k hd hk f hf
    have hkn : k < n := by omega
    have hs := hsl k hkn
    have p0 : ¬ nI n ≤ nI k := by rw [nI_leI (by omega) (by omega)]; omega
    rw [rM_weigh_12_e, if_neg p0]
    by_cases hex : ∃ v, v < k ∧ 0 < V (o + rm_sl g p v)
    · rw [if_pos hex] at hf
      rw [if_neg (by rw [hf]; decide), rM_weigh_40_e, rM_weigh_45_e, nI_1]
      refine ih (k + 1) (by omega) (by omega) 1 ?_
      obtain ⟨v, a1, a2⟩ := hex
      rw [if_pos ⟨v, by omega, a2⟩]
    · rw [if_neg hex] at hf
      have sl1 := rm_slot (m := m) (M := (rm_w aS aL aG M S L G)) hK0 (p := p) (w := k) hg h1
      have ca := nI_clamp (n := o + rm_sl g p k) (by omega)
      have ia := rm_i0 (a := o + rm_sl g p k) (by omega)
      have la : o + rm_sl g p k < 420 := by omega
      rw [if_pos hf]
      simp only [rm_wK, rm_wR, rm_wL, rm_wI, hK, hS, hL, hG, kS, kL, kG, lS, lL, lG, if_true, Option.bind_some, and_self, rm_rS, rm_rL d1, rm_rG d2 d3, rm_wS, rm_wLL d1, rm_wG d2 d3, sl1, nI_add, ca, ia, la, hV.sg la (by omega), rm_sg_le, rM_weigh_40_e, rM_weigh_45_e, nI_1]
      by_cases hx : V (o + rm_sl g p k) ≤ 0
      · rw [if_pos hx]
        refine ih (k + 1) (by omega) (by omega) 0 ?_
        rw [if_neg]
        rintro ⟨v, a1, a2⟩
        by_cases e : v = k
        · subst e; omega
        · exact hex ⟨v, by omega, a2⟩
      · rw [if_neg hx]
        refine ih (k + 1) (by omega) (by omega) 1 ?_
        rw [if_pos ⟨k, by omega, by omega⟩]
/-- one weight: the numerator times the other denominators -/
theorem rm_wg125 (H : rm_F m aS aL aG aN aB M) {g p n o w : Nat} (hg : rg_I M 115 m = nI g) (h1 : g < 3) (hp : p < 20) (hn : n ≤ 5) (hsl : ∀ w, w < n → rm_sl g p w < 40) (ho : o = 0 ∨ o = 80) (hw : w < n) (f : Int32) {x y : Nat → Int} (hx8 : ∀ v, v < n → rm_lt (x v) 8) (hy8 : ∀ v, v < n → rm_lt (y v) 8) : ∀ d k : Nat, n - k = d → k ≤ n → ∀ (S L G : Nat → Int32) (V : Nat → Int), rm_V S L G V → (∀ v, v < n → V (o + rm_sl g p v) = x v ∧ V (o + 40 + rm_sl g p v) = y v) → V 389 = x w * wg_pr x y w k →
    ∃ S' L' G' V', rM_weigh_125 m (nI p) (nI o) (nI n) f (nI w) (nI (rm_sl g p w)) (nI k) (rm_w aS aL aG M S L G) = rM_weigh_209 m (nI p) (nI o) (nI n) f (nI w) (rm_w aS aL aG M S' L' G') ∧ rm_V S' L' G' V' ∧ V' (320 + rm_sl g p w) = x w * wg_pr x y w n ∧ ∀ q, q ≠ 320 + rm_sl g p w → q ≠ 389 → q ≠ 390 → V' q = V q := by
  have H0 := H
  have hK0 := H.1
  obtain ⟨hK, hS, hL, hG, -, -, kS, kL, kG, -, -, lS, lL, lG, -, -, d1, d2, d3, -⟩ := H
  have hsw := hsl w hw
  have c89 : rm_cap 389 = 4200 := by decide
  have c90 : rm_cap 390 = 4200 := by decide
  have ew : (320 : Int32) + nI (rm_sl g p w) = nI (320 + rm_sl g p w) := by rw [show (320 : Int32) = nI 320 from rfl, nI_add]
  intro d
  induction d with
  | zero =>
    intro k hd hk S L G V hV hxy h89
    have e : k = n := by omega
    subst e
    have cw : rm_cap (320 + rm_sl g p w) ≥ 260 := rm_cap_ge _
    have hl : rm_lt (x w * wg_pr x y w k) 60 := ((hx8 w hw).mul (wg_pr_lt (x := x) (w := w) (k := k) hy8)).mono (by split <;> omega)
    obtain ⟨S1, L1, G1, t1, t2⟩ := rm_copyV H0 (a := 389) (c := 320 + rm_sl g p w) (by omega) (by omega) (by omega) hV (by rw [h89]; exact hl.mono (by omega))
    have t1 : rM_copy m 389 (nI (320 + rm_sl g p w)) (rm_w aS aL aG M S L G) = _ := t1
    rw [rM_weigh_125_e, if_pos (Int32.le_refl _)]
    simp only [rm_wK, hK0, if_true, ew, t1, Option.bind_some]
    exact ⟨S1, L1, G1, _, rfl, t2, by rw [rg_up_eq, h89], fun q h1 _ _ => rg_up_ne h1⟩
  | succ d ih =>
    intro k hd hk S L G V hV hxy h89
    have hkn : k < n := by omega
    have hs := hsl k hkn
    have p0 : ¬ nI n ≤ nI k := by rw [nI_leI (by omega) (by omega)]; omega
    rw [rM_weigh_125_e, if_neg p0]
    by_cases e : k = w
    · rw [if_pos (by rw [e]), rM_weigh_190_e, nI_1]
      exact ih (k + 1) (by omega) (by omega) S L G V hV hxy (by rw [h89, wg_pr, if_pos (Or.inl e)])
    · rw [if_neg (by rw [nI_eq (by omega) (by omega)]; exact e)]
      have sl1 := rm_slot (m := m) (M := (rm_w aS aL aG M S L G)) hK0 (p := p) (w := k) hg h1
      have ca := nI_clamp (n := o + rm_sl g p k) (by omega)
      have ia := rm_i0 (a := o + rm_sl g p k) (by omega)
      have la : o + rm_sl g p k < 420 := by omega
      have e40 : nI o + (40 : Int32) + nI (rm_sl g p k) = nI (o + 40 + rm_sl g p k) := by rw [show (40 : Int32) = nI 40 from rfl, nI_add, nI_add]
      simp only [rm_wK, rm_wR, rm_wL, rm_wI, hK, hS, hL, hG, kS, kL, kG, lS, lL, lG, if_true, Option.bind_some, and_self, rm_rS, rm_rL d1, rm_rG d2 d3, rm_wS, rm_wLL d1, rm_wG d2 d3, sl1, nI_add, ca, ia, la, hV.sg la (by omega), rm_sg_gt, (hxy k hkn).1]
      by_cases hx : 0 < x k
      · rw [if_pos hx]
        have hl : rm_lt (x w * wg_pr x y w k) 60 := ((hx8 w hw).mul (wg_pr_lt (x := x) (w := w) (k := k) (fun v hv => hy8 v (by omega)))).mono (by split <;> omega)
        obtain ⟨S1, L1, G1, t1, t2⟩ := rm_mulV H0 (a := 389) (b := o + 40 + rm_sl g p k) (c := 390) (ka := 60) (kb := 8) (by omega) (by omega) (by omega) (by omega) (by omega) (by omega) (by omega) hV (by rw [h89]; exact hl) (by rw [(hxy k hkn).2]; exact hy8 k hkn) (by omega)
        rw [h89, (hxy k hkn).2] at t2
        obtain ⟨S2, L2, G2, u1, u2⟩ := rm_copyV H0 (a := 390) (c := 389) (by omega) (by omega) (by omega) t2 (by rw [rg_up_eq]; exact (hl.mul (hy8 k hkn)).mono (by omega))
        rw [rg_up_eq] at u2
        have t1 : rM_multiply m 389 (nI (o + 40 + rm_sl g p k)) 390 (rm_w aS aL aG M S L G) = _ := t1
        have u1 : rM_copy m 390 389 (rm_w aS aL aG M S1 L1 G1) = _ := u1
        simp only [show nI o + (40 : Int32) = nI (o + 40) from nI_add o 40, nI_add, t1, u1, rm_wK, rm_wR, rm_wL, rm_wI, hK, hS, hL, hG, kS, kL, kG, lS, lL, lG, if_true, Option.bind_some, and_self, rm_rS, rm_rL d1, rm_rG d2 d3, rm_wS, rm_wLL d1, rm_wG d2 d3, rM_weigh_190_e, nI_1]
        have un : ∀ q, q ≠ 389 → q ≠ 390 → va_up (va_up V 390 (x w * wg_pr x y w k * y k)) 389 (x w * wg_pr x y w k * y k) q = V q := fun q a b => by rw [rg_up_ne a, rg_up_ne b]
        obtain ⟨S', L', G', V', v1, v2, v3, v4⟩ := ih (k + 1) (by omega) (by omega) S2 L2 G2 _ u2 (fun v hv => by have := hsl v hv; rw [un _ (by omega) (by omega), un _ (by omega) (by omega)]; exact hxy v hv) (by rw [rg_up_eq, wg_pr, if_neg (by omega), Int.mul_assoc])
        exact ⟨S', L', G', V', v1, v2, v3, fun q a b c => by rw [v4 q a b c, un q b c]⟩
      · rw [if_neg hx, rM_weigh_190_e, nI_1]
        exact ih (k + 1) (by omega) (by omega) S L G V hV hxy (by rw [h89, wg_pr, if_pos (Or.inr (by omega))])
end

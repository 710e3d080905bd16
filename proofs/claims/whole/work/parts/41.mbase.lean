/-! the reference's registers -/
def rm_w (aS aL aG : Nat) (M : rg_M) (S L G : Nat → Int32) : rg_M := (rg_K M, rg_I M, rg_R M, rg_L M, (fun b => if b = aS then S else if b = aL then L else if b = aG then G else rg_A M b), rg_J M, rg_Q M, rg_sz M, rg_us M)
theorem rm_wK (aS aL aG : Nat) (M : rg_M) (S L G : Nat → Int32) : rg_K (rm_w aS aL aG M S L G) = rg_K M := rfl
theorem rm_wI (aS aL aG : Nat) (M : rg_M) (S L G : Nat → Int32) : rg_I (rm_w aS aL aG M S L G) = rg_I M := rfl
theorem rm_wR (aS aL aG : Nat) (M : rg_M) (S L G : Nat → Int32) : rg_R (rm_w aS aL aG M S L G) = rg_R M := rfl
theorem rm_wL (aS aL aG : Nat) (M : rg_M) (S L G : Nat → Int32) : rg_L (rm_w aS aL aG M S L G) = rg_L M := rfl
/-- what is shown of the reference's object: its rows, apart -/
def rm_F (m aS aL aG aN aB : Nat) (M : rg_M) : Prop := rg_K M m = 8 ∧ rg_R M 112 m = some aS ∧ rg_R M 113 m = some aL ∧ rg_R M 114 m = some aG ∧ rg_R M 122 m = some aN ∧ rg_R M 123 m = some aB ∧
  rg_K M aS = 9 ∧ rg_K M aL = 9 ∧ rg_K M aG = 9 ∧ rg_K M aN = 9 ∧ rg_K M aB = 11 ∧ rg_L M aS = 266800 ∧ rg_L M aL = 420 ∧ rg_L M aG = 420 ∧ rg_L M aN = 25 ∧ rg_L M aB = 11 ∧ aL ≠ aS ∧ aG ≠ aS ∧ aG ≠ aL ∧ aN ≠ aS ∧ aN ≠ aL ∧ aN ≠ aG
theorem rm_rS {aS aL aG : Nat} {M : rg_M} {S L G : Nat → Int32} : rg_A (rm_w aS aL aG M S L G) aS = S := if_pos rfl
theorem rm_rL {aS aL aG : Nat} (h : aL ≠ aS) {M : rg_M} {S L G : Nat → Int32} : rg_A (rm_w aS aL aG M S L G) aL = L := (if_neg h).trans (if_pos rfl)
theorem rm_rG {aS aL aG : Nat} (h : aG ≠ aS) (h2 : aG ≠ aL) {M : rg_M} {S L G : Nat → Int32} : rg_A (rm_w aS aL aG M S L G) aG = G := (if_neg h).trans ((if_neg h2).trans (if_pos rfl))
theorem rm_rN {aS aL aG aN : Nat} (h : aN ≠ aS) (h2 : aN ≠ aL) (h3 : aN ≠ aG) {M : rg_M} {S L G : Nat → Int32} : rg_A (rm_w aS aL aG M S L G) aN = rg_A M aN := (if_neg h).trans ((if_neg h2).trans (if_neg h3))
theorem rm_ext {M M' : rg_M} (h1 : rg_K M = rg_K M') (h2 : rg_I M = rg_I M') (h3 : rg_R M = rg_R M') (h4 : rg_L M = rg_L M') (h5 : rg_A M = rg_A M') (h6 : rg_J M = rg_J M') (h7 : rg_Q M = rg_Q M') (h8 : rg_sz M = rg_sz M') (h9 : rg_us M = rg_us M') : M = M' := by
  obtain ⟨a1, a2, a3, a4, a5, a6, a7, a8, a9⟩ := M
  obtain ⟨b1, b2, b3, b4, b5, b6, b7, b8, b9⟩ := M'
  simp only [rg_K, rg_I, rg_R, rg_L, rg_A, rg_J, rg_Q, rg_sz, rg_us] at *
  subst h1 h2 h3 h4 h5 h6 h7 h8 h9
  rfl
theorem rm_wS {aS aL aG : Nat} {M : rg_M} {S L G : Nat → Int32} {i : Nat} {v : Int32} : rg_wA (rm_w aS aL aG M S L G) aS i v = rm_w aS aL aG M (upd S i v) L G := by
  refine rm_ext rfl rfl rfl rfl ?_ rfl rfl rfl rfl
  funext b j
  show rg_u2 _ _ _ _ b j = (if b = aS then upd S i v else _) j
  unfold rg_u2
  by_cases hb : b = aS
  · rw [if_pos hb, if_pos hb, hb, rm_rS]; rfl
  · rw [if_neg hb, if_neg hb]; show (if b = aS then S else _) j = _; rw [if_neg hb]
theorem rm_wLL {aS aL aG : Nat} (h : aL ≠ aS) {M : rg_M} {S L G : Nat → Int32} {i : Nat} {v : Int32} : rg_wA (rm_w aS aL aG M S L G) aL i v = rm_w aS aL aG M S (upd L i v) G := by
  refine rm_ext rfl rfl rfl rfl ?_ rfl rfl rfl rfl
  funext b j
  show rg_u2 _ _ _ _ b j = (if b = aS then S else if b = aL then upd L i v else _) j
  unfold rg_u2
  by_cases hb : b = aL
  · rw [if_pos hb, if_pos hb, hb, rm_rL h, if_neg h]; rfl
  · rw [if_neg hb, if_neg hb]; show (if b = aS then S else if b = aL then L else _) j = _; rw [if_neg hb]
theorem rm_wG {aS aL aG : Nat} (h : aG ≠ aS) (h2 : aG ≠ aL) {M : rg_M} {S L G : Nat → Int32} {i : Nat} {v : Int32} : rg_wA (rm_w aS aL aG M S L G) aG i v = rm_w aS aL aG M S L (upd G i v) := by
  refine rm_ext rfl rfl rfl rfl ?_ rfl rfl rfl rfl
  funext b j
  show rg_u2 _ _ _ _ b j = (if b = aS then S else if b = aL then L else if b = aG then upd G i v else _) j
  unfold rg_u2
  by_cases hb : b = aG
  · rw [if_pos hb, if_pos hb, hb, rm_rG h h2, if_neg h, if_neg h2]; rfl
  · rw [if_neg hb, if_neg hb]; show (if b = aS then S else if b = aL then L else if b = aG then G else _) j = _; rw [if_neg hb]
/-- where a register lies, and how long it may be -/
def rm_at (a : Nat) : Nat := if a < 380 then 260 * a else 98800 + 4200 * (a - 380)
def rm_cap (a : Nat) : Nat := if a < 380 then 260 else 4200
theorem rm_at_cap {a : Nat} (h : a < 420) : rm_at a + rm_cap a ≤ 266800 := by
  unfold rm_at rm_cap
  by_cases h1 : a < 380
  · rw [if_pos h1, if_pos h1]; omega
  · rw [if_neg h1, if_neg h1]; omega
/-- registers lie apart -/
theorem rm_apart {a b : Nat} (h : a ≠ b) (j k : Nat) (hj : j < rm_cap a) (hk : k < rm_cap b) : rm_at a + j ≠ rm_at b + k := by
  unfold rm_at rm_cap at *
  by_cases h1 : a < 380 <;> by_cases h2 : b < 380
  · rw [if_pos h1] at *; rw [if_pos h2] at *; omega
  · rw [if_pos h1] at *; rw [if_neg h2] at *; omega
  · rw [if_neg h1] at *; rw [if_pos h2] at *; omega
  · rw [if_neg h1] at *; rw [if_neg h2] at *; omega
theorem rm_at_s {a : Nat} (ha : a < 420) (M : rg_M) : rM_at (nI a) M = some (nI (rm_at a), M) := by
  rw [rM_at_u, rM_at_e]
  have e : (380 : Int32) = nI 380 := rfl
  by_cases h : a < 380
  · rw [e, if_neg (by rw [nI_leI (by omega) (by omega)]; omega), rM_at_27_e, show (260 : Int32) = nI 260 from rfl, pk_mul]
    unfold rm_at; rw [if_pos h]; rfl
  · rw [e, if_pos (by rw [nI_leI (by omega) (by omega)]; omega), rM_at_27_e, show (4200 : Int32) = nI 4200 from rfl, show (98800 : Int32) = nI 98800 from rfl, pk_sub (by omega), pk_mul, nI_add]
    unfold rm_at; rw [if_neg h]; rfl
theorem rm_i0 {a : Nat} (h : a < 2 ^ 31) : (0 : Int32) ≤ nI a := nI_pos' h
/-- how many words are left without those of 0 on top -/
def rm_tr (f : Nat → Int32) : Nat → Nat
  | 0 => 0
  | n + 1 => if f n = 0 then rm_tr f n else n + 1
theorem rm_tr_le (f : Nat → Int32) : ∀ n, rm_tr f n ≤ n
  | 0 => Nat.le_refl _
  | n + 1 => by
    unfold rm_tr
    by_cases h : f n = 0
    · rw [if_pos h]; have := rm_tr_le f n; omega
    · rw [if_neg h]; exact Nat.le_refl _
theorem rm_tr_top (f : Nat → Int32) : ∀ n, rm_tr f n = 0 ∨ f (rm_tr f n - 1) ≠ 0
  | 0 => Or.inl rfl
  | n + 1 => by
    unfold rm_tr
    by_cases h : f n = 0
    · rw [if_pos h]; exact rm_tr_top f n
    · rw [if_neg h]; exact Or.inr (by simpa using h)
theorem rm_tr_zero (f : Nat → Int32) : ∀ n k, rm_tr f n ≤ k → k < n → f k = 0
  | 0, k, _, h => by omega
  | n + 1, k, h1, h2 => by
    unfold rm_tr at h1
    by_cases h : f n = 0
    · rw [if_pos h] at h1
      by_cases e : k = n
      · rw [e]; exact h
      · exact rm_tr_zero f n k h1 (by omega)
    · rw [if_neg h] at h1; omega
theorem rm_upd_s (f : Nat → Int32) (a : Nat) (v : Int32) : upd f a v a = v := pk_us
theorem rm_upd_u (f : Nat → Int32) (a : Nat) (v w : Int32) : upd (upd f a v) a w = upd f a w := by
  funext j; unfold upd; by_cases h : j = a <;> simp [h]
theorem rm_upd_id (f : Nat → Int32) (a : Nat) : upd f a (f a) = f := by
  funext j; unfold upd; by_cases h : j = a <;> simp [h]
section
variable {m aS aL aG aN aB : Nat} {M : rg_M}
theorem rm_trim0 (H : rm_F m aS aL aG aN aB M) {a : Nat} (ha : a < 420) (S L G : Nat → Int32) : ∀ n : Nat, n ≤ rm_cap a → rM_trim_0 m (nI a) (rm_w aS aL aG M S (upd L a (nI n)) G) = some (none, rm_w aS aL aG M S (upd L a (nI (rm_tr (fun j => S (rm_at a + j)) n))) (if rm_tr (fun j => S (rm_at a + j)) n = 0 then upd G a 0 else G)) := by
  obtain ⟨hK, hS, hL, hG, -, -, kS, kL, kG, -, -, lS, lL, lG, -, -, d1, d2, d3, -⟩ := H
  have ca := nI_clamp (n := a) (by omega)
  have ia := rm_i0 (a := a) (by omega)
  have fin : ∀ (L2 : Nat → Int32), rM_trim_43 m (nI a) (rm_w aS aL aG M S L2 G) = some (none, rm_w aS aL aG M S L2 (if L2 a = 0 then upd G a 0 else G)) := by
    intro L2
    rw [rM_trim_43_e]
    simp only [rm_wK, rm_wR, rm_wL, hK, hL, hG, kL, kG, lL, lG, ca, ia, ha, if_true, Option.bind_some, and_self, rm_rL d1, rm_rG d2 d3, rm_wG d2 d3, rM_trim_59_e]
    by_cases h : L2 a = 0
    · rw [if_pos h, if_pos h]
    · rw [if_neg h, if_neg h]
  intro n
  induction n with
  | zero =>
    intro _
    rw [rM_trim_0_e]
    simp only [rm_wK, rm_wR, rm_wL, hK, hL, kL, lL, ca, ia, ha, if_true, Option.bind_some, and_self, rm_rL d1, rm_upd_s, nI_0, Int32.le_refl, fin, rm_tr]
  | succ n ih =>
    intro hn
    have hc := rm_at_cap ha
    rw [rM_trim_0_e]
    have e1 : nI (rm_at a) + nI (n + 1) - 1 = nI (rm_at a + n) := by rw [nI_add, ← Nat.add_assoc, nI_pred]
    have c1 := nI_clamp (n := rm_at a + n) (by omega)
    have i1 := rm_i0 (a := rm_at a + n) (by omega)
    have l1 : rm_at a + n < 266800 := by omega
    have e2 : nI (n + 1) - 1 = nI n := nI_pred n
    have c2 : rm_cap a ≤ 4200 := by unfold rm_cap; split <;> omega
    have p1 : ¬ nI (n + 1) ≤ 0 := nI_nle (by omega) (by omega)
    simp only [rm_wK, rm_wR, rm_wL, hK, hL, hS, kL, kS, lL, lS, ca, ia, ha, if_true, Option.bind_some, and_self, rm_rL d1, rm_rS, rm_upd_s, p1, if_false, rm_at_s ha, e1, c1, i1, l1, rm_wLL d1, e2, rm_upd_u]
    by_cases h : S (rm_at a + n) = 0
    · rw [if_pos h, show rm_tr (fun j => S (rm_at a + j)) (n + 1) = rm_tr (fun j => S (rm_at a + j)) n from if_pos h]; exact ih (by omega)
    · rw [if_neg h, show rm_tr (fun j => S (rm_at a + j)) (n + 1) = n + 1 from if_neg h, fin, rm_upd_s, if_neg (nI_ne0 (by omega) (by omega)), if_neg (by omega)]
theorem rm_trim (H : rm_F m aS aL aG aN aB M) {a n : Nat} (ha : a < 420) {S L G : Nat → Int32} (hn : n ≤ rm_cap a) (hL : L a = nI n) : rM_trim m (nI a) (rm_w aS aL aG M S L G) = some (rm_w aS aL aG M S (upd L a (nI (rm_tr (fun j => S (rm_at a + j)) n))) (if rm_tr (fun j => S (rm_at a + j)) n = 0 then upd G a 0 else G)) := by
  rw [rM_trim_u, rM_trim_e]
  have := rm_trim0 H ha S L G n hn
  rw [← hL, rm_upd_id] at this
  rw [this]; rfl
end

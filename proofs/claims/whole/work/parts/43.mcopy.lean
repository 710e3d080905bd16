section
variable {m aS aL aG aN aB : Nat} {M : rg_M}
theorem rm_cap_le (a : Nat) : rm_cap a ≤ 4200 := by unfold rm_cap; split <;> omega
theorem rm_cap_ge (a : Nat) : 260 ≤ rm_cap a := by unfold rm_cap; split <;> omega
/-- a word of a register -/
theorem rm_limb (H : rm_F m aS aL aG aN aB M) {a k n : Nat} (ha : a < 420) (hk : k < 2 ^ 31) {S L G : Nat → Int32} (hn : n ≤ rm_cap a) (hLa : L a = nI n) : rM_limb m (nI a) (nI k) (rm_w aS aL aG M S L G) = some (lN (if k < n then rm_u (S (rm_at a + k)) else 0), (rm_w aS aL aG M S L G)) := by
  obtain ⟨hK, hS, hL, hG, -, -, kS, kL, kG, -, -, lS, lL, lG, -, -, d1, d2, d3, -⟩ := H
  have ca_a := nI_clamp (n := a) (by omega)
  have ia_a := rm_i0 (a := a) (by omega)
  have c1 := rm_at_cap ha
  have c2 := rm_cap_le a
  rw [rM_limb_u, rM_limb_e]
  by_cases h : k < n
  · have p : ¬ nI n ≤ nI k := by rw [nI_leI (by omega) hk]; omega
    have c3 := nI_clamp (n := rm_at a + k) (by omega)
    have i3 := rm_i0 (a := rm_at a + k) (by omega)
    have l3 : rm_at a + k < 266800 := by omega
    simp only [rm_wK, rm_wR, rm_wL, rm_wI, hK, hS, hL, hG, kS, kL, kG, lS, lL, lG, if_true, Option.bind_some, and_self, rm_rS, rm_rL d1, rm_rG d2 d3, rm_wS, rm_wLL d1, rm_wG d2 d3, ca_a, ia_a, ha, hLa, p, if_false, rm_at_s ha, nI_add, c3, i3, l3, rM_limb_30_e, rm_mask]
    rw [if_pos h]; rfl
  · have p : nI n ≤ nI k := by rw [nI_leI (by omega) hk]; omega
    simp only [rm_wK, rm_wR, rm_wL, rm_wI, hK, hS, hL, hG, kS, kL, kG, lS, lL, lG, if_true, Option.bind_some, and_self, rm_rS, rm_rL d1, rm_rG d2 d3, rm_wS, rm_wLL d1, rm_wG d2 d3, ca_a, ia_a, ha, hLa, p, rM_limb_30_e]
    rw [if_neg h]; rfl
/-- what a row of words, being written, still says of a register -/
theorem rm_put_read {S g : Nat → Int32} {a c k j : Nat} (h : a = c → k ≤ j) (hj : j < rm_cap a) (hk : k ≤ rm_cap c) : fb_put S g (rm_at c) k (rm_at a + j) = S (rm_at a + j) := by
  by_cases e : a = c
  · subst e
    exact fb_put_out (Or.inr (by have := h rfl; omega))
  · unfold fb_put
    rw [if_neg]
    rintro ⟨h1, h2⟩
    exact rm_apart e j (rm_at a + j - rm_at c) hj (by omega) (by omega)
theorem rm_put_in {S g : Nat → Int32} {c n j : Nat} (h : j < n) : fb_put S g (rm_at c) n (rm_at c + j) = g j := by
  rw [fb_put_in (by omega) (by omega), Nat.add_sub_cancel_left]
theorem rm_copy8 (H : rm_F m aS aL aG aN aB M) {a c n : Nat} (ha : a < 420) (hc : c < 420) (hac : a ≠ c) {S L G : Nat → Int32} (hn : n ≤ rm_cap a) (hn2 : n ≤ rm_cap c) (hLa : L a = nI n) : ∀ d k : Nat, n - k = d → k ≤ n → rM_copy_8 m (nI a) (nI c) (nI k) (rm_w aS aL aG M (fb_put S (fun j => S (rm_at a + j)) (rm_at c) k) L G) = some (none, (rm_w aS aL aG M (fb_put S (fun j => S (rm_at a + j)) (rm_at c) n) (upd L c (nI n)) (upd G c (G a)))) := by
  obtain ⟨hK, hS, hL, hG, -, -, kS, kL, kG, -, -, lS, lL, lG, -, -, d1, d2, d3, -⟩ := H
  have ca_a := nI_clamp (n := a) (by omega)
  have ia_a := rm_i0 (a := a) (by omega)
  have ca_c := nI_clamp (n := c) (by omega)
  have ia_c := rm_i0 (a := c) (by omega)
  have c1 := rm_at_cap ha
  have c2 := rm_at_cap hc
  have c3 := rm_cap_le a
  intro d
  induction d with
  | zero =>
    intro k hd hk
    have e : k = n := by omega
    subst e
    have p : nI k ≤ nI k := Int32.le_refl _
    rw [rM_copy_8_e]
    simp only [rm_wK, rm_wR, rm_wL, rm_wI, hK, hS, hL, hG, kS, kL, kG, lS, lL, lG, if_true, Option.bind_some, and_self, rm_rS, rm_rL d1, rm_rG d2 d3, rm_wS, rm_wLL d1, rm_wG d2 d3, ca_a, ia_a, ha, ca_c, ia_c, hc, hLa, p, upd, if_neg hac]
  | succ d ih =>
    intro k hd hk
    have p : ¬ nI n ≤ nI k := by rw [nI_leI (by omega) (by omega)]; omega
    have i1 := nI_clamp (n := rm_at a + k) (by omega)
    have i2 := rm_i0 (a := rm_at a + k) (by omega)
    have i3 : rm_at a + k < 266800 := by omega
    have j1 := nI_clamp (n := rm_at c + k) (by omega)
    have j2 := rm_i0 (a := rm_at c + k) (by omega)
    have j3 : rm_at c + k < 266800 := by omega
    rw [rM_copy_8_e]
    simp only [rm_wK, rm_wR, rm_wL, rm_wI, hK, hS, hL, hG, kS, kL, kG, lS, lL, lG, if_true, Option.bind_some, and_self, rm_rS, rm_rL d1, rm_rG d2 d3, rm_wS, rm_wLL d1, rm_wG d2 d3, ca_a, ia_a, ha, ca_c, ia_c, hc, hLa, p, if_false, rm_at_s ha, rm_at_s hc, nI_add, i1, i2, i3, j1, j2, j3]
    rw [rm_put_read (fun e => absurd e hac) (by omega) (by omega), fb_put_succ S (fun j => S (rm_at a + j)), nI_1]
    exact ih (k + 1) (by omega) (by omega)
/-- a copy of a register -/
theorem rm_copy (H : rm_F m aS aL aG aN aB M) {a c : Nat} (ha : a < 420) (hc : c < 420) {S L G : Nat → Int32} {v : Int} (hv : rm_R S L G a v) (hcap : v.natAbs < rm_B ^ rm_cap c) : ∃ S' L' G', rM_copy m (nI a) (nI c) (rm_w aS aL aG M S L G) = some (rm_w aS aL aG M S' L' G') ∧ rm_R S' L' G' c v ∧ ∀ b, b ≠ c → rm_same S L G S' L' G' b := by
  rw [rM_copy_u, rM_copy_e]
  by_cases hac : a = c
  · subst hac
    rw [if_pos rfl]
    exact ⟨S, L, G, rfl, hv, fun b _ => rm_same.rf⟩
  · rw [if_neg (by rw [nI_eq (by omega) (by omega)]; exact hac)]
    obtain ⟨n, h1, h2, h3, h4, h5⟩ := hv
    have hn2 : n ≤ rm_cap c := by
      by_cases hn : n = 0
      · omega
      · have := rm_D_top h3 hn
        rw [← h5] at this
        have h6 : rm_B ^ (n - 1) < rm_B ^ rm_cap c := Nat.lt_of_le_of_lt this hcap
        have := (Nat.pow_lt_pow_iff_right (a := rm_B) (by decide)).mp h6
        omega
    have := rm_copy8 H ha hc hac (S := S) (L := L) (G := G) h1 hn2 h2 (n - 0) 0 rfl (Nat.zero_le _)
    rw [fb_put_0, nI_0] at this
    rw [this]
    refine ⟨_, _, _, rfl, ⟨n, hn2, pk_us, ?_, by rw [pk_us]; exact h4, ?_⟩, fun b hb => ⟨pk_un hb, pk_un hb, fun j hj => rm_put_read (fun e => absurd e hb) hj (by omega)⟩⟩
    · rcases h3 with h3 | h3
      · exact Or.inl h3
      · by_cases hn : n = 0
        · exact Or.inl hn
        · rw [rm_put_in (by omega)]; exact Or.inr h3
    · rw [h5]; exact ds_cong (fun k hk => by rw [rm_put_in hk])
/-- which of two registers is the greater, without their signs -/
theorem rm_comp45 (H : rm_F m aS aL aG aN aB M) {a b n : Nat} (ha : a < 420) (hb : b < 420) {S L G : Nat → Int32} (hn : n ≤ rm_cap a) (hn2 : n ≤ rm_cap b) (hLa : L a = nI n) (hLb : L b = nI n) : ∀ k : Nat, k ≤ n → (∀ j, k ≤ j → j < n → rm_u (S (rm_at a + j)) = rm_u (S (rm_at b + j))) → rM_compare_45 m (nI a) (nI b) (nI k - 1) (rm_w aS aL aG M S L G) = some (some (.int (if rm_D S a n < rm_D S b n then -1 else if rm_D S a n = rm_D S b n then 0 else 1)), (rm_w aS aL aG M S L G)) := by
  have c3 := rm_cap_le a
  intro k
  induction k with
  | zero =>
    intro _ he
    have e : rm_D S a n = rm_D S b n := ds_cong (fun j hj => he j (by omega) hj)
    rw [rM_compare_45_e, nI_0, if_pos (by decide), e, if_neg (Nat.lt_irrefl _), if_pos rfl]
  | succ k ih =>
    intro hk he
    have hK := H.1
    have p : ¬ nI k < 0 := nI_pos (by omega)
    rw [rM_compare_45_e, nI_pred, if_neg p]
    have l1 := rm_limb H ha (k := k) (by omega) (S := S) (G := G) hn hLa
    have l2 := rm_limb H hb (k := k) (by omega) (S := S) (G := G) hn2 hLb
    rw [if_pos (show k < n by omega)] at l1 l2
    simp only [rm_wK, hK, if_true, l1, l2, Option.bind_some]
    have ua := rm_u_lt (S (rm_at a + k))
    have ub := rm_u_lt (S (rm_at b + k))
    by_cases e : rm_u (S (rm_at a + k)) = rm_u (S (rm_at b + k))
    · rw [if_pos (by rw [e]), show nI k + (-1) = nI k - 1 from (Int32.sub_eq_add_neg _ _).symm]
      exact ih (by omega) (fun j h1 h2 => by
        by_cases q : j = k
        · rw [q]; exact e
        · exact he j (by omega) h2)
    · rw [if_neg (by rw [pk_lEQ (by omega) (by omega)]; exact e)]
      by_cases hl : rm_u (S (rm_at a + k)) < rm_u (S (rm_at b + k))
      · have hd : rm_D S a n < rm_D S b n := ds_cmp (fun j _ => rm_u_lt _) (show k < n by omega) (fun j h1 h2 => he j (by omega) h2) hl
        rw [if_neg (by rw [pk_lLE (by omega) (by omega)]; omega), rM_compare_86_e, if_pos hd]
      · have hd : rm_D S b n < rm_D S a n := ds_cmp (fun j _ => rm_u_lt _) (show k < n by omega) (fun j h1 h2 => (he j (by omega) h2).symm) (by omega)
        rw [if_pos (by rw [pk_lLE (by omega) (by omega)]; omega), rM_compare_86_e, if_neg (by omega), if_neg (by omega)]
theorem rm_comp (H : rm_F m aS aL aG aN aB M) {a b : Nat} (ha : a < 420) (hb : b < 420) {S L G : Nat → Int32} {na nb : Nat} (hna : na ≤ rm_cap a) (hnb : nb ≤ rm_cap b) (hLa : L a = nI na) (hLb : L b = nI nb) (ta : na = 0 ∨ S (rm_at a + (na - 1)) ≠ 0) (tb : nb = 0 ∨ S (rm_at b + (nb - 1)) ≠ 0) : rM_compare m (nI a) (nI b) (rm_w aS aL aG M S L G) = some (if rm_D S a na < rm_D S b nb then -1 else if rm_D S a na = rm_D S b nb then 0 else 1, (rm_w aS aL aG M S L G)) := by
  have H0 := H
  obtain ⟨hK, hS, hL, hG, -, -, kS, kL, kG, -, -, lS, lL, lG, -, -, d1, d2, d3, -⟩ := H
  have ca_a := nI_clamp (n := a) (by omega)
  have ia_a := rm_i0 (a := a) (by omega)
  have ca_b := nI_clamp (n := b) (by omega)
  have ia_b := rm_i0 (a := b) (by omega)
  have c3 := rm_cap_le a
  have c4 := rm_cap_le b
  have e3 : ∀ x, nI x - (1 : Int32) = nI x - 1 := fun _ => rfl
  rw [rM_compare_u, rM_compare_e]
  by_cases e : na = nb
  · subst e
    have := rm_comp45 H0 ha hb (S := S) (L := L) (G := G) hna hnb hLa hLb na (Nat.le_refl _) (fun j h1 h2 => by omega)
    simp only [rm_wK, rm_wR, rm_wL, rm_wI, hK, hS, hL, hG, kS, kL, kG, lS, lL, lG, if_true, Option.bind_some, and_self, rm_rS, rm_rL d1, rm_rG d2 d3, rm_wS, rm_wLL d1, rm_wG d2 d3, ca_a, ia_a, ha, ca_b, ia_b, hb, hLa, hLb, this]
    rfl
  · have e2 : ¬ nI na = nI nb := by rw [nI_eq (by omega) (by omega)]; exact e
    simp only [rm_wK, rm_wR, rm_wL, rm_wI, hK, hS, hL, hG, kS, kL, kG, lS, lL, lG, if_true, Option.bind_some, and_self, rm_rS, rm_rL d1, rm_rG d2 d3, rm_wS, rm_wLL d1, rm_wG d2 d3, ca_a, ia_a, ha, ca_b, ia_b, hb, hLa, hLb, e2, if_false]
    by_cases hl : na < nb
    · have hd : rm_D S a na < rm_D S b nb := by
        refine Nat.lt_of_lt_of_le (rm_D_lt S a na) (Nat.le_trans (Nat.pow_le_pow_right (by decide) (show na ≤ nb - 1 by omega)) (rm_D_top tb (by omega)))
      rw [if_neg (by rw [nI_leI (by omega) (by omega)]; omega), rM_compare_35_e, if_pos hd]; rfl
    · have hd : rm_D S b nb < rm_D S a na := by
        refine Nat.lt_of_lt_of_le (rm_D_lt S b nb) (Nat.le_trans (Nat.pow_le_pow_right (by decide) (show nb ≤ na - 1 by omega)) (rm_D_top ta (by omega)))
      rw [if_pos (by rw [nI_leI (by omega) (by omega)]; omega), rM_compare_35_e, if_neg (by omega), if_neg (by omega)]; rfl
end

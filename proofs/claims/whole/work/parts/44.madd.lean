/-! sums and differences of words -/
def ad_c (f g : Nat → Nat) : Nat → Nat
  | 0 => 0
  | k + 1 => (ad_c f g k + f k + g k) / rm_B
def ad_w (f g : Nat → Nat) (k : Nat) : Nat := (ad_c f g k + f k + g k) % rm_B
theorem ad_le {f g : Nat → Nat} (hf : ∀ k, f k < rm_B) (hg : ∀ k, g k < rm_B) : ∀ k, ad_c f g k ≤ 1
  | 0 => Nat.zero_le _
  | k + 1 => by
    have h1 := ad_le hf hg k
    have h2 := hf k
    have h3 := hg k
    show (ad_c f g k + f k + g k) / 4294967296 ≤ 1
    have h2 : f k < 4294967296 := h2
    have h3 : g k < 4294967296 := h3
    omega
theorem ad_sum {f g : Nat → Nat} : ∀ n, ds rm_B (ad_w f g) n + ad_c f g n * rm_B ^ n = ds rm_B f n + ds rm_B g n
  | 0 => by simp [ds, ad_c]
  | n + 1 => by
    have ih := ad_sum (f := f) (g := g) n
    rw [ds_s, ds_s, ds_s, Nat.pow_succ]
    have e : ad_w f g n + ad_c f g (n + 1) * rm_B = ad_c f g n + f n + g n := by
      unfold ad_w
      show _ % _ + (ad_c f g n + f n + g n) / rm_B * rm_B = _
      rw [Nat.mul_comm]; exact Nat.mod_add_div _ _
    have e2 : ad_w f g n * rm_B ^ n + ad_c f g (n + 1) * (rm_B ^ n * rm_B) = (ad_c f g n + f n + g n) * rm_B ^ n := by
      rw [← e, Nat.add_mul]; congr 1
      rw [Nat.mul_comm (rm_B ^ n) rm_B, ← Nat.mul_assoc]
    rw [Nat.add_mul, Nat.add_mul] at e2
    omega
def sx_b (f g : Nat → Nat) : Nat → Nat
  | 0 => 0
  | k + 1 => if f k < g k + sx_b f g k then 1 else 0
def sx_w (f g : Nat → Nat) (k : Nat) : Nat := (f k + rm_B - (g k + sx_b f g k)) % rm_B
theorem sx_le (f g : Nat → Nat) : ∀ k, sx_b f g k ≤ 1
  | 0 => Nat.zero_le _
  | k + 1 => by unfold sx_b; split <;> omega
theorem sx_sum {f g : Nat → Nat} (hf : ∀ k, f k < rm_B) (hg : ∀ k, g k < rm_B) : ∀ n, ds rm_B (sx_w f g) n + ds rm_B g n = ds rm_B f n + sx_b f g n * rm_B ^ n
  | 0 => by simp [ds, sx_b]
  | n + 1 => by
    have ih := sx_sum hf hg n
    rw [ds_s, ds_s, ds_s, Nat.pow_succ]
    have h1 := sx_le f g n
    have h2 : f n < 4294967296 := hf n
    have h3 : g n < 4294967296 := hg n
    have e : sx_w f g n + (g n + sx_b f g n) = f n + sx_b f g (n + 1) * rm_B := by
      show (f n + 4294967296 - (g n + sx_b f g n)) % 4294967296 + _ = _ + (if f n < g n + sx_b f g n then 1 else 0) * 4294967296
      split <;> omega
    have e2 : sx_w f g n * rm_B ^ n + (g n + sx_b f g n) * rm_B ^ n = f n * rm_B ^ n + sx_b f g (n + 1) * (rm_B ^ n * rm_B) := by
      rw [← Nat.add_mul, e, Nat.add_mul]; congr 1
      rw [Nat.mul_comm (rm_B ^ n) rm_B, ← Nat.mul_assoc]
    rw [Nat.add_mul] at e2
    omega
theorem sx_fin {f g : Nat → Nat} (hf : ∀ k, f k < rm_B) (hg : ∀ k, g k < rm_B) {n : Nat} (h : ds rm_B g n ≤ ds rm_B f n) : ds rm_B (sx_w f g) n = ds rm_B f n - ds rm_B g n := by
  have h1 := sx_sum hf hg n
  have h2 : ds rm_B (sx_w f g) n < rm_B ^ n := ds_lt (fun k _ => Nat.mod_lt _ (by decide))
  have h3 := sx_le f g n
  rcases (show sx_b f g n = 0 ∨ sx_b f g n = 1 by omega) with e | e
  · rw [e] at h1; omega
  · rw [e] at h1; omega
theorem rm_nI_mod (n : Nat) : nI (n % 4294967296) = nI n := rm_u_inj (by rw [rm_u_nI, rm_u_nI, Nat.mod_mod])
theorem rm_sub64 {x y b : Nat} (hx : x < 4294967296) (hy : y < 4294967296) (hb : b ≤ 1) : ((0 : Int64) ≤ lN x - lN y - lN b ↔ y + b ≤ x) ∧ (lN x - lN y - lN b).toInt32 = nI (x + 4294967296 - (y + b)) := by
  by_cases h : y + b ≤ x
  · have e : lN x - lN y - lN b = lN (x - y - b) := by rw [lN_sub (by omega), lN_sub (by omega)]
    rw [e]
    refine ⟨⟨fun _ => h, fun _ => ?_⟩, ?_⟩
    · rw [Int64.le_iff_toInt_le, pk_lT (by omega)]; show (0 : Int) ≤ _; omega
    · rw [lN_i, ← rm_nI_mod (x + 4294967296 - (y + b)), show (x + 4294967296 - (y + b)) % 4294967296 = x - y - b by omega]
  · have e0 : lN x = lN (x + 18446744073709551616) := by rw [wb_mod (x + 18446744073709551616), wb_mod x]; exact congrArg lN (by omega)
    have e : lN x - lN y - lN b = lN (x + 18446744073709551616 - y - b) := by rw [e0, lN_sub (by omega), lN_sub (by omega)]
    rw [e]
    refine ⟨⟨fun q => ?_, fun q => absurd q h⟩, ?_⟩
    · rw [Int64.le_iff_toInt_le, lN_ti (by omega)] at q
      exfalso
      rw [if_neg (by omega)] at q
      have q : (0 : Int) ≤ _ := q
      omega
    · rw [lN_i, ← rm_nI_mod (x + 4294967296 - (y + b)), ← rm_nI_mod (x + 18446744073709551616 - y - b)]
      exact congrArg nI (by omega)
/-- the words of a register of n words, 0 beyond -/
def rm_f (S : Nat → Int32) (a n : Nat) : Nat → Nat := fun j => if j < n then rm_u (S (rm_at a + j)) else 0
theorem rm_f_lt (S : Nat → Int32) (a n k : Nat) : rm_f S a n k < rm_B := by
  unfold rm_f; split
  · exact rm_u_lt _
  · decide
theorem rm_f_ds (S : Nat → Int32) (a : Nat) {n k : Nat} (h : n ≤ k) : ds rm_B (rm_f S a n) k = rm_D S a n := by
  rw [ds_more (f := rm_f S a n) h (fun j h1 _ => if_neg (by omega))]
  exact ds_cong (fun j hj => if_pos hj)
section
variable {m aS aL aG aN aB : Nat} {M : rg_M}
theorem rm_apart22 (H : rm_F m aS aL aG aN aB M) {a b c na nb : Nat} (ha : a < 420) (hb : b < 420) (hc : c < 420) {S L G : Nat → Int32} (hna : na ≤ rm_cap a) (hnb : nb ≤ rm_cap b) (hnc : na ≤ rm_cap c) : ∀ d k : Nat, na - k = d → k ≤ na → rM_apart_22 m (nI a) (nI b) (nI c) (nI na) (nI nb) (lN (sx_b (rm_f S a na) (rm_f S b nb) k)) (nI k) (rm_w aS aL aG M (fb_put S (fun j => nI (sx_w (rm_f S a na) (rm_f S b nb) j)) (rm_at c) k) L G) = some (none, (rm_w aS aL aG M (fb_put S (fun j => nI (sx_w (rm_f S a na) (rm_f S b nb) j)) (rm_at c) na) (upd L c (nI na)) G)) := by
  obtain ⟨hK, hS, hL, hG, -, -, kS, kL, kG, -, -, lS, lL, lG, -, -, d1, d2, d3, -⟩ := H
  have ca_a := nI_clamp (n := a) (by omega)
  have ia_a := rm_i0 (a := a) (by omega)
  have ca_b := nI_clamp (n := b) (by omega)
  have ia_b := rm_i0 (a := b) (by omega)
  have ca_c := nI_clamp (n := c) (by omega)
  have ia_c := rm_i0 (a := c) (by omega)
  have c1 := rm_at_cap ha
  have c2 := rm_at_cap hb
  have c5 := rm_at_cap hc
  have c3 := rm_cap_le a
  have c4 := rm_cap_le b
  intro d
  induction d with
  | zero =>
    intro k hd hk
    have e : k = na := by omega
    subst e
    have p : nI k ≤ nI k := Int32.le_refl _
    rw [rM_apart_22_e]
    simp only [rm_wK, rm_wR, rm_wL, rm_wI, hK, hS, hL, hG, kS, kL, kG, lS, lL, lG, if_true, Option.bind_some, and_self, rm_rS, rm_rL d1, rm_rG d2 d3, rm_wS, rm_wLL d1, rm_wG d2 d3, ca_c, ia_c, hc, p]
  | succ d ih =>
    intro k hd hk
    have p : ¬ nI na ≤ nI k := by rw [nI_leI (by omega) (by omega)]; omega
    have i1 := nI_clamp (n := rm_at a + k) (by omega)
    have i2 := rm_i0 (a := rm_at a + k) (by omega)
    have i3 : rm_at a + k < 266800 := by omega
    have j1 := nI_clamp (n := rm_at c + k) (by omega)
    have j2 := rm_i0 (a := rm_at c + k) (by omega)
    have j3 : rm_at c + k < 266800 := by omega
    have fa : rm_u (S (rm_at a + k)) = rm_f S a na k := (if_pos (by omega)).symm
    have la : rm_f S a na k < 4294967296 := rm_f_lt S a na k
    have lb : rm_f S b nb k < 4294967296 := rm_f_lt S b nb k
    have lc := sx_le (rm_f S a na) (rm_f S b nb) k
    obtain ⟨s1, s2⟩ := rm_sub64 la lb lc
    have key : rM_apart_74 m (nI a) (nI b) (nI c) (nI na) (nI nb) (lN (sx_b (rm_f S a na) (rm_f S b nb) k)) (nI k) (lN (rm_f S b nb k)) (lN (rm_f S a na k)) (rm_w aS aL aG M (fb_put S (fun j => nI (sx_w (rm_f S a na) (rm_f S b nb) j)) (rm_at c) k) L G) = some (none, (rm_w aS aL aG M (fb_put S (fun j => nI (sx_w (rm_f S a na) (rm_f S b nb) j)) (rm_at c) na) (upd L c (nI na)) G)) := by
      rw [rM_apart_74_e]
      simp only [rm_wK, rm_wR, rm_wL, rm_wI, hK, hS, hL, hG, kS, kL, kG, lS, lL, lG, if_true, Option.bind_some, and_self, rm_rS, rm_rL d1, rm_rG d2 d3, rm_wS, rm_wLL d1, rm_wG d2 d3, rm_at_s hc, nI_add, j1, j2, j3, s2, rM_apart_107_e, nI_1]
      have ew : nI (rm_f S a na k + 4294967296 - (rm_f S b nb k + sx_b (rm_f S a na) (rm_f S b nb) k)) = nI (sx_w (rm_f S a na) (rm_f S b nb) k) := (rm_nI_mod _).symm
      rw [ew, fb_put_succ S (fun j => nI (sx_w (rm_f S a na) (rm_f S b nb) j))]
      have := ih (k + 1) (by omega) (by omega)
      by_cases q : rm_f S a na k < rm_f S b nb k + sx_b (rm_f S a na) (rm_f S b nb) k
      · rw [if_neg (by rw [s1]; omega)]
        rw [show sx_b (rm_f S a na) (rm_f S b nb) (k + 1) = 1 from if_pos q] at this
        exact this
      · rw [if_pos (by rw [s1]; omega)]
        rw [show sx_b (rm_f S a na) (rm_f S b nb) (k + 1) = 0 from if_neg q] at this
        exact this
    rw [rM_apart_22_e]
    by_cases hkb : k < nb
    · have p2 : ¬ nI nb ≤ nI k := by rw [nI_leI (by omega) (by omega)]; omega
      have k1 := nI_clamp (n := rm_at b + k) (by omega)
      have k2 := rm_i0 (a := rm_at b + k) (by omega)
      have k3 : rm_at b + k < 266800 := by omega
      have fb : rm_u (S (rm_at b + k)) = rm_f S b nb k := (if_pos hkb).symm
      simp only [rm_wK, rm_wR, rm_wL, rm_wI, hK, hS, hL, hG, kS, kL, kG, lS, lL, lG, if_true, Option.bind_some, and_self, rm_rS, rm_rL d1, rm_rG d2 d3, rm_wS, rm_wLL d1, rm_wG d2 d3, p, p2, if_false, rm_at_s ha, rm_at_s hb, nI_add, i1, i2, i3, k1, k2, k3, rm_mask]
      rw [rm_put_read (fun e => Nat.le_refl _) (by omega) (by omega), rm_put_read (fun e => Nat.le_refl _) (by omega) (by omega), fa, fb]
      exact key
    · have p2 : nI nb ≤ nI k := by rw [nI_leI (by omega) (by omega)]; omega
      have fb : (0 : Int64) = lN (rm_f S b nb k) := by rw [show rm_f S b nb k = 0 from if_neg hkb]; rfl
      simp only [rm_wK, rm_wR, rm_wL, rm_wI, hK, hS, hL, hG, kS, kL, kG, lS, lL, lG, if_true, Option.bind_some, and_self, rm_rS, rm_rL d1, rm_rG d2 d3, rm_wS, rm_wLL d1, rm_wG d2 d3, p, p2, if_false, rm_at_s ha, nI_add, i1, i2, i3, rm_mask]
      rw [rm_put_read (fun e => Nat.le_refl _) (by omega) (by omega), fa, fb]
      exact key
/-- the greater register less the lesser one, without signs; trimmed by the caller -/
theorem rm_apart_s (H : rm_F m aS aL aG aN aB M) {a b c na nb : Nat} (ha : a < 420) (hb : b < 420) (hc : c < 420) {S L G : Nat → Int32} (hna : na ≤ rm_cap a) (hnb : nb ≤ rm_cap b) (hnc : na ≤ rm_cap c) (hLa : L a = nI na) (hLb : L b = nI nb) (hle : rm_D S b nb ≤ rm_D S a na) (hnn : nb ≤ na) : ∃ S', rM_apart m (nI a) (nI b) (nI c) (rm_w aS aL aG M S L G) = some (rm_w aS aL aG M S' (upd L c (nI na)) G) ∧ rm_D S' c na = rm_D S a na - rm_D S b nb ∧ ∀ q, q ≠ c → ∀ j, j < rm_cap q → S' (rm_at q + j) = S (rm_at q + j) := by
  have H0 := H
  obtain ⟨hK, hS, hL, hG, -, -, kS, kL, kG, -, -, lS, lL, lG, -, -, d1, d2, d3, -⟩ := H
  have ca_a := nI_clamp (n := a) (by omega)
  have ia_a := rm_i0 (a := a) (by omega)
  have ca_b := nI_clamp (n := b) (by omega)
  have ia_b := rm_i0 (a := b) (by omega)
  have ca_c := nI_clamp (n := c) (by omega)
  have ia_c := rm_i0 (a := c) (by omega)
  have := rm_apart22 H0 ha hb hc (S := S) (L := L) (G := G) hna hnb hnc na 0 rfl (Nat.zero_le _)
  rw [fb_put_0] at this
  have this : rM_apart_22 m (nI a) (nI b) (nI c) (nI na) (nI nb) 0 0 (rm_w aS aL aG M S L G) = _ := this
  rw [rM_apart_u, rM_apart_e]
  simp only [rm_wK, rm_wR, rm_wL, rm_wI, hK, hS, hL, hG, kS, kL, kG, lS, lL, lG, if_true, Option.bind_some, and_self, rm_rS, rm_rL d1, rm_rG d2 d3, rm_wS, rm_wLL d1, rm_wG d2 d3, ca_a, ia_a, ha, ca_b, ia_b, hb, hLa, hLb, this]
  refine ⟨_, rfl, ?_, fun q hq j hj => rm_put_read (fun e => absurd e hq) hj hnc⟩
  have e : rm_D (fb_put S (fun j => nI (sx_w (rm_f S a na) (rm_f S b nb) j)) (rm_at c) na) c na = ds rm_B (sx_w (rm_f S a na) (rm_f S b nb)) na := ds_cong (fun k hk => by
    rw [rm_put_in hk, rm_u_nI]
    exact Nat.mod_eq_of_lt (Nat.mod_lt _ (by decide)))
  rw [e, sx_fin (fun k => rm_f_lt S a na k) (fun k => rm_f_lt S b nb k) (by rw [rm_f_ds S a (Nat.le_refl _), rm_f_ds S b hnn]; exact hle), rm_f_ds S a (Nat.le_refl _), rm_f_ds S b hnn]
end

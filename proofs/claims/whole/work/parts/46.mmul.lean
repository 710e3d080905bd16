section
variable {m aS aL aG aN aB : Nat} {M : rg_M}
theorem rm_mul18 (H : rm_F m aS aL aG aN aB M) {a b c n : Nat} (hc : c < 420) {S L G : Nat → Int32} (hn : n ≤ rm_cap c) : ∀ d k : Nat, n - k = d → k ≤ n → rM_multiply_18 m (nI a) (nI b) (nI c) (nI n) (nI k) (rm_w aS aL aG M (fb_put S (fun _ => 0) (rm_at c) k) L G) = rM_multiply_47 m (nI a) (nI b) (nI c) (nI n) 0 (rm_w aS aL aG M (fb_put S (fun _ => 0) (rm_at c) n) L G) := by
  obtain ⟨hK, hS, hL, hG, -, -, kS, kL, kG, -, -, lS, lL, lG, -, -, d1, d2, d3, -⟩ := H
  have ca_c := nI_clamp (n := c) (by omega)
  have ia_c := rm_i0 (a := c) (by omega)
  have c2 := rm_at_cap hc
  have c3 := rm_cap_le c
  intro d
  induction d with
  | zero =>
    intro k hd hk
    have e : k = n := by omega
    subst e
    rw [rM_multiply_18_e, if_pos (Int32.le_refl _)]
  | succ d ih =>
    intro k hd hk
    have p : ¬ nI n ≤ nI k := by rw [nI_leI (by omega) (by omega)]; omega
    have j1 := nI_clamp (n := rm_at c + k) (by omega)
    have j2 := rm_i0 (a := rm_at c + k) (by omega)
    have j3 : rm_at c + k < 266800 := by omega
    rw [rM_multiply_18_e]
    simp only [rm_wK, rm_wR, rm_wL, rm_wI, hK, hS, hL, hG, kS, kL, kG, lS, lL, lG, if_true, Option.bind_some, and_self, rm_rS, rm_rL d1, rm_rG d2 d3, rm_wS, rm_wLL d1, rm_wG d2 d3, p, if_false, rm_at_s hc, nI_add, j1, j2, j3]
    have := fb_put_succ S (fun _ => 0) (rm_at c) k
    rw [this, nI_1]
    exact ih (k + 1) (by omega) (by omega)
/-- what holds while register c is being made of a's first i words and all of b's -/
def rm_mi (S0 S1 : Nat → Int32) (a b c na nb i : Nat) : Prop := (∀ q, q ≠ c → ∀ j, j < rm_cap q → S1 (rm_at q + j) = S0 (rm_at q + j)) ∧ (∀ k, i + nb ≤ k → k < na + nb → S1 (rm_at c + k) = 0) ∧ rm_D S1 c (na + nb) = rm_D S0 a i * rm_D S0 b nb
theorem rm_D_upd (S : Nat → Int32) {c n j : Nat} (hj : j < n) (v : Int32) : rm_D (upd S (rm_at c + j) v) c n + rm_u (S (rm_at c + j)) * rm_B ^ j = rm_D S c n + rm_u v * rm_B ^ j := by
  have := ds_upd (B := rm_B) (f := fun k => rm_u (S (rm_at c + k))) hj (rm_u v)
  have e : rm_D (upd S (rm_at c + j) v) c n = ds rm_B (fun k => if k = j then rm_u v else rm_u (S (rm_at c + k))) n := by
    refine ds_cong (fun k _ => ?_)
    by_cases e : k = j
    · subst e; rw [pk_us, if_pos rfl]
    · rw [pk_un (by omega), if_neg e]
  rw [e]; exact this
theorem rm_mul82 (H : rm_F m aS aL aG aN aB M) {a b c na nb i : Nat} (ha : a < 420) (hb : b < 420) (hc : c < 420) (hbc : b ≠ c) {S0 L G : Nat → Int32} (hna : na ≤ rm_cap a) (hnb : nb ≤ rm_cap b) (hn : na + nb ≤ rm_cap c) (hLb : L b = nI nb) (hi : i < na) : ∀ d j : Nat, nb - j = d → j ≤ nb → ∀ (S1 : Nat → Int32) (cy : Nat), cy < rm_B → (∀ q, q ≠ c → ∀ j, j < rm_cap q → S1 (rm_at q + j) = S0 (rm_at q + j)) → (∀ k, i + nb ≤ k → k < na + nb → S1 (rm_at c + k) = 0) → rm_D S1 c (na + nb) + cy * rm_B ^ (i + j) = rm_D S0 a i * rm_D S0 b nb + rm_u (S0 (rm_at a + i)) * rm_D S0 b j * rm_B ^ i →
    ∃ S2, rM_multiply_82 m (nI a) (nI b) (nI c) (nI (na + nb)) (nI i) (lN (rm_u (S0 (rm_at a + i)))) (lN cy) (nI (rm_at c + i)) (nI j) (rm_w aS aL aG M S1 L G) = rM_multiply_47 m (nI a) (nI b) (nI c) (nI (na + nb)) (nI (i + 1)) (rm_w aS aL aG M S2 L G) ∧ rm_mi S0 S2 a b c na nb (i + 1) := by
  obtain ⟨hK, hS, hL, hG, -, -, kS, kL, kG, -, -, lS, lL, lG, -, -, d1, d2, d3, -⟩ := H
  have ca_b := nI_clamp (n := b) (by omega)
  have ia_b := rm_i0 (a := b) (by omega)
  have c1 := rm_at_cap hb
  have c2 := rm_at_cap hc
  have c3 := rm_cap_le c
  intro d
  induction d with
  | zero =>
    intro j hd hj S1 cy hcy s1 s2 s3
    have e : j = nb := by omega
    subst e
    have p : nI j ≤ nI j := Int32.le_refl _
    have j1 := nI_clamp (n := rm_at c + i + j) (by omega)
    have j2 := rm_i0 (a := rm_at c + i + j) (by omega)
    have j3 : rm_at c + i + j < 266800 := by omega
    rw [rM_multiply_82_e]
    simp only [rm_wK, rm_wR, rm_wL, rm_wI, hK, hS, hL, hG, kS, kL, kG, lS, lL, lG, if_true, Option.bind_some, and_self, rm_rS, rm_rL d1, rm_rG d2 d3, rm_wS, rm_wLL d1, rm_wG d2 d3, ca_b, ia_b, hb, hLb, p, nI_add, j1, j2, j3, lN_i, nI_1]
    refine ⟨_, rfl, fun q hq k hk => ?_, fun k h1 h2 => ?_, ?_⟩
    · rw [Nat.add_assoc, pk_un (rm_apart hq k (i + j) hk (by omega))]; exact s1 q hq k hk
    · rw [pk_un (by omega)]; exact s2 k (by omega) h2
    · have := rm_D_upd S1 (c := c) (n := na + j) (j := i + j) (by omega) (nI cy)
      rw [Nat.add_assoc]
      rw [s2 (i + j) (Nat.le_refl _) (by omega), rm_u_zero, Nat.zero_mul, Nat.add_zero, rm_u_nI, Nat.mod_eq_of_lt hcy] at this
      rw [this, s3]
      show _ = (rm_D S0 a i + rm_u (S0 (rm_at a + i)) * rm_B ^ i) * _
      rw [Nat.add_mul, Nat.mul_assoc, Nat.mul_assoc, Nat.mul_comm (rm_B ^ i)]
  | succ d ih =>
    intro j hd hj S1 cy hcy s1 s2 s3
    have p : ¬ nI nb ≤ nI j := by rw [nI_leI (by omega) (by omega)]; omega
    have j1 := nI_clamp (n := rm_at c + i + j) (by omega)
    have j2 := rm_i0 (a := rm_at c + i + j) (by omega)
    have j3 : rm_at c + i + j < 266800 := by omega
    have k1 := nI_clamp (n := rm_at b + j) (by omega)
    have k2 := rm_i0 (a := rm_at b + j) (by omega)
    have k3 : rm_at b + j < 266800 := by omega
    rw [rM_multiply_82_e]
    simp only [rm_wK, rm_wR, rm_wL, rm_wI, hK, hS, hL, hG, kS, kL, kG, lS, lL, lG, if_true, Option.bind_some, and_self, rm_rS, rm_rL d1, rm_rG d2 d3, rm_wS, rm_wLL d1, rm_wG d2 d3, ca_b, ia_b, hb, hLb, p, if_false, rm_at_s hb, nI_add, j1, j2, j3, k1, k2, k3, rm_mask, lN_mul, lN_add, lN_i, nI_1]
    rw [s1 b hbc j (by omega)]
    have l1 := rm_u_lt (S0 (rm_at a + i))
    have l2 := rm_u_lt (S0 (rm_at b + j))
    have l3 := rm_u_lt (S1 (rm_at c + i + j))
    have hcy' : cy < 4294967296 := hcy
    have hm : rm_u (S0 (rm_at a + i)) * rm_u (S0 (rm_at b + j)) ≤ 4294967295 * 4294967295 := Nat.mul_le_mul (by omega) (by omega)
    rw [rm_s32 (by omega)]
    obtain ⟨v, hv⟩ : ∃ v, v = rm_u (S0 (rm_at a + i)) * rm_u (S0 (rm_at b + j)) + rm_u (S1 (rm_at c + i + j)) + cy := ⟨_, rfl⟩
    rw [← hv]
    refine ih (j + 1) (by omega) (by omega) _ (v / 4294967296) (by show _ < 4294967296; omega) (fun q hq k hk => ?_) (fun k h1 h2 => ?_) ?_
    · rw [Nat.add_assoc, pk_un (rm_apart hq k (i + j) hk (by omega))]; exact s1 q hq k hk
    · rw [pk_un (by omega)]; exact s2 k (by omega) h2
    · have := rm_D_upd S1 (c := c) (n := na + nb) (j := i + j) (by omega) (nI v)
      rw [rm_u_nI] at this
      rw [Nat.add_assoc (rm_at c) i j] at hv ⊢
      have e1 : v % 4294967296 + v / 4294967296 * rm_B = v := by rw [Nat.mul_comm]; exact Nat.mod_add_div v 4294967296
      have e2 : v % 4294967296 * rm_B ^ (i + j) + v / 4294967296 * rm_B ^ (i + (j + 1)) = v * rm_B ^ (i + j) := by
        rw [← Nat.add_assoc i j 1, Nat.pow_succ, Nat.mul_comm (rm_B ^ (i + j)) rm_B, ← Nat.mul_assoc, ← Nat.add_mul, e1]
      have e3 : v * rm_B ^ (i + j) = rm_u (S0 (rm_at a + i)) * rm_u (S0 (rm_at b + j)) * rm_B ^ (i + j) + rm_u (S1 (rm_at c + (i + j))) * rm_B ^ (i + j) + cy * rm_B ^ (i + j) := by rw [hv, Nat.add_mul, Nat.add_mul]
      have e4 : rm_u (S0 (rm_at a + i)) * rm_D S0 b (j + 1) * rm_B ^ i = rm_u (S0 (rm_at a + i)) * rm_D S0 b j * rm_B ^ i + rm_u (S0 (rm_at a + i)) * rm_u (S0 (rm_at b + j)) * rm_B ^ (i + j) := by
        show _ * (rm_D S0 b j + rm_u (S0 (rm_at b + j)) * rm_B ^ j) * _ = _
        rw [Nat.mul_add, Nat.add_mul, Nat.pow_add, Nat.mul_comm (rm_B ^ i) (rm_B ^ j)]
        congr 1
        simp only [Nat.mul_assoc]
      omega
theorem rm_sg_mul (x y : Int) : rm_sg x * rm_sg y = rm_sg (x * y) := by
  rcases (show x = 0 ∨ 0 < x ∨ x < 0 by omega) with p | p | p
  · subst p; rw [Int.zero_mul, rm_sg_0, Int32.zero_mul]
  · rcases (show y = 0 ∨ 0 < y ∨ y < 0 by omega) with q | q | q
    · subst q; rw [Int.mul_zero, rm_sg_0, Int32.mul_zero]
    · rw [rm_sg_p p, rm_sg_p q, rm_sg_p (Int.mul_pos p q)]; rfl
    · rw [rm_sg_p p, rm_sg_n q, rm_sg_n (Int.mul_neg_of_pos_of_neg p q)]; rfl
  · rcases (show y = 0 ∨ 0 < y ∨ y < 0 by omega) with q | q | q
    · subst q; rw [Int.mul_zero, rm_sg_0, Int32.mul_zero]
    · rw [rm_sg_n p, rm_sg_p q, rm_sg_n (Int.mul_neg_of_neg_of_pos p q)]; rfl
    · rw [rm_sg_n p, rm_sg_n q, rm_sg_p (Int.mul_pos_of_neg_of_neg p q)]; rfl
theorem rm_mul47 (H : rm_F m aS aL aG aN aB M) {a b c na nb : Nat} (ha : a < 420) (hb : b < 420) (hc : c < 420) (hac : a ≠ c) (hbc : b ≠ c) {S0 L G : Nat → Int32} {va vb : Int} (hna : na ≤ rm_cap a) (hnb : nb ≤ rm_cap b) (hn : na + nb ≤ rm_cap c) (hLa : L a = nI na) (hLb : L b = nI nb) (hGa : G a = rm_sg va) (hGb : G b = rm_sg vb) (hva : va.natAbs = rm_D S0 a na) (hvb : vb.natAbs = rm_D S0 b nb) : ∀ d i : Nat, na - i = d → i ≤ na → ∀ S1 : Nat → Int32, rm_mi S0 S1 a b c na nb i →
    ∃ S2 L' G', rM_multiply_47 m (nI a) (nI b) (nI c) (nI (na + nb)) (nI i) (rm_w aS aL aG M S1 L G) = some (none, (rm_w aS aL aG M S2 L' G')) ∧ rm_R S2 L' G' c (va * vb) ∧ ∀ q, q ≠ c → rm_same S0 L G S2 L' G' q := by
  have H0 := H
  obtain ⟨hK, hS, hL, hG, -, -, kS, kL, kG, -, -, lS, lL, lG, -, -, d1, d2, d3, -⟩ := H
  have ca_a := nI_clamp (n := a) (by omega)
  have ia_a := rm_i0 (a := a) (by omega)
  have ca_b := nI_clamp (n := b) (by omega)
  have ia_b := rm_i0 (a := b) (by omega)
  have ca_c := nI_clamp (n := c) (by omega)
  have ia_c := rm_i0 (a := c) (by omega)
  have c3 := rm_cap_le c
  have c4 := rm_at_cap hc
  intro d
  induction d with
  | zero =>
    intro i hd hi S1 hS
    have e : i = na := by omega
    subst e
    have p : nI i ≤ nI i := Int32.le_refl _
    rw [rM_multiply_47_e]
    simp only [rm_wK, rm_wR, rm_wL, rm_wI, hK, hS, hL, hG, kS, kL, kG, lS, lL, lG, if_true, Option.bind_some, and_self, rm_rS, rm_rL d1, rm_rG d2 d3, rm_wS, rm_wLL d1, rm_wG d2 d3, ca_a, ia_a, ha, ca_b, ia_b, hb, ca_c, ia_c, hc, hLa, p, hGa, hGb, rm_sg_mul]
    obtain ⟨L', G', u1, u2, u3⟩ := rm_trimR H0 hc (S := S1) (L := upd L c (nI (i + nb))) (G := upd G c (rm_sg (va * vb))) (v := va * vb) (n := i + nb) hn pk_us (fun _ => pk_us) (by rw [Int.natAbs_mul, hva, hvb, hS.2.2])
    rw [u1]
    exact ⟨S1, L', G', rfl, u2, fun q hq => rm_same.tr ⟨pk_un hq, pk_un hq, hS.1 q hq⟩ (u3 q hq)⟩
  | succ d ih =>
    intro i hd hi S1 hS
    have p : ¬ nI na ≤ nI i := by rw [nI_leI (by omega) (by omega)]; omega
    have lm := rm_limb H0 ha (k := i) (by omega) (S := S1) (G := G) hna hLa
    rw [if_pos (by omega), hS.1 a hac i (by omega)] at lm
    obtain ⟨S2, t1, t2⟩ := rm_mul82 H0 ha hb hc hbc (S0 := S0) (L := L) (G := G) hna hnb hn hLb (show i < na by omega) nb 0 rfl (Nat.zero_le _) S1 0 (by decide) hS.1 hS.2.1 (by rw [hS.2.2]; simp [rm_D, ds])
    rw [rM_multiply_47_e]
    have t1 : rM_multiply_82 m (nI a) (nI b) (nI c) (nI (na + nb)) (nI i) (lN (rm_u (S0 (rm_at a + i)))) 0 (nI (rm_at c + i)) 0 (rm_w aS aL aG M S1 L G) = _ := t1
    simp only [rm_wK, rm_wR, rm_wL, rm_wI, hK, hS, hL, hG, kS, kL, kG, lS, lL, lG, if_true, Option.bind_some, and_self, rm_rS, rm_rL d1, rm_rG d2 d3, rm_wS, rm_wLL d1, rm_wG d2 d3, ca_a, ia_a, ha, hLa, p, if_false, lm, rm_at_s hc, nI_add, t1]
    exact ih (i + 1) (by omega) (by omega) S2 t2
/-- a product of registers -/
theorem rm_mul (H : rm_F m aS aL aG aN aB M) {a b c ka kb : Nat} (ha : a < 420) (hb : b < 420) (hc : c < 420) (hac : a ≠ c) (hbc : b ≠ c) {S L G : Nat → Int32} {va vb : Int} (hva : rm_R S L G a va) (hvb : rm_R S L G b vb) (hA : va.natAbs < rm_B ^ ka) (hB : vb.natAbs < rm_B ^ kb) (hk : ka + kb ≤ rm_cap c) : ∃ S' L' G', rM_multiply m (nI a) (nI b) (nI c) (rm_w aS aL aG M S L G) = some (rm_w aS aL aG M S' L' G') ∧ rm_R S' L' G' c (va * vb) ∧ ∀ q, q ≠ c → rm_same S L G S' L' G' q := by
  have H0 := H
  obtain ⟨hK, hS, hL, hG, -, -, kS, kL, kG, -, -, lS, lL, lG, -, -, d1, d2, d3, -⟩ := H
  have ca_a := nI_clamp (n := a) (by omega)
  have ia_a := rm_i0 (a := a) (by omega)
  have ca_b := nI_clamp (n := b) (by omega)
  have ia_b := rm_i0 (a := b) (by omega)
  have ca_c := nI_clamp (n := c) (by omega)
  have ia_c := rm_i0 (a := c) (by omega)
  obtain ⟨na, a1, a2, a3, a4, a5⟩ := hva
  obtain ⟨nb, b1, b2, b3, b4, b5⟩ := hvb
  have na1 := rm_len a3 a5 hA
  have nb1 := rm_len b3 b5 hB
  have z := rm_mul18 H0 (a := a) (b := b) hc (S := S) (L := L) (G := G) (n := na + nb) (by omega) (na + nb) 0 rfl (Nat.zero_le _)
  rw [fb_put_0] at z
  have z : rM_multiply_18 m (nI a) (nI b) (nI c) (nI (na + nb)) 0 (rm_w aS aL aG M S L G) = _ := z
  obtain ⟨S2, L', G', t1, t2, t3⟩ := rm_mul47 H0 ha hb hc hac hbc (S0 := S) (L := L) (G := G) a1 b1 (by omega) a2 b2 a4 b4 a5 b5 na 0 rfl (Nat.zero_le _) (fb_put S (fun _ => 0) (rm_at c) (na + nb)) ⟨fun q hq j hj => rm_put_read (fun e => absurd e hq) hj (by omega), fun k _ h2 => rm_put_in h2, by
    have e0 : rm_D (fb_put S (fun _ => 0) (rm_at c) (na + nb)) c (na + nb) = 0 := ds_zero (fun k hk => by rw [rm_put_in hk]; rfl)
    rw [e0]; simp [rm_D, ds]⟩
  have t1 : rM_multiply_47 m (nI a) (nI b) (nI c) (nI (na + nb)) 0 (rm_w aS aL aG M (fb_put S (fun _ => 0) (rm_at c) (na + nb)) L G) = _ := t1
  rw [rM_multiply_u, rM_multiply_e]
  simp only [rm_wK, rm_wR, rm_wL, rm_wI, hK, hS, hL, hG, kS, kL, kG, lS, lL, lG, if_true, Option.bind_some, and_self, rm_rS, rm_rL d1, rm_rG d2 d3, rm_wS, rm_wLL d1, rm_wG d2 d3, ca_a, ia_a, ha, ca_b, ia_b, hb, a2, b2, nI_add, z, t1]
  exact ⟨S2, L', G', rfl, t2, t3⟩
/-- a register times a number -/
theorem rm_scale (H : rm_F m aS aL aG aN aB M) {a k : Nat} (ha : a < 420) (ha1 : a ≠ 416) (ha2 : a ≠ 417) {S L G : Nat → Int32} {va : Int} (v : Int64) (hva : rm_R S L G a va) (hA : va.natAbs < rm_B ^ k) (hk : k + 2 ≤ 4200) (hr : (va * v.toInt).natAbs < rm_B ^ rm_cap a) : ∃ S' L' G', rM_scale m (nI a) v (rm_w aS aL aG M S L G) = some (rm_w aS aL aG M S' L' G') ∧ rm_R S' L' G' a (va * v.toInt) ∧ ∀ q, q ≠ a → q ≠ 416 → q ≠ 417 → rm_same S L G S' L' G' q := by
  obtain ⟨S1, L1, G1, t1, t2, t3⟩ := rm_is H (c := 417) (by omega) S L G v
  have hv2 : v.toInt.natAbs < rm_B ^ 2 := by
    have := fb_rngL v
    show _ < 18446744073709551616
    omega
  obtain ⟨S2, L2, G2, u1, u2, u3⟩ := rm_mul H (a := a) (b := 417) (c := 416) ha (by omega) (by omega) ha1 (by omega) (hva.same (t3 a ha2)) t2 hA hv2 (by exact hk)
  obtain ⟨S3, L3, G3, w1, w2, w3⟩ := rm_copy H (a := 416) (c := a) (by omega) ha u2 hr
  rw [rM_scale_u, rM_scale_e]
  have hK := H.1
  have t1 : rM_is m 417 v (rm_w aS aL aG M S L G) = _ := t1
  have u1 : rM_multiply m (nI a) 417 416 (rm_w aS aL aG M S1 L1 G1) = _ := u1
  have w1 : rM_copy m 416 (nI a) (rm_w aS aL aG M S2 L2 G2) = _ := w1
  simp only [rm_wK, hK, if_true, t1, u1, w1, Option.bind_some]
  exact ⟨S3, L3, G3, rfl, w2, fun q h1 h2 h3 => (t3 q h3).tr ((u3 q h2).tr (w3 q h1))⟩
end

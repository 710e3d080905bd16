theorem rm_s32 {n : Nat} (h : n < 18446744073709551616) : ((lN n).toUInt64 >>> ((32 : Int32).toInt64.toUInt64 &&& Int64.toUInt64 63)).toInt64 = lN (n / 4294967296) := wb_shr (k := 32) h (by decide)
section
variable {m aS aL aG aN aB : Nat} {M : rg_M}
theorem rm_tog54 (H : rm_F m aS aL aG aN aB M) {a b c na nb n : Nat} (ha : a < 420) (hb : b < 420) (hc : c < 420) {S L G : Nat → Int32} (hna : na ≤ rm_cap a) (hnb : nb ≤ rm_cap b) (hn1 : na ≤ n) (hn2 : nb ≤ n) (hnc : n + 1 ≤ rm_cap c) : ∀ d k : Nat, n - k = d → k ≤ n → rM_together_54 m (nI a) (nI b) (nI c) (nI n) (lN (ad_c (rm_f S a na) (rm_f S b nb) k)) (nI na) (nI nb) (nI k) (rm_w aS aL aG M (fb_put S (fun j => nI (ad_w (rm_f S a na) (rm_f S b nb) j)) (rm_at c) k) L G) = some (none, (rm_w aS aL aG M (upd (fb_put S (fun j => nI (ad_w (rm_f S a na) (rm_f S b nb) j)) (rm_at c) n) (rm_at c + n) (nI (ad_c (rm_f S a na) (rm_f S b nb) n))) (upd L c (nI (n + 1))) G)) := by
  obtain ⟨hK, hS, hL, hG, -, -, kS, kL, kG, -, -, lS, lL, lG, -, -, d1, d2, d3, -⟩ := H
  have ca_a := nI_clamp (n := a) (by omega)
  have ia_a := rm_i0 (a := a) (by omega)
  have ca_b := nI_clamp (n := b) (by omega)
  have ia_b := rm_i0 (a := b) (by omega)
  have ca_c := nI_clamp (n := c) (by omega)
  have ia_c := rm_i0 (a := c) (by omega)
  have c1 := rm_at_cap ha
  have c2 := rm_at_cap hb
  have c5 := rm_at_cap hc
  have c3 := rm_cap_le c
  intro d
  induction d with
  | zero =>
    intro k hd hk
    have e : k = n := by omega
    subst e
    have p : nI k ≤ nI k := Int32.le_refl _
    have j1 := nI_clamp (n := rm_at c + k) (by omega)
    have j2 := rm_i0 (a := rm_at c + k) (by omega)
    have j3 : rm_at c + k < 266800 := by omega
    rw [rM_together_54_e]
    simp only [rm_wK, rm_wR, rm_wL, rm_wI, hK, hS, hL, hG, kS, kL, kG, lS, lL, lG, if_true, Option.bind_some, and_self, rm_rS, rm_rL d1, rm_rG d2 d3, rm_wS, rm_wLL d1, rm_wG d2 d3, ca_c, ia_c, hc, p, rm_at_s hc, nI_add, j1, j2, j3, lN_i, nI_1]
  | succ d ih =>
    intro k hd hk
    have p : ¬ nI n ≤ nI k := by rw [nI_leI (by omega) (by omega)]; omega
    have j1 := nI_clamp (n := rm_at c + k) (by omega)
    have j2 := rm_i0 (a := rm_at c + k) (by omega)
    have j3 : rm_at c + k < 266800 := by omega
    have la : rm_f S a na k < 4294967296 := rm_f_lt S a na k
    have lb : rm_f S b nb k < 4294967296 := rm_f_lt S b nb k
    have lc := ad_le (rm_f_lt S a na) (rm_f_lt S b nb) k
    have key2 : rM_together_120 m (nI a) (nI b) (nI c) (nI n) (nI na) (nI nb) (nI k) (lN (rm_f S b nb k)) (lN (ad_c (rm_f S a na) (rm_f S b nb) k + rm_f S a na k)) (rm_w aS aL aG M (fb_put S (fun j => nI (ad_w (rm_f S a na) (rm_f S b nb) j)) (rm_at c) k) L G) = some (none, (rm_w aS aL aG M (upd (fb_put S (fun j => nI (ad_w (rm_f S a na) (rm_f S b nb) j)) (rm_at c) n) (rm_at c + n) (nI (ad_c (rm_f S a na) (rm_f S b nb) n))) (upd L c (nI (n + 1))) G)) := by
      rw [rM_together_120_e]
      simp only [rm_wK, rm_wR, rm_wL, rm_wI, hK, hS, hL, hG, kS, kL, kG, lS, lL, lG, if_true, Option.bind_some, and_self, rm_rS, rm_rL d1, rm_rG d2 d3, rm_wS, rm_wLL d1, rm_wG d2 d3, rm_at_s hc, nI_add, j1, j2, j3, lN_add, lN_i, nI_1]
      rw [rm_s32 (by omega)]
      have ew : nI (ad_c (rm_f S a na) (rm_f S b nb) k + rm_f S a na k + rm_f S b nb k) = nI (ad_w (rm_f S a na) (rm_f S b nb) k) := (rm_nI_mod _).symm
      rw [ew, fb_put_succ S (fun j => nI (ad_w (rm_f S a na) (rm_f S b nb) j))]
      exact ih (k + 1) (by omega) (by omega)
    have key1 : rM_together_91 m (nI a) (nI b) (nI c) (nI n) (nI na) (nI nb) (nI k) (lN (rm_f S a na k)) (lN (ad_c (rm_f S a na) (rm_f S b nb) k)) (rm_w aS aL aG M (fb_put S (fun j => nI (ad_w (rm_f S a na) (rm_f S b nb) j)) (rm_at c) k) L G) = some (none, (rm_w aS aL aG M (upd (fb_put S (fun j => nI (ad_w (rm_f S a na) (rm_f S b nb) j)) (rm_at c) n) (rm_at c + n) (nI (ad_c (rm_f S a na) (rm_f S b nb) n))) (upd L c (nI (n + 1))) G)) := by
      rw [rM_together_91_e]
      by_cases hkb : k < nb
      · have p2 : ¬ nI nb ≤ nI k := by rw [nI_leI (by omega) (by omega)]; omega
        have k1 := nI_clamp (n := rm_at b + k) (by omega)
        have k2 := rm_i0 (a := rm_at b + k) (by omega)
        have k3 : rm_at b + k < 266800 := by omega
        have fb : rm_u (S (rm_at b + k)) = rm_f S b nb k := (if_pos hkb).symm
        simp only [rm_wK, rm_wR, rm_wL, rm_wI, hK, hS, hL, hG, kS, kL, kG, lS, lL, lG, if_true, Option.bind_some, and_self, rm_rS, rm_rL d1, rm_rG d2 d3, rm_wS, rm_wLL d1, rm_wG d2 d3, p2, if_false, rm_at_s hb, nI_add, k1, k2, k3, rm_mask, lN_add]
        rw [rm_put_read (fun e => Nat.le_refl _) (by omega) (by omega), fb]
        exact key2
      · have p2 : nI nb ≤ nI k := by rw [nI_leI (by omega) (by omega)]; omega
        have fb : (0 : Int64) = lN (rm_f S b nb k) := by rw [show rm_f S b nb k = 0 from if_neg hkb]; rfl
        rw [if_pos p2, lN_add, fb]
        exact key2
    rw [rM_together_54_e, if_neg p]
    by_cases hka : k < na
    · have p2 : ¬ nI na ≤ nI k := by rw [nI_leI (by omega) (by omega)]; omega
      have k1 := nI_clamp (n := rm_at a + k) (by omega)
      have k2 := rm_i0 (a := rm_at a + k) (by omega)
      have k3 : rm_at a + k < 266800 := by omega
      have fa : rm_u (S (rm_at a + k)) = rm_f S a na k := (if_pos hka).symm
      simp only [rm_wK, rm_wR, rm_wL, rm_wI, hK, hS, hL, hG, kS, kL, kG, lS, lL, lG, if_true, Option.bind_some, and_self, rm_rS, rm_rL d1, rm_rG d2 d3, rm_wS, rm_wLL d1, rm_wG d2 d3, p2, if_false, rm_at_s ha, nI_add, k1, k2, k3, rm_mask]
      rw [rm_put_read (fun e => Nat.le_refl _) (by omega) (by omega), fa]
      exact key1
    · have p2 : nI na ≤ nI k := by rw [nI_leI (by omega) (by omega)]; omega
      have fa : (0 : Int64) = lN (rm_f S a na k) := by rw [show rm_f S a na k = 0 from if_neg hka]; rfl
      rw [if_pos p2, fa]
      exact key1
theorem rm_together (H : rm_F m aS aL aG aN aB M) {a b c na nb n : Nat} (ha : a < 420) (hb : b < 420) (hc : c < 420) {S L G : Nat → Int32} (hna : na ≤ rm_cap a) (hnb : nb ≤ rm_cap b) (hn : n = if na ≤ nb then nb else na) (hnc : n + 1 ≤ rm_cap c) (hLa : L a = nI na) (hLb : L b = nI nb) : ∃ S', rM_together m (nI a) (nI b) (nI c) (rm_w aS aL aG M S L G) = some (rm_w aS aL aG M S' (upd L c (nI (n + 1))) G) ∧ rm_D S' c (n + 1) = rm_D S a na + rm_D S b nb ∧ ∀ q, q ≠ c → ∀ j, j < rm_cap q → S' (rm_at q + j) = S (rm_at q + j) := by
  have H0 := H
  obtain ⟨hK, hS, hL, hG, -, -, kS, kL, kG, -, -, lS, lL, lG, -, -, d1, d2, d3, -⟩ := H
  have ca_a := nI_clamp (n := a) (by omega)
  have ia_a := rm_i0 (a := a) (by omega)
  have ca_b := nI_clamp (n := b) (by omega)
  have ia_b := rm_i0 (a := b) (by omega)
  have ca_c := nI_clamp (n := c) (by omega)
  have ia_c := rm_i0 (a := c) (by omega)
  have c3 := rm_cap_le a
  have c4 := rm_cap_le b
  have q1 : na ≤ n := by rw [hn]; split <;> omega
  have q2 : nb ≤ n := by rw [hn]; split <;> omega
  have := rm_tog54 H0 ha hb hc (S := S) (L := L) (G := G) hna hnb q1 q2 hnc n 0 rfl (Nat.zero_le _)
  rw [fb_put_0] at this
  have this : rM_together_54 m (nI a) (nI b) (nI c) (nI n) 0 (nI na) (nI nb) 0 (rm_w aS aL aG M S L G) = _ := this
  have t30 : rM_together_30 m (nI a) (nI b) (nI c) (nI n) (rm_w aS aL aG M S L G) = rM_together_54 m (nI a) (nI b) (nI c) (nI n) 0 (nI na) (nI nb) 0 (rm_w aS aL aG M S L G) := by
    rw [rM_together_30_e]
    simp only [rm_wK, rm_wR, rm_wL, rm_wI, hK, hS, hL, hG, kS, kL, kG, lS, lL, lG, if_true, Option.bind_some, and_self, rm_rS, rm_rL d1, rm_rG d2 d3, rm_wS, rm_wLL d1, rm_wG d2 d3, ca_a, ia_a, ha, ca_b, ia_b, hb, hLa, hLb]
  have tb : rM_together_b m (nI a) (nI b) (nI c) (rm_w aS aL aG M S L G) = rM_together_30 m (nI a) (nI b) (nI c) (nI n) (rm_w aS aL aG M S L G) := by
    rw [rM_together_e]
    simp only [rm_wK, rm_wR, rm_wL, rm_wI, hK, hS, hL, hG, kS, kL, kG, lS, lL, lG, if_true, Option.bind_some, and_self, rm_rS, rm_rL d1, rm_rG d2 d3, rm_wS, rm_wLL d1, rm_wG d2 d3, ca_a, ia_a, ha, ca_b, ia_b, hb, hLa, hLb, nI_leI (show na < 2 ^ 31 by omega) (show nb < 2 ^ 31 by omega)]
    rw [hn]
    by_cases e : na ≤ nb
    · rw [if_pos e, if_pos e]
    · rw [if_neg e, if_neg e]
  rw [rM_together_u, tb, t30, this]
  refine ⟨_, rfl, ?_, fun q hq j hj => ?_⟩
  · unfold rm_D
    rw [ds_s]
    have lc := ad_le (rm_f_lt S a na) (rm_f_lt S b nb) n
    have e : ds rm_B (fun j => rm_u (upd (fb_put S (fun j => nI (ad_w (rm_f S a na) (rm_f S b nb) j)) (rm_at c) n) (rm_at c + n) (nI (ad_c (rm_f S a na) (rm_f S b nb) n)) (rm_at c + j))) n = ds rm_B (ad_w (rm_f S a na) (rm_f S b nb)) n := ds_cong (fun k hk => by
      rw [pk_un (by omega), rm_put_in hk, rm_u_nI]
      exact Nat.mod_eq_of_lt (Nat.mod_lt _ (by decide)))
    rw [e, pk_us, rm_u_nI, Nat.mod_eq_of_lt (by omega), ad_sum, rm_f_ds S a q1, rm_f_ds S b q2]
    rfl
  · rw [pk_un (rm_apart hq j n hj (by omega)), rm_put_read (fun e => absurd e hq) hj (by omega)]
/-- the length of what a register holds -/
theorem rm_len {S : Nat → Int32} {a n k : Nat} {v : Int} (ht : n = 0 ∨ S (rm_at a + (n - 1)) ≠ 0) (hv : v.natAbs = rm_D S a n) (hk : v.natAbs < rm_B ^ k) : n ≤ k := by
  by_cases hn : n = 0
  · omega
  · have := rm_D_top ht hn
    rw [← hv] at this
    have h6 : rm_B ^ (n - 1) < rm_B ^ k := Nat.lt_of_le_of_lt this hk
    have := (Nat.pow_lt_pow_iff_right (a := rm_B) (by decide)).mp h6
    omega
theorem rm_len2 {S : Nat → Int32} {a b n k : Nat} (ht : n = 0 ∨ S (rm_at a + (n - 1)) ≠ 0) (hv : rm_D S a n ≤ rm_D S b k) : n ≤ k := by
  by_cases hn : n = 0
  · omega
  · have := rm_D_top ht hn
    have h6 : rm_B ^ (n - 1) < rm_B ^ k := Nat.lt_of_le_of_lt (Nat.le_trans this hv) (rm_D_lt S b k)
    have := (Nat.pow_lt_pow_iff_right (a := rm_B) (by decide)).mp h6
    omega
/-- a sum of registers -/
theorem rm_plus (H : rm_F m aS aL aG aN aB M) {a b c : Nat} (ha : a < 420) (hb : b < 420) (hc : c < 420) {S L G : Nat → Int32} {va vb : Int} (hva : rm_R S L G a va) (hvb : rm_R S L G b vb) (hA : va.natAbs < rm_B ^ (rm_cap c - 1)) (hB : vb.natAbs < rm_B ^ (rm_cap c - 1)) : ∃ S' L' G', rM_plus m (nI a) (nI b) (nI c) (rm_w aS aL aG M S L G) = some (rm_w aS aL aG M S' L' G') ∧ rm_R S' L' G' c (va + vb) ∧ ∀ q, q ≠ c → rm_same S L G S' L' G' q := by
  have H0 := H
  obtain ⟨hK, hS, hL, hG, -, -, kS, kL, kG, -, -, lS, lL, lG, -, -, d1, d2, d3, -⟩ := H
  have ca_a := nI_clamp (n := a) (by omega)
  have ia_a := rm_i0 (a := a) (by omega)
  have ca_b := nI_clamp (n := b) (by omega)
  have ia_b := rm_i0 (a := b) (by omega)
  have ca_c := nI_clamp (n := c) (by omega)
  have ia_c := rm_i0 (a := c) (by omega)
  have hpw : rm_B ^ (rm_cap c - 1) ≤ rm_B ^ rm_cap c := Nat.pow_le_pow_right (by decide) (by omega)
  have c3 := rm_cap_le c
  have c4 := rm_cap_ge c
  have hA2 := hva
  have hB2 := hvb
  obtain ⟨na, a1, a2, a3, a4, a5⟩ := hva
  obtain ⟨nb, b1, b2, b3, b4, b5⟩ := hvb
  have na1 := rm_len a3 a5 hA
  have nb1 := rm_len b3 b5 hB
  rw [rM_plus_u, rM_plus_e]
  simp only [rm_wK, rm_wR, rm_wL, rm_wI, hK, hS, hL, hG, kS, kL, kG, lS, lL, lG, if_true, Option.bind_some, and_self, rm_rS, rm_rL d1, rm_rG d2 d3, rm_wS, rm_wLL d1, rm_wG d2 d3, ca_a, ia_a, ha, ca_b, ia_b, hb, a4, b4, rm_sg_eq0]
  by_cases hva0 : va = 0
  · obtain ⟨S', L', G', t1, t2, t3⟩ := rm_copy H0 hb hc hB2 (Nat.lt_of_lt_of_le hB hpw)
    rw [if_pos hva0, rM_plus_26_e, if_pos (by rw [hva0]; rfl), rM_plus_37_e]
    simp only [rm_wK, hK, if_true, t1, Option.bind_some]
    exact ⟨S', L', G', rfl, by rw [hva0, Int.zero_add]; exact t2, t3⟩
  · rw [if_neg hva0]
    by_cases hvb0 : vb = 0
    · obtain ⟨S', L', G', t1, t2, t3⟩ := rm_copy H0 ha hc hA2 (Nat.lt_of_lt_of_le hA hpw)
      rw [if_pos hvb0, rM_plus_26_e, if_neg (by rw [rm_sg_eq0]; exact hva0), rM_plus_37_e]
      simp only [rm_wK, hK, if_true, t1, Option.bind_some]
      exact ⟨S', L', G', rfl, by rw [hvb0, Int.add_zero]; exact t2, t3⟩
    · rw [if_neg hvb0]
      by_cases hs : rm_sg va = rm_sg vb
      · rw [if_pos hs]
        have hsign : (0 < va ∧ 0 < vb) ∨ (va < 0 ∧ vb < 0) := by
          rcases (show 0 < va ∨ va < 0 by omega) with p | p <;> rcases (show 0 < vb ∨ vb < 0 by omega) with q | q
          · exact Or.inl ⟨p, q⟩
          · rw [rm_sg_p p, rm_sg_n q] at hs; exact absurd hs (by decide)
          · rw [rm_sg_n p, rm_sg_p q] at hs; exact absurd hs (by decide)
          · exact Or.inr ⟨p, q⟩
        obtain ⟨S1, t1, t2, t3⟩ := rm_together H0 ha hb hc (S := S) (L := L) (G := G) a1 b1 rfl (by split <;> omega) a2 b2
        simp only [t1, rm_wK, rm_wR, rm_wL, rm_wI, hK, hS, hL, hG, kS, kL, kG, lS, lL, lG, if_true, Option.bind_some, and_self, rm_rS, rm_rL d1, rm_rG d2 d3, rm_wS, rm_wLL d1, rm_wG d2 d3, ca_c, ia_c, hc, rM_plus_123_e]
        obtain ⟨L', G', u1, u2, u3⟩ := rm_trimR H0 hc (S := S1) (L := upd L c (nI ((if na ≤ nb then nb else na) + 1))) (G := upd G c (rm_sg va)) (v := va + vb) (n := (if na ≤ nb then nb else na) + 1) (by split <;> omega) pk_us (fun _ => by
          rw [pk_us]
          rcases hsign with ⟨p, q⟩ | ⟨p, q⟩
          · rw [rm_sg_p p, rm_sg_p (by omega)]
          · rw [rm_sg_n p, rm_sg_n (by omega)]) (by rw [t2, ← a5, ← b5]; omega)
        rw [u1]
        exact ⟨_, L', G', rfl, u2, fun q hq => rm_same.tr ⟨pk_un hq, pk_un hq, t3 q hq⟩ (u3 q hq)⟩
      · rw [if_neg hs]
        have hsign : (0 < va ∧ vb < 0) ∨ (va < 0 ∧ 0 < vb) := by
          rcases (show 0 < va ∨ va < 0 by omega) with p | p <;> rcases (show 0 < vb ∨ vb < 0 by omega) with q | q
          · rw [rm_sg_p p, rm_sg_p q] at hs; exact absurd rfl hs
          · exact Or.inl ⟨p, q⟩
          · exact Or.inr ⟨p, q⟩
          · rw [rm_sg_n p, rm_sg_n q] at hs; exact absurd rfl hs
        rw [rm_comp H0 ha hb a1 b1 a2 b2 a3 b3]
        simp only [Option.bind_some]
        by_cases hl : rm_D S a na < rm_D S b nb
        · rw [if_pos hl, if_neg (by decide), rM_plus_81_e, if_neg (by decide)]
          obtain ⟨S1, t1, t2, t3⟩ := rm_apart_s H0 hb ha hc (S := S) (L := L) (G := G) b1 a1 (by omega) b2 a2 (Nat.le_of_lt hl) (rm_len2 a3 (Nat.le_of_lt hl))
          simp only [t1, rm_wK, rm_wR, rm_wL, rm_wI, hK, hS, hL, hG, kS, kL, kG, lS, lL, lG, if_true, Option.bind_some, and_self, rm_rS, rm_rL d1, rm_rG d2 d3, rm_wS, rm_wLL d1, rm_wG d2 d3, ca_c, ia_c, hc, rM_plus_105_e, rM_plus_122_e, rM_plus_123_e, show ¬ ((1 : Int32) = 0) by decide, if_false]
          obtain ⟨L', G', u1, u2, u3⟩ := rm_trimR H0 hc (S := S1) (L := upd L c (nI nb)) (G := upd G c (rm_sg vb)) (v := va + vb) (n := nb) (by omega) pk_us (fun _ => by
            rw [pk_us]
            rcases hsign with ⟨p, q⟩ | ⟨p, q⟩
            · rw [rm_sg_n q, rm_sg_n (by omega)]
            · rw [rm_sg_p q, rm_sg_p (by omega)]) (by rw [t2, ← a5, ← b5]; omega)
          rw [u1]
          exact ⟨_, L', G', rfl, u2, fun q hq => rm_same.tr ⟨pk_un hq, pk_un hq, t3 q hq⟩ (u3 q hq)⟩
        · have hr : (0 : Int32) ≤ (if rm_D S a na < rm_D S b nb then -1 else if rm_D S a na = rm_D S b nb then 0 else 1) := by
            rw [if_neg hl]; split <;> decide
          rw [if_pos hr, rM_plus_81_e, if_pos rfl]
          obtain ⟨S1, t1, t2, t3⟩ := rm_apart_s H0 ha hb hc (S := S) (L := L) (G := G) a1 b1 (by omega) a2 b2 (by omega) (rm_len2 b3 (Nat.not_lt.mp hl))
          simp only [t1, rm_wK, rm_wR, rm_wL, rm_wI, hK, hS, hL, hG, kS, kL, kG, lS, lL, lG, if_true, Option.bind_some, and_self, rm_rS, rm_rL d1, rm_rG d2 d3, rm_wS, rm_wLL d1, rm_wG d2 d3, ca_c, ia_c, hc, rM_plus_105_e, rM_plus_122_e, rM_plus_123_e]
          obtain ⟨L', G', u1, u2, u3⟩ := rm_trimR H0 hc (S := S1) (L := upd L c (nI na)) (G := upd G c (rm_sg va)) (v := va + vb) (n := na) (by omega) pk_us (fun _ => by
            rw [pk_us]
            rcases hsign with ⟨p, q⟩ | ⟨p, q⟩
            · rw [rm_sg_p p, rm_sg_p (by omega)]
            · rw [rm_sg_n p, rm_sg_n (by omega)]) (by rw [t2, ← a5, ← b5]; omega)
          rw [u1]
          exact ⟨_, L', G', rfl, u2, fun q hq => rm_same.tr ⟨pk_un hq, pk_un hq, t3 q hq⟩ (u3 q hq)⟩
theorem rm_sg_neg (v : Int) : rm_sg (-v) = -rm_sg v := by
  rcases (show v = 0 ∨ 0 < v ∨ v < 0 by omega) with p | p | p
  · subst p; rfl
  · rw [rm_sg_p p, rm_sg_n (by omega)]
  · rw [rm_sg_n p, rm_sg_p (by omega)]; rfl
/-- a sign turned about -/
theorem rm_R.neg {S L G : Nat → Int32} {a : Nat} {v : Int} (h : rm_R S L G a v) : rm_R S L (upd G a (-(G a))) a (-v) := by
  obtain ⟨n, h1, h2, h3, h4, h5⟩ := h
  exact ⟨n, h1, h2, h3, by rw [pk_us, h4, rm_sg_neg], by rw [← h5]; omega⟩
theorem rm_minus (H : rm_F m aS aL aG aN aB M) {a b c : Nat} (ha : a < 420) (hb : b < 420) (hc : c < 420) {S L G : Nat → Int32} {va vb : Int} (hva : rm_R S L G a va) (hvb : rm_R S L G b vb) (hA : va.natAbs < rm_B ^ (rm_cap c - 1)) (hB : vb.natAbs < rm_B ^ (rm_cap c - 1)) : ∃ S' L' G', rM_minus m (nI a) (nI b) (nI c) (rm_w aS aL aG M S L G) = some (rm_w aS aL aG M S' L' G') ∧ rm_R S' L' G' c (va - vb) ∧ ∀ q, q ≠ c → rm_same S L G S' L' G' q := by
  have H0 := H
  obtain ⟨hK, hS, hL, hG, -, -, kS, kL, kG, -, -, lS, lL, lG, -, -, d1, d2, d3, -⟩ := H
  have ca_a := nI_clamp (n := a) (by omega)
  have ia_a := rm_i0 (a := a) (by omega)
  have ca_b := nI_clamp (n := b) (by omega)
  have ia_b := rm_i0 (a := b) (by omega)
  have ca_c := nI_clamp (n := c) (by omega)
  have ia_c := rm_i0 (a := c) (by omega)
  have nvb := hvb.neg
  -- the end: b's sign again
  have fin : ∀ (S1 L1 G1 : Nat → Int32), rm_R S1 L1 G1 c (va - vb) → (∀ q, q ≠ c → rm_same S L (upd G b (-(G b))) S1 L1 G1 q) → ∃ S' L' G', rM_minus_43 m (nI b) (nI c) (rm_w aS aL aG M S1 L1 G1) = some (none, (rm_w aS aL aG M S' L' G')) ∧ rm_R S' L' G' c (va - vb) ∧ ∀ q, q ≠ c → rm_same S L G S' L' G' q := by
    intro S1 L1 G1 r1 r2
    rw [rM_minus_43_e]
    by_cases e : c = b
    · rw [if_pos (by rw [e]), rM_minus_61_e]
      refine ⟨S1, L1, G1, rfl, r1, fun q hq => ⟨(r2 q hq).1, ?_, (r2 q hq).2.2⟩⟩
      rw [(r2 q hq).2.1, pk_un (by omega)]
    · rw [if_neg (by rw [nI_eq (by omega) (by omega)]; exact e)]
      simp only [rm_wK, rm_wR, rm_wL, rm_wI, hK, hS, hL, hG, kS, kL, kG, lS, lL, lG, if_true, Option.bind_some, and_self, rm_rS, rm_rL d1, rm_rG d2 d3, rm_wS, rm_wLL d1, rm_wG d2 d3, ca_b, ia_b, hb, rM_minus_61_e]
      refine ⟨S1, L1, _, rfl, r1.same ⟨rfl, pk_un (by omega), fun _ _ => rfl⟩, fun q hq => ⟨(r2 q hq).1, ?_, (r2 q hq).2.2⟩⟩
      by_cases eq : q = b
      · subst eq
        rw [pk_us, (r2 q hq).2.1, pk_us, Int32.neg_neg]
      · rw [pk_un eq, (r2 q hq).2.1, pk_un eq]
  rw [rM_minus_u, rM_minus_e]
  simp only [rm_wK, rm_wR, rm_wL, rm_wI, hK, hS, hL, hG, kS, kL, kG, lS, lL, lG, if_true, Option.bind_some, and_self, rm_rS, rm_rL d1, rm_rG d2 d3, rm_wS, rm_wLL d1, rm_wG d2 d3, ca_b, ia_b, hb]
  by_cases e : a = b
  · subst e
    rw [if_pos rfl, rM_minus_23_e]
    obtain ⟨S1, L1, G1, t1, t2, t3⟩ := rm_plus H0 ha ha hc nvb nvb (by omega) (by omega)
    obtain ⟨S2, L2, G2, u1, u2, u3⟩ := rm_is H0 hc S1 L1 G1 0
    simp only [rm_wK, hK, if_true, t1, u1, Option.bind_some, show ¬ ((1 : Int32) = 0) by decide, if_false]
    have ev : va = vb := by
      obtain ⟨n1, p1, p2, p3, p4, p5⟩ := hva
      obtain ⟨n2, q1, q2, q3, q4, q5⟩ := hvb
      have c3 := rm_cap_le a
      have en : n1 = n2 := (nI_eq (by omega) (by omega)).mp (p2.symm.trans q2)
      subst en
      have e1 : va.natAbs = vb.natAbs := p5.trans q5.symm
      have e2 : rm_sg va = rm_sg vb := p4.symm.trans q4
      rcases (show va = vb ∨ va = -vb by omega) with h | h
      · exact h
      · rw [h, rm_sg_neg] at e2
        rcases (show vb = 0 ∨ 0 < vb ∨ vb < 0 by omega) with p | p | p
        · omega
        · rw [rm_sg_p p] at e2; exact absurd e2 (by decide)
        · rw [rm_sg_n p] at e2; exact absurd e2 (by decide)
    obtain ⟨S', L', G', w1, w2, w3⟩ := fin S2 L2 G2 (by rw [ev, Int.sub_self]; exact u2) (fun q hq => (t3 q hq).tr (u3 q hq))
    rw [w1]
    exact ⟨S', L', G', rfl, w2, w3⟩
  · rw [if_neg (by rw [nI_eq (by omega) (by omega)]; exact e), rM_minus_23_e]
    obtain ⟨S1, L1, G1, t1, t2, t3⟩ := rm_plus H0 ha hb hc (hva.same ⟨rfl, pk_un e, fun _ _ => rfl⟩) nvb hA (by omega)
    simp only [rm_wK, hK, if_true, t1, Option.bind_some]
    obtain ⟨S', L', G', w1, w2, w3⟩ := fin S1 L1 G1 (by rw [Int.sub_eq_add_neg]; exact t2) t3
    rw [w1]
    exact ⟨S', L', G', rfl, w2, w3⟩
end

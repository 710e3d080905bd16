section
variable {m aS aL aG aN aB : Nat} {M : rg_M}
theorem rm_wi134 (H : rm_F m aS aL aG aN aB M) {a na lb Q : Nat} (ha : a < 420) (ha1 : a ≠ 386) {S0 L G : Nat → Int32} (hna : na ≤ rm_cap a) (hlb : lb ≤ 4200) (hlb0 : 0 < lb) (hln : lb ≤ na) (hLa : L a = nI na) (inv s : Int32) (hinv : rm_u (S0 (rm_at 386)) * rm_u inv % 4294967296 = 1) (hQ : Q < rm_B ^ (na - lb + 1)) {v : Int} (hv : v.natAbs = Q) (hs : v ≠ 0 → s = rm_sg v) : ∀ d k : Nat, (na - lb + 1) - k = d → k ≤ na - lb + 1 → ∀ S1 : Nat → Int32, (∀ q, q ≠ a → ∀ i, i < rm_cap q → S1 (rm_at q + i) = S0 (rm_at q + i)) → (∀ i, i < k → rm_u (S1 (rm_at a + i)) = Q / rm_B ^ i % rm_B) → rm_E S1 a k (na - k) = rm_D S0 386 lb * (Q / rm_B ^ k) →
    ∃ S2 L' G', rM_without_134 m (nI a) s inv (nI (na - lb + 1)) (nI lb) (nI k) (rm_w aS aL aG M S1 L G) = some (none, (rm_w aS aL aG M S2 L' G')) ∧ rm_R S2 L' G' a v ∧ ∀ q, q ≠ a → rm_same S0 L G S2 L' G' q := by
  have H0 := H
  obtain ⟨hK, hS, hL, hG, -, -, kS, kL, kG, -, -, lS, lL, lG, -, -, d1, d2, d3, -⟩ := H
  have ca_a := nI_clamp (n := a) (by omega)
  have ia_a := rm_i0 (a := a) (by omega)
  have c1 := rm_at_cap ha
  have c3 := rm_cap_le a
  have cap386 : rm_cap 386 = 4200 := by decide
  intro d
  induction d with
  | zero =>
    intro k hd hk S1 t1 t2 t3
    have e : k = na - lb + 1 := by omega
    have p : nI (na - lb + 1) ≤ nI k := by rw [e]; exact Int32.le_refl _
    rw [rM_without_134_e]
    simp only [rm_wK, rm_wR, rm_wL, rm_wI, hK, hS, hL, hG, kS, kL, kG, lS, lL, lG, if_true, Option.bind_some, and_self, rm_rS, rm_rL d1, rm_rG d2 d3, rm_wS, rm_wLL d1, rm_wG d2 d3, ca_a, ia_a, ha, p]
    obtain ⟨L', G', u1, u2, u3⟩ := rm_trimR H0 ha (S := S1) (L := upd L a (nI (na - lb + 1))) (G := upd G a s) (v := v) (n := na - lb + 1) (by omega) pk_us (fun h => by rw [pk_us]; exact hs h) (by
      have : rm_D S1 a (na - lb + 1) = ds rm_B (fun i => Q / rm_B ^ i % rm_B) (na - lb + 1) := ds_cong (fun i hi => t2 i (by omega))
      rw [this, ds_of, Nat.mod_eq_of_lt hQ, hv])
    rw [u1]
    exact ⟨S1, L', G', rfl, u2, fun q hq => rm_same.tr ⟨pk_un hq, pk_un hq, t1 q hq⟩ (u3 q hq)⟩
  | succ d ih =>
    intro k hd hk S1 t1 t2 t3
    have p : ¬ nI (na - lb + 1) ≤ nI k := by rw [nI_leI (by omega) (by omega)]; omega
    have i1 := nI_clamp (n := rm_at a + k) (by omega)
    have i2 := rm_i0 (a := rm_at a + k) (by omega)
    have i3 : rm_at a + k < 266800 := by omega
    have hg : rm_D S1 386 lb = rm_D S0 386 lb := ds_cong (fun i hi => by rw [t1 386 (fun e => ha1 e.symm) i (by omega)])
    have hg0 : rm_D S0 386 lb % rm_B = rm_u (S0 (rm_at 386)) := ds_mod (B := rm_B) (f := fun j => rm_u (S0 (rm_at 386 + j))) (rm_u_lt _) hlb0
    -- this word of the quotient
    have hw : rm_u (S1 (rm_at a + k)) = rm_D S0 386 lb * (Q / rm_B ^ k) % rm_B := by
      rw [← t3]
      exact (ds_mod (B := rm_B) (f := fun i => rm_u (S1 (rm_at a + (k + i)))) (rm_u_lt _) (by omega)).symm
    have hq : rm_u (S1 (rm_at a + k) * inv) = Q / rm_B ^ k % rm_B := by
      rw [rm_u_mul, hw]
      show _ % rm_B * _ % rm_B = _
      rw [Nat.mod_mul_mod, Nat.mul_assoc, Nat.mul_comm (Q / rm_B ^ k), ← Nat.mul_assoc, ← Nat.mod_mul_mod (rm_D S0 386 lb * rm_u inv)]
      have : rm_D S0 386 lb * rm_u inv % rm_B = 1 := by rw [← Nat.mod_mul_mod, hg0]; exact hinv
      rw [this, Nat.one_mul]
    obtain ⟨x, hx⟩ : ∃ x, x = Q / rm_B ^ k % rm_B := ⟨_, rfl⟩
    rw [← hx] at hq
    have hxl : x < 4294967296 := by rw [hx]; exact Nat.mod_lt _ (by decide)
    have hsplit : Q / rm_B ^ k = rm_B * (Q / rm_B ^ (k + 1)) + x := by
      rw [hx, Nat.pow_succ, ← Nat.div_div_eq_div_mul]; exact (Nat.div_add_mod _ _).symm
    have hle : x * rm_D S1 386 lb ≤ rm_E S1 a k (na - k) := by
      rw [t3, hg, Nat.mul_comm]; exact Nat.mul_le_mul_left _ (by omega)
    obtain ⟨S2, w1, w2, w3, w4⟩ := rm_wi176 H0 (n := na - lb + 1) ha ha1 (S0 := S1) (L := L) (G := G) hna hlb hLa (show k + lb ≤ na by omega) hxl hle s inv (S1 (rm_at a + k) * inv) _ 0 rfl (Nat.zero_le _) S1 0 0 (by decide) (by decide) (fun _ _ _ _ => rfl) (fun _ _ _ => rfl) (by simp [rm_E, ds])
    have w1 : rM_without_176 m (nI a) s inv (nI (na - lb + 1)) (nI lb) (nI k) (S1 (rm_at a + k) * inv) (lN x) 0 0 0 (rm_w aS aL aG M S1 L G) = _ := w1
    rw [rM_without_134_e]
    simp only [rm_wK, rm_wR, rm_wL, rm_wI, hK, hS, hL, hG, kS, kL, kG, lS, lL, lG, if_true, Option.bind_some, and_self, rm_rS, rm_rL d1, rm_rG d2 d3, rm_wS, rm_wLL d1, rm_wG d2 d3, p, if_false, rm_at_s ha, nI_add, i1, i2, i3, rm_mask, hq, w1]
    rw [rM_without_322_e]
    simp only [rm_wK, rm_wR, rm_wL, rm_wI, hK, hS, hL, hG, kS, kL, kG, lS, lL, lG, if_true, Option.bind_some, and_self, rm_rS, rm_rL d1, rm_rG d2 d3, rm_wS, rm_wLL d1, rm_wG d2 d3, rm_at_s ha, nI_add, i1, i2, i3, nI_1]
    rw [t3, hg, hsplit] at w4
    obtain ⟨l, hl⟩ : ∃ l, na - k = l + 1 := ⟨na - k - 1, by omega⟩
    have w5 : rm_E S2 a k (na - k) = rm_u (S2 (rm_at a + (k + 0))) + rm_B * rm_E S2 a (k + 1) l := by
      rw [hl]; unfold rm_E; rw [ds_0s]
      congr 2
      exact ds_cong (fun i _ => by rw [show k + (i + 1) = k + 1 + i by omega])
    have w6 : rm_E S2 a k (na - k) = rm_B * (rm_D S0 386 lb * (Q / rm_B ^ (k + 1))) := by
      have : rm_D S0 386 lb * (rm_B * (Q / rm_B ^ (k + 1)) + x) = rm_B * (rm_D S0 386 lb * (Q / rm_B ^ (k + 1))) + x * rm_D S0 386 lb := by
        rw [Nat.mul_add, Nat.mul_comm (rm_D S0 386 lb) x, ← Nat.mul_assoc, Nat.mul_comm (rm_D S0 386 lb) rm_B, Nat.mul_assoc]
      omega
    have w7 : rm_E S2 a (k + 1) l = rm_D S0 386 lb * (Q / rm_B ^ (k + 1)) := by
      have u0 := rm_u_lt (S2 (rm_at a + (k + 0)))
      rw [w5] at w6
      have e1 : (rm_u (S2 (rm_at a + (k + 0))) + rm_B * rm_E S2 a (k + 1) l) / rm_B = rm_E S2 a (k + 1) l := by
        rw [Nat.add_mul_div_left _ _ (by decide), Nat.div_eq_of_lt u0, Nat.zero_add]
      rw [← e1, w6, Nat.mul_div_cancel_left _ (by decide)]
    refine ih (k + 1) (by omega) (by omega) _ (fun q hq2 i hi => ?_) (fun i hi => ?_) ?_
    · rw [pk_un (rm_apart hq2 i k hi (by omega)), w2 q hq2 i hi, t1 q hq2 i hi]
    · by_cases e : i = k
      · subst e; rw [pk_us, hq, hx]
      · rw [pk_un (by omega), w3 i (by omega), t2 i (by omega)]
    · rw [← w7, show na - (k + 1) = l by omega]
      exact ds_cong (fun i _ => by rw [pk_un (by omega)])
theorem rm_wi78 (a : Nat) (s low : Int32) (N : rg_M) : rM_without_78 m (nI a) s low low 0 N = rM_without_78 m (nI a) s low (let i1 := low * (2 - low * low); let i2 := i1 * (2 - low * i1); let i3 := i2 * (2 - low * i2); let i4 := i3 * (2 - low * i3); i4 * (2 - low * i4)) 5 N := by
  rw [rM_without_78_e, if_neg (by decide), rM_without_78_e, if_neg (by decide), rM_without_78_e, if_neg (by decide), rM_without_78_e, if_neg (by decide), rM_without_78_e, if_neg (by decide)]
  rfl
/-- a register divided by what divides it: G1's odd number and so many factors of 2 -/
theorem rm_without (H : rm_F m aS aL aG aN aB M) {a t g : Nat} (ha : a < 420) (ha1 : a ≠ 386) {S L G : Nat → Int32} {va z : Int} (hva : rm_R S L G a va) (hg : rm_R S L G 386 (g : Int)) (hodd : g % 2 = 1) (ht : t < 134400) (hz : va = z * ((g * 2 ^ t : Nat) : Int)) : ∃ S' L' G', rM_without m (nI a) (nI t) (rm_w aS aL aG M S L G) = some (rm_w aS aL aG M S' L' G') ∧ rm_R S' L' G' a z ∧ ∀ q, q ≠ a → rm_same S L G S' L' G' q := by
  have H0 := H
  obtain ⟨hK, hS, hL, hG, -, -, kS, kL, kG, -, -, lS, lL, lG, -, -, d1, d2, d3, -⟩ := H
  have ca_a := nI_clamp (n := a) (by omega)
  have ia_a := rm_i0 (a := a) (by omega)
  have cap386 : rm_cap 386 = 4200 := by decide
  have at386v : rm_at 386 = 124000 := by decide
  have hgt : g * 2 ^ t ≠ 0 := by
    have : 0 < 2 ^ t := Nat.two_pow_pos t
    exact Nat.mul_ne_zero (by omega) (by omega)
  rw [rM_without_u, rM_without_e]
  by_cases h0 : va = 0
  · have e0 : L a = 0 := hva.zero.mp h0
    simp only [rm_wK, rm_wR, rm_wL, rm_wI, hK, hS, hL, hG, kS, kL, kG, lS, lL, lG, if_true, Option.bind_some, and_self, rm_rS, rm_rL d1, rm_rG d2 d3, rm_wS, rm_wLL d1, rm_wG d2 d3, ca_a, ia_a, ha, e0]
    have z0 : z = 0 := by
      rw [h0] at hz
      rcases Int.mul_eq_zero.mp hz.symm with h | h
      · exact h
      · exact absurd (Int.natCast_eq_zero.mp h) hgt
    exact ⟨S, L, G, rfl, by rw [z0, ← h0]; exact hva, fun _ _ => rm_same.rf⟩
  · have e0 : ¬ L a = 0 := fun e => h0 (hva.zero.mpr e)
    have hz0 : z ≠ 0 := fun e => h0 (by rw [hz, e, Int.zero_mul])
    have hGa : G a = rm_sg va := hva.choose_spec.2.2.2.1
    have hsv : rm_sg va = rm_sg z := by
      have hp : (0 : Int) < ((g * 2 ^ t : Nat) : Int) := by omega
      rcases (show 0 < z ∨ z < 0 by omega) with p | p
      · rw [rm_sg_p p, rm_sg_p (by rw [hz]; exact Int.mul_pos p hp)]
      · rw [rm_sg_n p, rm_sg_n (by rw [hz]; exact Int.mul_neg_of_neg_of_pos p hp)]
    obtain ⟨S1, L1, G1, r1, r2, r3⟩ := rm_right H0 ha (y := t) (w := z * (g : Int)) hva h0 (by rw [hz, Int.mul_assoc]; simp) ht
    have g2 := hg.same (r3 386 (fun e => ha1 e.symm))
    obtain ⟨lb, b1, b2, b3, b4, b5⟩ := g2
    obtain ⟨na, a1, a2, a3, a4, a5⟩ := r2
    rw [Int.natAbs_natCast] at b5
    rw [cap386] at b1
    have c3 := rm_cap_le a
    have k1 : (386 : Int32).toNatClampNeg = 386 := rfl
    have k3 : (0 : Int32) ≤ 386 := by decide
    have k5 : 386 < 420 := by decide
    have at386 : ∀ N, rM_at 386 N = some (nI (rm_at 386), N) := fun N => rm_at_s (a := 386) (by omega) N
    have j1 := nI_clamp (n := rm_at 386) (by omega)
    have j2 := rm_i0 (a := rm_at 386) (by omega)
    have j3 : rm_at 386 < 266800 := by omega
    have hlb0 : 0 < lb := by
      rcases Nat.eq_zero_or_pos lb with e | e
      · rw [e] at b5; simp [rm_D, ds] at b5; omega
      · exact e
    have hg0 : rm_u (S1 (rm_at 386)) = g % rm_B := by
      rw [b5]; exact (ds_mod (B := rm_B) (f := fun j => rm_u (S1 (rm_at 386 + j))) (rm_u_lt _) hlb0).symm
    -- the long way
    have long : ∃ S' L' G', rM_without_58 m (nI a) (G a) (rm_w aS aL aG M S1 L1 G1) = some (none, (rm_w aS aL aG M S' L' G')) ∧ rm_R S' L' G' a z ∧ ∀ q, q ≠ a → rm_same S1 L1 G1 S' L' G' q := by
      rw [rM_without_58_e]
      simp only [rm_wK, rm_wR, rm_wL, rm_wI, hK, hS, hL, hG, kS, kL, kG, lS, lL, lG, if_true, Option.bind_some, and_self, rm_rS, rm_rL d1, rm_rG d2 d3, rm_wS, rm_wLL d1, rm_wG d2 d3, at386, j1, j2, j3, rm_wi78]
      have hza : z.natAbs * g = rm_D S1 a na := by rw [← a5, Int.natAbs_mul, Int.natAbs_natCast]
      have hgD : rm_D S1 386 lb = g := b5.symm
      have hln : lb ≤ na := by
        refine rm_len2 (a := 386) (b := a) b3 ?_
        rw [hgD, ← hza]; exact Nat.le_mul_of_pos_left _ (by omega)
      have hodd2 : rm_u (S1 (rm_at 386)) % 2 = 1 := by rw [hg0]; show g % 4294967296 % 2 = 1; omega
      have nw := rm_newton5 (l := rm_u (S1 (rm_at 386))) hodd2 (i0 := S1 (rm_at 386)) (rm_nI_u _).symm rfl rfl rfl rfl rfl
      rw [rm_nI_u] at nw
      generalize hin : (S1 (rm_at 386) * (2 - S1 (rm_at 386) * S1 (rm_at 386)) * (2 - S1 (rm_at 386) * (S1 (rm_at 386) * (2 - S1 (rm_at 386) * S1 (rm_at 386)))) * (2 - S1 (rm_at 386) * (S1 (rm_at 386) * (2 - S1 (rm_at 386) * S1 (rm_at 386)) * (2 - S1 (rm_at 386) * (S1 (rm_at 386) * (2 - S1 (rm_at 386) * S1 (rm_at 386)))))) * (2 - S1 (rm_at 386) * (S1 (rm_at 386) * (2 - S1 (rm_at 386) * S1 (rm_at 386)) * (2 - S1 (rm_at 386) * (S1 (rm_at 386) * (2 - S1 (rm_at 386) * S1 (rm_at 386)))) * (2 - S1 (rm_at 386) * (S1 (rm_at 386) * (2 - S1 (rm_at 386) * S1 (rm_at 386)) * (2 - S1 (rm_at 386) * (S1 (rm_at 386) * (2 - S1 (rm_at 386) * S1 (rm_at 386)))))))) * (2 - S1 (rm_at 386) * (S1 (rm_at 386) * (2 - S1 (rm_at 386) * S1 (rm_at 386)) * (2 - S1 (rm_at 386) * (S1 (rm_at 386) * (2 - S1 (rm_at 386) * S1 (rm_at 386)))) * (2 - S1 (rm_at 386) * (S1 (rm_at 386) * (2 - S1 (rm_at 386) * S1 (rm_at 386)) * (2 - S1 (rm_at 386) * (S1 (rm_at 386) * (2 - S1 (rm_at 386) * S1 (rm_at 386)))))) * (2 - S1 (rm_at 386) * (S1 (rm_at 386) * (2 - S1 (rm_at 386) * S1 (rm_at 386)) * (2 - S1 (rm_at 386) * (S1 (rm_at 386) * (2 - S1 (rm_at 386) * S1 (rm_at 386)))) * (2 - S1 (rm_at 386) * (S1 (rm_at 386) * (2 - S1 (rm_at 386) * S1 (rm_at 386)) * (2 - S1 (rm_at 386) * (S1 (rm_at 386) * (2 - S1 (rm_at 386) * S1 (rm_at 386))))))))))) = inv at nw ⊢
      have hinv : rm_u (S1 (rm_at 386)) * rm_u inv % 4294967296 = 1 := by rw [← rm_u_mul, nw]; rfl
      have en : nI na - nI lb + (1 : Int32) = nI (na - lb + 1) := by rw [pk_sub hln, nI_1]
      rw [rM_without_78_e]
      simp only [rm_wK, rm_wR, rm_wL, rm_wI, hK, hS, hL, hG, kS, kL, kG, lS, lL, lG, if_true, Option.bind_some, and_self, rm_rS, rm_rL d1, rm_rG d2 d3, rm_wS, rm_wLL d1, rm_wG d2 d3, ca_a, ia_a, ha, k1, k3, k5, a2, b2, en, show (5 : Int32) ≤ 5 from Int32.le_refl _]
      have hQ : z.natAbs < rm_B ^ (na - lb + 1) := by
        have h1 := rm_D_top b3 (by omega)
        rw [hgD] at h1
        have h2 := rm_D_lt S1 a na
        rw [← hza] at h2
        have h3 : z.natAbs * rm_B ^ (lb - 1) < rm_B ^ (na - lb + 1) * rm_B ^ (lb - 1) := by
          rw [← Nat.pow_add, show na - lb + 1 + (lb - 1) = na by omega]
          exact Nat.lt_of_le_of_lt (Nat.mul_le_mul_left _ h1) h2
        exact Nat.lt_of_mul_lt_mul_right h3
      have fin := rm_wi134 H0 ha ha1 (S0 := S1) (L := L1) (G := G1) a1 b1 hlb0 hln a2 inv (G a) hinv hQ (v := z) rfl (fun _ => by rw [hGa, hsv]) _ 0 rfl (Nat.zero_le _) S1 (fun _ _ _ _ => rfl) (fun i hi => by omega) (by
        rw [hgD, Nat.pow_zero, Nat.div_one, Nat.mul_comm, hza]
        exact ds_cong (fun i _ => by rw [Nat.zero_add]))
      exact fin
    simp only [rm_wK, rm_wR, rm_wL, rm_wI, hK, hS, hL, hG, kS, kL, kG, lS, lL, lG, if_true, Option.bind_some, and_self, rm_rS, rm_rL d1, rm_rG d2 d3, rm_wS, rm_wLL d1, rm_wG d2 d3, ca_a, ia_a, ha, e0, if_false, r1, k1, k3, k5, at386, j1, j2, j3]
    by_cases q1 : L1 386 = 1
    · rw [if_pos q1]
      by_cases q2 : S1 (rm_at 386) = 1
      · rw [if_pos q2]
        have hl1 : lb = 1 := (nI_eq (by omega) (by omega)).mp (b2.symm.trans q1)
        have hg1 : g = 1 := by
          rw [b5, hl1]; show ds rm_B _ 1 = 1
          rw [ds_s, ds_0, Nat.zero_add, Nat.pow_zero, Nat.mul_one, Nat.add_zero, q2]; rfl
        refine ⟨S1, L1, _, rfl, ⟨na, a1, a2, a3, by rw [pk_us, hGa, hsv], by rw [← a5, hg1]; simp⟩, fun q hq => (r3 q hq).tr ⟨rfl, pk_un hq, fun _ _ => rfl⟩⟩
      · rw [if_neg q2]
        obtain ⟨S', L', G', l1, l2, l3⟩ := long
        rw [l1]
        exact ⟨S', L', G', rfl, l2, fun q hq => (r3 q hq).tr (l3 q hq)⟩
    · rw [if_neg q1]
      obtain ⟨S', L', G', l1, l2, l3⟩ := long
      rw [l1]
      exact ⟨S', L', G', rfl, l2, fun q hq => (r3 q hq).tr (l3 q hq)⟩
/-- a fraction in two registers brought to its lowest terms -/
theorem rm_lower (H : rm_F m aS aL aG aN aB M) {n d : Nat} (hn : n < 420) (hd : d < 420) (hnd : n ≠ d) (hn1 : n ≠ 386) (hn2 : n ≠ 387) (hd1 : d ≠ 386) (hd2 : d ≠ 387) {S L G : Nat → Int32} {x y : Int} (hx : rm_R S L G n x) (hy : rm_R S L G d y) (hy0 : 0 < y) : ∃ S' L' G', rM_lower m (nI n) (nI d) (rm_w aS aL aG M S L G) = some (rm_w aS aL aG M S' L' G') ∧ rm_R S' L' G' n (x / (Int.gcd x y : Int)) ∧ rm_R S' L' G' d (y / (Int.gcd x y : Int)) ∧ ∀ q, q ≠ n → q ≠ d → q ≠ 386 → q ≠ 387 → rm_same S L G S' L' G' q := by
  have H0 := H
  obtain ⟨hK, hS, hL, hG, -, -, kS, kL, kG, -, -, lS, lL, lG, -, -, d1, d2, d3, -⟩ := H
  have ca_n := nI_clamp (n := n) (by omega)
  have ia_n := rm_i0 (a := n) (by omega)
  have ca_d := nI_clamp (n := d) (by omega)
  have ia_d := rm_i0 (a := d) (by omega)
  rw [rM_lower_u, rM_lower_e]
  by_cases h0 : x = 0
  · have e0 : L n = 0 := hx.zero.mp h0
    obtain ⟨S1, L1, G1, t1, t2, t3⟩ := rm_is H0 hd S L G 1
    simp only [rm_wK, rm_wR, rm_wL, rm_wI, hK, hS, hL, hG, kS, kL, kG, lS, lL, lG, if_true, Option.bind_some, and_self, rm_rS, rm_rL d1, rm_rG d2 d3, rm_wS, rm_wLL d1, rm_wG d2 d3, ca_n, ia_n, hn, e0, t1]
    have ey : y / (Int.gcd x y : Int) = 1 := by
      rw [h0, Int.gcd_zero_left, Int.ofNat_natAbs_of_nonneg (by omega)]
      exact Int.ediv_self (by omega)
    refine ⟨S1, L1, G1, rfl, ?_, by rw [ey]; exact t2, fun q _ h2 _ _ => t3 q h2⟩
    rw [h0, Int.zero_ediv, ← h0]
    exact hx.same (t3 n hnd)
  · have e0 : ¬ L n = 0 := fun e => h0 (hx.zero.mpr e)
    obtain ⟨t, g, S1, L1, G1, t1, t2, t3, t4, t5, t6⟩ := rm_divisor H0 hn hd hn1 hn2 hd1 hd2 hx hy h0 (by omega)
    have hgx : ((g * 2 ^ t : Nat) : Int) ∣ x := by rw [t4]; exact Int.gcd_dvd_left x y
    have hgy : ((g * 2 ^ t : Nat) : Int) ∣ y := by rw [t4]; exact Int.gcd_dvd_right x y
    have hgg : ((g * 2 ^ t : Nat) : Int) = (Int.gcd x y : Int) := by rw [t4]; rfl
    obtain ⟨S2, L2, G2, u1, u2, u3⟩ := rm_without H0 hn hn1 (hx.same (t6 n hn1 hn2)) t2 t3 t5 (z := x / ((g * 2 ^ t : Nat) : Int)) (Int.ediv_mul_cancel hgx).symm
    obtain ⟨S3, L3, G3, w1, w2, w3⟩ := rm_without H0 hd hd1 ((hy.same (t6 d hd1 hd2)).same (u3 d (Ne.symm hnd))) (t2.same (u3 386 (Ne.symm hn1))) t3 t5 (z := y / ((g * 2 ^ t : Nat) : Int)) (Int.ediv_mul_cancel hgy).symm
    simp only [rm_wK, rm_wR, rm_wL, rm_wI, hK, hS, hL, hG, kS, kL, kG, lS, lL, lG, if_true, Option.bind_some, and_self, rm_rS, rm_rL d1, rm_rG d2 d3, rm_wS, rm_wLL d1, rm_wG d2 d3, ca_n, ia_n, hn, e0, if_false, t1, u1, w1]
    rw [hgg] at u2 w2
    exact ⟨S3, L3, G3, rfl, u2.same (w3 n hnd), w2, fun q h1 h2 h3 h4 => ((t6 q h3 h4).tr (u3 q h1)).tr (w3 q h2)⟩
end

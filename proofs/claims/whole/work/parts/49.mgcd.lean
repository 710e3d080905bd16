theorem rm_odd_cop {n : Nat} (h : n % 2 = 1) (y : Nat) : Nat.Coprime (2 ^ y) n := by
  refine Nat.Coprime.pow_left y ?_
  have h1 : Nat.gcd 2 n ∣ 2 := Nat.gcd_dvd_left 2 n
  have h2 : Nat.gcd 2 n ∣ n := Nat.gcd_dvd_right 2 n
  have h3 := Nat.le_of_dvd (by decide) h1
  have h4 : Nat.gcd 2 n ≠ 0 := fun e => by rw [e] at h1; exact absurd (Nat.eq_zero_of_zero_dvd h1) (by decide)
  rcases (show Nat.gcd 2 n = 1 ∨ Nat.gcd 2 n = 2 by omega) with e | e
  · exact e
  · rw [e] at h2; omega
theorem rm_gcd_half {x y v : Nat} (hv : v % 2 = 1) : Nat.gcd (x * 2 ^ y) v = Nat.gcd x v := by
  rw [Nat.mul_comm]; exact Nat.Coprime.gcd_mul_left_cancel x (rm_odd_cop hv y)
theorem rm_gcd_sub {x y : Nat} (h : y ≤ x) : Nat.gcd (x - y) y = Nat.gcd x y := by
  obtain ⟨d, rfl⟩ := Nat.exists_eq_add_of_le h
  rw [Nat.add_sub_cancel_left]
  first | (simp; done) | (rw [Nat.gcd_self_add_left]; done) | (rw [Nat.gcd_comm (y + d), Nat.gcd_comm d]; simp)
/-- two odd parts and their factors of 2 -/
theorem rm_gcd_two {x y s t : Nat} (hx : x % 2 = 1) (hy : y % 2 = 1) : Nat.gcd (x * 2 ^ s) (y * 2 ^ t) = Nat.gcd x y * 2 ^ (if t ≤ s then t else s) := by
  by_cases h : t ≤ s
  · rw [if_pos h]
    obtain ⟨d, rfl⟩ := Nat.exists_eq_add_of_le h
    rw [Nat.add_comm t d, Nat.pow_add, ← Nat.mul_assoc, Nat.gcd_mul_right, rm_gcd_half hy]
  · rw [if_neg h]
    obtain ⟨d, rfl⟩ := Nat.exists_eq_add_of_le (show s ≤ t by omega)
    rw [Nat.add_comm s d, Nat.pow_add, ← Nat.mul_assoc, Nat.gcd_mul_right, Nat.gcd_comm x, rm_gcd_half hx, Nat.gcd_comm]
section
variable {m aS aL aG aN aB : Nat} {M : rg_M}
theorem rm_div88 (H : rm_F m aS aL aG aN aB M) {za zb : Nat} (hza : za < 134400) (hzb : zb < 134400) : ∀ (N x y : Nat), x + y ≤ N → x % 2 = 1 → y % 2 = 1 → ∀ (u v : Nat), ((u = 386 ∧ v = 387) ∨ (u = 387 ∧ v = 386)) → ∀ (S L G : Nat → Int32), rm_R S L G u (x : Int) → rm_R S L G v (y : Int) →
    ∃ S' L' G', rM_divisor_88 m (nI za) (nI zb) (nI u) (nI v) (if x < y then -1 else if x = y then 0 else 1) (rm_w aS aL aG M S L G) = some (some (.int (nI (if zb ≤ za then zb else za))), (rm_w aS aL aG M S' L' G')) ∧ rm_R S' L' G' 386 ((Nat.gcd x y : Nat) : Int) ∧ ∀ q, q ≠ 386 → q ≠ 387 → rm_same S L G S' L' G' q := by
  have hK := H.1
  intro N
  induction N with
  | zero => intro x y h hx hy; omega
  | succ N ih =>
    intro x y hN hx hy u v huv S L G hu hv
    have hu4 : u < 420 := by omega
    have hv4 : v < 420 := by omega
    have hne : v ≠ u := by omega
    have cu := rm_cap_le u
    -- one step, the greater one first
    have step : ∀ (x y : Nat), x + y ≤ N + 1 → x % 2 = 1 → y % 2 = 1 → y < x → ∀ (u v : Nat), ((u = 386 ∧ v = 387) ∨ (u = 387 ∧ v = 386)) → rm_R S L G u (x : Int) → rm_R S L G v (y : Int) → ∃ S' L' G', rM_divisor_110 m (nI za) (nI zb) (nI u) (nI v) (rm_w aS aL aG M S L G) = some (some (.int (nI (if zb ≤ za then zb else za))), (rm_w aS aL aG M S' L' G')) ∧ rm_R S' L' G' 386 ((Nat.gcd x y : Nat) : Int) ∧ ∀ q, q ≠ 386 → q ≠ 387 → rm_same S L G S' L' G' q := by
      intro x y hN hx hy hlt u v huv hu hv
      have hu4 : u < 420 := by omega
      have hv4 : v < 420 := by omega
      have hne : v ≠ u := by omega
      obtain ⟨S1, L1, G1, t1, t2, t3⟩ := rm_subR H hu4 hv4 hne hu hv hlt
      have hd0 : ((x - y : Nat) : Int) ≠ 0 := by omega
      obtain ⟨z, z1, z2, z3, z4⟩ := rm_zeros H hu4 t2 hd0
      rw [Int.natAbs_natCast] at z2 z3
      obtain ⟨w, hw⟩ := z2
      have hw2 : (x - y) / 2 ^ z = w := by rw [hw, Nat.mul_div_cancel_left _ (Nat.two_pow_pos z)]
      rw [hw2] at z3
      obtain ⟨S2, L2, G2, r1, r2, r3⟩ := rm_right H hu4 (y := z) (w := (w : Int)) t2 hd0 (by rw [hw, Nat.mul_comm]; simp) z4
      have hv2 := (hv.same (t3 v hne)).same (r3 v hne)
      have cp := rm_compR H hu4 hv4 r2 hv2
      rw [Int.natAbs_natCast, Int.natAbs_natCast] at cp
      have hle : w ≤ x - y := by rw [hw]; exact Nat.le_mul_of_pos_left _ (Nat.two_pow_pos z)
      obtain ⟨S', L', G', f1, f2, f3⟩ := ih w y (by omega) z3 hy u v huv S2 L2 G2 r2 hv2
      obtain ⟨A1, q1, q2⟩ := Option.bind_eq_some_iff.mp t1
      have kA : rg_K A1 m = 8 := by
        obtain ⟨na, a1, a2, a3, a4, a5⟩ := hu
        obtain ⟨nb, b1, b2, b3, b4, b5⟩ := hv
        rw [Int.natAbs_natCast] at a5 b5
        have hle : rm_D S v nb ≤ rm_D S u na := by omega
        obtain ⟨S9, p1, -, -⟩ := rm_apart_s H hu4 hv4 hu4 (S := S) (L := L) (G := G) a1 b1 a1 a2 b2 hle (rm_len2 b3 hle)
        rw [p1] at q1; cases q1; exact hK
      rw [rM_divisor_110_e]
      simp only [rm_wK, hK, if_true, q1, q2, kA, Option.bind_some, z1, r1, cp, f1]
      refine ⟨S', L', G', rfl, ?_, fun q h1 h2 => ((t3 q (by omega)).tr (r3 q (by omega))).tr (f3 q h1 h2)⟩
      have : Nat.gcd w y = Nat.gcd x y := by
        rw [← rm_gcd_half (x := w) (y := z) hy, Nat.mul_comm, ← hw, rm_gcd_sub (by omega)]
      rw [← this]; exact f2
    rw [rM_divisor_88_e]
    by_cases h1 : x < y
    · rw [if_pos h1, if_neg (by decide), if_neg (by decide)]
      rw [Nat.gcd_comm]
      exact step y x (by omega) hy hx h1 v u (by omega) hv hu
    · rw [if_neg h1]
      by_cases h2 : x = y
      · subst h2
        rw [if_pos rfl, if_pos rfl]
        obtain ⟨S', L', G', w1, w2, w3⟩ := rm_copy H (a := u) (c := 386) hu4 (by omega) hu (by
          obtain ⟨na, a1, a2, a3, a4, a5⟩ := hu
          rw [a5]
          refine Nat.lt_of_lt_of_le (rm_D_lt S u na) (Nat.pow_le_pow_right (by decide) ?_)
          show na ≤ 4200
          omega)
        have w1 : rM_copy m (nI u) 386 (rm_w aS aL aG M S L G) = _ := w1
        simp only [rm_wK, hK, if_true, w1, Option.bind_some, rM_divisor_172_e]
        refine ⟨S', L', G', ?_, by rw [Nat.gcd_self]; exact w2, fun q h1 _ => w3 q h1⟩
        by_cases hz : zb ≤ za
        · rw [if_pos (by rw [nI_leI (by omega) (by omega)]; exact hz), if_pos hz]
        · rw [if_neg (by rw [nI_leI (by omega) (by omega)]; exact hz), if_neg hz]
      · rw [if_neg h2, if_neg (by decide), if_pos (by decide)]
        exact step x y hN hx hy (by omega) u v huv hu hv
/-- the greatest common divisor: its odd part in G1, how often 2 divides it as the answer -/
theorem rm_divisor (H : rm_F m aS aL aG aN aB M) {a b : Nat} (ha : a < 420) (hb : b < 420) (ha1 : a ≠ 386) (ha2 : a ≠ 387) (hb1 : b ≠ 386) (hb2 : b ≠ 387) {S L G : Nat → Int32} {va vb : Int} (hva : rm_R S L G a va) (hvb : rm_R S L G b vb) (h0a : va ≠ 0) (h0b : vb ≠ 0) : ∃ t g S' L' G', rM_divisor m (nI a) (nI b) (rm_w aS aL aG M S L G) = some (nI t, (rm_w aS aL aG M S' L' G')) ∧ rm_R S' L' G' 386 ((g : Nat) : Int) ∧ g % 2 = 1 ∧ g * 2 ^ t = Nat.gcd va.natAbs vb.natAbs ∧ t < 134400 ∧ ∀ q, q ≠ 386 → q ≠ 387 → rm_same S L G S' L' G' q := by
  have H0 := H
  obtain ⟨hK, hS, hL, hG, -, -, kS, kL, kG, -, -, lS, lL, lG, -, -, d1, d2, d3, -⟩ := H
  have capv : ∀ {S L G : Nat → Int32} {a : Nat} {v : Int}, rm_R S L G a v → v.natAbs < rm_B ^ 4200 := by
    intro S L G a v h
    obtain ⟨n, a1, a2, a3, a4, a5⟩ := h
    rw [a5]
    exact Nat.lt_of_lt_of_le (rm_D_lt S a n) (Nat.pow_le_pow_right (by decide) (Nat.le_trans a1 (rm_cap_le a)))
  obtain ⟨S1, L1, G1, t1, t2, t3⟩ := rm_copy H0 (a := a) (c := 386) ha (by omega) hva (capv hva)
  obtain ⟨S2, L2, G2, u1, u2, u3⟩ := rm_copy H0 (a := b) (c := 387) hb (by omega) (hvb.same (t3 b hb1)) (capv hvb)
  have abs : ∀ {S L G : Nat → Int32} {a : Nat} {v : Int}, rm_R S L G a v → v ≠ 0 → rm_R S L (upd G a 1) a ((v.natAbs : Nat) : Int) := by
    intro S L G a v h h0
    obtain ⟨n, a1, a2, a3, a4, a5⟩ := h
    exact ⟨n, a1, a2, a3, by rw [pk_us, rm_sg_p (by omega)], by rw [Int.natAbs_natCast]; exact a5⟩
  have r1 : rm_R S2 L2 (upd (upd G2 386 1) 387 1) 386 ((va.natAbs : Nat) : Int) := (abs (t2.same (u3 386 (by omega))) h0a).same ⟨rfl, pk_un (by omega), fun _ _ => rfl⟩
  have r2 : rm_R S2 L2 (upd (upd G2 386 1) 387 1) 387 ((vb.natAbs : Nat) : Int) := abs (u2.same ⟨rfl, pk_un (by omega), fun _ _ => rfl⟩) h0b
  obtain ⟨x, x1, x2, x3, x4⟩ := rm_zeros H0 (a := 386) (by omega) r1 (by omega)
  obtain ⟨y, y1, y2, y3, y4⟩ := rm_zeros H0 (a := 387) (by omega) r2 (by omega)
  rw [Int.natAbs_natCast] at x2 x3 y2 y3
  obtain ⟨p, hp⟩ := x2
  obtain ⟨q, hq⟩ := y2
  have hp2 : va.natAbs / 2 ^ x = p := by rw [hp, Nat.mul_div_cancel_left _ (Nat.two_pow_pos x)]
  have hq2 : vb.natAbs / 2 ^ y = q := by rw [hq, Nat.mul_div_cancel_left _ (Nat.two_pow_pos y)]
  rw [hp2] at x3
  rw [hq2] at y3
  obtain ⟨S3, L3, G3, v1, v2, v3⟩ := rm_right H0 (a := 386) (by omega) (y := x) (w := (p : Int)) r1 (by omega) (by rw [hp, Nat.mul_comm]; simp) x4
  obtain ⟨S4, L4, G4, w1, w2, w3⟩ := rm_right H0 (a := 387) (by omega) (y := y) (w := (q : Int)) (r2.same (v3 387 (by omega))) (by omega) (by rw [hq, Nat.mul_comm]; simp) y4
  have v4 := v2.same (w3 386 (by omega))
  have cp := rm_compR H0 (a := 386) (b := 387) (by omega) (by omega) v4 w2
  rw [Int.natAbs_natCast, Int.natAbs_natCast] at cp
  obtain ⟨S5, L5, G5, f1, f2, f3⟩ := rm_div88 H0 (za := x) (zb := y) x4 y4 _ p q (Nat.le_refl _) x3 y3 386 387 (Or.inl ⟨rfl, rfl⟩) S4 L4 G4 v4 w2
  have k1 : (386 : Int32).toNatClampNeg = 386 := rfl
  have k2 : (387 : Int32).toNatClampNeg = 387 := rfl
  have k3 : (0 : Int32) ≤ 386 := by decide
  have k4 : (0 : Int32) ≤ 387 := by decide
  have k5 : 386 < 420 := by decide
  have k6 : 387 < 420 := by decide
  have t1 : rM_copy m (nI a) 386 (rm_w aS aL aG M S L G) = _ := t1
  have u1 : rM_copy m (nI b) 387 (rm_w aS aL aG M S1 L1 G1) = _ := u1
  have x1 : rM_zeros m 386 (rm_w aS aL aG M S2 L2 (upd (upd G2 386 1) 387 1)) = _ := x1
  have y1 : rM_zeros m 387 (rm_w aS aL aG M S2 L2 (upd (upd G2 386 1) 387 1)) = _ := y1
  have v1 : rM_right m 386 (nI x) (rm_w aS aL aG M S2 L2 (upd (upd G2 386 1) 387 1)) = _ := v1
  have w1 : rM_right m 387 (nI y) (rm_w aS aL aG M S3 L3 G3) = _ := w1
  have cp : rM_compare m 386 387 (rm_w aS aL aG M S4 L4 G4) = _ := cp
  have f1 : rM_divisor_88 m (nI x) (nI y) 386 387 _ (rm_w aS aL aG M S4 L4 G4) = _ := f1
  rw [rM_divisor_u, rM_divisor_e]
  simp only [rm_wK, rm_wR, rm_wL, rm_wI, hK, hS, hL, hG, kS, kL, kG, lS, lL, lG, if_true, Option.bind_some, and_self, rm_rS, rm_rL d1, rm_rG d2 d3, rm_wS, rm_wLL d1, rm_wG d2 d3, t1, u1, k1, k2, k3, k4, k5, k6, x1, y1, v1, w1, cp, f1]
  refine ⟨if y ≤ x then y else x, Nat.gcd p q, S5, L5, G5, rfl, f2, ?_, ?_, by split <;> omega, fun z h1 h2 => ?_⟩
  · have h1 : Nat.gcd p q ∣ p := Nat.gcd_dvd_left p q
    obtain ⟨c, hc⟩ := h1
    rcases Nat.mod_two_eq_zero_or_one (Nat.gcd p q) with e | e
    · exfalso
      have : p % 2 = 0 := by rw [hc, Nat.mul_mod, e, Nat.zero_mul, Nat.zero_mod]
      omega
    · exact e
  · rw [hp, hq, Nat.mul_comm (2 ^ x), Nat.mul_comm (2 ^ y), rm_gcd_two x3 y3]
  · exact ((((t3 z h1).tr (u3 z h2)).tr ⟨rfl, by rw [pk_un h2, pk_un h1], fun _ _ => rfl⟩).tr ((v3 z h1).tr (w3 z h2))).tr (f3 z h1 h2)
end

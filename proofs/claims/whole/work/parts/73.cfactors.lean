/-! findFactors -/
theorem tdiv_rng {X Y : Int} (hY : 0 < Y) : -(X.natAbs : Int) ≤ X.tdiv Y ∧ X.tdiv Y ≤ (X.natAbs : Int) := by
  have h := Int.natAbs_tdiv_le_natAbs X Y
  omega
theorem iL_abs {n : Int} (h1 : -9223372036854775808 < n) (h2 : n < 9223372036854775808) : (if (0 : Int64) < iL n then iL n else -(iL n)) = iL (n.natAbs : Int) := by
  rw [iL_0]
  by_cases c : 0 < n
  · rw [if_pos (by rw [iL_lt (by omega) (by omega) (by omega) (by omega)]; exact c)]; congr 1; omega
  · rw [if_neg (by rw [iL_lt (by omega) (by omega) (by omega) (by omega)]; exact c), iL_neg]; congr 1; omega
def lhb (a b c d : Int) : Prop := a.natAbs ≤ 1073741824 ∧ b.natAbs ≤ 1073741824 ∧ c.natAbs ≤ 1073741824 ∧ d.natAbs ≤ 1073741824
theorem lhm_rng {L S E l s x y a b c d : Int} (h : lhm L S E l s x y a b c d) (hb : lhb a b c d) (hL : L ≤ 4611686018427387904 * E) : -1073741824 ≤ x ∧ x ≤ 4611686019501129728 ∧ -1073741824 ≤ y ∧ y ≤ 4611686019501129728 := by
  have hbw := lhm_bw h
  obtain ⟨e0, -, -, -, -, -, -, w0, wu, ul, -, -, -⟩ := h
  obtain ⟨b1, b2, b3, b4⟩ := hb
  have z : (0 : Int) * E = 0 := Int.zero_mul E
  rcases hbw with ⟨-, g1, g2, g3, g4⟩ | ⟨-, g1, g2, g3, g4⟩
  · have q1 := (lhm_mulE e0).mp (show (x + b) * E ≤ 4611686018427387904 * E by omega)
    have q2 := (lhm_mulE e0).mp (show 0 * E ≤ (x + a) * E by omega)
    have q3 := (lhm_mulE e0).mp (show (y + c) * E ≤ 4611686018427387904 * E by omega)
    have q4 := (lhm_mulE e0).mp (show 0 * E ≤ (y + d) * E by omega)
    omega
  · have q1 := (lhm_mulE e0).mp (show (x + a) * E ≤ 4611686018427387904 * E by omega)
    have q2 := (lhm_mulE e0).mp (show 0 * E ≤ (x + b) * E by omega)
    have q3 := (lhm_mulE e0).mp (show (y + d) * E ≤ 4611686018427387904 * E by omega)
    have q4 := (lhm_mulE e0).mp (show 0 * E ≤ (y + c) * E by omega)
    omega
section
variable {M : rg_M}
theorem cw_ff59 {rk : Nat} {L S E l s : Int} (hL : L ≤ 4611686018427387904 * E) (hLS : L * S ≥ 0) : ∀ n i : Nat, 64 - i = n → i ≤ 64 → ∀ x y a b c d : Int, lhm L S E l s x y a b c d → lhb a b c d → ∃ x' y' a' b' c' d' : Int, rK_findFactors_59 rk (iL x) (iL y) (iL a) (iL b) (iL c) (iL d) (nI i) M = rK_findFactors_215 rk (iL a') (iL b') (iL c') (iL d') M ∧ lhm L S E l s x' y' a' b' c' d' ∧ lhb a' b' c' d' := by
  intro n
  induction n with
  | zero =>
    intro i hd hi x y a b c d h hb
    have e : i = 64 := by omega
    subst e
    rw [rK_findFactors_59_e, if_pos (by decide)]
    exact ⟨x, y, a, b, c, d, rfl, h, hb⟩
  | succ n ih =>
    intro i hd hi x y a b c d h hb
    have hr := lhm_rng h hb hL
    obtain ⟨b1, b2, b3, b4⟩ := hb
    have out : ∃ x' y' a' b' c' d' : Int, rK_findFactors_215 rk (iL a) (iL b) (iL c) (iL d) M = rK_findFactors_215 rk (iL a') (iL b') (iL c') (iL d') M ∧ lhm L S E l s x' y' a' b' c' d' ∧ lhb a' b' c' d' := ⟨x, y, a, b, c, d, rfl, h, b1, b2, b3, b4⟩
    rw [rK_findFactors_59_e, if_neg (by rw [show (64 : Int32) = nI 64 from rfl, nI_leI (by omega) (by omega)]; omega)]
    simp only [iL_add]
    by_cases hc : 0 < y + c
    · rw [if_neg (by rw [iL_0, iL_le (by omega) (by omega) (by omega) (by omega)]; omega)]
      by_cases hdd : 0 < y + d
      · rw [if_neg (by rw [iL_0, iL_le (by omega) (by omega) (by omega) (by omega)]; omega), if_neg (by rw [iL_0, iL_eq (by omega) (by omega) (by omega) (by omega)]; omega), if_neg (by rw [iL_0, iL_eq (by omega) (by omega) (by omega) (by omega)]; omega), iL_div (by omega) (by omega) hc (by omega), iL_div (by omega) (by omega) hdd (by omega)]
        obtain ⟨q, hq⟩ : ∃ q, q = (x + a).tdiv (y + c) := ⟨_, rfl⟩
        obtain ⟨q2, hq2⟩ : ∃ q2, q2 = (x + b).tdiv (y + d) := ⟨_, rfl⟩
        have qr := tdiv_rng (X := x + a) hc
        have qr2 := tdiv_rng (X := x + b) hdd
        rw [← hq] at qr
        rw [← hq2] at qr2
        rw [← hq, ← hq2]
        by_cases he : q = q2
        · have hls := lhm_q h hc hdd hq (by rw [he]; exact hq2)
          rw [if_pos (by rw [he]), show (1073741824 : Int64) = iL 1073741824 from rfl]
          by_cases hm : q ≤ 1073741824
          · rw [if_pos (by rw [iL_le (by omega) (by omega) (by omega) (by omega)]; exact hm)]
            have hst := lhm_step h hc hdd hq (by rw [he]; exact hq2) hLS
            have m1 : (q * c).natAbs ≤ 1073741824 * 1073741824 := by rw [Int.natAbs_mul]; exact Nat.mul_le_mul (by omega) b3
            have m2 : (q * d).natAbs ≤ 1073741824 * 1073741824 := by rw [Int.natAbs_mul]; exact Nat.mul_le_mul (by omega) b4
            simp only [iL_mul, iL_sub, iL_abs (n := a - q * c) (by omega) (by omega), iL_abs (n := b - q * d) (by omega) (by omega)]
            by_cases k1 : (a - q * c).natAbs ≤ 1073741824
            · rw [if_neg (by rw [iL_lt (by omega) (by omega) (by omega) (by omega)]; omega)]
              by_cases k2 : (b - q * d).natAbs ≤ 1073741824
              · rw [if_pos (by rw [iL_le (by omega) (by omega) (by omega) (by omega)]; omega), nI_1]
                exact ih (i + 1) (by omega) (by omega) _ _ _ _ _ _ hst ⟨b3, b4, k1, k2⟩
              · rw [if_neg (by rw [iL_le (by omega) (by omega) (by omega) (by omega)]; omega)]; exact out
            · rw [if_pos (by rw [iL_lt (by omega) (by omega) (by omega) (by omega)]; omega)]; exact out
          · rw [if_neg (by rw [iL_le (by omega) (by omega) (by omega) (by omega)]; exact hm)]; exact out
        · rw [if_neg (by rw [iL_eq (by omega) (by omega) (by omega) (by omega)]; exact he)]; exact out
      · rw [if_pos (by rw [iL_0, iL_le (by omega) (by omega) (by omega) (by omega)]; omega)]; exact out
    · rw [if_pos (by rw [iL_0, iL_le (by omega) (by omega) (by omega) (by omega)]; omega)]; exact out
theorem kz_big {y e s : Nat} (he : 3 ≤ e) : kz y e / 2 ^ (31 - s) = y / (wB ^ (e - 3) * 2 ^ (31 - s)) := by
  unfold kz
  rw [show e = (e - 3) + 3 by omega, Nat.pow_add, Nat.mul_div_mul_right _ _ (Nat.pow_pos (by decide)), Nat.div_div_eq_div_mul, show e - 3 + 3 - 3 = e - 3 by omega]
theorem cJ_wJ (M : rg_M) (a i : Nat) (v : Int64) : rg_J (rg_wJ M a i v) a i = v := by
  show rg_u2 _ _ _ _ a i = v
  unfold rg_u2; rw [if_pos rfl, if_pos rfl]
theorem cJ_wJn {M : rg_M} {a i j : Nat} {v : Int64} (h : j ≠ i) : rg_J (rg_wJ M a i v) a j = rg_J M a j := by
  show rg_u2 _ _ _ _ a j = _
  unfold rg_u2; rw [if_pos rfl, if_neg h]
theorem cU_wJ (M : rg_M) (P : Nat → Prop) (a i : Nat) (v : Int64) : cU P M (rg_wJ M a i v) := ⟨rfl, rfl, rfl, rfl, rfl, rfl, fun _ _ _ => rfl, fun _ _ => rfl⟩
/-- what findFactors leaves -/
def ffo (jf : Nat) (M' : rg_M) (L S : Int) : Prop := ∃ a b c d : Int, rg_J M' jf 0 = iL a ∧ rg_J M' jf 1 = iL b ∧ rg_J M' jf 2 = iL c ∧ rg_J M' jf 3 = iL d ∧ lhb a b c d ∧ ((0 ≤ a ∧ b ≤ 0 ∧ c ≤ 0 ∧ 0 ≤ d) ∨ (a ≤ 0 ∧ 0 ≤ b ∧ 0 ≤ c ∧ d ≤ 0)) ∧ 0 ≤ c * L + d * S ∧ c * L + d * S ≤ a * L + b * S ∧ a * L + b * S ≤ L ∧ Int.gcd (a * L + b * S) (c * L + d * S) = Int.gcd L S ∧ 2 * ((a * L + b * S) * (c * L + d * S)) ≤ L * S
theorem cw_findFactors {rk jf w x r rx n nb : Nat} {c : Nat → Nat} {vw vx : Int} (hR : cRk rk c jf M) (hW : cwW M w r n vw) (hX : cwW M x rx nb vx) (hn3 : 3 ≤ n) (hn : n ≤ 1300) (hnb : nb ≤ 1300) (hle : vx.natAbs ≤ vw.natAbs) : ∃ fl M', rK_findFactors rk w x M = some (fl, M') ∧ cU (fun _ => False) M M' ∧ (fl = 0 ∨ (fl = 1 ∧ ffo jf M' vw.natAbs vx.natAbs)) := by
  obtain ⟨m, hm⟩ := Nat.exists_eq_succ_of_ne_zero (show n ≠ 0 by omega)
  have k1 := nI_clamp (n := m) (by omega)
  have k2 := rm_i0 (a := m) (by omega)
  have k3 : m < rg_L M r := by have := hW.2.2.2.1; omega
  have en : nI n - (1 : Int32) = nI m := by rw [hm]; exact nI_pred m
  have hmw := hW.2.2.2.2.2.2.1 m (by omega)
  have hm0 : rm_u (rg_A M r m) ≠ 0 := by
    rw [Ne, rm_u_eq0]
    rcases hW.2.2.2.2.2.2.2.1 with q | q
    · omega
    · rw [show m = n - 1 by omega]; exact q
  have iw : rg_I M 81 w = nI n := hW.2.2.2.2.1
  rw [rK_findFactors_u, rK_findFactors_e]
  simp only [hW.1, iw, if_true]
  rw [if_neg (nI_ne0 (by omega) (by omega)), hW.2.1]
  simp only [Option.bind_some, hW.2.2.1, en, k1, k2, k3, and_self, if_true]
  have hl4 := nlz (M := M) (n := rm_u (rg_A M r m)) (by omega) hmw
  rw [rm_nI_u] at hl4
  rw [hl4]
  obtain ⟨bt, hbt⟩ : ∃ bt, bt = rm_bits (rm_u (rg_A M r m)) := ⟨_, rfl⟩
  have hb1 : bt ≤ 31 := by rw [hbt]; exact rm_bits_mono hmw
  have hb2 : 0 < bt := by rw [hbt]; exact rm_bits_pos (by omega)
  obtain ⟨s, hs⟩ : ∃ s, s = 31 - bt := ⟨_, rfl⟩
  have es : nI (32 - rm_bits (rm_u (rg_A M r m))) - (1 : Int32) = nI s := by
    rw [← hbt, show 32 - bt = s + 1 by omega]; exact nI_pred s
  simp only [Option.bind_some, es]
  obtain ⟨L, hL⟩ : ∃ L, L = cV (rg_A M r) n := ⟨_, rfl⟩
  obtain ⟨S, hS⟩ : ∃ S, S = cV (rg_A M rx) nb := ⟨_, rfl⟩
  have hLw : vw.natAbs = L := by rw [hL]; exact hW.2.2.2.2.2.2.2.2
  have hSx : vx.natAbs = S := by rw [hS]; exact hX.2.2.2.2.2.2.2.2
  rw [hLw, hSx] at hle ⊢
  have hLb : rm_bits L = 31 * m + bt := by
    rw [hL, hm, hbt]
    show rm_bits (ds wB _ m + rm_u (rg_A M r m) * wB ^ m) = _
    exact rm_bits_app (w := 31) (by decide) (ds_lt (fun k hk => hW.2.2.2.2.2.2.1 k (by omega))) hm0
  have hB : wB ^ n = 2 ^ (31 * m + bt) * 2 ^ s := by
    rw [show wB = 2 ^ 31 from rfl, ← Nat.pow_mul, ← Nat.pow_add]; congr 1; omega
  have hL1 : L * 2 ^ s < wB ^ n := by
    rw [hB]
    have := rm_bits_lt L
    rw [hLb] at this
    exact Nat.mul_lt_mul_of_pos_right this (Nat.pow_pos (by decide))
  have hS1 : S * 2 ^ s < wB ^ n := Nat.lt_of_le_of_lt (Nat.mul_le_mul_right _ hle) hL1
  have ld1 := cw_leading (M := M) (w := w) (r := r) (n := n) (e := n) (s := s) hW.N hn hn (by omega) (by rw [← hL]; exact hL1)
  have ld2 := cw_leading (M := M) (w := x) (r := rx) (n := nb) (e := n) (s := s) hX.N hnb hn (by omega) (by rw [← hS]; exact hS1)
  rw [← hL, kz_big hn3] at ld1
  rw [← hS, kz_big hn3] at ld2
  rw [ld1]
  simp only [Option.bind_some]
  rw [ld2]
  simp only [Option.bind_some]
  obtain ⟨E, hE⟩ : ∃ E, E = wB ^ (n - 3) * 2 ^ (31 - s) := ⟨_, rfl⟩
  rw [← hE]
  have hE0 : 0 < E := by rw [hE]; exact Nat.mul_pos (Nat.pow_pos (by decide)) (Nat.pow_pos (by decide))
  have hEs : E * 2 ^ s * 4611686018427387904 = wB ^ n := by
    rw [hE, Nat.mul_assoc (wB ^ (n - 3)), ← Nat.pow_add, show 31 - s + s = 31 by omega, show (4611686018427387904 : Nat) = wB ^ 2 by decide, show (2 : Nat) ^ 31 = wB ^ 1 by decide, ← Nat.pow_add, ← Nat.pow_add]; congr 1; omega
  have hLE : L ≤ 4611686018427387904 * E := by
    rw [← hEs] at hL1
    have : L * 2 ^ s < 4611686018427387904 * E * 2 ^ s := by
      rw [Nat.mul_assoc, Nat.mul_comm 4611686018427387904]; exact hL1
    exact Nat.le_of_lt (Nat.lt_of_mul_lt_mul_right this)
  have h0 : lhm (L : Int) (S : Int) (E : Int) ((L % E : Nat) : Int) ((S % E : Nat) : Int) ((L / E : Nat) : Int) ((S / E : Nat) : Int) 1 0 0 1 := by
    have d1 := Nat.div_add_mod L E
    have d2 := Nat.div_add_mod S E
    have m1 := Nat.mod_lt L hE0
    have m2 := Nat.mod_lt S hE0
    have d1' : ((L / E : Nat) : Int) * (E : Int) + ((L % E : Nat) : Int) = (L : Int) := by rw [← Int.natCast_mul, Nat.mul_comm]; omega
    have d2' : ((S / E : Nat) : Int) * (E : Int) + ((S % E : Nat) : Int) = (S : Int) := by rw [← Int.natCast_mul, Nat.mul_comm]; omega
    unfold lhm
    simp only [Int.one_mul, Int.zero_mul, Int.add_zero, Int.zero_add]
    refine ⟨by omega, by omega, by omega, by omega, by omega, d1'.symm, d2'.symm, by omega, by omega, Int.le_refl _, Or.inl ⟨by decide, by decide, by decide, by decide⟩, by trivial, Or.inl ⟨by trivial, by trivial, by trivial⟩⟩
  obtain ⟨x', y', a', b', c', d', r1, r2, r3⟩ := cw_ff59 (M := M) (rk := rk) (by omega) (Int.mul_nonneg (Int.natCast_nonneg L) (Int.natCast_nonneg S)) 64 0 rfl (by omega) _ _ 1 0 0 1 h0 ⟨by decide, by decide, by decide, by decide⟩
  have r1 : rK_findFactors_59 rk (iL ((L / E : Nat) : Int)) (iL ((S / E : Nat) : Int)) 1 0 0 1 0 M = _ := r1
  rw [iL_n, iL_n, r1, rK_findFactors_215_e]
  obtain ⟨-, j1, -, -, j2, j3, j4, j5⟩ := hR
  have z0 : (0 : Int32).toNatClampNeg < rg_L M jf := by show 0 < _; omega
  have z1 : (1 : Int32).toNatClampNeg < rg_L M jf := by show 1 < _; omega
  have z2 : (2 : Int32).toNatClampNeg < rg_L M jf := by show 2 < _; omega
  have z3 : (3 : Int32).toNatClampNeg < rg_L M jf := by show 3 < _; omega
  have y0 : (0 : Int32) ≤ 0 := by decide
  have y1 : (0 : Int32) ≤ 1 := by decide
  have y2 : (0 : Int32) ≤ 2 := by decide
  have y3 : (0 : Int32) ≤ 3 := by decide
  simp only [j1, j2, j4, Option.bind_some, if_true, z0, z1, z2, z3, y0, y1, y2, y3, and_self]
  obtain ⟨M', hM'⟩ : ∃ M', M' = rg_wJ (rg_wJ (rg_wJ (rg_wJ M jf 0 (iL a')) jf 1 (iL b')) jf 2 (iL c')) jf 3 (iL d') := ⟨_, rfl⟩
  have hM2 : rg_wJ (rg_wJ (rg_wJ (rg_wJ M jf (Int32.toNatClampNeg 0) (iL a')) jf (Int32.toNatClampNeg 1) (iL b')) jf (Int32.toNatClampNeg 2) (iL c')) jf (Int32.toNatClampNeg 3) (iL d') = M' := by rw [hM']; rfl
  rw [hM2]
  have hU : cU (fun _ => False) M M' := by
    rw [hM']
    exact (((cU_wJ M _ jf 0 _).tr (cU_wJ _ _ jf 1 _)).tr (cU_wJ _ _ jf 2 _)).tr (cU_wJ _ _ jf 3 _)
  have hr := lhm_rng r2 r3 (by omega)
  obtain ⟨b1, b2, b3, b4⟩ := r3
  by_cases hb0 : b' = 0
  · rw [if_pos (by rw [hb0]; rfl), rK_findFactors_259_e]
    exact ⟨0, M', rfl, hU, Or.inl rfl⟩
  · rw [if_neg (by rw [iL_0, iL_eq (by omega) (by omega) (by omega) (by omega)]; exact hb0), rK_findFactors_259_e]
    refine ⟨1, M', rfl, hU, Or.inr ⟨rfl, a', b', c', d', ?_, ?_, ?_, ?_, ⟨b1, b2, b3, b4⟩, ?_⟩⟩
    · rw [hM', cJ_wJn (by decide), cJ_wJn (by decide), cJ_wJn (by decide), cJ_wJ]
    · rw [hM', cJ_wJn (by decide), cJ_wJn (by decide), cJ_wJ]
    · rw [hM', cJ_wJn (by decide), cJ_wJ]
    · rw [hM', cJ_wJ]
    · obtain ⟨-, -, -, -, -, -, -, g1, g2, g3, g4, g5, g6⟩ := r2
      refine ⟨g4, g1, g2, g3, g5, ?_⟩
      rcases g6 with e | e
      · exact absurd e.1 hb0
      · exact e
end

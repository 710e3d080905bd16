/-! the reference: size, bits, about -/
theorem ds_get {B : Nat} {f : Nat → Nat} (hB : 0 < B) (hf : ∀ k, f k < B) (n k : Nat) : ds B f n / B ^ k % B = if k < n then f k else 0 := by
  by_cases h : k < n
  · rw [if_pos h]
    obtain ⟨d, hd⟩ : ∃ d, n = k + (d + 1) := ⟨n - k - 1, by omega⟩
    rw [hd, ds_app, Nat.add_mul_div_left _ _ (Nat.pow_pos hB), Nat.div_eq_of_lt (ds_lt (fun j _ => hf j)), Nat.zero_add]
    have := ds_mod (B := B) (f := fun j => f (k + j)) (n := d + 1) (hf _) (by omega)
    exact this
  · rw [if_neg h, Nat.div_eq_of_lt (Nat.lt_of_lt_of_le (ds_lt (fun j _ => hf j)) (Nat.pow_le_pow_right hB (by omega))), Nat.zero_mod]
section
variable {m aS aL aG aN aB : Nat} {M : rg_M}
theorem mM_size {s : sS} (h : mI m aS aL aG aN aB s M) (x : Int32) : rM_size m x M = some (ts_size s x, M) := by
  obtain ⟨H, hI, ⟨V, hV, hs⟩, hN, hB⟩ := h
  have H0 := H
  obtain ⟨hK, hS, hL, hG, -, -, kS, kL, kG, -, -, lS, lL, lG, -⟩ := H
  have c380 : (380 : Int32).toNatClampNeg = 380 := by decide
  have i380 : (0 : Int32) ≤ 380 := by decide
  have sg := hV.sg (a := 380) (by decide) (by decide)
  rw [hs.2.1] at sg
  have b0 := rm_bitsOf H0 (a := 380) (by decide) (hV 380 (by decide) (by decide))
  have b1 := rm_bitsOf H0 (a := 381) (by decide) (hV 381 (by decide) (by decide))
  rw [rm_wid, hs.2.1] at b0
  rw [rm_wid, hs.2.2.1, Int.natAbs_natCast] at b1
  have b0 : rM_bitsOf m 380 M = _ := b0
  have b1 : rM_bitsOf m 381 M = _ := b1
  rw [rM_size_u, rM_size_e]
  unfold ts_size
  by_cases c0 : x = 0
  · rw [if_pos c0, if_pos c0]
    simp only [hK, hG, kG, lG, if_true, Option.bind_some, c380, i380, show (380 : Nat) < 420 by decide, and_self, sg, rM_size_47_e]
    rfl
  rw [if_neg c0, if_neg c0]
  by_cases c1 : x = 1
  · rw [if_pos c1, if_pos c1]
    simp only [hK, if_true, b0, Option.bind_some, rM_size_47_e]
    rfl
  rw [if_neg c1, if_neg c1]
  by_cases c2 : x = 2
  · rw [if_pos c2, if_pos c2]
    simp only [hK, if_true, b1, Option.bind_some, rM_size_47_e]
    rfl
  rw [if_neg c2, if_neg c2, rM_size_47_e]; rfl
/-- 32 bits of a register -/
theorem rm_limbV (H : rm_F m aS aL aG aN aB M) {a k : Nat} {v : Int} (ha : a < 420) (hk : k < 2 ^ 31) (hv : rm_R (rg_A M aS) (rg_A M aL) (rg_A M aG) a v) : ∃ z : Int64, rM_limb m (nI a) (nI k) M = some (z, M) ∧ z.toInt32 = nI (v.natAbs / 2 ^ (32 * k) % 4294967296) := by
  obtain ⟨n, h1, h2, h3, h4, h5⟩ := hv
  have := rm_limb H ha hk (S := rg_A M aS) (L := rg_A M aL) (G := rg_A M aG) h1 h2
  rw [rm_wid] at this
  refine ⟨_, this, ?_⟩
  have e : v.natAbs / 2 ^ (32 * k) % 4294967296 = if k < n then rm_u (rg_A M aS (rm_at a + k)) else 0 := by
    rw [h5, Nat.pow_mul]
    exact ds_get (B := 4294967296) (f := fun j => rm_u (rg_A M aS (rm_at a + j))) (by decide) (fun j => rm_u_lt _) n k
  rw [e]
  apply rm_u_inj
  rw [rm_u_l, rm_u_nI]
  congr 1
  refine rm_uN_l ?_
  split
  · exact Nat.lt_trans (rm_u_lt _) (by decide)
  · decide
theorem big_bits {v k : Nat} (h : v < wB ^ 425) (hk : 4200 ≤ k) : v / 2 ^ (32 * k) % 4294967296 = 0 := by
  have h1 : v < 2 ^ (32 * k) := by
    refine Nat.lt_of_lt_of_le h ?_
    rw [show wB = 2 ^ 31 from rfl, ← Nat.pow_mul]
    exact Nat.pow_le_pow_right (by decide) (by omega)
  rw [Nat.div_eq_of_lt h1]
theorem mM_bits {s : sS} {n : Nat} (h : mI m aS aL aG aN aB s M) (hok : ts_ok n s) (x k : Int32) : rM_bits m x k M = some (ts_bits s x k, M) := by
  obtain ⟨H, hI, ⟨V, hV, hs⟩, hN, hB⟩ := h
  have hK := H.1
  have hq := hok.2.2.2.2.2.2.2.1
  have z : rg_ui (rM_bits_20 M) = some (0, M) := by rw [rM_bits_20_e, rM_bits_43_e]; rfl
  rw [rM_bits_u, rM_bits_e]
  unfold ts_bits
  by_cases c1 : x < 0
  · rw [if_pos c1, z, if_neg (fun e => absurd c1 (by rw [e]; decide)), if_neg (fun e => absurd c1 (by rw [e]; decide))]
  rw [if_neg c1]
  by_cases c2 : 1 < x
  · rw [if_pos c2, z, if_neg (fun e => absurd c2 (by rw [e]; decide)), if_neg (fun e => absurd c2 (by rw [e]; decide))]
  rw [if_neg c2]
  by_cases c3 : k < 0
  · rw [if_pos c3, z]
    simp only [c3, if_true, ite_self]
  rw [if_neg c3]
  obtain ⟨j, j1, j2⟩ := nI_of c3
  subst j2
  simp only [c3, if_false, nI_clamp j1]
  have hx : x = 0 ∨ x = 1 := by
    rw [Int32.lt_iff_toInt_lt] at c1 c2
    have c1 : ¬ x.toInt < 0 := c1
    have c2 : ¬ (1 : Int) < x.toInt := c2
    rcases (show x.toInt = 0 ∨ x.toInt = 1 by omega) with e | e
    · exact Or.inl (Int32.toInt_inj.mp e)
    · exact Or.inr (Int32.toInt_inj.mp e)
  have e4200 : (4200 : Int32) = nI 4200 := rfl
  by_cases c4 : nI j < 4200
  · rw [if_pos c4]
    rcases hx with e | e
    · rw [if_pos e, if_pos e, rM_bits_38_e, if_pos hK]
      obtain ⟨z, z1, z2⟩ := rm_limbV H (a := 380) (k := j) (by decide) j1 (hV 380 (by decide) (by decide))
      have z1 : rM_limb m 380 (nI j) M = _ := z1
      rw [hs.2.1] at z2
      simp only [z1, Option.bind_some, rM_bits_43_e, z2]
      rfl
    · rw [if_neg (by rw [e]; decide), if_neg (by rw [e]; decide), if_pos e, rM_bits_38_e, if_pos hK]
      obtain ⟨z, z1, z2⟩ := rm_limbV H (a := 381) (k := j) (by decide) j1 (hV 381 (by decide) (by decide))
      have z1 : rM_limb m 381 (nI j) M = _ := z1
      rw [hs.2.2.1, Int.natAbs_natCast] at z2
      simp only [z1, Option.bind_some, rM_bits_43_e, z2]
      rfl
  · rw [if_neg c4, z]
    rw [e4200, nI_ltI j1 (by decide)] at c4
    have q1 := big_bits (v := (ts_v s).num.natAbs) (k := j) hq.1 (by omega)
    have q2 := big_bits (v := (ts_v s).den) (k := j) (by have := hq.2; unfold cL at this; rw [Int.natAbs_natCast] at this; exact this) (by omega)
    rw [q1, q2]
    rcases hx with e | e
    · rw [if_pos e]; rfl
    · rw [if_neg (by rw [e]; decide), if_pos e]; rfl
/-- the span -/
theorem rm_span31 (H : rm_F m aS aL aG aN aB M) {wa we : Nat} (hI : rg_I M 117 m = nI we) (h5 : we ≤ 5) {r : Nat} (hr : r < 5) (a : Int32 × Int32) : ∀ d j : Nat, we - j = d → j ≤ we → rM_span_31 m (spA (rg_A M aN) r a j).1 (spA (rg_A M aN) r a j).2 (nI r) (nI j) M = rM_span_20 m (spA (rg_A M aN) r a we).1 (spA (rg_A M aN) r a we).2 (nI (r + 1)) M := by
  obtain ⟨hK, -, -, -, hN, -, -, -, -, kN, -, -, -, -, lN, -⟩ := H
  intro d
  induction d with
  | zero =>
    intro j hd hj
    have e : j = we := by omega
    subst e
    rw [rM_span_31_e]
    simp only [hK, if_true, hI, Int32.le_refl, nI_1]
  | succ d ih =>
    intro j hd hj
    have ei : (5 : Int32) * nI r + nI j = nI (r * 5 + j) := by rw [show (5 : Int32) = nI 5 from rfl, pk_mul, nI_add, Nat.mul_comm]
    have k1 := nI_clamp (n := r * 5 + j) (by omega)
    have k2 := rm_i0 (a := r * 5 + j) (by omega)
    have k3 : r * 5 + j < 25 := by omega
    rw [← ih (j + 1) (by omega) (by omega), rM_span_31_e]
    simp only [hK, if_true, hI, show ¬ nI we ≤ nI j by rw [nI_leI (by omega) (by omega)]; omega, if_false, hN, Option.bind_some, kN, lN, ei, k1, k2, k3, and_self]
    have e1 : (spA (rg_A M aN) r a (j + 1)).1 = if rg_A M aN (r * 5 + j) < (spA (rg_A M aN) r a j).1 then rg_A M aN (r * 5 + j) else (spA (rg_A M aN) r a j).1 := rfl
    have e2 : (spA (rg_A M aN) r a (j + 1)).2 = if (spA (rg_A M aN) r a j).2 < rg_A M aN (r * 5 + j) then rg_A M aN (r * 5 + j) else (spA (rg_A M aN) r a j).2 := rfl
    rw [e1, e2]
    by_cases c1 : (spA (rg_A M aN) r a j).1 ≤ rg_A M aN (r * 5 + j)
    · rw [if_pos c1, if_neg (by rw [Int32.not_lt]; exact c1), rM_span_65_e]
      by_cases c2 : rg_A M aN (r * 5 + j) ≤ (spA (rg_A M aN) r a j).2
      · rw [if_pos c2, if_neg (by rw [Int32.not_lt]; exact c2), rM_span_78_e, nI_1]
      · rw [if_neg c2, if_pos (Int32.not_le.mp c2), rM_span_78_e, nI_1]
    · rw [if_neg c1, if_pos (Int32.not_le.mp c1), rM_span_65_e]
      by_cases c2 : rg_A M aN (r * 5 + j) ≤ (spA (rg_A M aN) r a j).2
      · rw [if_pos c2, if_neg (by rw [Int32.not_lt]; exact c2), rM_span_78_e, nI_1]
      · rw [if_neg c2, if_pos (Int32.not_le.mp c2), rM_span_78_e, nI_1]
theorem rm_spanM (H : rm_F m aS aL aG aN aB M) {wa we : Nat} (hg : rg_I M 115 m = nI 1) (hr : rg_I M 116 m = nI wa) (hc : rg_I M 117 m = nI we) (h4 : wa ≤ 5) (h5 : we ≤ 5) : rM_span m M = some (spn (rg_A M aN) wa we, M) := by
  have hK := H.1
  have go : ∀ d j : Nat, wa - j = d → j ≤ wa → rM_span_20 m (spB (rg_A M aN) we j).1 (spB (rg_A M aN) we j).2 (nI j) M = some (some (.int (spn (rg_A M aN) wa we)), M) := by
    intro d
    induction d with
    | zero =>
      intro j hd hj
      have e : j = wa := by omega
      subst e
      rw [rM_span_20_e]
      simp only [hK, if_true, hr, Int32.le_refl]
      rfl
    | succ d ih =>
      intro j hd hj
      have s := rm_span31 H (wa := wa) hc h5 (r := j) (by omega) (spB (rg_A M aN) we j) _ 0 rfl (Nat.zero_le _)
      have s : rM_span_31 m (spB (rg_A M aN) we j).1 (spB (rg_A M aN) we j).2 (nI j) 0 M = rM_span_20 m (spB (rg_A M aN) we (j + 1)).1 (spB (rg_A M aN) we (j + 1)).2 (nI (j + 1)) M := s
      rw [rM_span_20_e]
      simp only [hK, if_true, hr, show ¬ nI wa ≤ nI j by rw [nI_leI (by omega) (by omega)]; omega, if_false, s]
      exact ih (j + 1) (by omega) (by omega)
  have s0 := go _ 0 rfl (Nat.zero_le _)
  have s0 : rM_span_20 m 1000 (-1000) 0 M = _ := s0
  rw [rM_span_u, rM_span_e, if_pos hK, if_pos (show rg_I M 115 m = (1 : Int32) from hg), s0]; rfl
theorem nI_maxle {a b : Nat} (ha : a < 2 ^ 31) (hb : b < 2 ^ 31) : (if nI b ≤ nI a then nI a else nI b) = nI (max a b) := by
  by_cases h : b ≤ a
  · rw [if_pos (by rw [nI_leI hb ha]; exact h), Nat.max_eq_left h]
  · rw [if_neg (by rw [nI_leI hb ha]; exact h), Nat.max_eq_right (by omega)]
/-- the four parts of a way -/
theorem rm_gr26 (H : rm_F m aS aL aG aN aB M) {s : sS} {n p w a : Nat} (hok : ts_ok n s) (hg : ts_g s ≠ 0) (hI : mInt m s M) {V : Nat → Int} (hV : rm_V (rg_A M aS) (rg_A M aL) (rg_A M aG) V) (hs : mV s V) (hp : p < ts_P s) (hw : w < ts_w s p) (ha : a ≤ 256) : rM_greatest_26 m (nI a) (nI p) (nI w) 0 M = rM_greatest_14 m (nI (max (max a (qB (ts_y s (p * ts_st s + w)))) (qB (ts_y s (40 + (p * ts_st s + w)))))) (nI p) (nI (w + 1)) M := by
  have hK := H.1
  obtain ⟨i1, i2, i3, i4, i5, i6, i7⟩ := hI
  obtain ⟨e1, e2, e3, hP, hst0, hst⟩ := ts_rm hok hg
  obtain ⟨q1, q2, q3, q4⟩ := hst p hp
  have g3 : ts_g s < 3 := by have := hok.1; omega
  have hyB := hok.2.2.2.2.2.2.1
  obtain ⟨sl, hsl⟩ : ∃ sl, sl = p * ts_st s + w := ⟨_, rfl⟩
  rw [← hsl]
  have hsl40 : sl < 40 := by omega
  have sl0 : rM_slot m (nI p) (nI w) M = some (nI sl, M) := by rw [hsl, ← e3]; exact rm_slot (m := m) (M := M) hK i1 g3
  obtain ⟨v1, v2, v3, v4⟩ := hs.1 hg sl hsl40
  have y1 := hyB sl (by omega)
  have y2 := hyB (40 + sl) (by omega)
  unfold qB at y1 y2
  have bt : ∀ (k : Nat) (v : Int), k < 160 → V k = v → rM_bitsOf m (nI k) M = some (nI (rm_bits v.natAbs), M) := fun k v hk hv => by
    have := rm_bitsOf H (a := k) (by omega) (hV k (by omega) (by omega))
    rw [rm_wid, hv] at this; exact this
  have step : ∀ (k b c : Nat) (v : Int), k < 4 → c ≤ 256 → V (40 * k + sl) = v → rm_bits v.natAbs = b → b ≤ 256 → rM_greatest_26 m (nI c) (nI p) (nI w) (nI k) M = rM_greatest_26 m (nI (max c b)) (nI p) (nI w) (nI (k + 1)) M := by
    intro k b c v hk hc hv hb hb2
    have ei : (40 : Int32) * nI k + nI sl = nI (40 * k + sl) := by rw [show (40 : Int32) = nI 40 from rfl, pk_mul, nI_add]
    have pp : ¬ (4 : Int32) ≤ nI k := by rw [show (4 : Int32) = nI 4 from rfl, nI_leI (by omega) (by omega)]; omega
    rw [rM_greatest_26_e, if_neg pp]
    simp only [hK, if_true, sl0, Option.bind_some, ei, bt (40 * k + sl) v (by omega) hv, hb]
    rw [← nI_maxle (by omega) (by omega)]
    by_cases c1 : nI b ≤ nI c
    · rw [if_pos c1, if_pos c1, rM_greatest_62_e, nI_1]
    · rw [if_neg c1, if_neg c1, rM_greatest_62_e, nI_1]
  have s0 := step 0 _ a _ (by decide) ha (show V (40 * 0 + sl) = (ts_y s sl).num by rw [show 40 * 0 + sl = sl by omega]; exact v1) rfl (by omega)
  have s1 := step 1 _ (max a (rm_bits (ts_y s sl).num.natAbs)) _ (by decide) (by omega) (show V (40 * 1 + sl) = _ from v2) rfl (by rw [Int.natAbs_natCast]; omega)
  have s2 := step 2 _ (max (max a (rm_bits (ts_y s sl).num.natAbs)) (rm_bits (((ts_y s sl).den : Nat) : Int).natAbs)) _ (by decide) (by rw [Int.natAbs_natCast]; omega) (show V (40 * 2 + sl) = _ from v3) rfl (by omega)
  have s3 := step 3 _ (max (max (max a (rm_bits (ts_y s sl).num.natAbs)) (rm_bits (((ts_y s sl).den : Nat) : Int).natAbs)) (rm_bits (ts_y s (40 + sl)).num.natAbs)) _ (by decide) (by rw [Int.natAbs_natCast]; omega) (show V (40 * 3 + sl) = _ from v4) rfl (by rw [Int.natAbs_natCast]; omega)
  have s0 : rM_greatest_26 m (nI a) (nI p) (nI w) 0 M = rM_greatest_26 m (nI (max a (rm_bits (ts_y s sl).num.natAbs))) (nI p) (nI w) (nI 1) M := s0
  rw [s0, s1, s2, s3, rM_greatest_26_e, if_pos (show (4 : Int32) ≤ nI 4 from Int32.le_refl _), nI_1, Int.natAbs_natCast, Int.natAbs_natCast]
  congr 2
  unfold qB
  omega
theorem lgW_le {y : Nat → Rat} {fr a : Nat} (hy : ∀ i, i < 80 → qB (y i) ≤ 256) (ha : a ≤ 256) : ∀ {n : Nat}, fr + n ≤ 40 → lgW y fr a n ≤ 256
  | 0, _ => ha
  | n + 1, h => by
    show max (max (lgW y fr a n) _) _ ≤ 256
    have h1 := lgW_le (y := y) (fr := fr) hy ha (n := n) (by omega)
    have h2 := hy (fr + n) (by omega)
    have h3 := hy (40 + (fr + n)) (by omega)
    omega
theorem lgP_le {y : Nat → Rat} {st wa we : Nat} (hy : ∀ i, i < 80 → qB (y i) ≤ 256) : ∀ {P : Nat}, (∀ p, p < P → p * st + wyc wa we p ≤ 40) → lgP y st wa we P ≤ 256
  | 0, _ => Nat.zero_le _
  | P + 1, h => lgW_le hy (lgP_le hy (P := P) (fun p hp => h p (by omega))) (h P (by omega))
theorem rm_greatM (H : rm_F m aS aL aG aN aB M) {s : sS} {n wa we : Nat} (hok : ts_ok n s) (hg : ts_g s ≠ 0) (hI : mInt m s M) {V : Nat → Int} (hV : rm_V (rg_A M aS) (rg_A M aL) (rg_A M aG) V) (hs : mV s V) (hw : ∀ p, wyc wa we p = ts_w s p) : rM_greatest m M = some (nI (lgP (ts_y s) (ts_st s) wa we (ts_P s)), M) := by
  have hK := H.1
  have hI0 := hI
  obtain ⟨i1, i2, i3, i4, i5, i6, i7⟩ := hI
  obtain ⟨e1, e2, e3, hP, hst0, hst⟩ := ts_rm hok hg
  have g3 : ts_g s < 3 := by have := hok.1; omega
  have hyB := hok.2.2.2.2.2.2.1
  have hst' : ∀ p, p < ts_P s → p * ts_st s + wyc wa we p ≤ 40 := fun p hp => by rw [hw]; have := hst p hp; omega
  have inner : ∀ p, p < ts_P s → ∀ a, a ≤ 256 → ∀ d j : Nat, ts_w s p - j = d → j ≤ ts_w s p → rM_greatest_14 m (nI (lgW (ts_y s) (p * ts_st s) a j)) (nI p) (nI j) M = rM_greatest_4 m (nI (lgW (ts_y s) (p * ts_st s) a (ts_w s p))) (nI (p + 1)) M := by
    intro p hp a ha d
    have wy := rm_ways (m := m) (M := M) hK (p := p) i1 i2 i3 g3 (by omega)
    rw [e2] at wy
    have hh := hst p hp
    induction d with
    | zero =>
      intro j hd hj
      have e : j = ts_w s p := by omega
      subst e
      rw [rM_greatest_14_e]
      simp only [hK, if_true, wy, Option.bind_some, Int32.le_refl, nI_1]
    | succ d ih =>
      intro j hd hj
      have g := rm_gr26 H (p := p) (w := j) (a := lgW (ts_y s) (p * ts_st s) a j) hok hg hI0 hV hs hp (by omega) (lgW_le hyB ha (by omega))
      rw [← ih (j + 1) (by omega) (by omega), rM_greatest_14_e]
      simp only [hK, if_true, wy, Option.bind_some, show ¬ nI (ts_w s p) ≤ nI j by rw [nI_leI (by omega) (by omega)]; omega, if_false, g]
      rfl
  have outer : ∀ d j : Nat, ts_P s - j = d → j ≤ ts_P s → rM_greatest_4 m (nI (lgP (ts_y s) (ts_st s) wa we j)) (nI j) M = some (some (.int (nI (lgP (ts_y s) (ts_st s) wa we (ts_P s)))), M) := by
    intro d
    have pl := rm_places (m := m) (M := M) hK i1 i4 g3
    rw [e1] at pl
    induction d with
    | zero =>
      intro j hd hj
      have e : j = ts_P s := by omega
      subst e
      rw [rM_greatest_4_e]
      simp only [hK, if_true, pl, Option.bind_some, Int32.le_refl]
    | succ d ih =>
      intro j hd hj
      have g := inner j (by omega) (lgP (ts_y s) (ts_st s) wa we j) (lgP_le hyB (fun p hp => hst' p (by omega))) _ 0 rfl (Nat.zero_le _)
      have g : rM_greatest_14 m (nI (lgP (ts_y s) (ts_st s) wa we j)) (nI j) 0 M = _ := g
      rw [rM_greatest_4_e]
      simp only [hK, if_true, pl, Option.bind_some, show ¬ nI (ts_P s) ≤ nI j by rw [nI_leI (by omega) (by omega)]; omega, if_false, g]
      rw [← ih (j + 1) (by omega) (by omega)]
      show rM_greatest_4 m (nI (lgW (ts_y s) (j * ts_st s) (lgP (ts_y s) (ts_st s) wa we j) (ts_w s j))) (nI (j + 1)) M = rM_greatest_4 m (nI (lgW (ts_y s) (j * ts_st s) (lgP (ts_y s) (ts_st s) wa we j) (wyc wa we j))) (nI (j + 1)) M
      rw [hw]
  have o := outer _ 0 rfl (Nat.zero_le _)
  have o : rM_greatest_4 m 0 0 M = _ := o
  rw [rM_greatest_u, rM_greatest_e, o]; rfl
theorem mM_about {s : sS} {n : Nat} (h : mI m aS aL aG aN aB s M) (hok : ts_ok n s) (x : Int32) : rM_about m x M = some (ts_about s x, M) := by
  obtain ⟨H, hI, ⟨V, hV, hs⟩, hN, hB⟩ := h
  have hI0 := hI
  have hK := H.1
  obtain ⟨i1, i2, i3, i4, i5, i6, i7⟩ := hI
  rw [rM_about_u, rM_about_e]
  unfold ts_about
  by_cases c0 : x = 0
  · rw [if_pos c0, if_pos c0, if_pos hK, i1]; rfl
  rw [if_neg c0, if_neg c0]
  by_cases c1 : x = 1
  · rw [if_pos c1, if_pos c1, if_pos hK, i2]; rfl
  rw [if_neg c1, if_neg c1]
  by_cases c2 : x = 2
  · rw [if_pos c2, if_pos c2, if_pos hK, i3]; rfl
  rw [if_neg c2, if_neg c2]
  by_cases c3 : x = 3
  · rw [if_pos c3, if_pos c3, if_pos hK, i4]; rfl
  rw [if_neg c3, if_neg c3]
  by_cases c4 : x = 4
  · rw [if_pos c4, if_pos c4, if_pos hK, i5]; rfl
  rw [if_neg c4, if_neg c4]
  by_cases c5 : x = 5
  · rw [if_pos c5, if_pos c5, if_pos hK]
    by_cases cg1 : ts_g s = 1
    · obtain ⟨w1, w2, w3, w4⟩ := hok.2.1 cg1
      have sp := rm_spanM H (by rw [i1, cg1]) i2 i3 w2 w4
      rw [spn_cong (hN cg1) w2 w4] at sp
      rw [sp, if_pos cg1]; rfl
    · have gi1 : (nI (ts_g s) = (1 : Int32)) ↔ ts_g s = 1 := nI_eq (b := 1) (by have := hok.1; omega) (by omega)
      rw [if_neg cg1, rM_span_u, rM_span_e, if_pos hK, i1, if_neg (fun q => cg1 (gi1.mp q))]; rfl
  rw [if_neg c5, if_neg c5]
  by_cases c6 : x = 6
  · rw [if_pos c6, if_pos c6, if_pos hK]
    unfold ts_long
    by_cases cg2 : ts_g s = 2
    · have eP : ts_P s = 4 * ts_d s := by unfold ts_P; rw [if_pos cg2]
      have eW : ∀ p, ts_w s p = 2 := fun p => by unfold ts_w; rw [if_pos cg2]
      have eS : ts_st s = 2 := by unfold ts_st; rw [if_pos cg2]
      have g := rm_greatM H (wa := 2) (we := 2) hok (by omega) hI0 hV hs (fun p => by rw [eW]; unfold wyc; split <;> rfl)
      rw [eP, eS] at g
      rw [if_pos cg2, g]; rfl
    · by_cases cg1 : ts_g s = 1
      · have eP : ts_P s = 2 := by unfold ts_P; rw [if_neg cg2, if_pos cg1]
        have eW : ∀ p, ts_w s p = wyc (ts_a s) (ts_e s) p := fun p => by unfold ts_w; rw [if_neg cg2]
        have eS : ts_st s = 5 := by unfold ts_st; rw [if_neg cg2]
        have g := rm_greatM H (wa := ts_a s) (we := ts_e s) hok (by omega) hI0 hV hs (fun p => by rw [eW])
        rw [eP, eS] at g
        rw [if_neg cg2, if_pos cg1, g]; rfl
      · have cg0 : ts_g s = 0 := by have := hok.1; omega
        have pl := rm_places (m := m) (M := M) hK i1 i4 (by omega)
        have e0 : rm_pl (ts_g s) (ts_d s) = 0 := by unfold rm_pl; rw [if_neg cg1, if_neg cg2]
        rw [e0] at pl
        have pl : rM_places m M = some (0, M) := pl
        rw [if_neg cg2, if_neg cg1, rM_greatest_u, rM_greatest_e, rM_greatest_4_e, if_pos hK, pl]
        simp only [Option.bind_some, Int32.le_refl, if_true]
        rfl
  rw [if_neg c6, if_neg c6]; rfl
end

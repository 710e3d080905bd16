/-! a word of a quotient, guessed -/
def kz (y e : Nat) : Nat := y * wB ^ 3 / wB ^ e
def kw (y e i : Nat) : Nat := if i ≤ e then y / wB ^ (e - i) % wB else 0
theorem kw_kz {y e i : Nat} (hi : i ≤ 3) : kw y e i = kz y e / wB ^ (3 - i) % wB := by
  have hp : ∀ k, 0 < wB ^ k := fun k => Nat.pow_pos (by decide)
  unfold kw kz
  rw [Nat.div_div_eq_div_mul, ← Nat.pow_add]
  by_cases h : i ≤ e
  · rw [if_pos h, show e + (3 - i) = (e - i) + 3 by omega, Nat.pow_add, Nat.mul_div_mul_right _ _ (hp 3)]
  · rw [if_neg h, show wB ^ 3 = wB ^ (e + (3 - i)) * (wB ^ (i - e - 1) * wB) by rw [← Nat.pow_succ, ← Nat.pow_add]; congr 1; omega, ← Nat.mul_assoc, Nat.mul_comm y, Nat.mul_assoc, Nat.mul_div_cancel_left _ (hp _), ← Nat.mul_assoc, Nat.mul_mod_left]
theorem kz_lt {y e : Nat} (h : y < wB ^ (e + 1)) : kz y e < wB ^ 4 := by
  unfold kz
  rw [Nat.div_lt_iff_lt_mul (Nat.pow_pos (by decide))]
  have : wB ^ 4 * wB ^ e = wB ^ (e + 1) * wB ^ 3 := by rw [← Nat.pow_add, ← Nat.pow_add]; congr 1; omega
  rw [this]
  exact Nat.mul_lt_mul_of_pos_right h (Nat.pow_pos (by decide))
theorem kz_eq {y e : Nat} (h : y < wB ^ (e + 1)) : kz y e = kw y e 0 * wB ^ 3 + kw y e 1 * wB ^ 2 + kw y e 2 * wB + kw y e 3 := by
  have h4 := kz_lt h
  rw [kw_kz (by omega), kw_kz (by omega), kw_kz (by omega), kw_kz (by omega)]
  generalize kz y e = Z at h4 ⊢
  have e4 : wB ^ 4 = 21267647932558653966460912964485513216 := by decide
  have e3 : wB ^ 3 = 9903520314283042199192993792 := by decide
  have e2 : wB ^ 2 = 4611686018427387904 := by decide
  have e1 : wB ^ 1 = 2147483648 := by decide
  have e0 : wB ^ 0 = 1 := rfl
  rw [e4] at h4
  simp only [show 3 - 0 = 3 from rfl, show 3 - 1 = 2 from rfl, show 3 - 2 = 1 from rfl, show 3 - 3 = 0 from rfl, e3, e2, e1, e0, Nat.div_one]
  show Z = Z / 9903520314283042199192993792 % 2147483648 * 9903520314283042199192993792 + Z / 4611686018427387904 % 2147483648 * 4611686018427387904 + Z / 2147483648 % 2147483648 * 2147483648 + Z % 2147483648
  omega
theorem kw_lt (y e i : Nat) : kw y e i < 2147483648 := by
  unfold kw; split
  · exact Nat.mod_lt _ (by decide)
  · decide
theorem kw_0 {y e : Nat} (h : y < wB ^ e) : kw y e 0 = 0 := by
  unfold kw; rw [if_pos (Nat.zero_le _), Nat.sub_zero, Nat.div_eq_of_lt h, Nat.zero_mod]
/-- the leading words, moved up -/
theorem kz_sh {y e s : Nat} (h : y < wB ^ (e + 1)) (hs : s ≤ 30) : kz y e / 2 ^ (31 - s) = ((kw y e 0 * wB + kw y e 1) * 2 ^ s + kw y e 2 / 2 ^ (31 - s)) * wB + (kw y e 2 * 2 ^ s + kw y e 3 / 2 ^ (31 - s)) % wB := by
  have hp : 2 ^ (31 - s) * 2 ^ s = wB := by rw [← Nat.pow_add, show 31 - s + s = 31 by omega]
  have hq : 0 < 2 ^ (31 - s) := Nat.pow_pos (by decide)
  rw [kz_eq h]
  have l2 := kw_lt y e 2
  have l3 := kw_lt y e 3
  generalize kw y e 0 = a at *
  generalize kw y e 1 = b at *
  generalize kw y e 2 = c at *
  generalize kw y e 3 = d at *
  have e1 : a * wB ^ 3 + b * wB ^ 2 + c * wB + d = d + 2 ^ (31 - s) * (2 ^ s * ((a * wB + b) * wB + c)) := by
    rw [← Nat.mul_assoc, hp, Nat.pow_succ, Nat.pow_succ, Nat.pow_one, Nat.mul_add, Nat.add_mul, Nat.mul_add, Nat.add_comm d]
    congr 1
    congr 1
    · congr 1
      · ac_rfl
      · ac_rfl
    · ac_rfl
  rw [e1, Nat.add_mul_div_left _ _ hq]
  have hd : d / 2 ^ (31 - s) < 2 ^ s := by
    rw [Nat.div_lt_iff_lt_mul hq, Nat.mul_comm, hp]; exact l3
  have hc : c * 2 ^ s = c / 2 ^ (31 - s) * wB + c % 2 ^ (31 - s) * 2 ^ s := by
    have := Nat.div_add_mod c (2 ^ (31 - s))
    calc c * 2 ^ s = (2 ^ (31 - s) * (c / 2 ^ (31 - s)) + c % 2 ^ (31 - s)) * 2 ^ s := by rw [this]
      _ = c / 2 ^ (31 - s) * wB + c % 2 ^ (31 - s) * 2 ^ s := by
        rw [Nat.add_mul, ← hp]
        congr 1
        ac_rfl
  have hm : c % 2 ^ (31 - s) * 2 ^ s + d / 2 ^ (31 - s) < wB := by
    have h1 := Nat.mod_lt c hq
    have h2 : (c % 2 ^ (31 - s) + 1) * 2 ^ s ≤ 2 ^ (31 - s) * 2 ^ s := Nat.mul_le_mul_right _ h1
    rw [hp, Nat.add_mul, Nat.one_mul] at h2
    omega
  have e2 : (c * 2 ^ s + d / 2 ^ (31 - s)) % wB = c % 2 ^ (31 - s) * 2 ^ s + d / 2 ^ (31 - s) := by
    rw [hc, Nat.add_assoc, Nat.add_comm, Nat.add_mul_mod_self_right, Nat.mod_eq_of_lt hm]
  rw [e2]
  have e3 : 2 ^ s * ((a * wB + b) * wB + c) = (a * wB + b) * 2 ^ s * wB + c * 2 ^ s := by
    rw [Nat.mul_add]
    congr 1
    · ac_rfl
    · ac_rfl
  rw [e3, hc, Nat.add_mul ((a * wB + b) * 2 ^ s)]
  have key : ∀ t1 t2 t3 t4 : Nat, t4 + (t1 + (t2 + t3)) = t1 + t2 + (t3 + t4) := fun t1 t2 t3 t4 => by omega
  exact key _ _ _ _
theorem kn_core {q g Y P a X L : Nat} (hP : 0 < P) (ha : 0 < a) (hX1 : q * Y * a ≤ X) (hX2 : X < (q + 1) * Y * a) (hL1 : L * P ≤ Y * 4611686018427387904) (hL2 : Y * 4611686018427387904 < (L + 1) * P) (hL3 : 2305843009213693952 ≤ L) (hqB : q < 2147483648) (h1 : g * L ≤ X * 4611686018427387904 / (a * P)) (h2 : g = 2147483647 ∨ X * 4611686018427387904 / (a * P) < (g + 1) * L) : q ≤ g ∧ g ≤ q + 1 := by
  constructor
  · rcases h2 with h2 | h2
    · omega
    · have : q * L ≤ X * 4611686018427387904 / (a * P) := by
        rw [Nat.le_div_iff_mul_le (Nat.mul_pos ha hP)]
        calc q * L * (a * P) = q * a * (L * P) := by ac_rfl
          _ ≤ q * a * (Y * 4611686018427387904) := Nat.mul_le_mul_left _ hL1
          _ = q * Y * a * 4611686018427387904 := by ac_rfl
          _ ≤ X * 4611686018427387904 := Nat.mul_le_mul_right _ hX1
      have h3 := Nat.lt_of_mul_lt_mul_right (Nat.lt_of_le_of_lt this h2)
      exact Nat.le_of_lt_succ h3
  · rcases Nat.lt_or_ge (q + 1) g with c | c
    · exfalso
      rw [Nat.le_div_iff_mul_le (Nat.mul_pos ha hP)] at h1
      have k1 : g * L * (a * P) < (q + 1) * (L + 1) * (a * P) := by
        calc g * L * (a * P) ≤ X * 4611686018427387904 := h1
          _ < (q + 1) * Y * a * 4611686018427387904 := Nat.mul_lt_mul_of_pos_right hX2 (by decide)
          _ = (q + 1) * a * (Y * 4611686018427387904) := by ac_rfl
          _ ≤ (q + 1) * a * ((L + 1) * P) := Nat.mul_le_mul_left _ (Nat.le_of_lt hL2)
          _ = (q + 1) * (L + 1) * (a * P) := by ac_rfl
      have k2 := Nat.lt_of_mul_lt_mul_right k1
      have k3 : (q + 2) * L ≤ g * L := Nat.mul_le_mul_right _ c
      clear k1 h1 h2 hX1 hX2 hL1 hL2
      rw [Nat.add_mul] at k3
      rw [Nat.mul_add, Nat.mul_one, Nat.add_mul, Nat.one_mul] at k2
      omega
    · exact c
theorem kn_form {s : Nat} (hs : s ≤ 30) (y e : Nat) : kz y e / 2 ^ (31 - s) = y * 2 ^ s * wB ^ 2 / wB ^ e := by
  have hps : 0 < 2 ^ s := Nat.pow_pos (by decide)
  have hp : 2 ^ (31 - s) * 2 ^ s = wB := by rw [← Nat.pow_add, show 31 - s + s = 31 by omega]
  unfold kz
  rw [Nat.div_div_eq_div_mul, ← Nat.mul_div_mul_right (y * wB ^ 3) _ hps, Nat.mul_assoc (wB ^ e), hp]
  have : y * wB ^ 3 * 2 ^ s = y * 2 ^ s * wB ^ 2 * wB := by
    rw [Nat.pow_succ]; ac_rfl
  rw [this, Nat.mul_div_mul_right _ _ (by decide)]
/-- Knuth: a guess by the leading words is the word or one more -/
theorem kn_guess {R D at' nb s g : Nat} (hs : s ≤ 30) (hD : D * 2 ^ s < wB ^ nb) (hD2 : wB ^ nb ≤ 2 * (D * 2 ^ s)) (hR : R < D * wB ^ (at' + 1)) (h1 : g * (kz D nb / 2 ^ (31 - s)) ≤ kz R (at' + nb) / 2 ^ (31 - s)) (h2 : g = 2147483647 ∨ kz R (at' + nb) / 2 ^ (31 - s) < (g + 1) * (kz D nb / 2 ^ (31 - s))) : R / (D * wB ^ at') ≤ g ∧ g ≤ R / (D * wB ^ at') + 1 := by
  have hps : 0 < 2 ^ s := Nat.pow_pos (by decide)
  rw [kn_form hs, kn_form hs, Nat.pow_add] at h1
  rw [kn_form hs, kn_form hs, Nat.pow_add] at h2
  have ha : 0 < wB ^ at' := Nat.pow_pos (by decide)
  have hP : 0 < wB ^ nb := Nat.pow_pos (by decide)
  rw [Nat.pow_succ, ← Nat.mul_assoc] at hR
  have hD0 : 0 < D := by
    rcases Nat.eq_zero_or_pos D with e | e
    · rw [e] at hR; simp at hR
    · exact e
  have hDa : 0 < D * wB ^ at' := Nat.mul_pos hD0 ha
  have hq1 : R / (D * wB ^ at') * (D * wB ^ at') ≤ R := Nat.div_mul_le_self _ _
  have hq2 : R < (R / (D * wB ^ at') + 1) * (D * wB ^ at') := by rw [Nat.mul_comm]; exact Nat.lt_mul_div_succ R hDa
  have hqB : R / (D * wB ^ at') < 2147483648 := by rw [Nat.div_lt_iff_lt_mul hDa, Nat.mul_comm]; exact hR
  have hB2 : wB ^ 2 = 4611686018427387904 := by decide
  rw [hB2] at h1 h2
  refine kn_core (Y := D * 2 ^ s) (X := R * 2 ^ s) (a := wB ^ at') (P := wB ^ nb) (L := D * 2 ^ s * 4611686018427387904 / wB ^ nb) hP ha ?_ ?_ (Nat.div_mul_le_self _ _) ?_ ?_ hqB h1 h2
  · calc R / (D * wB ^ at') * (D * 2 ^ s) * wB ^ at' = R / (D * wB ^ at') * (D * wB ^ at') * 2 ^ s := by ac_rfl
      _ ≤ R * 2 ^ s := Nat.mul_le_mul_right _ hq1
  · calc R * 2 ^ s < (R / (D * wB ^ at') + 1) * (D * wB ^ at') * 2 ^ s := Nat.mul_lt_mul_of_pos_right hq2 hps
      _ = (R / (D * wB ^ at') + 1) * (D * 2 ^ s) * wB ^ at' := by ac_rfl
  · rw [Nat.mul_comm (_ + 1)]; exact Nat.lt_mul_div_succ _ hP
  · rw [Nat.le_div_iff_mul_le hP]
    clear h1 h2 hq1 hq2 hqB hR
    generalize D * 2 ^ s = Y at *
    generalize wB ^ nb = P at *
    omega
theorem kn_a {g0 v1 v2 high third : Nat} (h : g0 * v1 ≤ high) (h2 : g0 ≤ 2147483647) (h3 : v2 < 2147483648) : g0 * (v1 * wB + v2) ≤ high * wB + third + 4611686018427387904 := by
  rw [Nat.mul_add, ← Nat.mul_assoc]
  have a1 := Nat.mul_le_mul_right wB h
  have a2 : g0 * v2 ≤ 2147483647 * 2147483647 := Nat.mul_le_mul h2 (by omega)
  have a3 : 2147483647 * 2147483647 ≤ third + 4611686018427387904 := Nat.le_trans (by decide) (Nat.le_add_left _ _)
  calc g0 * v1 * wB + g0 * v2 ≤ high * wB + 2147483647 * 2147483647 := Nat.add_le_add a1 a2
    _ ≤ high * wB + (third + 4611686018427387904) := Nat.add_le_add_left a3 _
    _ = high * wB + third + 4611686018427387904 := (Nat.add_assoc _ _ _).symm
theorem kn_b {g v1 v2 high third : Nat} (h9 : high < (g + 1) * v1) (ht : third < wB) : high * wB + third < (g + 1) * (v1 * wB + v2) := by
  have h10 : (high + 1) * wB ≤ (g + 1) * v1 * wB := Nat.mul_le_mul_right _ h9
  rw [Nat.mul_add (g + 1), ← Nat.mul_assoc]
  rw [Nat.add_mul, Nat.one_mul] at h10
  omega
/-- a Whole in the making: n words, the topmost may be 0 -/
def cwN (M : rg_M) (w r n : Nat) : Prop := rg_K M w = 6 ∧ rg_R M 80 w = some r ∧ rg_K M r = 9 ∧ n ≤ rg_L M r ∧ rg_I M 81 w = nI n ∧ ∀ j, j < n → rm_u (rg_A M r j) < wB
theorem cwW.N {M : rg_M} {w r n : Nat} {v : Int} (h : cwW M w r n v) : cwN M w r n := ⟨h.1, h.2.1, h.2.2.1, h.2.2.2.1, h.2.2.2.2.1, h.2.2.2.2.2.2.1⟩
theorem cwN.wd {M : rg_M} {w r n : Nat} (h : cwN M w r n) {j : Nat} (hj : j < n) : cV (rg_A M r) n / wB ^ j % wB = rm_u (rg_A M r j) := ds_word (f := fun j => rm_u (rg_A M r j)) (by decide) hj h.2.2.2.2.2
theorem cwN.wd0 {M : rg_M} {w r n : Nat} (h : cwN M w r n) {j : Nat} (hj : n ≤ j) : cV (rg_A M r) n / wB ^ j % wB = 0 := by
  rw [Nat.div_eq_of_lt (Nat.lt_of_lt_of_le (cV_lt h.2.2.2.2.2) (Nat.pow_le_pow_right (by decide) hj))]; rfl
section
variable {M : rg_M}
theorem shl_lN (a : Nat) {k : Nat} (hk : k < 64) : lN a <<< ((nI k).toInt64 &&& 63) = lN (a * 2 ^ k) := wb_shl a hk
theorem shr_lN {a k : Nat} (ha : a < 9223372036854775808) (hk : k < 64) : lN a >>> ((nI k).toInt64 &&& 63) = lN (a / 2 ^ k) := by
  rw [wb_c k hk]
  have : (lN a >>> lN k).toInt = ((a / 2 ^ k : Nat) : Int) := by
    show ((lN a).toBitVec.sshiftRight' ((lN k).toBitVec.smod 64)).toInt = _
    have e2 : ((lN k).toBitVec.smod 64) = BitVec.ofNat 64 k := wb_sm k hk
    rw [e2, BitVec.sshiftRight', BitVec.toInt_sshiftRight]
    have e3 : (lN a).toBitVec.toInt = (a : Int) := pk_lT (by omega)
    rw [e3, Int.shiftRight_eq_div_pow, BitVec.toNat_ofNat, Nat.mod_eq_of_lt (by omega)]
    rfl
  rw [← iL_of (lN a >>> lN k), this, iL_n]
theorem kn_loop {third v1 v2 high L H2 : Nat} (hL : L = v1 * wB + v2) (hH : H2 = high * wB + third) (ht : third < wB) (hv1 : v1 < wB) (hv2 : v2 < wB) (hh : high < 4611686018427387904) : ∀ d i g : Nat, 3 - i = d → i ≤ 3 → g ≤ 2147483647 → g * v1 ≤ high → (g - (3 - i)) * L ≤ H2 → ∃ g', rK_guessWord_177 (lN third) (lN v1) (lN v2) (lN g) (lN (high - g * v1)) (nI i) M = some (some (.long (lN g')), M) ∧ g' ≤ g ∧ g' * L ≤ H2 ∧ (g' = g ∨ H2 < (g' + 1) * L) := by
  have ht' : third < 2147483648 := ht
  have hv1' : v1 < 2147483648 := hv1
  have hv2' : v2 < 2147483648 := hv2
  intro d
  induction d with
  | zero =>
    intro i g hd hi hg hgv hf
    have e : i = 3 := by omega
    subst e
    rw [rK_guessWord_177_e, if_pos (by decide), rK_guessWord_228_e]
    exact ⟨g, rfl, Nat.le_refl _, by simpa using hf, Or.inl rfl⟩
  | succ d ih =>
    intro i g hd hi hg hgv hf
    have hgv2 : g * v2 ≤ 2147483647 * 2147483647 := Nat.mul_le_mul hg (by omega)
    have key : g * L ≤ H2 ↔ g * v2 ≤ (high - g * v1) * wB + third := by
      rw [hL, hH, Nat.mul_add, ← Nat.mul_assoc, Nat.sub_mul]
      have := Nat.mul_le_mul_right wB hgv
      omega
    rw [rK_guessWord_177_e, if_neg (by rw [show (3 : Int32) = nI 3 from rfl, nI_leI (by omega) (by omega)]; omega), show (2147483647 : Int64) = lN 2147483647 from rfl]
    by_cases p : 2147483647 < high - g * v1
    · rw [if_pos (by rw [pk_lLT (by omega) (by omega)]; exact p), rK_guessWord_228_e]
      refine ⟨g, rfl, Nat.le_refl _, key.mpr ?_, Or.inl rfl⟩
      have : 2147483648 * wB ≤ (high - g * v1) * wB := Nat.mul_le_mul_right _ (by omega)
      have e : 2147483648 * wB = 4611686018427387904 := by decide
      omega
    · rw [if_neg (by rw [pk_lLT (by omega) (by omega)]; exact p)]
      have e1 : lN (high - g * v1) <<< ((31 : Int32).toInt64 &&& 63) = lN ((high - g * v1) * 2 ^ 31) := shl_lN _ (k := 31) (by decide)
      have hle : (high - g * v1) * 2 ^ 31 ≤ 2147483647 * 2 ^ 31 := Nat.mul_le_mul_right _ (by omega)
      rw [lN_mul, e1, wb_or (by omega) (by omega), wb_orS (k := 31) ht']
      by_cases q : g * v2 ≤ (high - g * v1) * 2 ^ 31 + third
      · rw [if_pos (by rw [pk_lLE (by omega) (by omega)]; exact q), rK_guessWord_228_e]
        exact ⟨g, rfl, Nat.le_refl _, key.mpr q, Or.inl rfl⟩
      · rw [if_neg (by rw [pk_lLE (by omega) (by omega)]; exact q)]
        have hg0 : 0 < g := by
          rcases Nat.eq_zero_or_pos g with e | e
          · rw [e] at q; simp at q
          · exact e
        have hgL : H2 < g * L := by
          rcases Nat.lt_or_ge H2 (g * L) with c | c
          · exact c
          · exact absurd (key.mp c) q
        have e2 : lN g - (1 : Int64) = lN (g - 1) := by
          rw [show (1 : Int64) = lN 1 from rfl, iL_n, iL_n, iL_sub, iL_n]; congr 1; omega
        have hs : (g - 1) * v1 + v1 = g * v1 := by
          rw [← Nat.succ_mul, Nat.succ_eq_add_one, Nat.sub_add_cancel hg0]
        have e3 : lN (high - g * v1) + lN v1 = lN (high - (g - 1) * v1) := by rw [lN_add]; congr 1; omega
        rw [e2, e3, nI_1]
        obtain ⟨g', t1, t2, t3, t4⟩ := ih (i + 1) (g - 1) (by omega) (by omega) (by omega) (by omega) (by
          rw [show g - 1 - (3 - (i + 1)) = g - (3 - i) by omega]; exact hf)
        refine ⟨g', t1, by omega, t3, ?_⟩
        rcases t4 with e | e
        · right; rw [e, Nat.sub_add_cancel hg0]; exact hgL
        · exact Or.inr e
theorem cw_guess {w r n e s D at' nb : Nat} (hN : cwN M w r n) (hn : n ≤ 1300) (he : e = at' + nb) (hs : s ≤ 30) (hnb : 0 < nb) (hen : e ≤ n) (hD : D * 2 ^ s < wB ^ nb) (hD2 : wB ^ nb ≤ 2 * (D * 2 ^ s)) (hR : cV (rg_A M r) n < D * wB ^ (at' + 1)) : ∃ g, rK_guessWord w (nI e) (nI s) (lN (kz D nb / 2 ^ (31 - s))) M = some (lN g, M) ∧ g ≤ 2147483647 ∧ cV (rg_A M r) n / (D * wB ^ at') ≤ g ∧ g ≤ cV (rg_A M r) n / (D * wB ^ at') + 1 := by
  obtain ⟨a1, a2, a3, a4, a5, a6⟩ := hN
  have hN : cwN M w r n := ⟨a1, a2, a3, a4, a5, a6⟩
  obtain ⟨R, hRd⟩ : ∃ R, R = cV (rg_A M r) n := ⟨_, rfl⟩
  rw [← hRd] at hR ⊢
  have hps : 0 < 2 ^ s := Nat.pow_pos (by decide)
  have hDP : D < wB ^ nb := Nat.lt_of_le_of_lt (Nat.le_mul_of_pos_right _ hps) hD
  have hRe : R < wB ^ (e + 1) := by
    refine Nat.lt_of_lt_of_le hR ?_
    rw [he, show at' + nb + 1 = nb + (at' + 1) by omega, Nat.pow_add wB nb (at' + 1)]
    exact Nat.mul_le_mul_right _ (Nat.le_of_lt hDP)
  obtain ⟨L, hL⟩ : ∃ L, L = kz D nb / 2 ^ (31 - s) := ⟨_, rfl⟩
  obtain ⟨H2, hH2⟩ : ∃ H2, H2 = kz R e / 2 ^ (31 - s) := ⟨_, rfl⟩
  have hp : 2 ^ (31 - s) * 2 ^ s = wB := by rw [← Nat.pow_add, show 31 - s + s = 31 by omega]
  have form := kn_form hs
  have hB2 : wB ^ 2 = 4611686018427387904 := by decide
  have hL1 : L < 4611686018427387904 := by
    rw [hL, form, Nat.div_lt_iff_lt_mul (Nat.pow_pos (by decide)), hB2, Nat.mul_comm]
    exact Nat.mul_lt_mul_of_pos_left hD (by decide)
  have hL2 : 2305843009213693952 ≤ L := by
    rw [hL, form, Nat.le_div_iff_mul_le (Nat.pow_pos (by decide)), hB2]; omega
  -- the four words
  obtain ⟨n0, e0⟩ : ∃ x, x = kw R e 0 := ⟨_, rfl⟩
  obtain ⟨n1, e1⟩ : ∃ x, x = kw R e 1 := ⟨_, rfl⟩
  obtain ⟨n2, e2⟩ : ∃ x, x = kw R e 2 := ⟨_, rfl⟩
  obtain ⟨n3, e3⟩ : ∃ x, x = kw R e 3 := ⟨_, rfl⟩
  have hsh := kz_sh hRe hs
  rw [← hH2, ← e0, ← e1, ← e2, ← e3] at hsh
  have l0 : n0 < 2147483648 := by rw [e0]; exact kw_lt _ _ _
  have l1 : n1 < 2147483648 := by rw [e1]; exact kw_lt _ _ _
  have l2 : n2 < 2147483648 := by rw [e2]; exact kw_lt _ _ _
  have l3 : n3 < 2147483648 := by rw [e3]; exact kw_lt _ _ _
  obtain ⟨high, hhigh⟩ : ∃ x, x = (n0 * wB + n1) * 2 ^ s + n2 / 2 ^ (31 - s) := ⟨_, rfl⟩
  obtain ⟨third, hthird⟩ : ∃ x, x = (n2 * 2 ^ s + n3 / 2 ^ (31 - s)) % wB := ⟨_, rfl⟩
  rw [← hhigh, ← hthird] at hsh
  have hH2L : H2 < 9903520314283042199192993792 := by
    rw [hH2, form, Nat.div_lt_iff_lt_mul (Nat.pow_pos (by decide)), hB2]
    have : R * 2 ^ s < wB ^ nb * wB ^ (at' + 1) := by
      calc R * 2 ^ s < D * wB ^ (at' + 1) * 2 ^ s := Nat.mul_lt_mul_of_pos_right hR hps
        _ = D * 2 ^ s * wB ^ (at' + 1) := by ac_rfl
        _ ≤ wB ^ nb * wB ^ (at' + 1) := Nat.mul_le_mul_right _ (Nat.le_of_lt hD)
    rw [← Nat.pow_add, show nb + (at' + 1) = e + 1 by omega, Nat.pow_succ] at this
    have this : R * 2 ^ s < wB ^ e * 2147483648 := this
    omega
  have hhl : high < 4611686018427387904 := by
    have : high * 2147483648 ≤ H2 := by rw [hsh]; exact Nat.le_add_right _ _
    omega
  have hq2 : 0 < 2 ^ (31 - s) := Nat.pow_pos (by decide)
  have m2 : n2 / 2 ^ (31 - s) < 2 ^ s := by rw [Nat.div_lt_iff_lt_mul hq2, Nat.mul_comm, hp]; exact l2
  have m3 : n3 / 2 ^ (31 - s) < 2 ^ s := by rw [Nat.div_lt_iff_lt_mul hq2, Nat.mul_comm, hp]; exact l3
  have hps2 : 2 ^ s ≤ 1073741824 := Nat.pow_le_pow_right (n := 2) (by decide) hs
  have hhl2 := hhl
  rw [hhigh] at hhl2
  have hhm : (n0 * wB + n1) * 2 ^ s < 4611686018427387904 := Nat.lt_of_le_of_lt (Nat.le_add_right _ _) hhl2
  have h01 : n0 * wB + n1 < 4611686018427387904 := Nat.lt_of_le_of_lt (Nat.le_mul_of_pos_right _ hps) hhm
  have h01' : n0 * 2 ^ 31 + n1 < 4611686018427387904 := h01
  have h2s : n2 * 2 ^ s ≤ 2147483648 * 1073741824 := Nat.mul_le_mul (by omega) hps2
  have hs64 : s < 64 := by omega
  have hs65 : 31 - s < 64 := by omega
  -- the end
  obtain ⟨v1, hv1⟩ : ∃ x, x = L / 2147483648 := ⟨_, rfl⟩
  obtain ⟨v2, hv2⟩ : ∃ x, x = L % 2147483648 := ⟨_, rfl⟩
  have hLv : L = v1 * wB + v2 := by rw [hv1, hv2, Nat.mul_comm]; exact (Nat.div_add_mod L 2147483648).symm
  have fin : rK_guessWord_85 (nI s) (lN L) (nI (31 - s)) (lN n0) (lN n1) (lN n2) (lN n3) M = rK_guessWord_164 (lN high) (lN third) (lN v1) (lN v2) (lN (min (high / v1) 2147483647)) M := by
    have f1 : lN n0 <<< ((31 : Int32).toInt64 &&& 63) = lN (n0 * 2 ^ 31) := shl_lN n0 (k := 31) (by decide)
    have f2 : lN L >>> ((31 : Int32).toInt64 &&& 63) = lN v1 := by rw [lN_shr31 (by omega), hv1]
    have f3 : lN L &&& (2147483647 : Int64) = lN v2 := by
      have := wb_mask (n := L) (k := 31) (by omega) (by decide)
      rw [show (2147483647 : Int64) = lN (2 ^ 31 - 1) from rfl, this, hv2]
    have f4 : (lN n2 <<< ((nI s).toInt64 &&& 63) ||| lN n3 >>> ((nI (31 - s)).toInt64 &&& 63)) &&& (2147483647 : Int64) = lN third := by
      rw [shl_lN n2 (by omega), shr_lN (by omega) (by omega), wb_or (by omega) (by omega), wb_orS m3]
      have := wb_mask (n := n2 * 2 ^ s + n3 / 2 ^ (31 - s)) (k := 31) (by omega) (by decide)
      rw [show (2147483647 : Int64) = lN (2 ^ 31 - 1) from rfl, this, hthird]
    have f5 : (lN n0 <<< ((31 : Int32).toInt64 &&& 63) ||| lN n1) <<< ((nI s).toInt64 &&& 63) ||| lN n2 >>> ((nI (31 - s)).toInt64 &&& 63) = lN high := by
      rw [f1, wb_or (Nat.lt_of_le_of_lt (Nat.le_add_right _ n1) (Nat.lt_trans h01' (by decide))) (Nat.lt_trans l1 (by decide)), wb_or31 l1, shl_lN _ hs64, shr_lN (Nat.lt_trans l2 (by decide)) hs65, wb_or (Nat.lt_trans hhm (by decide)) (Nat.lt_of_le_of_lt (Nat.div_le_self _ _) (Nat.lt_trans l2 (by decide))), wb_orS m2, hhigh]
    rw [rK_guessWord_85_e, f5, f4, f2, f3, if_pos (by rw [show (0 : Int64) = lN 0 from rfl, pk_lLT (by omega) (by omega)]; omega), if_neg (by rw [show (0 : Int64) = lN 0 from rfl, pk_lEQ (by omega) (by omega)]; omega), pk_lDiv (by omega) (by omega) (by omega), show (2147483647 : Int64) = lN 2147483647 from rfl]
    have hdl : high / v1 ≤ high := Nat.div_le_self _ _
    by_cases c : high / v1 ≤ 2147483647
    · rw [if_pos (by rw [pk_lLE (by omega) (by omega)]; exact c), Nat.min_eq_left c]
    · rw [if_neg (by rw [pk_lLE (by omega) (by omega)]; exact c), Nat.min_eq_right (by omega)]
  have hv1p : 0 < v1 := by omega
  obtain ⟨g0, hg0⟩ : ∃ x, x = min (high / v1) 2147483647 := ⟨_, rfl⟩
  have hg0v : g0 * v1 ≤ high := Nat.le_trans (Nat.mul_le_mul_right _ (by omega : g0 ≤ high / v1)) (Nat.div_mul_le_self _ _)
  have ht3 : third < wB := by rw [hthird]; exact Nat.mod_lt _ (by decide)
  obtain ⟨g, t1, t2, t3, t4⟩ := kn_loop (M := M) (third := third) (v1 := v1) (v2 := v2) (high := high) (L := L) (H2 := H2) hLv hsh ht3 (by show _ < 2147483648; omega) (by show _ < 2147483648; omega) hhl _ 0 g0 rfl (by omega) (by omega) hg0v (by
    have h5 : g0 * L ≤ H2 + 4611686018427387904 := by
      rw [hLv, hsh]; exact kn_a hg0v (by omega) (by omega)
    have h6 : (g0 - 3) * L ≤ (g0 - 2) * L := Nat.mul_le_mul_right _ (by omega)
    rcases Nat.lt_or_ge g0 2 with c | c
    · rw [show g0 - (3 - 0) = 0 by omega, Nat.zero_mul]; exact Nat.zero_le _
    · have h7 : (g0 - 2) * L + 2 * L = g0 * L := by rw [← Nat.add_mul, Nat.sub_add_cancel c]
      show (g0 - 3) * L ≤ H2
      omega)
  have t1 : rK_guessWord_177 (lN third) (lN v1) (lN v2) (lN g0) (lN (high - g0 * v1)) 0 M = _ := t1
  have run : rK_guessWord w (nI e) (nI s) (lN L) M = some (lN g, M) := by
    have hx0 : ∀ (n0' : Nat), n0' = n0 → rK_guessWord_25 w (nI e) (nI s) (lN L) (nI (31 - s)) (lN n0') M = some (some (.long (lN g)), M) := by
      intro n0' hn0'
      subst hn0'
      have f1 : rK_guessWord_164 (lN high) (lN third) (lN v1) (lN v2) (lN g0) M = some (some (.long (lN g)), M) := by
        rw [rK_guessWord_164_e, ← t1]
        congr 1
        rw [lN_mul, iL_n, iL_n, iL_sub, iL_n]; congr 1; omega
      rw [← hg0] at fin
      have g3 : rK_guessWord_65 w (nI e) (nI s) (lN L) (nI (31 - s)) (lN n0') (lN n1) (lN n2) M = some (some (.long (lN g)), M) := by
        rw [rK_guessWord_65_e]
        by_cases c : e < 3
        · rw [if_pos (by rw [show (3 : Int32) = nI 3 from rfl, nI_ltI (by omega) (by omega)]; exact c), show (0 : Int64) = lN n3 by rw [e3]; unfold kw; rw [if_neg (by omega)]; rfl, fin, f1]
        · have k1 := nI_clamp (n := e - 3) (by omega)
          have k2 := rm_i0 (a := e - 3) (by omega)
          have k3 : e - 3 < rg_L M r := by omega
          have en : nI e - (3 : Int32) = nI (e - 3) := pk_sub (a := e) (b := 3) (by omega)
          have hw : rm_u (rg_A M r (e - 3)) = n3 := by rw [e3]; unfold kw; rw [if_pos (by omega), hRd, hN.wd (by omega)]
          rw [if_neg (by rw [show (3 : Int32) = nI 3 from rfl, nI_ltI (by omega) (by omega)]; exact c), if_pos a1, a2]
          simp only [Option.bind_some, en, a3, k1, k2, k3, and_self, if_true, lN_u (a6 (e - 3) (by omega)), hw]
          rw [fin, f1]
      have g2 : rK_guessWord_45 w (nI e) (nI s) (lN L) (nI (31 - s)) (lN n0') (lN n1) M = some (some (.long (lN g)), M) := by
        rw [rK_guessWord_45_e]
        by_cases c : e < 2
        · rw [if_pos (by rw [show (2 : Int32) = nI 2 from rfl, nI_ltI (by omega) (by omega)]; exact c), show (0 : Int64) = lN n2 by rw [e2]; unfold kw; rw [if_neg (by omega)]; rfl, g3]
        · have k1 := nI_clamp (n := e - 2) (by omega)
          have k2 := rm_i0 (a := e - 2) (by omega)
          have k3 : e - 2 < rg_L M r := by omega
          have en : nI e - (2 : Int32) = nI (e - 2) := pk_sub (a := e) (b := 2) (by omega)
          have hw : rm_u (rg_A M r (e - 2)) = n2 := by rw [e2]; unfold kw; rw [if_pos (by omega), hRd, hN.wd (by omega)]
          rw [if_neg (by rw [show (2 : Int32) = nI 2 from rfl, nI_ltI (by omega) (by omega)]; exact c), if_pos a1, a2]
          simp only [Option.bind_some, en, a3, k1, k2, k3, and_self, if_true, lN_u (a6 (e - 2) (by omega)), hw]
          exact g3
      rw [rK_guessWord_25_e]
      · have k1 := nI_clamp (n := e - 1) (by omega)
        have k2 := rm_i0 (a := e - 1) (by omega)
        have k3 : e - 1 < rg_L M r := by omega
        have en : nI e - (1 : Int32) = nI (e - 1) := pk_sub (a := e) (b := 1) (by omega)
        have hw : rm_u (rg_A M r (e - 1)) = n1 := by rw [e1]; unfold kw; rw [if_pos (by omega), hRd, hN.wd (by omega)]
        rw [if_neg (by rw [show (1 : Int32) = nI 1 from rfl, nI_ltI (by omega) (by omega)]; omega), if_pos a1, a2]
        simp only [Option.bind_some, en, a3, k1, k2, k3, and_self, if_true, lN_u (a6 (e - 1) (by omega)), hw]
        exact g2
    rw [rK_guessWord_u, rK_guessWord_e, if_pos a1, a5, show (31 : Int32) - nI s = nI (31 - s) from pk_sub (a := 31) (b := s) (by omega)]
    by_cases c : n ≤ e
    · rw [if_pos (by rw [nI_leI (by omega) (by omega)]; exact c)]
      have := hx0 0 (by rw [e0]; unfold kw; rw [if_pos (Nat.zero_le _), Nat.sub_zero, hRd, hN.wd0 c])
      have this : rK_guessWord_25 w (nI e) (nI s) (lN L) (nI (31 - s)) 0 M = _ := this
      rw [this]; rfl
    · have k1 := nI_clamp (n := e) (by omega)
      have k2 := rm_i0 (a := e) (by omega)
      have k3 : e < rg_L M r := by omega
      have hw : rm_u (rg_A M r e) = n0 := by rw [e0]; unfold kw; rw [if_pos (Nat.zero_le _), Nat.sub_zero, hRd, hN.wd (by omega)]
      rw [if_neg (by rw [nI_leI (by omega) (by omega)]; exact c), if_pos a1, a2]
      simp only [Option.bind_some, a3, k1, k2, k3, and_self, if_true, lN_u (a6 e (by omega)), hw]
      rw [hx0 n0 rfl]; rfl
  refine ⟨g, by rw [← hL]; exact run, by omega, ?_⟩
  refine kn_guess (s := s) (nb := nb) hs hD hD2 hR (by rw [← hL, ← he, ← hH2]; exact t3) ?_
  rw [← hL, ← he, ← hH2]
  rcases t4 with c | c
  · by_cases c2 : high / v1 ≤ 2147483647
    · right
      have h8 : g = high / v1 := by omega
      have h9 : high < (g + 1) * v1 := by rw [h8, Nat.mul_comm]; exact Nat.lt_mul_div_succ high hv1p
      rw [hLv, hsh]; exact kn_b h9 ht3
    · left; omega
  · exact Or.inr c
end

/-! leading zeros, lengths in bits, bits -/
theorem rm_bits_sh : ∀ (s n : Nat), 2 ^ s ≤ n → rm_bits n = rm_bits (n / 2 ^ s) + s
  | 0, n, _ => by simp
  | s + 1, n, h => by
    have h1 : 2 ^ s ≤ n / 2 := by rw [Nat.pow_succ] at h; omega
    have hp : 0 < 2 ^ s := Nat.pow_pos (by decide)
    rw [rm_bits_half (by omega), rm_bits_sh s (n / 2) h1, Nat.div_div_eq_div_mul, Nat.pow_succ, Nat.mul_comm 2 (2 ^ s)]
    omega
theorem rm_bits_pos {n : Nat} (h : 0 < n) : 0 < rm_bits n := by unfold rm_bits; rw [if_neg (by omega)]; omega
section
variable {M : rg_M}
theorem nlz73 {n k : Nat} (h0 : 0 < n) (h : n < 4) (hk : 1 ≤ k) : rJ_numberOfLeadingZeros_73 (nI n) (nI k) M = some (some (.int (nI (k + 1 - rm_bits n))), M) := by
  rw [rJ_numberOfLeadingZeros_73_e, pk_ushrN (by omega) 1 1 (by decide), pk_sub (by omega)]
  have : rm_bits n = n / 2 + 1 := by
    rcases (show n = 1 ∨ n = 2 ∨ n = 3 by omega) with e | e | e <;> subst e <;> decide
  rw [this, show k + 1 - (n / 2 + 1) = k - n / 2 ^ 1 by rw [Nat.pow_one]; omega]
theorem nlz61 {n k : Nat} (h0 : 0 < n) (h : n < 16) (hk : 3 ≤ k) (hk2 : k < 100) : rJ_numberOfLeadingZeros_61 (nI n) (nI k) M = some (some (.int (nI (k + 1 - rm_bits n))), M) := by
  rw [rJ_numberOfLeadingZeros_61_e]
  by_cases p : n < 4
  · rw [if_pos (by rw [show (4 : Int32) = nI 4 from rfl, nI_ltI (by omega) (by omega)]; exact p)]; exact nlz73 h0 p (by omega)
  · rw [if_neg (by rw [show (4 : Int32) = nI 4 from rfl, nI_ltI (by omega) (by omega)]; exact p), pk_ushrN (by omega) 2 2 (by decide), show nI k + (-2) = nI (k - 2) by rw [← pk_sub (by omega)]; exact (Int32.sub_eq_add_neg _ _).symm, nlz73 (by omega) (by omega) (by omega)]
    have := rm_bits_sh 2 n (by omega)
    have := rm_bits_pos (n := n / 2 ^ 2) (by omega)
    rw [show k - 2 + 1 - rm_bits (n / 2 ^ 2) = k + 1 - rm_bits n by omega]
theorem nlz48 {n k : Nat} (h0 : 0 < n) (h : n < 256) (hk : 7 ≤ k) (hk2 : k < 100) : rJ_numberOfLeadingZeros_48 (nI n) (nI k) M = some (some (.int (nI (k + 1 - rm_bits n))), M) := by
  rw [rJ_numberOfLeadingZeros_48_e]
  by_cases p : n < 16
  · rw [if_pos (by rw [show (16 : Int32) = nI 16 from rfl, nI_ltI (by omega) (by omega)]; exact p)]; exact nlz61 h0 p (by omega) hk2
  · rw [if_neg (by rw [show (16 : Int32) = nI 16 from rfl, nI_ltI (by omega) (by omega)]; exact p), pk_ushrN (by omega) 4 4 (by decide), show nI k + (-4) = nI (k - 4) by rw [← pk_sub (by omega)]; exact (Int32.sub_eq_add_neg _ _).symm, nlz61 (by omega) (by omega) (by omega) (by omega)]
    have := rm_bits_sh 4 n (by omega)
    rw [show k - 4 + 1 - rm_bits (n / 2 ^ 4) = k + 1 - rm_bits n by omega]
theorem nlz33 {n k : Nat} (h0 : 0 < n) (h : n < 65536) (hk : 15 ≤ k) (hk2 : k < 100) : rJ_numberOfLeadingZeros_33 (nI n) (nI k) M = some (some (.int (nI (k + 1 - rm_bits n))), M) := by
  rw [rJ_numberOfLeadingZeros_33_e]
  by_cases p : n < 256
  · rw [if_pos (by rw [show (256 : Int32) = nI 256 from rfl, nI_ltI (by omega) (by omega)]; exact p)]; exact nlz48 h0 p (by omega) hk2
  · rw [if_neg (by rw [show (256 : Int32) = nI 256 from rfl, nI_ltI (by omega) (by omega)]; exact p), pk_ushrN (by omega) 8 8 (by decide), show nI k + (-8) = nI (k - 8) by rw [← pk_sub (by omega)]; exact (Int32.sub_eq_add_neg _ _).symm, nlz48 (by omega) (by omega) (by omega) (by omega)]
    have := rm_bits_sh 8 n (by omega)
    rw [show k - 8 + 1 - rm_bits (n / 2 ^ 8) = k + 1 - rm_bits n by omega]
theorem nlz {n : Nat} (h0 : 0 < n) (h : n < 2147483648) : rJ_numberOfLeadingZeros (nI n) M = some (nI (32 - rm_bits n), M) := by
  rw [rJ_numberOfLeadingZeros_u, rJ_numberOfLeadingZeros_e]
  rw [if_pos (by rw [show (0 : Int32) = nI 0 from rfl, nI_ltI (by omega) (by omega)]; exact h0)]
  by_cases p : n < 65536
  · rw [if_pos (by rw [show (65536 : Int32) = nI 65536 from rfl, nI_ltI (by omega) (by omega)]; exact p), show (31 : Int32) = nI 31 from rfl, nlz33 h0 p (by omega) (by omega)]; rfl
  · rw [if_neg (by rw [show (65536 : Int32) = nI 65536 from rfl, nI_ltI (by omega) (by omega)]; exact p), pk_ushrN (by omega) 16 16 (by decide), show (31 : Int32) + (-16) = nI 15 from rfl, nlz33 (by omega) (by omega) (by omega) (by omega)]
    have := rm_bits_sh 16 n (by omega)
    rw [show 15 + 1 - rm_bits (n / 2 ^ 16) = 32 - rm_bits n by omega]; rfl
theorem cw_bits {w b n : Nat} {v : Int} (hW : cwW M w b n v) (hn : n ≤ 1300) : rW_lengthInBits w M = some (nI (rm_bits v.natAbs), M) := by
  have hz := hW.zero
  obtain ⟨c1, c2, c3, c4, c5, c6, c7, c8, c9⟩ := hW
  rw [rW_lengthInBits_u, rW_lengthInBits_e, if_pos c1, c5]
  by_cases h : n = 0
  · rw [if_pos (by rw [h]; rfl), hz.mpr h]; rfl
  · obtain ⟨m, rfl⟩ := Nat.exists_eq_succ_of_ne_zero h
    have k1 := nI_clamp (n := m) (by omega)
    have k2 := rm_i0 (a := m) (by omega)
    have k3 : m < rg_L M b := by omega
    have hm := c7 m (by omega)
    have hm0 : rm_u (rg_A M b m) ≠ 0 := by
      rw [Ne, rm_u_eq0]
      rcases c8 with q | q
      · omega
      · exact q
    rw [if_neg (nI_ne0 (by omega) (by omega))]
    simp only [c1, c2, c3, Option.bind_some, if_true, Nat.succ_eq_add_one, nI_pred, k1, k2, k3, and_self]
    have hl := nlz (M := M) (n := rm_u (rg_A M b m)) (by omega) hm
    rw [rm_nI_u] at hl
    rw [hl]
    have hb : rm_bits v.natAbs = 31 * m + rm_bits (rm_u (rg_A M b m)) := by
      rw [c9]
      show rm_bits (ds wB _ m + rm_u (rg_A M b m) * wB ^ m) = _
      exact rm_bits_app (w := 31) (by decide) (ds_lt (fun k hk => c7 k (by omega))) hm0
    have hb2 : rm_bits (rm_u (rg_A M b m)) ≤ 31 := rm_bits_mono hm
    simp only [Option.bind_some]
    rw [show (31 : Int32) = nI 31 from rfl, pk_mul, nI_1, pk_sub (by omega), show (m + 1) * 31 + 1 - (32 - rm_bits (rm_u (rg_A M b m))) = rm_bits v.natAbs by omega]
    rfl
theorem wb_orS {a b k : Nat} (hb : b < 2 ^ k) : a * 2 ^ k ||| b = a * 2 ^ k + b := by
  have := Nat.shiftLeft_add_eq_or_of_lt (i := k) (b := b) hb a
  rw [Nat.shiftLeft_eq] at this
  exact this.symm
/-- the 32 bits at k -/
theorem cw_bitsAt {w b n : Nat} {v : Int} (hW : cwW M w b n v) (hn : n ≤ 1300) (x : Int32) : rW_bitsAt w x M = some (if x < 0 then 0 else nI (v.natAbs / 2 ^ (32 * x.toNatClampNeg) % 4294967296), M) := by
  have hcl := (cwW_cl hW)
  obtain ⟨c1, c2, c3, c4, c5, c6, c7, c8, c9⟩ := hW
  rw [rW_bitsAt_u, rW_bitsAt_e]
  by_cases hx : x < 0
  · rw [if_pos hx, if_pos hx, rW_bitsAt_25_e]; rfl
  · obtain ⟨k, hk, rfl⟩ := nI_of hx
    rw [if_neg hx, if_neg hx, nI_clamp hk]
    have e1 : (32 : Int64) * (nI k).toInt64 = lN (32 * k) := by rw [nI_l hk, show (32 : Int64) = lN 32 from rfl, lN_mul]
    have e2 : (nI n).toInt64 * (31 : Int64) = lN (n * 31) := by rw [nI_l (by omega), show (31 : Int64) = lN 31 from rfl, lN_mul]
    simp only [c1, c5, if_true, e1, e2]
    by_cases hl : 32 * k < n * 31
    · rw [if_pos (by rw [pk_lLT (by omega) (by omega)]; exact hl)]
      have e31 : (31 : Int64) = lN 31 := rfl
      obtain ⟨a, ha⟩ : ∃ a, a = 32 * k / 31 := ⟨_, rfl⟩
      obtain ⟨s, hs⟩ : ∃ s, s = 32 * k % 31 := ⟨_, rfl⟩
      have e3 : (lN (32 * k) / (31 : Int64)).toInt32 = nI a := by rw [e31, pk_lDiv (by omega) (by decide) (by decide), lN_i, ha]
      have e4 : (lN (32 * k) - lN (32 * k) / (31 : Int64) * (31 : Int64)).toInt32 = nI s := by rw [e31, pk_lRem (by omega) (by decide) (by decide), lN_i, hs]
      have z31 : ¬ (31 : Int64) = 0 := by decide
      have han : a < n := by omega
      have k1 := nI_clamp (n := a) (by omega)
      have k2 := rm_i0 (a := a) (by omega)
      have k3 : a < rg_L M b := by omega
      simp only [z31, if_false, e3, e4, nI_1]
      have ua : rm_u (rg_A M b a) < 2147483648 := c7 a han
      have hs31 : s < 31 := by omega
      have fin : ∀ h : Nat, h < 2147483648 → h = (if a + 1 < n then rm_u (rg_A M b (a + 1)) else 0) → rW_bitsAt_68 w (nI a) (nI s) (lN h) M = some (some (.int (nI (v.natAbs / 2 ^ (32 * k) % 4294967296))), M) := by
        intro h hh hdef
        rw [rW_bitsAt_68_e]
        simp only [c1, c2, c3, Option.bind_some, if_true, k1, k2, k3, and_self]
        have f1 : ((31 : Int32) - nI s).toInt64 &&& 63 = (nI (31 - s)).toInt64 &&& 63 := by rw [show (31 : Int32) = nI 31 from rfl, pk_sub (by omega)]
        have hp : 2 ^ s * 2 ^ (31 - s) = 2147483648 := by rw [← Nat.pow_add, show s + (31 - s) = 31 by omega]
        have hp1 : 0 < 2 ^ s := Nat.pow_pos (by decide)
        have hp2 : 2 ^ (31 - s) ≤ 2147483648 := by rw [← hp]; exact Nat.le_mul_of_pos_left _ hp1
        have f2 : rg_A M b a >>> (nI s &&& 31) = nI (rm_u (rg_A M b a) / 2 ^ s) := by
          have := pk_shrN (n := rm_u (rg_A M b a)) (by omega) (nI s &&& 31) s (by
            have : ∀ q, q < 31 → ((nI q &&& 31).toBitVec.smod 32).toNat = q := by decide +kernel
            exact this s hs31)
          rw [rm_nI_u] at this; exact this
        have hq : rm_u (rg_A M b a) / 2 ^ s < 2 ^ (31 - s) := by
          rw [Nat.div_lt_iff_lt_mul hp1, Nat.mul_comm, hp]; exact ua
        have hhm : h * 2 ^ (31 - s) < 4611686018427387904 := by
          have : h * 2 ^ (31 - s) ≤ h * 2147483648 := Nat.mul_le_mul_left _ hp2
          omega
        rw [f1, wb_shl h (by omega), f2, nI_l (by omega), wb_or (by omega) (by omega), wb_orS hq, lN_i]
        refine congrArg (fun x => some (some (Value.int x), M)) ?_
        refine rm_u_inj ?_
        rw [rm_u_nI, rm_u_nI, Nat.mod_mod]
        -- the number from word a on
        have hd : v.natAbs / wB ^ a = rm_u (rg_A M b a) + wB * (h + wB * (v.natAbs / wB ^ (a + 2))) := by
          have w0 : v.natAbs / wB ^ a % wB = rm_u (rg_A M b a) := by rw [c9]; exact ds_word (f := fun j => rm_u (rg_A M b j)) (by decide) han c7
          have w1 : v.natAbs / wB ^ (a + 1) % wB = h := by
            rw [c9, hdef]
            by_cases q : a + 1 < n
            · rw [if_pos q]; exact ds_word (f := fun j => rm_u (rg_A M b j)) (by decide) q c7
            · rw [if_neg q]
              have : cV (rg_A M b) n < wB ^ (a + 1) := Nat.lt_of_lt_of_le (cV_lt c7) (Nat.pow_le_pow_right (by decide) (by omega))
              rw [Nat.div_eq_of_lt this]; rfl
          have d1 : v.natAbs / wB ^ (a + 1) = v.natAbs / wB ^ a / wB := by rw [Nat.div_div_eq_div_mul, Nat.pow_succ]
          have d2 : v.natAbs / wB ^ (a + 2) = v.natAbs / wB ^ a / wB / wB := by rw [Nat.div_div_eq_div_mul, Nat.div_div_eq_div_mul, Nat.pow_succ, Nat.pow_succ, Nat.mul_assoc]
          rw [d1] at w1
          rw [d2]
          generalize v.natAbs / wB ^ a = y at w0 w1
          simp only [wB] at *
          omega
        have hk2 : 2 ^ (32 * k) = wB ^ a * 2 ^ s := by
          rw [show wB = 2 ^ 31 from rfl, ← Nat.pow_mul, ← Nat.pow_add]; congr 1; omega
        rw [hk2, ← Nat.div_div_eq_div_mul, hd]
        generalize v.natAbs / wB ^ (a + 2) = y
        have e5 : rm_u (rg_A M b a) + wB * (h + wB * y) = rm_u (rg_A M b a) + 2 ^ s * (2 ^ (31 - s) * (h + wB * y)) := by
          rw [← Nat.mul_assoc, hp]
        rw [e5, Nat.add_mul_div_left _ _ hp1, Nat.mul_add, Nat.mul_comm h]
        have e6 : 2 ^ (31 - s) * (wB * y) = 4294967296 * (2 ^ (30 - s) * y) := by
          rw [← Nat.mul_assoc, ← Nat.mul_assoc, show wB = 2 ^ 31 from rfl, show (4294967296 : Nat) = 2 ^ 32 from rfl, ← Nat.pow_add, ← Nat.pow_add]; congr 2; omega
        rw [e6]
        generalize 2 ^ (30 - s) * y = y2
        generalize 2 ^ (31 - s) * h = y3
        generalize rm_u (rg_A M b a) / 2 ^ s = y4
        omega
      by_cases q : a + 1 < n
      · have k4 := nI_clamp (n := a + 1) (by omega)
        have k5 := rm_i0 (a := a + 1) (by omega)
        have k6 : a + 1 < rg_L M b := by omega
        have uq := c7 (a + 1) q
        rw [if_neg (by rw [nI_leI (by omega) (by omega)]; omega)]
        simp only [c1, c2, c3, Option.bind_some, if_true, k4, k5, k6, and_self, lN_u uq]
        rw [fin _ uq (by rw [if_pos q])]; rfl
      · rw [if_pos (by rw [nI_leI (by omega) (by omega)]; omega)]
        have := fin 0 (by decide) (by rw [if_neg q])
        have this : rW_bitsAt_68 w (nI a) (nI s) 0 M = _ := this
        rw [this]; rfl
    · rw [if_neg (by rw [pk_lLT (by omega) (by omega)]; exact hl), rW_bitsAt_25_e]
      have : v.natAbs < 2 ^ (32 * k) := by
        refine Nat.lt_of_lt_of_le hcl ?_
        rw [show wB = 2 ^ 31 from rfl, ← Nat.pow_mul]
        exact Nat.pow_le_pow_right (by decide) (by omega)
      rw [Nat.div_eq_of_lt this]; rfl
end

/-! longs as integers; carries -/
def iL (c : Int) : Int64 := Int64.ofInt c
theorem iL_t {c : Int} (h1 : -9223372036854775808 ≤ c) (h2 : c < 9223372036854775808) : (iL c).toInt = c := Int64.toInt_ofInt_of_le (by omega) (by omega)
theorem iL_of (z : Int64) : iL z.toInt = z := Int64.ofInt_toInt z
theorem iL_add (a b : Int) : iL a + iL b = iL (a + b) := (Int64.ofInt_add a b).symm
theorem iL_mul (a b : Int) : iL a * iL b = iL (a * b) := (Int64.ofInt_mul a b).symm
theorem iL_sub (a b : Int) : iL a - iL b = iL (a - b) := (Int64.ofInt_sub a b).symm
theorem iL_neg (a : Int) : -(iL a) = iL (-a) := (Int64.ofInt_neg a).symm
theorem iL_n (n : Nat) : lN n = iL (n : Int) := by
  refine wb_inj ?_
  show BitVec.ofNat 64 n = BitVec.ofInt 64 (n : Int)
  rw [BitVec.ofInt_natCast]
theorem iL_eq {a b : Int} (h1 : -9223372036854775808 ≤ a) (h2 : a < 9223372036854775808) (h3 : -9223372036854775808 ≤ b) (h4 : b < 9223372036854775808) : iL a = iL b ↔ a = b := by
  refine ⟨fun h => ?_, fun h => by rw [h]⟩
  rw [← iL_t h1 h2, ← iL_t h3 h4, h]
theorem iL_le {a b : Int} (h1 : -9223372036854775808 ≤ a) (h2 : a < 9223372036854775808) (h3 : -9223372036854775808 ≤ b) (h4 : b < 9223372036854775808) : iL a ≤ iL b ↔ a ≤ b := by
  rw [Int64.le_iff_toInt_le, iL_t h1 h2, iL_t h3 h4]
theorem iL_lt {a b : Int} (h1 : -9223372036854775808 ≤ a) (h2 : a < 9223372036854775808) (h3 : -9223372036854775808 ≤ b) (h4 : b < 9223372036854775808) : iL a < iL b ↔ a < b := by
  rw [Int64.lt_iff_toInt_lt, iL_t h1 h2, iL_t h3 h4]
theorem iL_0 : (0 : Int64) = iL 0 := rfl
theorem iL_w {n : Nat} (h : n < 2147483648) : (nI n).toInt64 = iL (n : Int) := by rw [nI_l (by omega), iL_n]
theorem iL_u {x : Int32} (h : rm_u x < 2147483648) : x.toInt64 = iL (rm_u x : Int) := by
  rw [← iL_w h, rm_nI_u]
/-- >> 31 -/
theorem iL_shr {c : Int} (h1 : -9223372036854775808 ≤ c) (h2 : c < 9223372036854775808) : iL c >>> ((31 : Int32).toInt64 &&& 63) = iL (c / 2147483648) := by
  have e : ((31 : Int32).toInt64 &&& 63) = lN 31 := wb_c 31 (by decide)
  rw [e]
  have : (iL c >>> lN 31).toInt = c / 2147483648 := by
    show ((iL c).toBitVec.sshiftRight' ((lN 31).toBitVec.smod 64)).toInt = _
    have e2 : ((lN 31).toBitVec.smod 64) = BitVec.ofNat 64 31 := wb_sm 31 (by decide)
    rw [e2, BitVec.sshiftRight', BitVec.toInt_sshiftRight]
    have e3 : (iL c).toBitVec.toInt = c := iL_t h1 h2
    rw [e3, Int.shiftRight_eq_div_pow]
    rfl
  rw [← iL_of (iL c >>> lN 31), this]
/-- & 0x7FFFFFFF, as an int -/
theorem iL_and (c : Int) : ((iL c) &&& (2147483647 : Int64)).toInt32 = nI (c % 2147483648).toNat := by
  obtain ⟨n, hn, e⟩ := wb_of (iL c)
  have h2 : (2147483647 : Int64) = lN (2 ^ 31 - 1) := rfl
  rw [e, h2, wb_mask hn (by decide), lN_i]
  congr 1
  have h3 : (iL c).toBitVec.toNat = n := by rw [e]; exact wb_tn hn
  have h4 : (iL c).toBitVec.toNat = (c % 18446744073709551616).toNat := by
    show (BitVec.ofInt 64 c).toNat = _
    rw [BitVec.toNat_ofInt]; rfl
  rw [← h3, h4]
  omega
/-- integers in words, base 2^31 -/
abbrev wB : Nat := 2147483648
def dz (f : Nat → Int) : Nat → Int
  | 0 => 0
  | n + 1 => dz f n + f n * (2147483648 : Int) ^ n
theorem dz_s (f : Nat → Int) (n : Nat) : dz f (n + 1) = dz f n + f n * (2147483648 : Int) ^ n := rfl
theorem dz_cong {f g : Nat → Int} : ∀ {n : Nat}, (∀ k, k < n → f k = g k) → dz f n = dz g n
  | 0, _ => rfl
  | n + 1, h => by rw [dz_s, dz_s, dz_cong (fun k hk => h k (by omega)), h n (by omega)]
theorem dz_ds (f : Nat → Nat) : ∀ n, ((ds wB f n : Nat) : Int) = dz (fun k => (f k : Int)) n
  | 0 => rfl
  | n + 1 => by rw [dz_s, ← dz_ds f n, ds_s, Int.natCast_add, Int.natCast_mul, Int.natCast_pow]; rfl
theorem dz_add (f g : Nat → Int) : ∀ n, dz (fun k => f k + g k) n = dz f n + dz g n
  | 0 => rfl
  | n + 1 => by rw [dz_s, dz_s, dz_s, dz_add f g n, Int.add_mul]; omega
theorem dz_mul (c : Int) (f : Nat → Int) : ∀ n, dz (fun k => c * f k) n = c * dz f n
  | 0 => by simp [dz]
  | n + 1 => by rw [dz_s, dz_s, dz_mul c f n, Int.mul_add, Int.mul_assoc]
theorem dz_zero : ∀ n, dz (fun _ => 0) n = 0
  | 0 => rfl
  | n + 1 => by rw [dz_s, dz_zero n, Int.zero_mul]; rfl
theorem dz_app (f : Nat → Int) (m : Nat) : ∀ n, dz f (m + n) = dz f m + (2147483648 : Int) ^ m * dz (fun k => f (m + k)) n
  | 0 => by simp [dz]
  | n + 1 => by
    rw [← Nat.add_assoc, dz_s, dz_app f m n, dz_s, Int.mul_add, Int.pow_add]
    have : f (m + n) * ((2147483648 : Int) ^ m * 2147483648 ^ n) = 2147483648 ^ m * (f (m + n) * 2147483648 ^ n) := by
      rw [← Int.mul_assoc, Int.mul_comm (f (m + n)), Int.mul_assoc]
    omega
/-- a chain of carries over the terms t -/
def scC (t : Nat → Int) (c : Int) : Nat → Int
  | 0 => c
  | n + 1 => (scC t c n + t n) / 2147483648
def scO (t : Nat → Int) (c : Int) (n : Nat) : Nat := ((scC t c n + t n) % 2147483648).toNat
theorem scO_lt (t : Nat → Int) (c : Int) (n : Nat) : scO t c n < 2147483648 := by unfold scO; omega
theorem sc_sum (t : Nat → Int) (c : Int) : ∀ n, dz (fun k => (scO t c k : Int)) n + scC t c n * (2147483648 : Int) ^ n = c + dz t n
  | 0 => by simp [dz, scC]
  | n + 1 => by
    have ih := sc_sum t c n
    rw [dz_s, dz_s, Int.pow_succ, Int.mul_comm ((2147483648 : Int) ^ n) 2147483648, ← Int.mul_assoc]
    have e : (scO t c n : Int) + scC t c (n + 1) * 2147483648 = scC t c n + t n := by
      show (((scC t c n + t n) % 2147483648).toNat : Int) + (scC t c n + t n) / 2147483648 * 2147483648 = _
      omega
    have e2 : (scO t c n : Int) * (2147483648 : Int) ^ n + scC t c (n + 1) * 2147483648 * (2147483648 : Int) ^ n = scC t c n * (2147483648 : Int) ^ n + t n * (2147483648 : Int) ^ n := by
      rw [← Int.add_mul, e, Int.add_mul]
    omega
theorem sc_rng {t : Nat → Int} {c lo hi : Int} (h1 : lo ≤ c) (h2 : c ≤ hi) : ∀ {n : Nat}, (∀ k, k < n → lo * 2147483647 ≤ t k ∧ t k ≤ hi * 2147483647 + 2147483647) → lo ≤ scC t c n ∧ scC t c n ≤ hi
  | 0, _ => ⟨h1, h2⟩
  | n + 1, h => by
    have ih := sc_rng h1 h2 (n := n) (fun k hk => h k (by omega))
    have hn := h n (by omega)
    show lo ≤ (scC t c n + t n) / 2147483648 ∧ (scC t c n + t n) / 2147483648 ≤ hi
    omega
theorem scC_cong {t u : Nat → Int} {c : Int} : ∀ {n : Nat}, (∀ k, k < n → t k = u k) → scC t c n = scC u c n
  | 0, _ => rfl
  | n + 1, h => by
    show (scC t c n + t n) / _ = (scC u c n + u n) / _
    rw [scC_cong (fun k hk => h k (by omega)), h n (by omega)]

/-! bits -/
def rm_bits (v : Nat) : Nat := if v = 0 then 0 else v.log2 + 1
theorem rm_bits_of {v k : Nat} (h1 : 2 ^ k ≤ v) (h2 : v < 2 ^ (k + 1)) : rm_bits v = k + 1 := by
  have hv : v ≠ 0 := by have := Nat.two_pow_pos k; omega
  have a := (Nat.le_log2 hv).mpr h1
  have b := (Nat.log2_lt hv).mpr h2
  unfold rm_bits; rw [if_neg hv]; omega
theorem rm_bits_half {v : Nat} (h : 0 < v) : rm_bits v = rm_bits (v / 2) + 1 := by
  by_cases h1 : v = 1
  · subst h1; decide
  · have hv : v / 2 ≠ 0 := by omega
    have a := Nat.log2_self_le hv
    have b := Nat.lt_log2_self (n := v / 2)
    have e : rm_bits (v / 2) = (v / 2).log2 + 1 := by unfold rm_bits; rw [if_neg hv]
    rw [e]
    refine rm_bits_of ?_ ?_
    · rw [Nat.pow_succ]; omega
    · rw [Nat.pow_succ]; omega
theorem rm_bits_lt (v : Nat) : v < 2 ^ rm_bits v := by
  unfold rm_bits; split
  · omega
  · exact Nat.lt_log2_self
theorem rm_bits_le {v : Nat} (h : v ≠ 0) : 2 ^ (rm_bits v - 1) ≤ v := by
  unfold rm_bits; rw [if_neg h]; exact Nat.log2_self_le h
theorem rm_bits_mono {v k : Nat} (h : v < 2 ^ k) : rm_bits v ≤ k := by
  by_cases hv : v = 0
  · unfold rm_bits; rw [if_pos hv]; omega
  · have := rm_bits_le hv
    have := (Nat.pow_lt_pow_iff_right (a := 2) (by decide)).mp (Nat.lt_of_le_of_lt this h)
    omega
/-- the bits of a number in words -/
theorem rm_bits_app {B w l t n : Nat} (hB : B = 2 ^ w) (hl : l < B ^ n) (ht : t ≠ 0) : rm_bits (l + t * B ^ n) = w * n + rm_bits t := by
  have h1 := rm_bits_le ht
  have h2 := rm_bits_lt t
  have hp : rm_bits t ≠ 0 := by unfold rm_bits; rw [if_neg ht]; omega
  have e : B ^ n = 2 ^ (w * n) := by rw [hB, Nat.pow_mul]
  have e2 : w * n + rm_bits t = (w * n + (rm_bits t - 1)) + 1 := by omega
  rw [e2]
  refine rm_bits_of ?_ ?_
  · rw [Nat.pow_add, ← e, Nat.mul_comm]
    exact Nat.le_trans (Nat.mul_le_mul_right _ h1) (Nat.le_add_left _ _)
  · rw [← e2, Nat.pow_add, ← e]
    have : (t + 1) * B ^ n ≤ 2 ^ rm_bits t * B ^ n := Nat.mul_le_mul_right _ h2
    rw [Nat.add_mul, Nat.one_mul] at this
    rw [Nat.mul_comm (B ^ n)]
    omega
theorem rm_shr {w k : Nat} (hw : w < 2 ^ 62) (hk : k < 64) : lN w >>> ((nI k).toInt64 &&& 63) = lN (w / 2 ^ k) := by
  rw [wb_c k hk]
  refine pf_shr ?_ hw
  rw [wb_tb, wb_sm k hk, BitVec.toNat_ofNat, Nat.mod_eq_of_lt (by omega)]
/-- a number out of its words -/
theorem ds_of {B : Nat} (Y : Nat) : ∀ n : Nat, ds B (fun k => Y / B ^ k % B) n = Y % B ^ n
  | 0 => by simp [ds, Nat.mod_one]
  | n + 1 => by rw [ds_s, ds_of Y n, Nat.mod_pow_succ, Nat.mul_comm]
section
variable {m aS aL aG aN aB : Nat} {M : rg_M}
theorem rm_bits37 (st : rg_M) : ∀ (t : Nat), t < 4294967296 → ∀ c : Nat, rM_bitsOf_37 (nI c) (lN t) st = some (some (.int (nI (c + rm_bits t))), st) := by
  intro t
  induction t using Nat.strongRecOn with
  | _ t ih =>
    intro ht c
    rw [rM_bitsOf_37_e]
    by_cases h0 : t = 0
    · subst h0
      rw [if_pos (by decide)]; rfl
    · rw [if_neg (by rw [show (0 : Int64) = lN 0 from rfl, pk_lLE (by omega) (by omega)]; omega)]
      have e : lN t >>> ((1 : Int32).toInt64 &&& 63) = lN (t / 2) := rm_shr (k := 1) (by omega) (by omega)
      rw [e, nI_1, ih (t / 2) (by omega) (by omega) (c + 1), rm_bits_half (v := t) (by omega)]
      rw [show c + 1 + rm_bits (t / 2) = c + (rm_bits (t / 2) + 1) by omega]
/-- how many bits a register's number has -/
theorem rm_bitsOf (H : rm_F m aS aL aG aN aB M) {a : Nat} (ha : a < 420) {S L G : Nat → Int32} {v : Int} (hv : rm_R S L G a v) : rM_bitsOf m (nI a) (rm_w aS aL aG M S L G) = some (nI (rm_bits v.natAbs), (rm_w aS aL aG M S L G)) := by
  have H0 := H
  obtain ⟨hK, hS, hL, hG, -, -, kS, kL, kG, -, -, lS, lL, lG, -, -, d1, d2, d3, -⟩ := H
  have ca_a := nI_clamp (n := a) (by omega)
  have ia_a := rm_i0 (a := a) (by omega)
  have c3 := rm_cap_le a
  obtain ⟨n, a1, a2, a3, a4, a5⟩ := hv
  rw [rM_bitsOf_u, rM_bitsOf_e]
  by_cases hn : n = 0
  · subst hn
    rw [a5]
    simp only [rm_wK, rm_wR, rm_wL, rm_wI, hK, hS, hL, hG, kS, kL, kG, lS, lL, lG, if_true, Option.bind_some, and_self, rm_rS, rm_rL d1, rm_rG d2 d3, rm_wS, rm_wLL d1, rm_wG d2 d3, ca_a, ia_a, ha, a2, nI_0]
    rfl
  · have p : ¬ nI n = 0 := nI_ne0 (by omega) (by omega)
    obtain ⟨k, rfl⟩ := Nat.exists_eq_succ_of_ne_zero hn
    have lm := rm_limb H0 ha (k := k) (by omega) (S := S) (G := G) a1 a2
    rw [if_pos (by omega)] at lm
    have e32 : (32 : Int32) * nI k = nI (32 * k) := by rw [show (32 : Int32) = nI 32 from rfl, pk_mul]
    have ep : nI (k + 1) - 1 = nI k := nI_pred k
    simp only [rm_wK, rm_wR, rm_wL, rm_wI, hK, hS, hL, hG, kS, kL, kG, lS, lL, lG, if_true, Option.bind_some, and_self, rm_rS, rm_rL d1, rm_rG d2 d3, rm_wS, rm_wLL d1, rm_wG d2 d3, ca_a, ia_a, ha, a2, p, if_false, ep, lm, e32, rm_bits37 _ _ (rm_u_lt _)]
    have ht : rm_u (S (rm_at a + k)) ≠ 0 := by
      rw [Ne, rm_u_eq0]
      rcases a3 with h | h
      · omega
      · exact h
    have : rm_bits v.natAbs = 32 * k + rm_bits (rm_u (S (rm_at a + k))) := by
      rw [a5]
      show rm_bits (rm_D S a k + _) = _
      exact rm_bits_app (B := rm_B) (w := 32) rfl (rm_D_lt S a k) ht
    rw [this]; rfl
/-- one bit of a register -/
theorem rm_bit_at {S : Nat → Int32} {a n z : Nat} (hz : z / 32 < n) : rm_D S a n / 2 ^ z % 2 = rm_u (S (rm_at a + z / 32)) / 2 ^ (z % 32) % 2 := by
  have h1 := ds_word (B := rm_B) (by decide) (f := fun j => rm_u (S (rm_at a + j))) hz (fun k _ => rm_u_lt _)
  have e : 2 ^ z = rm_B ^ (z / 32) * 2 ^ (z % 32) := by
    rw [show rm_B = 2 ^ 32 from rfl, ← Nat.pow_mul, ← Nat.pow_add]; congr 1; omega
  rw [e, ← Nat.div_div_eq_div_mul]
  show ds rm_B (fun j => rm_u (S (rm_at a + j))) n / _ / _ % 2 = _
  rw [← h1]
  generalize ds rm_B (fun j => rm_u (S (rm_at a + j))) n / rm_B ^ (z / 32) = x
  have e2 : rm_B = 2 ^ (z % 32) * (2 * 2 ^ (31 - z % 32)) := by
    rw [← Nat.pow_succ', ← Nat.pow_add]
    show 2 ^ 32 = _
    congr 1; omega
  rw [e2, Nat.mod_mul_right_div_self, Nat.mod_mul_right_mod]
theorem rm_zeros22 (H : rm_F m aS aL aG aN aB M) {a n : Nat} (ha : a < 420) {S L G : Nat → Int32} (hn : n ≤ rm_cap a) (hLa : L a = nI n) (hv : rm_D S a n ≠ 0) : ∀ d z : Nat, 32 * n - z = d → 2 ^ z ∣ rm_D S a n → ∃ y, rM_zeros_22 m (nI a) (nI z) (rm_w aS aL aG M S L G) = some (some (.int (nI y)), (rm_w aS aL aG M S L G)) ∧ 2 ^ y ∣ rm_D S a n ∧ rm_D S a n / 2 ^ y % 2 = 1 ∧ y < 32 * n := by
  have hK := H.1
  have c3 := rm_cap_le a
  have hz : ∀ z, 2 ^ z ∣ rm_D S a n → z < 32 * n := by
    intro z hd
    have h1 := Nat.le_of_dvd (by omega) hd
    have h2 := rm_D_lt S a n
    have e : rm_B ^ n = 2 ^ (32 * n) := by rw [Nat.pow_mul]
    rw [e] at h2
    exact (Nat.pow_lt_pow_iff_right (a := 2) (by decide)).mp (Nat.lt_of_le_of_lt h1 h2)
  intro d
  induction d with
  | zero =>
    intro z hd hdv
    have := hz z hdv
    omega
  | succ d ih =>
    intro z hd hdv
    have hzn := hz z hdv
    have q1 : z / 32 < n := by omega
    have lm := rm_limb H ha (k := z / 32) (by omega) (S := S) (G := G) hn hLa
    rw [if_pos q1] at lm
    have e1 : nI z / (32 : Int32) = nI (z / 32) := pk_div (d := 32) (by omega) (by omega) (by omega)
    have e2 : nI z - nI (z / 32) * (32 : Int32) = nI (z % 32) := by
      rw [← e1]; exact pk_rem (d := 32) (by omega) (by omega) (by omega)
    have u1 := rm_u_lt (S (rm_at a + z / 32))
    rw [rM_zeros_22_e, if_neg (by decide)]
    simp only [rm_wK, hK, if_true, e1, lm, Option.bind_some, e2, show ¬ ((32 : Int32) = 0) by decide, if_false]
    rw [rm_shr (by omega) (by omega), wb_a1 (Nat.lt_of_le_of_lt (Nat.div_le_self _ _) (by omega)), ← rm_bit_at q1]
    by_cases hb : rm_D S a n / 2 ^ z % 2 = 0
    · rw [if_pos (by rw [hb]; rfl), nI_1]
      refine ih (z + 1) (by omega) ?_
      rw [Nat.pow_succ]
      have h2 : 2 ∣ rm_D S a n / 2 ^ z := Nat.dvd_of_mod_eq_zero hb
      obtain ⟨x, hx⟩ := h2
      exact ⟨x, by rw [Nat.mul_assoc, ← hx]; exact (Nat.mul_div_cancel' hdv).symm⟩
    · have hb1 : rm_D S a n / 2 ^ z % 2 = 1 := by omega
      rw [if_neg (by rw [hb1]; decide)]
      exact ⟨z, rfl, hdv, hb1, hzn⟩
theorem rm_zeros2 (H : rm_F m aS aL aG aN aB M) {a n : Nat} (ha : a < 420) {S L G : Nat → Int32} (hn : n ≤ rm_cap a) (hLa : L a = nI n) (hv : rm_D S a n ≠ 0) : ∀ d i : Nat, n - i = d → (∀ j, j < i → S (rm_at a + j) = 0) → ∃ y, rM_zeros_2 m (nI a) (nI (32 * i)) (rm_w aS aL aG M S L G) = some (some (.int (nI y)), (rm_w aS aL aG M S L G)) ∧ 2 ^ y ∣ rm_D S a n ∧ rm_D S a n / 2 ^ y % 2 = 1 ∧ y < 32 * n := by
  have hK := H.1
  have c3 := rm_cap_le a
  have hin : ∀ i, (∀ j, j < i → S (rm_at a + j) = 0) → i < n := by
    intro i h
    rcases Nat.lt_or_ge i n with q | q
    · exact q
    · exact absurd (ds_zero (fun k hk => by rw [h k (by omega)]; rfl)) hv
  intro d
  induction d with
  | zero =>
    intro i hd h
    have := hin i h
    omega
  | succ d ih =>
    intro i hd h
    have q1 := hin i h
    have lm := rm_limb H ha (k := i) (by omega) (S := S) (G := G) hn hLa
    rw [if_pos q1] at lm
    have e1 : nI (32 * i) / (32 : Int32) = nI i := by
      have := pk_div (a := 32 * i) (d := 32) (by omega) (by omega) (by omega)
      rw [show 32 * i / 32 = i by omega] at this
      exact this
    have u1 := rm_u_lt (S (rm_at a + i))
    rw [rM_zeros_2_e, if_neg (by decide)]
    simp only [rm_wK, hK, if_true, e1, lm, Option.bind_some]
    by_cases hw : S (rm_at a + i) = 0
    · rw [if_pos (by rw [hw]; rfl), show nI (32 * i) + 32 = nI (32 * (i + 1)) by rw [show (32 : Int32) = nI 32 from rfl, nI_add]; congr 1]
      exact ih (i + 1) (by omega) (fun j hj => by
        by_cases e : j = i
        · rw [e]; exact hw
        · exact h j (by omega))
    · rw [if_neg (by rw [show (0 : Int64) = lN 0 from rfl, pk_lEQ (by omega) (by omega)]; rw [rm_u_eq0]; exact hw)]
      refine rm_zeros22 H ha hn hLa hv _ (32 * i) rfl ?_
      have e : rm_D S a n = rm_B ^ i * ds rm_B (fun k => rm_u (S (rm_at a + (i + k)))) (n - i) := by
        obtain ⟨d2, rfl⟩ := Nat.exists_eq_add_of_le (show i ≤ n by omega)
        unfold rm_D
        rw [ds_app, ds_zero (n := i) (fun k hk => by rw [h k hk]; rfl), Nat.zero_add, Nat.add_sub_cancel_left]
      rw [e, show rm_B = 2 ^ 32 from rfl, ← Nat.pow_mul]
      exact ⟨_, rfl⟩
/-- how often 2 divides a register's number -/
theorem rm_zeros (H : rm_F m aS aL aG aN aB M) {a : Nat} (ha : a < 420) {S L G : Nat → Int32} {v : Int} (hv : rm_R S L G a v) (h0 : v ≠ 0) : ∃ y, rM_zeros m (nI a) (rm_w aS aL aG M S L G) = some (nI y, (rm_w aS aL aG M S L G)) ∧ 2 ^ y ∣ v.natAbs ∧ v.natAbs / 2 ^ y % 2 = 1 ∧ y < 134400 := by
  have c3 := rm_cap_le a
  obtain ⟨n, a1, a2, a3, a4, a5⟩ := hv
  obtain ⟨y, y1, y2, y3, y4⟩ := rm_zeros2 H ha (S := S) (L := L) (G := G) a1 a2 (by rw [← a5]; omega) _ 0 rfl (fun j hj => by omega)
  have y1 : rM_zeros_2 m (nI a) 0 (rm_w aS aL aG M S L G) = _ := y1
  rw [rM_zeros_u, rM_zeros_e, y1, a5]
  exact ⟨y, rfl, y2, y3, by omega⟩
end

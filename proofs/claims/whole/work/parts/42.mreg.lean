/-! what a register holds -/
def rm_u (x : Int32) : Nat := x.toBitVec.toNat
theorem rm_u_lt (x : Int32) : rm_u x < 4294967296 := x.toBitVec.isLt
theorem rm_u_nI (n : Nat) : rm_u (nI n) = n % 4294967296 := by
  show (BitVec.ofNat 32 n).toNat = _
  rw [BitVec.toNat_ofNat]
theorem rm_u_inj {x y : Int32} (h : rm_u x = rm_u y) : x = y := Int32.toBitVec_inj.mp (BitVec.eq_of_toNat_eq h)
theorem rm_nI_u (x : Int32) : nI (rm_u x) = x := rm_u_inj (by rw [rm_u_nI, Nat.mod_eq_of_lt (rm_u_lt x)])
theorem rm_u_zero : rm_u 0 = 0 := rfl
theorem rm_u_eq0 {x : Int32} : rm_u x = 0 ↔ x = 0 := ⟨fun h => rm_u_inj (h.trans rm_u_zero.symm), fun h => by rw [h]; rfl⟩
theorem rm_u_l (x : Int64) : rm_u x.toInt32 = uN x % 4294967296 := by
  obtain ⟨n, hn, rfl⟩ := wb_of x
  rw [lN_i, rm_u_nI]
  show _ = (lN n).toBitVec.toNat % _
  rw [wb_tn hn]
theorem rm_uN_l {n : Nat} (h : n < 18446744073709551616) : uN (lN n) = n := wb_tn h
theorem rm_mask (x : Int32) : x.toInt64 &&& (4294967295 : Int64) = lN (rm_u x) := by
  refine uN_inj ?_
  rw [uN_lo, rm_uN_l (Nat.lt_trans (rm_u_lt x) (by decide))]
  have : rm_u (x.toInt64.toInt32) = rm_u x := by rw [Int32.toInt32_toInt64]
  rw [← this, rm_u_l]
def rm_sg (v : Int) : Int32 := if v < 0 then -1 else if v = 0 then 0 else 1
theorem rm_sg_0 : rm_sg 0 = 0 := rfl
theorem rm_sg_p {v : Int} (h : 0 < v) : rm_sg v = 1 := by unfold rm_sg; rw [if_neg (by omega), if_neg (by omega)]
theorem rm_sg_n {v : Int} (h : v < 0) : rm_sg v = -1 := by unfold rm_sg; rw [if_pos h]
theorem rm_sg_eq0 {v : Int} : rm_sg v = 0 ↔ v = 0 := by
  unfold rm_sg
  by_cases h : v < 0
  · rw [if_pos h]; exact ⟨fun q => absurd q (by decide), fun q => by omega⟩
  · rw [if_neg h]
    by_cases h2 : v = 0
    · rw [if_pos h2]; exact ⟨fun _ => h2, fun _ => rfl⟩
    · rw [if_neg h2]; exact ⟨fun q => absurd q (by decide), fun q => absurd q h2⟩
abbrev rm_B : Nat := 4294967296
def rm_D (S : Nat → Int32) (a n : Nat) : Nat := ds rm_B (fun j => rm_u (S (rm_at a + j))) n
/-- register a holds v -/
def rm_R (S L G : Nat → Int32) (a : Nat) (v : Int) : Prop := ∃ n, n ≤ rm_cap a ∧ L a = nI n ∧ (n = 0 ∨ S (rm_at a + (n - 1)) ≠ 0) ∧ G a = rm_sg v ∧ v.natAbs = rm_D S a n
def rm_same (S L G S' L' G' : Nat → Int32) (a : Nat) : Prop := L' a = L a ∧ G' a = G a ∧ ∀ j, j < rm_cap a → S' (rm_at a + j) = S (rm_at a + j)
theorem rm_same.rf {S L G : Nat → Int32} {a : Nat} : rm_same S L G S L G a := ⟨rfl, rfl, fun _ _ => rfl⟩
theorem rm_same.tr {S L G S1 L1 G1 S2 L2 G2 : Nat → Int32} {a : Nat} (h1 : rm_same S L G S1 L1 G1 a) (h2 : rm_same S1 L1 G1 S2 L2 G2 a) : rm_same S L G S2 L2 G2 a := ⟨h2.1.trans h1.1, h2.2.1.trans h1.2.1, fun j hj => (h2.2.2 j hj).trans (h1.2.2 j hj)⟩
theorem rm_R.same {S L G S' L' G' : Nat → Int32} {a : Nat} {v : Int} (h : rm_R S L G a v) (hs : rm_same S L G S' L' G' a) : rm_R S' L' G' a v := by
  obtain ⟨n, h1, h2, h3, h4, h5⟩ := h
  refine ⟨n, h1, by rw [hs.1]; exact h2, ?_, by rw [hs.2.1]; exact h4, ?_⟩
  · by_cases hn : n = 0
    · exact Or.inl hn
    · rw [hs.2.2 _ (by omega)]; exact h3
  · rw [h5]; exact ds_cong (fun k hk => by rw [hs.2.2 k (by omega)])
/-- the register's words are its own: a value has one length -/
theorem rm_D_lt (S : Nat → Int32) (a n : Nat) : rm_D S a n < rm_B ^ n := ds_lt (fun k _ => rm_u_lt _)
theorem rm_D_top {S : Nat → Int32} {a n : Nat} (h : n = 0 ∨ S (rm_at a + (n - 1)) ≠ 0) (hn : n ≠ 0) : rm_B ^ (n - 1) ≤ rm_D S a n := by
  obtain ⟨k, rfl⟩ := Nat.exists_eq_succ_of_ne_zero hn
  refine ds_top ?_
  rw [Ne, rm_u_eq0]
  rcases h with h | h
  · omega
  · exact h
theorem rm_R.zero {S L G : Nat → Int32} {a : Nat} {v : Int} (h : rm_R S L G a v) : v = 0 ↔ L a = 0 := by
  obtain ⟨n, h1, h2, h3, h4, h5⟩ := h
  have c2 : rm_cap a ≤ 4200 := by unfold rm_cap; split <;> omega
  by_cases hn : n = 0
  · subst hn
    exact ⟨fun _ => by rw [h2]; rfl, fun _ => Int.natAbs_eq_zero.mp (h5.trans rfl)⟩
  · have := rm_D_top h3 hn
    have hp : 0 < rm_B ^ (n - 1) := Nat.pow_pos (by decide)
    refine ⟨fun hv => ?_, fun hL => ?_⟩
    · subst hv; simp at h5; omega
    · rw [h2] at hL; exact absurd hL (nI_ne0 (by omega) (by omega))
section
variable {m aS aL aG aN aB : Nat} {M : rg_M}
/-- behind a trim -/
theorem rm_trimR (H : rm_F m aS aL aG aN aB M) {c n : Nat} (hc : c < 420) {S L G : Nat → Int32} {v : Int} (hn : n ≤ rm_cap c) (hL : L c = nI n) (hG : v ≠ 0 → G c = rm_sg v) (hv : v.natAbs = rm_D S c n) : ∃ L' G', rM_trim m (nI c) (rm_w aS aL aG M S L G) = some (rm_w aS aL aG M S L' G') ∧ rm_R S L' G' c v ∧ ∀ a, a ≠ c → rm_same S L G S L' G' a := by
  refine ⟨_, _, rm_trim H hc hn hL, ?_, fun a ha => ?_⟩
  · have hle := rm_tr_le (fun j => S (rm_at c + j)) n
    have htop := rm_tr_top (fun j => S (rm_at c + j)) n
    have hz := rm_tr_zero (fun j => S (rm_at c + j)) n
    generalize rm_tr (fun j => S (rm_at c + j)) n = k at hle htop hz ⊢
    have hD : rm_D S c n = rm_D S c k := ds_more hle (fun j h1 h2 => by rw [hz j h1 h2]; rfl)
    refine ⟨k, by omega, pk_us, htop, ?_, by rw [hv, hD]⟩
    by_cases hk : k = 0
    · rw [if_pos hk, pk_us]
      have : v = 0 := by rw [hD, hk] at hv; exact Int.natAbs_eq_zero.mp hv
      rw [this]; rfl
    · rw [if_neg hk]
      refine hG (fun hv0 => ?_)
      have h1 := rm_D_top htop hk
      have hp : 0 < rm_B ^ (k - 1) := Nat.pow_pos (by decide)
      rw [hv0, hD] at hv
      simp at hv; omega
  · refine ⟨pk_un ha, ?_, fun _ _ => rfl⟩
    split
    · exact pk_un ha
    · rfl
theorem rm_is (H : rm_F m aS aL aG aN aB M) {c : Nat} (hc : c < 420) (S L G : Nat → Int32) (v : Int64) : ∃ S' L' G', rM_is m (nI c) v (rm_w aS aL aG M S L G) = some (rm_w aS aL aG M S' L' G') ∧ rm_R S' L' G' c v.toInt ∧ ∀ a, a ≠ c → rm_same S L G S' L' G' a := by
  have H0 := H
  obtain ⟨hK, hS, hL, hG, -, -, kS, kL, kG, -, -, lS, lL, lG, -, -, d1, d2, d3, -⟩ := H
  have ca := nI_clamp (n := c) (by omega)
  have ia := rm_i0 (a := c) (by omega)
  have hcp := rm_at_cap hc
  have hcp2 : 260 ≤ rm_cap c := by unfold rm_cap; split <;> omega
  have c1 := nI_clamp (n := rm_at c) (by omega)
  have i1 := rm_i0 (a := rm_at c) (by omega)
  have l1 : rm_at c < 266800 := by omega
  have e1 : nI (rm_at c) + (1 : Int32) = nI (rm_at c + 1) := nI_1 _
  have c2 := nI_clamp (n := rm_at c + 1) (by omega)
  have i2 := rm_i0 (a := rm_at c + 1) (by omega)
  have l2 : rm_at c + 1 < 266800 := by omega
  -- from the size on
  have go : ∀ (z : Int64) (g : Int32), uN z = v.toInt.natAbs → (v.toInt ≠ 0 → g = rm_sg v.toInt) → ∃ S' L' G', (rM_is_66 m (nI c) g (nI c) aG (rm_w aS aL aG M (upd (upd S (rm_at c) z.toInt32) (rm_at c + 1) ((z.toUInt64 >>> ((32 : Int32).toInt64.toUInt64 &&& Int64.toUInt64 63)).toInt64).toInt32) (upd L c 2) G)) = some (none, rm_w aS aL aG M S' L' G') ∧ rm_R S' L' G' c v.toInt ∧ ∀ a, a ≠ c → rm_same S L G S' L' G' a := by
    intro z g hz hg
    rw [rM_is_66_e]
    simp only [rm_wK, rm_wL, hK, kG, lG, ca, ia, hc, if_true, and_self, rm_wG d2 d3]
    obtain ⟨L', G', t1, t2, t3⟩ := rm_trimR H0 hc (S := upd (upd S (rm_at c) z.toInt32) (rm_at c + 1) ((z.toUInt64 >>> ((32 : Int32).toInt64.toUInt64 &&& Int64.toUInt64 63)).toInt64).toInt32) (L := upd L c 2) (G := upd G c g) (n := 2) (v := v.toInt) (by omega) pk_us (fun h => by rw [pk_us]; exact hg h) (by
      rw [← hz]
      unfold rm_D
      rw [ds_s, ds_s, ds_0, show rm_at c + 0 = rm_at c from rfl, pk_un (show rm_at c ≠ rm_at c + 1 by omega), pk_us, pk_us, rm_u_l, rm_u_l, uN_s32]
      have := uN_lt z
      rw [Nat.mod_eq_of_lt (show uN z / 4294967296 < 4294967296 by omega)]
      simp only [Nat.pow_zero, Nat.mul_one, Nat.zero_add, Nat.pow_one, rm_B]
      omega)
    rw [t1]
    refine ⟨_, L', G', rfl, t2, fun a ha => rm_same.tr ⟨?_, ?_, fun j hj => ?_⟩ (t3 a ha)⟩
    · exact pk_un ha
    · exact pk_un ha
    · rw [pk_un (show rm_at a + j ≠ rm_at c + 1 from rm_apart ha j 1 hj (by omega)), pk_un (show rm_at a + j ≠ rm_at c from rm_apart ha j 0 hj (by omega))]
  rw [rM_is_u, rM_is_e]
  have eq12 : ∀ z : Int64, rM_is_12 m (nI c) v z (rm_w aS aL aG M S L G) = if (0 : Int64) ≤ v then rM_is_66 m (nI c) 1 (nI c) aG (rm_w aS aL aG M (upd (upd S (rm_at c) z.toInt32) (rm_at c + 1) ((z.toUInt64 >>> ((32 : Int32).toInt64.toUInt64 &&& Int64.toUInt64 63)).toInt64).toInt32) (upd L c 2) G) else rM_is_66 m (nI c) (-1) (nI c) aG (rm_w aS aL aG M (upd (upd S (rm_at c) z.toInt32) (rm_at c + 1) ((z.toUInt64 >>> ((32 : Int32).toInt64.toUInt64 &&& Int64.toUInt64 63)).toInt64).toInt32) (upd L c 2) G) := by
    intro z
    rw [rM_is_12_e]
    simp only [rm_wK, rm_wR, rm_wL, hK, hS, hL, hG, kS, kL, lS, lL, ca, ia, hc, if_true, Option.bind_some, and_self, rm_at_s hc, c1, i1, l1, rm_wS, e1, c2, i2, l2, rm_wLL d1]
  by_cases hv : (0 : Int64) ≤ v
  · rw [if_pos hv, eq12, if_pos hv]
    have hv2 : 0 ≤ v.toInt := by rw [Int64.le_iff_toInt_le] at hv; exact hv
    obtain ⟨S', L', G', t1, t2, t3⟩ := go v 1 (by rw [uN_int] at hv2 ⊢; have := uN_lt v; split at hv2 <;> split <;> omega) (fun h => by rw [rm_sg_p (by omega)])
    rw [t1]
    exact ⟨S', L', G', rfl, t2, t3⟩
  · rw [if_neg hv, eq12, if_neg hv]
    have hv2 : v.toInt < 0 := by rw [Int64.le_iff_toInt_le] at hv; exact Int.not_le.mp hv
    have hneg : uN (-v) = (18446744073709551616 - uN v) % 18446744073709551616 := by
      show (-v).toBitVec.toNat = _
      rw [Int64.toBitVec_neg, BitVec.toNat_neg]; rfl
    obtain ⟨S', L', G', t1, t2, t3⟩ := go (-v) (-1) (by rw [hneg]; rw [uN_int] at hv2 ⊢; have := uN_lt v; split at hv2 <;> split <;> omega) (fun h => by rw [rm_sg_n (by omega)])
    rw [t1]
    exact ⟨S', L', G', rfl, t2, t3⟩
end

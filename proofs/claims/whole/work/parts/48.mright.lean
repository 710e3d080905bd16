/-- words moved down by less than a word -/
theorem ds_shift {f : Nat → Nat} {n r : Nat} (hf : ∀ k, f k < rm_B) (hz : f n = 0) (hr : r < 32) : ds rm_B (fun k => (f (k + 1) * rm_B + f k) / 2 ^ r % rm_B) n = ds rm_B f n / 2 ^ r := by
  have hX : ds rm_B f n < rm_B ^ n := ds_lt (fun k _ => hf k)
  have e1 : ds rm_B f n / 2 ^ r = ds rm_B f n / 2 ^ r % rm_B ^ n := (Nat.mod_eq_of_lt (Nat.lt_of_le_of_lt (Nat.div_le_self _ _) hX)).symm
  rw [e1, ← ds_of]
  refine ds_cong (fun k hk => ?_)
  have w1 := ds_word (B := rm_B) (by decide) (f := f) hk (fun j _ => hf j)
  have w2 : ds rm_B f n / rm_B ^ k / rm_B % rm_B = f (k + 1) := by
    rw [Nat.div_div_eq_div_mul, ← Nat.pow_succ]
    by_cases h : k + 1 < n
    · exact ds_word (B := rm_B) (by decide) (f := f) h (fun j _ => hf j)
    · have e : k + 1 = n := by omega
      rw [show k.succ = n from e, Nat.div_eq_of_lt hX, e, hz]; rfl
  have eq : ds rm_B f n / 2 ^ r / rm_B ^ k = ds rm_B f n / rm_B ^ k / 2 ^ r := by rw [Nat.div_div_eq_div_mul, Nat.mul_comm, ← Nat.div_div_eq_div_mul]
  rw [eq]
  generalize ds rm_B f n / rm_B ^ k = Z at w1 w2 ⊢
  have e2 : Z % (rm_B * rm_B) = f (k + 1) * rm_B + f k := by
    rw [Nat.mod_mul, w1, w2, Nat.add_comm, Nat.mul_comm]
  have e3 : rm_B * rm_B = 2 ^ r * (rm_B * 2 ^ (32 - r)) := by
    rw [Nat.mul_comm rm_B (2 ^ (32 - r)), ← Nat.mul_assoc, ← Nat.pow_add, show r + (32 - r) = 32 by omega]
  rw [← e2, e3, Nat.mod_mul_right_div_self, Nat.mod_mul_right_mod]
section
variable {m aS aL aG aN aB : Nat} {M : rg_M}
/-- the words behind a shift -/
def rm_sh (S : Nat → Int32) (a n far r : Nat) : Nat → Nat := fun k => (rm_f S a n (k + far + 1) * rm_B + rm_f S a n (k + far)) / 2 ^ r
theorem rm_right24 (H : rm_F m aS aL aG aN aB M) {a n far r : Nat} (ha : a < 420) {S L G : Nat → Int32} (hn : n ≤ rm_cap a) (hf : far ≤ n) (hr : r < 32) (hLa : L a = nI n) : ∀ d k : Nat, (n - far) - k = d → k ≤ n - far → rM_right_24 m (nI a) (nI far) (nI r) (nI (n - far)) (nI k) (rm_w aS aL aG M (fb_put S (fun j => nI (rm_sh S a n far r j)) (rm_at a) k) L G) = (rM_trim m (nI a) (rm_w aS aL aG M (fb_put S (fun j => nI (rm_sh S a n far r j)) (rm_at a) (n - far)) (upd L a (nI (n - far))) G)).bind (fun M1 => some (none, M1)) := by
  obtain ⟨hK, hS, hL, hG, -, -, kS, kL, kG, -, -, lS, lL, lG, -, -, d1, d2, d3, -⟩ := H
  have ca_a := nI_clamp (n := a) (by omega)
  have ia_a := rm_i0 (a := a) (by omega)
  have c1 := rm_at_cap ha
  have c3 := rm_cap_le a
  intro d
  induction d with
  | zero =>
    intro k hd hk
    have e : k = n - far := by omega
    rw [rM_right_24_e, e, if_pos (Int32.le_refl _)]
    simp only [rm_wK, rm_wR, rm_wL, rm_wI, hK, hS, hL, hG, kS, kL, kG, lS, lL, lG, if_true, Option.bind_some, and_self, rm_rS, rm_rL d1, rm_rG d2 d3, rm_wS, rm_wLL d1, rm_wG d2 d3, ca_a, ia_a, ha]
  | succ d ih =>
    intro k hd hk
    have p : ¬ nI (n - far) ≤ nI k := by rw [nI_leI (by omega) (by omega)]; omega
    have i1 := nI_clamp (n := rm_at a + k + far) (by omega)
    have i2 := rm_i0 (a := rm_at a + k + far) (by omega)
    have i3 : rm_at a + k + far < 266800 := by omega
    have j1 := nI_clamp (n := rm_at a + k) (by omega)
    have j2 := rm_i0 (a := rm_at a + k) (by omega)
    have j3 : rm_at a + k < 266800 := by omega
    have lf : rm_u (S (rm_at a + k + far)) = rm_f S a n (k + far) := by
      rw [Nat.add_assoc]; exact (if_pos (by omega)).symm
    have rd : fb_put S (fun j => nI (rm_sh S a n far r j)) (rm_at a) k (rm_at a + k + far) = S (rm_at a + k + far) := by
      rw [Nat.add_assoc]; exact rm_put_read (fun _ => by omega) (by omega) (by omega)
    have l1 := rm_f_lt S a n (k + far)
    have l2 := rm_f_lt S a n (k + far + 1)
    have l1' : rm_f S a n (k + far) < 4294967296 := l1
    have l2' : rm_f S a n (k + far + 1) < 4294967296 := l2
    have key : rM_right_92 m (nI a) (nI far) (nI r) (nI (n - far)) (nI k) (lN (rm_f S a n (k + far))) (lN (rm_f S a n (k + far + 1))) (rm_w aS aL aG M (fb_put S (fun j => nI (rm_sh S a n far r j)) (rm_at a) k) L G) = (rM_trim m (nI a) (rm_w aS aL aG M (fb_put S (fun j => nI (rm_sh S a n far r j)) (rm_at a) (n - far)) (upd L a (nI (n - far))) G)).bind (fun M1 => some (none, M1)) := by
      rw [rM_right_92_e]
      have e1 : lN (rm_f S a n (k + far + 1)) <<< ((32 : Int32).toInt64 &&& 63) = lN (rm_f S a n (k + far + 1) * 2 ^ 32) := wb_shl (k := 32) _ (by omega)
      have e2 : lN (rm_f S a n (k + far + 1) * 2 ^ 32) ||| lN (rm_f S a n (k + far)) = lN (rm_f S a n (k + far + 1) * 2 ^ 32 + rm_f S a n (k + far)) := g_or (k := 32) rfl (by omega) (by omega)
      have e3 : ((lN (rm_f S a n (k + far + 1) * 2 ^ 32 + rm_f S a n (k + far))).toUInt64 >>> ((nI r).toInt64.toUInt64 &&& Int64.toUInt64 63)).toInt64 = lN (rm_sh S a n far r k) := wb_shr (by omega) (by omega)
      simp only [rm_wK, rm_wR, rm_wL, rm_wI, hK, hS, hL, hG, kS, kL, kG, lS, lL, lG, if_true, Option.bind_some, and_self, rm_rS, rm_rL d1, rm_rG d2 d3, rm_wS, rm_wLL d1, rm_wG d2 d3, rm_at_s ha, nI_add, j1, j2, j3, e1, e2, e3, lN_i, nI_1]
      rw [fb_put_succ S (fun j => nI (rm_sh S a n far r j))]
      exact ih (k + 1) (by omega) (by omega)
    rw [rM_right_24_e]
    by_cases hkb : k + far + 1 < n
    · have p2 : ¬ nI n ≤ nI (k + far + 1) := by rw [nI_leI (by omega) (by omega)]; omega
      have k1 := nI_clamp (n := rm_at a + k + far + 1) (by omega)
      have k2 := rm_i0 (a := rm_at a + k + far + 1) (by omega)
      have k3 : rm_at a + k + far + 1 < 266800 := by omega
      have rd2 : fb_put S (fun j => nI (rm_sh S a n far r j)) (rm_at a) k (rm_at a + k + far + 1) = S (rm_at a + k + far + 1) := by
        rw [Nat.add_assoc, Nat.add_assoc]; exact rm_put_read (fun _ => by omega) (by omega) (by omega)
      have lf2 : rm_u (S (rm_at a + k + far + 1)) = rm_f S a n (k + far + 1) := by
        rw [Nat.add_assoc, Nat.add_assoc]; exact (if_pos (by omega)).symm
      simp only [rm_wK, rm_wR, rm_wL, rm_wI, hK, hS, hL, hG, kS, kL, kG, lS, lL, lG, if_true, Option.bind_some, and_self, rm_rS, rm_rL d1, rm_rG d2 d3, rm_wS, rm_wLL d1, rm_wG d2 d3, ca_a, ia_a, ha, p, if_false, rm_at_s ha, nI_add, nI_1, i1, i2, i3, hLa, p2, k1, k2, k3, rm_mask, rd, rd2, lf, lf2]
      exact key
    · have p2 : nI n ≤ nI (k + far + 1) := by rw [nI_leI (by omega) (by omega)]; omega
      have lf2 : (0 : Int64) = lN (rm_f S a n (k + far + 1)) := by rw [show rm_f S a n (k + far + 1) = 0 from if_neg hkb]; rfl
      simp only [rm_wK, rm_wR, rm_wL, rm_wI, hK, hS, hL, hG, kS, kL, kG, lS, lL, lG, if_true, Option.bind_some, and_self, rm_rS, rm_rL d1, rm_rG d2 d3, rm_wS, rm_wLL d1, rm_wG d2 d3, ca_a, ia_a, ha, p, if_false, rm_at_s ha, nI_add, nI_1, i1, i2, i3, hLa, p2, rm_mask, rd, lf]
      rw [lf2]
      exact key
/-- a register without so many factors of 2 -/
theorem rm_right (H : rm_F m aS aL aG aN aB M) {a y : Nat} (ha : a < 420) {S L G : Nat → Int32} {v w : Int} (hv : rm_R S L G a v) (h0 : v ≠ 0) (hw : v = w * 2 ^ y) (hy : y < 134400) : ∃ S' L' G', rM_right m (nI a) (nI y) (rm_w aS aL aG M S L G) = some (rm_w aS aL aG M S' L' G') ∧ rm_R S' L' G' a w ∧ ∀ q, q ≠ a → rm_same S L G S' L' G' q := by
  have H0 := H
  obtain ⟨hK, hS, hL, hG, -, -, kS, kL, kG, -, -, lS, lL, lG, -, -, d1, d2, d3, -⟩ := H
  have ca_a := nI_clamp (n := a) (by omega)
  have ia_a := rm_i0 (a := a) (by omega)
  have c3 := rm_cap_le a
  obtain ⟨n, a1, a2, a3, a4, a5⟩ := hv
  have hwa : v.natAbs = w.natAbs * 2 ^ y := by rw [hw, Int.natAbs_mul, Int.natAbs_pow]; rfl
  have hw0 : w ≠ 0 := fun e => h0 (by rw [hw, e, Int.zero_mul])
  have hlt := rm_D_lt S a n
  have hyn : y < 32 * n := by
    have h1 : 2 ^ y ≤ v.natAbs := by rw [hwa]; exact Nat.le_mul_of_pos_left _ (by omega)
    rw [a5] at h1
    rw [show rm_B = 2 ^ 32 from rfl, ← Nat.pow_mul] at hlt
    exact (Nat.pow_lt_pow_iff_right (a := 2) (by decide)).mp (Nat.lt_of_le_of_lt h1 hlt)
  have e1 : nI y / (32 : Int32) = nI (y / 32) := pk_div (d := 32) (by omega) (by omega) (by omega)
  have e2 : nI y - nI (y / 32) * (32 : Int32) = nI (y % 32) := by
    rw [← e1]; exact pk_rem (d := 32) (by omega) (by omega) (by omega)
  have e3 : nI n - nI (y / 32) = nI (n - y / 32) := pk_sub (by omega)
  have z := rm_right24 H0 ha (S := S) (L := L) (G := G) (n := n) (far := y / 32) (r := y % 32) a1 (by omega) (by omega) a2 _ 0 rfl (Nat.zero_le _)
  rw [fb_put_0] at z
  have z : rM_right_24 m (nI a) (nI (y / 32)) (nI (y % 32)) (nI (n - y / 32)) 0 (rm_w aS aL aG M S L G) = _ := z
  have hD : w.natAbs = rm_D (fb_put S (fun j => nI (rm_sh S a n (y / 32) (y % 32) j)) (rm_at a) (n - y / 32)) a (n - y / 32) := by
    have d1 : rm_D (fb_put S (fun j => nI (rm_sh S a n (y / 32) (y % 32) j)) (rm_at a) (n - y / 32)) a (n - y / 32) = ds rm_B (fun k => (rm_f S a n (k + 1 + y / 32) * rm_B + rm_f S a n (k + y / 32)) / 2 ^ (y % 32) % rm_B) (n - y / 32) := ds_cong (fun k hk => by
      rw [rm_put_in hk, rm_u_nI]
      unfold rm_sh
      rw [show k + y / 32 + 1 = k + 1 + y / 32 by omega])
    have d2 := ds_shift (f := fun k => rm_f S a n (k + y / 32)) (n := n - y / 32) (r := y % 32) (fun k => rm_f_lt S a n _) (if_neg (by omega)) (by omega)
    rw [d1, d2]
    have d3 : ds rm_B (fun k => rm_f S a n (k + y / 32)) (n - y / 32) = rm_D S a n / rm_B ^ (y / 32) := by
      rw [← rm_f_ds S a (Nat.le_refl n), ds_div (by decide) (y / 32) (by omega) (fun k _ => rm_f_lt S a n k)]
      exact ds_cong (fun k _ => by rw [Nat.add_comm])
    rw [d3, Nat.div_div_eq_div_mul, show rm_B = 2 ^ 32 from rfl, ← Nat.pow_mul, ← Nat.pow_add, show 32 * (y / 32) + y % 32 = y by omega, ← a5, hwa, Nat.mul_div_cancel _ (Nat.two_pow_pos y)]
  have hsg : rm_sg v = rm_sg w := by
    rcases (show 0 < w ∨ w < 0 by omega) with p | p
    · rw [rm_sg_p p, rm_sg_p (by rw [hw]; exact Int.mul_pos p (Int.pow_pos (by decide)))]
    · rw [rm_sg_n p, rm_sg_n (by rw [hw]; exact Int.mul_neg_of_neg_of_pos p (Int.pow_pos (by decide)))]
  obtain ⟨L', G', u1, u2, u3⟩ := rm_trimR H0 ha (S := fb_put S (fun j => nI (rm_sh S a n (y / 32) (y % 32) j)) (rm_at a) (n - y / 32)) (L := upd L a (nI (n - y / 32))) (G := G) (v := w) (n := n - y / 32) (by omega) pk_us (fun _ => by rw [a4, hsg]) hD
  rw [rM_right_u, rM_right_e, if_neg (by decide), if_neg (by decide)]
  simp only [rm_wK, rm_wR, rm_wL, rm_wI, hK, hS, hL, hG, kS, kL, kG, lS, lL, lG, if_true, Option.bind_some, and_self, rm_rS, rm_rL d1, rm_rG d2 d3, rm_wS, rm_wLL d1, rm_wG d2 d3, ca_a, ia_a, ha, a2, e1, e2, e3, z, u1]
  exact ⟨_, L', G', rfl, u2, fun q hq => rm_same.tr ⟨pk_un hq, rfl, fun j hj => rm_put_read (fun e => absurd e hq) hj (by omega)⟩ (u3 q hq)⟩
/-- comparing registers -/
theorem rm_compR (H : rm_F m aS aL aG aN aB M) {a b : Nat} (ha : a < 420) (hb : b < 420) {S L G : Nat → Int32} {va vb : Int} (hva : rm_R S L G a va) (hvb : rm_R S L G b vb) : rM_compare m (nI a) (nI b) (rm_w aS aL aG M S L G) = some (if va.natAbs < vb.natAbs then -1 else if va.natAbs = vb.natAbs then 0 else 1, (rm_w aS aL aG M S L G)) := by
  obtain ⟨na, a1, a2, a3, a4, a5⟩ := hva
  obtain ⟨nb, b1, b2, b3, b4, b5⟩ := hvb
  rw [a5, b5]
  exact rm_comp H ha hb a1 b1 a2 b2 a3 b3
/-- the greater register less the lesser one, both above 0 -/
theorem rm_subR (H : rm_F m aS aL aG aN aB M) {u v : Nat} (hu : u < 420) (hv : v < 420) (huv : v ≠ u) {S L G : Nat → Int32} {x y : Nat} (hx : rm_R S L G u (x : Int)) (hy : rm_R S L G v (y : Int)) (hlt : y < x) : ∃ S' L' G', ((rM_apart m (nI u) (nI v) (nI u) (rm_w aS aL aG M S L G)).bind fun M1 => rM_trim m (nI u) M1) = some (rm_w aS aL aG M S' L' G') ∧ rm_R S' L' G' u ((x - y : Nat) : Int) ∧ ∀ q, q ≠ u → rm_same S L G S' L' G' q := by
  obtain ⟨na, a1, a2, a3, a4, a5⟩ := hx
  obtain ⟨nb, b1, b2, b3, b4, b5⟩ := hy
  rw [Int.natAbs_natCast] at a5 b5
  have hle : rm_D S v nb ≤ rm_D S u na := by omega
  obtain ⟨S1, t1, t2, t3⟩ := rm_apart_s H hu hv hu (S := S) (L := L) (G := G) a1 b1 a1 a2 b2 hle (rm_len2 b3 hle)
  obtain ⟨L', G', u1, u2, u3⟩ := rm_trimR H hu (S := S1) (L := upd L u (nI na)) (G := G) (v := ((x - y : Nat) : Int)) (n := na) a1 pk_us (fun _ => by rw [a4, rm_sg_p (by omega), rm_sg_p (by omega)]) (by rw [Int.natAbs_natCast, t2, ← a5, ← b5])
  rw [t1, Option.bind_some, u1]
  exact ⟨S1, L', G', rfl, u2, fun q hq => rm_same.tr ⟨pk_un hq, rfl, t3 q hq⟩ (u3 q hq)⟩
end

/-! all registers at once: V a is what register a holds (387 is the divisor's own) -/
def rm_V (S L G : Nat → Int32) (V : Nat → Int) : Prop := ∀ a, a < 420 → a ≠ 387 → rm_R S L G a (V a)
theorem rm_V.up {S L G S' L' G' : Nat → Int32} {V : Nat → Int} {c : Nat} {v : Int} (h : rm_V S L G V) (hr : rm_R S' L' G' c v) (hs : ∀ q, q ≠ c → rm_same S L G S' L' G' q) : rm_V S' L' G' (va_up V c v) := by
  intro a ha h7
  by_cases e : a = c
  · subst e; rw [rg_up_eq]; exact hr
  · rw [rg_up_ne e]; exact (h a ha h7).same (hs a e)
/-- fewer than k words -/
def rm_lt (v : Int) (k : Nat) : Prop := v.natAbs < rm_B ^ k
theorem rm_lt.mono {v : Int} {k l : Nat} (h : rm_lt v k) (hl : k ≤ l) : rm_lt v l := Nat.lt_of_lt_of_le h (Nat.pow_le_pow_right (by decide) hl)
theorem rm_lt.mul {v w : Int} {k l : Nat} (h : rm_lt v k) (h2 : rm_lt w l) : rm_lt (v * w) (k + l) := by
  unfold rm_lt at *
  rw [Int.natAbs_mul, Nat.pow_add]
  exact Nat.mul_lt_mul'' h h2
theorem rm_lt.add {v w : Int} {k : Nat} (h : rm_lt v k) (h2 : rm_lt w k) : rm_lt (v + w) (k + 1) := by
  unfold rm_lt at *
  rw [Nat.pow_succ]
  have : 0 < rm_B ^ k := Nat.pow_pos (by decide)
  show _ < rm_B ^ k * 4294967296
  omega
theorem rm_lt.sub {v w : Int} {k : Nat} (h : rm_lt v k) (h2 : rm_lt w k) : rm_lt (v - w) (k + 1) := by
  unfold rm_lt at *
  rw [Nat.pow_succ]
  have : 0 < rm_B ^ k := Nat.pow_pos (by decide)
  show _ < rm_B ^ k * 4294967296
  omega
theorem rm_lt.neg {v : Int} {k : Nat} (h : rm_lt v k) : rm_lt (-v) k := by unfold rm_lt at *; omega
theorem rm_lt.div {v g : Int} {k : Nat} (h : rm_lt v k) (hd : g ∣ v) : rm_lt (v / g) k := by
  unfold rm_lt at *
  by_cases hg : g = 0
  · subst hg; rw [Int.ediv_zero]; exact Nat.lt_of_le_of_lt (Nat.zero_le _) h
  · obtain ⟨c, rfl⟩ := hd
    rw [Int.mul_ediv_cancel_left _ hg]
    refine Nat.lt_of_le_of_lt ?_ h
    rw [Int.natAbs_mul]
    exact Nat.le_mul_of_pos_left _ (by omega)
theorem rm_lt_small {v : Int} (h : v.natAbs < 4294967296) : rm_lt v 1 := by unfold rm_lt; rw [Nat.pow_one]; exact h
theorem rm_lt_zero {k : Nat} : rm_lt 0 k := by unfold rm_lt; exact Nat.pow_pos (by decide)
theorem rm_lt_one {k : Nat} (h : 0 < k) : rm_lt 1 k := (rm_lt_small (by decide)).mono h
theorem rm_V.lt {S L G : Nat → Int32} {V : Nat → Int} (h : rm_V S L G V) {a : Nat} (ha : a < 420) (h7 : a ≠ 387) : rm_lt (V a) (rm_cap a) := by
  obtain ⟨n, a1, a2, a3, a4, a5⟩ := h a ha h7
  unfold rm_lt; rw [a5]
  exact Nat.lt_of_lt_of_le (rm_D_lt S a n) (Nat.pow_le_pow_right (by decide) a1)
section
variable {m aS aL aG aN aB : Nat} {M : rg_M}
theorem rm_isV (H : rm_F m aS aL aG aN aB M) {c : Nat} (hc : c < 420) {S L G : Nat → Int32} {V : Nat → Int} (hV : rm_V S L G V) (v : Int64) : ∃ S' L' G', rM_is m (nI c) v (rm_w aS aL aG M S L G) = some (rm_w aS aL aG M S' L' G') ∧ rm_V S' L' G' (va_up V c v.toInt) := by
  obtain ⟨S', L', G', t1, t2, t3⟩ := rm_is H hc S L G v
  exact ⟨S', L', G', t1, hV.up t2 t3⟩
theorem rm_copyV (H : rm_F m aS aL aG aN aB M) {a c : Nat} (ha : a < 420) (h7 : a ≠ 387) (hc : c < 420) {S L G : Nat → Int32} {V : Nat → Int} (hV : rm_V S L G V) (hb : rm_lt (V a) (rm_cap c)) : ∃ S' L' G', rM_copy m (nI a) (nI c) (rm_w aS aL aG M S L G) = some (rm_w aS aL aG M S' L' G') ∧ rm_V S' L' G' (va_up V c (V a)) := by
  obtain ⟨S', L', G', t1, t2, t3⟩ := rm_copy H ha hc (hV a ha h7) hb
  exact ⟨S', L', G', t1, hV.up t2 t3⟩
theorem rm_plusV (H : rm_F m aS aL aG aN aB M) {a b c : Nat} (ha : a < 420) (ha7 : a ≠ 387) (hb : b < 420) (hb7 : b ≠ 387) (hc : c < 420) {S L G : Nat → Int32} {V : Nat → Int} (hV : rm_V S L G V) (hA : rm_lt (V a) (rm_cap c - 1)) (hB : rm_lt (V b) (rm_cap c - 1)) : ∃ S' L' G', rM_plus m (nI a) (nI b) (nI c) (rm_w aS aL aG M S L G) = some (rm_w aS aL aG M S' L' G') ∧ rm_V S' L' G' (va_up V c (V a + V b)) := by
  obtain ⟨S', L', G', t1, t2, t3⟩ := rm_plus H ha hb hc (hV a ha ha7) (hV b hb hb7) hA hB
  exact ⟨S', L', G', t1, hV.up t2 t3⟩
theorem rm_minusV (H : rm_F m aS aL aG aN aB M) {a b c : Nat} (ha : a < 420) (ha7 : a ≠ 387) (hb : b < 420) (hb7 : b ≠ 387) (hc : c < 420) {S L G : Nat → Int32} {V : Nat → Int} (hV : rm_V S L G V) (hA : rm_lt (V a) (rm_cap c - 1)) (hB : rm_lt (V b) (rm_cap c - 1)) : ∃ S' L' G', rM_minus m (nI a) (nI b) (nI c) (rm_w aS aL aG M S L G) = some (rm_w aS aL aG M S' L' G') ∧ rm_V S' L' G' (va_up V c (V a - V b)) := by
  obtain ⟨S', L', G', t1, t2, t3⟩ := rm_minus H ha hb hc (hV a ha ha7) (hV b hb hb7) hA hB
  exact ⟨S', L', G', t1, hV.up t2 t3⟩
theorem rm_mulV (H : rm_F m aS aL aG aN aB M) {a b c ka kb : Nat} (ha : a < 420) (ha7 : a ≠ 387) (hb : b < 420) (hb7 : b ≠ 387) (hc : c < 420) (hac : a ≠ c) (hbc : b ≠ c) {S L G : Nat → Int32} {V : Nat → Int} (hV : rm_V S L G V) (hA : rm_lt (V a) ka) (hB : rm_lt (V b) kb) (hk : ka + kb ≤ rm_cap c) : ∃ S' L' G', rM_multiply m (nI a) (nI b) (nI c) (rm_w aS aL aG M S L G) = some (rm_w aS aL aG M S' L' G') ∧ rm_V S' L' G' (va_up V c (V a * V b)) := by
  obtain ⟨S', L', G', t1, t2, t3⟩ := rm_mul H ha hb hc hac hbc (hV a ha ha7) (hV b hb hb7) hA hB hk
  exact ⟨S', L', G', t1, hV.up t2 t3⟩
theorem rm_scaleV (H : rm_F m aS aL aG aN aB M) {a k : Nat} (ha : a < 420) (h7 : a ≠ 387) (ha1 : a ≠ 416) (ha2 : a ≠ 417) {S L G : Nat → Int32} {V : Nat → Int} (hV : rm_V S L G V) (v : Int64) (hA : rm_lt (V a) k) (hk : k + 2 ≤ rm_cap a) : ∃ S' L' G', rM_scale m (nI a) v (rm_w aS aL aG M S L G) = some (rm_w aS aL aG M S' L' G') ∧ rm_V S' L' G' (va_up (va_up (va_up V 417 v.toInt) 416 (V a * v.toInt)) a (V a * v.toInt)) := by
  obtain ⟨S1, L1, G1, t1, t2⟩ := rm_isV H (c := 417) (by omega) hV v
  have hv2 : rm_lt v.toInt 2 := by
    have := fb_rngL v
    show _ < 18446744073709551616
    omega
  have c3 := rm_cap_le a
  have e1 : va_up V 417 v.toInt a = V a := rg_up_ne ha2
  have e2 : va_up V 417 v.toInt 417 = v.toInt := rg_up_eq
  obtain ⟨S2, L2, G2, u1, u2⟩ := rm_mulV H (a := a) (b := 417) (c := 416) (ka := k) (kb := 2) ha h7 (by omega) (by omega) (by omega) ha1 (by omega) t2 (by rw [e1]; exact hA) (by rw [e2]; exact hv2) (by show _ ≤ 4200; omega)
  rw [e1, e2] at u2
  have e3 : va_up (va_up V 417 v.toInt) 416 (V a * v.toInt) 416 = V a * v.toInt := rg_up_eq
  obtain ⟨S3, L3, G3, w1, w2⟩ := rm_copyV H (a := 416) (c := a) (by omega) (by omega) ha u2 (by rw [e3]; exact (hA.mul hv2).mono hk)
  rw [e3] at w2
  rw [rM_scale_u, rM_scale_e]
  have hK := H.1
  have t1 : rM_is m 417 v (rm_w aS aL aG M S L G) = _ := t1
  have u1 : rM_multiply m (nI a) 417 416 (rm_w aS aL aG M S1 L1 G1) = _ := u1
  have w1 : rM_copy m 416 (nI a) (rm_w aS aL aG M S2 L2 G2) = _ := w1
  simp only [rm_wK, hK, if_true, t1, u1, w1, Option.bind_some]
  exact ⟨S3, L3, G3, rfl, w2⟩
theorem rm_negV {a : Nat} {S L G : Nat → Int32} {V : Nat → Int} (ha : a < 420) (h7 : a ≠ 387) (hV : rm_V S L G V) : rm_V S L (upd G a (-(G a))) (va_up V a (-(V a))) := by
  refine hV.up (hV a ha h7).neg (fun q hq => ⟨rfl, pk_un hq, fun _ _ => rfl⟩)
theorem rm_divisorV (H : rm_F m aS aL aG aN aB M) {a b : Nat} (ha : a < 420) (hb : b < 420) (ha1 : a ≠ 386) (ha2 : a ≠ 387) (hb1 : b ≠ 386) (hb2 : b ≠ 387) {S L G : Nat → Int32} {V : Nat → Int} (hV : rm_V S L G V) (h0a : V a ≠ 0) (h0b : V b ≠ 0) : ∃ t g S' L' G', rM_divisor m (nI a) (nI b) (rm_w aS aL aG M S L G) = some (nI t, (rm_w aS aL aG M S' L' G')) ∧ rm_V S' L' G' (va_up V 386 ((g : Nat) : Int)) ∧ g % 2 = 1 ∧ g * 2 ^ t = Nat.gcd (V a).natAbs (V b).natAbs ∧ t < 134400 := by
  obtain ⟨t, g, S', L', G', t1, t2, t3, t4, t5, t6⟩ := rm_divisor H ha hb ha1 ha2 hb1 hb2 (hV a ha ha2) (hV b hb hb2) h0a h0b
  refine ⟨t, g, S', L', G', t1, fun q hq h7 => ?_, t3, t4, t5⟩
  by_cases e : q = 386
  · subst e; rw [rg_up_eq]; exact t2
  · rw [rg_up_ne e]; exact (hV q hq h7).same (t6 q e h7)
theorem rm_withoutV (H : rm_F m aS aL aG aN aB M) {a t g : Nat} (ha : a < 420) (ha1 : a ≠ 386) (h7 : a ≠ 387) {S L G : Nat → Int32} {V : Nat → Int} {z : Int} (hV : rm_V S L G V) (hg : V 386 = (g : Int)) (hodd : g % 2 = 1) (ht : t < 134400) (hz : V a = z * ((g * 2 ^ t : Nat) : Int)) : ∃ S' L' G', rM_without m (nI a) (nI t) (rm_w aS aL aG M S L G) = some (rm_w aS aL aG M S' L' G') ∧ rm_V S' L' G' (va_up V a z) := by
  obtain ⟨S', L', G', t1, t2, t3⟩ := rm_without H ha ha1 (hV a ha h7) (hg ▸ hV 386 (by omega) (by omega)) hodd ht hz
  exact ⟨S', L', G', t1, hV.up t2 t3⟩
theorem rm_rightV (H : rm_F m aS aL aG aN aB M) {a y : Nat} (ha : a < 420) (h7 : a ≠ 387) {S L G : Nat → Int32} {V : Nat → Int} {w : Int} (hV : rm_V S L G V) (h0 : V a ≠ 0) (hw : V a = w * 2 ^ y) (hy : y < 134400) : ∃ S' L' G', rM_right m (nI a) (nI y) (rm_w aS aL aG M S L G) = some (rm_w aS aL aG M S' L' G') ∧ rm_V S' L' G' (va_up V a w) := by
  obtain ⟨S', L', G', t1, t2, t3⟩ := rm_right H ha (hV a ha h7) h0 hw hy
  exact ⟨S', L', G', t1, hV.up t2 t3⟩
theorem rm_lowerV (H : rm_F m aS aL aG aN aB M) {n d : Nat} (hn : n < 420) (hd : d < 420) (hnd : n ≠ d) (hn1 : n ≠ 386) (hn2 : n ≠ 387) (hd1 : d ≠ 386) (hd2 : d ≠ 387) {S L G : Nat → Int32} {V : Nat → Int} (hV : rm_V S L G V) (hy0 : 0 < V d) : ∃ g S' L' G', rM_lower m (nI n) (nI d) (rm_w aS aL aG M S L G) = some (rm_w aS aL aG M S' L' G') ∧ rm_V S' L' G' (va_up (va_up (va_up V 386 g) n (V n / (Int.gcd (V n) (V d) : Int))) d (V d / (Int.gcd (V n) (V d) : Int))) := by
  have H0 := H
  obtain ⟨hK, hS, hL, hG, -, -, kS, kL, kG, -, -, lS, lL, lG, -, -, d1, d2, d3, -⟩ := H
  have ca_n := nI_clamp (n := n) (by omega)
  have ia_n := rm_i0 (a := n) (by omega)
  have ca_d := nI_clamp (n := d) (by omega)
  have ia_d := rm_i0 (a := d) (by omega)
  rw [rM_lower_u, rM_lower_e]
  by_cases h0 : V n = 0
  · have e0 : L n = 0 := (hV n hn hn2).zero.mp h0
    obtain ⟨S1, L1, G1, t1, t2⟩ := rm_isV H0 hd hV 1
    simp only [rm_wK, rm_wR, rm_wL, rm_wI, hK, hS, hL, hG, kS, kL, kG, lS, lL, lG, if_true, Option.bind_some, and_self, rm_rS, rm_rL d1, rm_rG d2 d3, rm_wS, rm_wLL d1, rm_wG d2 d3, ca_n, ia_n, hn, e0, t1]
    have ey : V d / (Int.gcd (V n) (V d) : Int) = 1 := by
      rw [h0, Int.gcd_zero_left, Int.ofNat_natAbs_of_nonneg (by omega)]
      exact Int.ediv_self (by omega)
    refine ⟨V 386, S1, L1, G1, rfl, fun q hq h7 => ?_⟩
    have := t2 q hq h7
    rw [ey]
    by_cases e1 : q = d
    · subst e1; rw [rg_up_eq]; rw [rg_up_eq] at this; exact this
    · rw [rg_up_ne e1] at this ⊢
      by_cases e2 : q = n
      · subst e2; rw [rg_up_eq, h0, Int.zero_ediv, ← h0]; exact this
      · rw [rg_up_ne e2]
        by_cases e3 : q = 386
        · subst e3; rw [rg_up_eq]; exact this
        · rw [rg_up_ne e3]; exact this
  · have e0 : ¬ L n = 0 := fun e => h0 ((hV n hn hn2).zero.mpr e)
    obtain ⟨t, g, S1, L1, G1, t1, t2, t3, t4, t5⟩ := rm_divisorV H0 hn hd hn1 hn2 hd1 hd2 hV h0 (by omega)
    have hgx : ((g * 2 ^ t : Nat) : Int) ∣ V n := by rw [t4]; exact Int.gcd_dvd_left (V n) (V d)
    have hgy : ((g * 2 ^ t : Nat) : Int) ∣ V d := by rw [t4]; exact Int.gcd_dvd_right (V n) (V d)
    have hgg : ((g * 2 ^ t : Nat) : Int) = (Int.gcd (V n) (V d) : Int) := by rw [t4]; rfl
    obtain ⟨S2, L2, G2, u1, u2⟩ := rm_withoutV H0 hn hn1 hn2 t2 rg_up_eq t3 t5 (z := V n / ((g * 2 ^ t : Nat) : Int)) (by rw [rg_up_ne hn1]; exact (Int.ediv_mul_cancel hgx).symm)
    obtain ⟨S3, L3, G3, w1, w2⟩ := rm_withoutV H0 hd hd1 hd2 u2 (by rw [rg_up_ne (Ne.symm hn1)]; exact rg_up_eq) t3 t5 (z := V d / ((g * 2 ^ t : Nat) : Int)) (by rw [rg_up_ne (Ne.symm hnd), rg_up_ne hd1]; exact (Int.ediv_mul_cancel hgy).symm)
    simp only [rm_wK, rm_wR, rm_wL, rm_wI, hK, hS, hL, hG, kS, kL, kG, lS, lL, lG, if_true, Option.bind_some, and_self, rm_rS, rm_rL d1, rm_rG d2 d3, rm_wS, rm_wLL d1, rm_wG d2 d3, ca_n, ia_n, hn, e0, if_false, t1, u1, w1]
    rw [hgg] at w2
    exact ⟨_, S3, L3, G3, rfl, w2⟩
end

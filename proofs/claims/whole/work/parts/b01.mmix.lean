/-! THE REFERENCE AGAINST THE STATE: fractions of registers, the mix, adds, sums, stands -/
def qv (n d : Int) : Rat := (n : Rat) / (d : Rat)
theorem qc_ne {d : Int} (h : 0 < d) : ((d : Int) : Rat) ≠ 0 := fun e => by
  have : (0 : Rat) < (d : Rat) := Rat.intCast_pos.mpr h
  rw [e] at this; exact absurd this (by decide)
theorem qv_mul {n d : Int} (h : 0 < d) : qv n d * (d : Rat) = (n : Rat) := by unfold qv; exact Rat.div_mul_cancel (qc_ne h)
theorem qv_eq {x : Rat} {n d : Int} (h : 0 < d) (e : x * (d : Rat) = (n : Rat)) : x = qv n d := by unfold qv; rw [← e, Rat.mul_div_cancel (qc_ne h)]
theorem qv_add {a b c d : Int} (hb : 0 < b) (hd : 0 < d) : qv a b + qv c d = qv (a * d + c * b) (b * d) := by
  refine qv_eq (Int.mul_pos hb hd) ?_
  have e1 := qv_mul (n := a) hb
  have e2 := qv_mul (n := c) hd
  rw [Rat.intCast_add, Rat.intCast_mul, Rat.intCast_mul, Rat.intCast_mul, ← e1, ← e2]
  grind
theorem qv_mulq {a b c d : Int} (hb : 0 < b) (hd : 0 < d) : qv a b * qv c d = qv (a * c) (b * d) := by
  refine qv_eq (Int.mul_pos hb hd) ?_
  have e1 := qv_mul (n := a) hb
  have e2 := qv_mul (n := c) hd
  rw [Rat.intCast_mul, Rat.intCast_mul, ← e1, ← e2]
  grind
theorem qv_nd (x : Rat) : qv x.num (x.den : Int) = x := (qv_eq (q_den x) (q_ndI x).symm).symm
theorem qv_1 (n : Int) : qv n 1 = (n : Rat) := by
  have := qv_mul (n := n) (d := 1) (by decide)
  rw [Rat.intCast_one, Rat.mul_one] at this; exact this
theorem low_uni {n d : Int} (h : 0 < d) : n / (Int.gcd n d : Int) = (qv n d).num ∧ d / (Int.gcd n d : Int) = ((qv n d).den : Int) := by
  have hg : 0 < Int.gcd n d := Int.gcd_pos_of_ne_zero_right _ (by omega)
  have h1 : (Int.gcd n d : Int) ∣ n := Int.gcd_dvd_left _ _
  have h2 : (Int.gcd n d : Int) ∣ d := Int.gcd_dvd_right _ _
  have hd : 0 < d / (Int.gcd n d : Int) := Int.ediv_pos_of_pos_of_dvd h (by omega) h2
  have hr : ((Int.gcd n d : Int) : Rat) ≠ 0 := qc_ne (by omega)
  have e1 : n / (Int.gcd n d : Int) * (Int.gcd n d : Int) = n := Int.ediv_mul_cancel h1
  have e2 : d / (Int.gcd n d : Int) * (Int.gcd n d : Int) = d := Int.ediv_mul_cancel h2
  have hu := q_uni (q := qv n d) hd (Int.gcd_ediv_gcd_ediv_gcd hg) (by
    have e3 := qv_mul (n := n) h
    refine q_cancel hr ?_
    rw [Rat.mul_comm, ← Rat.intCast_mul, e1, ← e3]
    have e4 : ((d : Int) : Rat) = ((d / (Int.gcd n d : Int) : Int) : Rat) * ((Int.gcd n d : Int) : Rat) := by rw [← Rat.intCast_mul, e2]
    rw [e4]
    generalize ((d / (Int.gcd n d : Int) : Int) : Rat) = A
    generalize ((Int.gcd n d : Int) : Rat) = B
    grind)
  exact ⟨hu.1.symm, hu.2.symm⟩
theorem si_qs (u : Nat → Int) : ∀ n, ((fb_si u n : Int) : Rat) = qs (fun w => ((u w : Int) : Rat)) n
  | 0 => rfl
  | n + 1 => by rw [fb_si_succ, Rat.intCast_add, si_qs u n, qs_s]
/-- the product of all denominators of what is above 0 -/
def wg_PP (x y : Nat → Int) : Nat → Int
  | 0 => 1
  | k + 1 => if 0 < x k then wg_PP x y k * y k else wg_PP x y k
theorem wg_PP_pos {x y : Nat → Int} : ∀ {k : Nat}, (∀ v, v < k → 0 < y v) → 0 < wg_PP x y k
  | 0, _ => (by decide : (0 : Int) < 1)
  | k + 1, h => by
    have := wg_PP_pos (x := x) (k := k) (fun v hv => h v (by omega))
    unfold wg_PP
    split
    · exact Int.mul_pos this (h k (by omega))
    · exact this
theorem wg_pr_PP {x y : Nat → Int} {w : Nat} (hx : 0 < x w) : ∀ k : Nat, wg_pr x y w k * (if w < k then y w else 1) = wg_PP x y k
  | 0 => by rw [if_neg (by omega)]; rfl
  | k + 1 => by
    have ih := wg_pr_PP (y := y) hx k
    unfold wg_pr wg_PP
    by_cases e : k = w
    · subst e
      rw [if_pos (Or.inl rfl), if_pos hx, if_pos (by omega)]
      rw [if_neg (by omega), Int.mul_one] at ih
      rw [ih]
    · by_cases e2 : 0 < x k
      · rw [if_neg (by omega), if_pos e2, ← ih]
        by_cases e3 : w < k
        · rw [if_pos (by omega), if_pos e3]; grind
        · rw [if_neg (by omega), if_neg e3]; grind
      · rw [if_pos (Or.inr (by omega)), if_neg e2, ← ih]
        by_cases e3 : w < k
        · rw [if_pos (by omega), if_pos e3]
        · rw [if_neg (by omega), if_neg e3]
theorem wg_raw_q {f : Nat → Rat} {n w : Nat} (hw : w < n) (hex : ∃ v, v < n ∧ 0 < (f v).num) : ((wg_raw (fun v => (f v).num) (fun v => ((f v).den : Int)) n w : Int) : Rat) = qp (f w) * ((wg_PP (fun v => (f v).num) (fun v => ((f v).den : Int)) n : Int) : Rat) := by
  unfold wg_raw
  rw [if_pos hex]
  by_cases c : 0 < (f w).num
  · have hq : qp (f w) = f w := by unfold qp; rw [if_pos (q_pos_num.mpr c)]
    have e := wg_pr_PP (x := fun v => (f v).num) (y := fun v => ((f v).den : Int)) (w := w) c n
    rw [if_pos hw] at e
    rw [if_pos c, hq, ← e, Rat.intCast_mul, Rat.intCast_mul, q_ndI (f w)]
    generalize (f w) = A
    grind
  · have hq : qp (f w) = 0 := by unfold qp; rw [if_neg (fun h => c (q_pos_num.mp h))]
    rw [if_neg c, hq, Rat.zero_mul]; rfl
/-- the weights are the mix, times their sum -/
theorem wg_mx {f : Nat → Rat} {n : Nat} {u : Nat → Int} {C : Int} (hn : 0 < n) (hC : 0 < C) (h : ∀ w, w < n → wg_raw (fun v => (f v).num) (fun v => ((f v).den : Int)) n w = u w * C) : 0 < fb_si u n ∧ ∀ w, w < n → mx f n w * ((fb_si u n : Int) : Rat) = ((u w : Int) : Rat) := by
  have hCr := qc_ne hC
  have hCp : (0 : Rat) < (C : Rat) := Rat.intCast_pos.mpr hC
  have hsum : ((fb_si u n : Int) : Rat) * (C : Rat) = qs (fun w => ((wg_raw (fun v => (f v).num) (fun v => ((f v).den : Int)) n w : Int) : Rat)) n := by
    rw [si_qs, Rat.mul_comm, ← qs_mul]
    exact qs_cong (fun w hw => by rw [h w hw, Rat.intCast_mul, Rat.mul_comm])
  have pos : ∀ r : Rat, 0 < r → ((fb_si u n : Int) : Rat) * (C : Rat) = r → 0 < fb_si u n := fun r hr e => by
    rcases (show fb_si u n ≤ 0 ∨ 0 < fb_si u n by omega) with q | q
    · have h1 : ((fb_si u n : Int) : Rat) ≤ ((0 : Int) : Rat) := Rat.intCast_le_intCast.mpr q
      have h2 := Rat.mul_le_mul_of_nonneg_right h1 (Rat.le_of_lt hCp)
      rw [e, Rat.intCast_zero, Rat.zero_mul] at h2
      exact absurd hr (Rat.not_lt.mpr h2)
    · exact q
  by_cases hex : ∃ v, v < n ∧ 0 < (f v).num
  · have hP : (0 : Rat) < ((wg_PP (fun v => (f v).num) (fun v => ((f v).den : Int)) n : Int) : Rat) := Rat.intCast_pos.mpr (wg_PP_pos (fun v _ => q_den _))
    have hs2 : ((fb_si u n : Int) : Rat) * (C : Rat) = ((wg_PP (fun v => (f v).num) (fun v => ((f v).den : Int)) n : Int) : Rat) * mxT f n := by
      rw [hsum]
      unfold mxT
      rw [← qs_mul]
      exact qs_cong (fun w hw => by rw [wg_raw_q hw hex, Rat.mul_comm])
    have hT : 0 < mxT f n := by
      obtain ⟨v, v1, v2⟩ := hex
      have hv : 0 < f v := q_pos_num.mpr v2
      have := qs_le_one (f := fun v => qp (f v)) (w := v) (n := n) (fun k _ => qp_nonneg _) v1
      have e : qp (f v) = f v := by unfold qp; rw [if_pos hv]
      rw [e] at this
      exact Rat.not_le.mp (fun q => absurd hv (Rat.not_lt.mpr (Rat.le_trans this q)))
    have hT0 : mxT f n ≠ 0 := fun e => by rw [e] at hT; exact absurd hT (by decide)
    refine ⟨pos _ (Rat.mul_pos hP hT) hs2, fun w hw => ?_⟩
    have em : mx f n w = qp (f w) * (mxT f n)⁻¹ := by
      unfold mx qp
      rw [if_pos hT]
      by_cases c : 0 < f w
      · rw [if_pos c, if_pos c]
      · rw [if_neg c, if_neg c, Rat.zero_mul]
    have er := wg_raw_q hw hex
    rw [h w hw, Rat.intCast_mul] at er
    have ei := Rat.inv_mul_cancel _ hT0
    refine q_cancel hCr ?_
    rw [Rat.mul_comm (C : Rat) ((u w : Int) : Rat), er, em]
    generalize ((fb_si u n : Int) : Rat) = X at *
    generalize ((wg_PP (fun v => (f v).num) (fun v => ((f v).den : Int)) n : Int) : Rat) = P at *
    generalize (mxT f n)⁻¹ = I at *
    generalize mxT f n = T at *
    have : (C : Rat) * (qp (f w) * I * X) = qp (f w) * I * (X * C) := by grind
    rw [this, hs2]
    have : qp (f w) * I * (P * T) = qp (f w) * P * (I * T) := by grind
    rw [this, ei, Rat.mul_one]
  · have hr1 : ∀ w, w < n → wg_raw (fun v => (f v).num) (fun v => ((f v).den : Int)) n w = 1 := fun w _ => by unfold wg_raw; rw [if_neg hex]
    have hT0 : ¬ 0 < mxT f n := fun q => by
      have : mxT f n = qs (fun _ => (0 : Rat)) n := qs_cong (fun k hk => by
        unfold qp
        rw [if_neg (fun c => hex ⟨k, hk, q_pos_num.mp c⟩)])
      rw [this, qs_const, Rat.mul_zero] at q
      exact absurd q (by decide)
    have hs2 : ((fb_si u n : Int) : Rat) * (C : Rat) = ((n : Nat) : Rat) := by
      rw [hsum]
      have : qs (fun w => ((wg_raw (fun v => (f v).num) (fun v => ((f v).den : Int)) n w : Int) : Rat)) n = qs (fun _ => (1 : Rat)) n := qs_cong (fun w hw => by rw [hr1 w hw]; rfl)
      rw [this, qs_const, Rat.mul_one]
    have hnr : (0 : Rat) < ((n : Nat) : Rat) := Rat.natCast_pos.mpr hn
    have hz : ((n : Nat) : Rat) ≠ 0 := fun e => by rw [e] at hnr; exact absurd hnr (by decide)
    refine ⟨pos _ hnr hs2, fun w hw => ?_⟩
    have er := hr1 w hw
    rw [h w hw] at er
    have er : ((u w : Int) : Rat) * (C : Rat) = 1 := by rw [← Rat.intCast_mul, er, Rat.intCast_one]
    refine q_cancel hCr ?_
    rw [Rat.mul_comm (C : Rat) ((u w : Int) : Rat), er]
    unfold mx
    rw [if_neg hT0]
    have : (C : Rat) * (((1 : Int) : Rat) / ((n : Nat) : Rat) * ((fb_si u n : Int) : Rat)) = ((1 : Int) : Rat) / ((n : Nat) : Rat) * (((fb_si u n : Int) : Rat) * (C : Rat)) := by grind
    rw [this, hs2, Rat.div_mul_cancel hz, Rat.intCast_one]
theorem si_lt {u : Nat → Int} {k : Nat} : ∀ {n : Nat}, (∀ w, w < n → rm_lt (u w) k) → (fb_si u n).natAbs ≤ n * rm_B ^ k
  | 0, _ => by show (0 : Int).natAbs ≤ _; exact Nat.zero_le _
  | n + 1, h => by
    have ih := si_lt (n := n) (fun w hw => h w (by omega))
    have := h n (by omega)
    unfold rm_lt at this
    rw [fb_si_succ, Nat.add_mul, Nat.one_mul]
    omega
theorem si_lt1 {u : Nat → Int} {k n : Nat} (hn : n ≤ 5) (h : ∀ w, w < n → rm_lt (u w) k) : rm_lt (fb_si u n) (k + 1) := by
  unfold rm_lt
  refine Nat.lt_of_le_of_lt (si_lt h) ?_
  rw [Nat.pow_succ, Nat.mul_comm]
  exact Nat.mul_lt_mul_of_pos_left (show n < 4294967296 by omega) (Nat.pow_pos (by decide))
theorem raw_ltn {x y : Nat → Int} {n w : Nat} (hw : w < n) (hx8 : ∀ v, v < n → rm_lt (x v) 8) (hy8 : ∀ v, v < n → rm_lt (y v) 8) : rm_lt (wg_raw x y n w) (8 * n + 1) := by
  unfold wg_raw
  split
  · split
    · refine ((hx8 w hw).mul (wg_pr_lt (x := x) (w := w) (k := n) hy8)).mono ?_
      rw [if_pos hw]; omega
    · exact rm_lt_zero
  · exact rm_lt_one (by omega)
theorem qB_lt8 {x : Rat} (h : qB x ≤ 256) : rm_lt x.num 8 ∧ rm_lt (x.den : Int) 8 := by
  unfold qB at h
  exact ⟨rm_lt_bits (by omega), rm_lt_bits (by rw [Int.natAbs_natCast]; omega)⟩
section
variable {m aS aL aG aN aB : Nat} {M : rg_M}
/-- weigh: the mix of f, times a sum above 0 -/
theorem rm_weighM (H : rm_F m aS aL aG aN aB M) {g r c p o : Nat} (hg : rg_I M 115 m = nI g) (hr : rg_I M 116 m = nI r) (hc : rg_I M 117 m = nI c) (h1 : g < 3) (hp : p < 20) (hn0 : 0 < rm_wy g r c p) (hn : rm_wy g r c p ≤ 5) (hsl : ∀ w, w < rm_wy g r c p → rm_sl g p w < 40) (ho : o = 0 ∨ o = 80) {S L G : Nat → Int32} {V : Nat → Int} {f : Nat → Rat} (hV : rm_V S L G V) (hf : ∀ v, v < rm_wy g r c p → V (o + rm_sl g p v) = (f v).num ∧ V (o + 40 + rm_sl g p v) = ((f v).den : Int) ∧ qB (f v) ≤ 256) :
    ∃ (S' L' G' : Nat → Int32) (V' : Nat → Int), rM_weigh m (nI p) (nI o) (rm_w aS aL aG M S L G) = some (rm_w aS aL aG M S' L' G') ∧ rm_V S' L' G' V' ∧ (∀ w, w < rm_wy g r c p → mx f (rm_wy g r c p) w * ((V' (360 + p) : Int) : Rat) = ((V' (320 + rm_sl g p w) : Int) : Rat) ∧ 0 ≤ V' (320 + rm_sl g p w) ∧ rm_lt (V' (320 + rm_sl g p w)) (8 * rm_wy g r c p + 1)) ∧ 0 < V' (360 + p) ∧ rm_lt (V' (360 + p)) (8 * rm_wy g r c p + 2) ∧ ∀ q, (∀ w, w < rm_wy g r c p → q ≠ 320 + rm_sl g p w) → q ≠ 360 + p → q ≠ 386 → q ≠ 389 → q ≠ 390 → V' q = V q := by
  obtain ⟨C, u, S', L', G', V', a1, a2, a3, a4, a5, a6⟩ := rm_weighV H hg hr hc h1 hp hn hsl ho (x := fun v => (f v).num) (y := fun v => ((f v).den : Int)) hV (fun v hv => ⟨(hf v hv).1, (hf v hv).2.1⟩) (fun v hv => (qB_lt8 (hf v hv).2.2).1) (fun v hv => (qB_lt8 (hf v hv).2.2).2) (fun v hv => q_den _)
  obtain ⟨b1, b2⟩ := wg_mx (f := f) hn0 a3 (fun w hw => (a4 w hw).2.1)
  have hl : ∀ w, w < rm_wy g r c p → rm_lt (u w) (8 * rm_wy g r c p + 1) := fun w hw => by
    have h2 := raw_ltn hw (x := fun v => (f v).num) (y := fun v => ((f v).den : Int)) (fun v hv => (qB_lt8 (hf v hv).2.2).1) (fun v hv => (qB_lt8 (hf v hv).2.2).2)
    rw [(a4 w hw).2.1] at h2
    unfold rm_lt at *
    rw [Int.natAbs_mul] at h2
    exact Nat.lt_of_le_of_lt (Nat.le_mul_of_pos_right _ (by omega)) h2
  refine ⟨S', L', G', V', a1, a2, fun w hw => ⟨?_, ?_, ?_⟩, by rw [a5]; exact b1, by rw [a5]; exact si_lt1 hn hl, a6⟩
  · rw [a5, (a4 w hw).1]; exact b2 w hw
  · rw [(a4 w hw).1]; exact (a4 w hw).2.2.1
  · rw [(a4 w hw).1]; exact hl w hw
/-- adds: the sum in lowest terms, if it isn't great -/
theorem rm_addsM (H : rm_F m aS aL aG aN aB M) {o s k : Nat} (ho : o = 0 ∨ o = 80) (hs : s < 40) {S L G : Nat → Int32} {V : Nat → Int} (hV : rm_V S L G V) {x : Rat} (hx1 : V (o + s) = x.num) (hx2 : V (o + 40 + s) = (x.den : Int)) (hxB : qB x ≤ 256) (hDN : rm_lt (V 407) k) (hDD : rm_lt (V 408) k) (hDD0 : 0 < V 408) (hk : k ≤ 4000) :
    ∃ (S' L' G' : Nat → Int32) (V' : Nat → Int), rM_adds m (nI o) (nI s) (rm_w aS aL aG M S L G) = some (if qB (x + qv (V 407) (V 408)) ≤ 256 then 1 else 0, (rm_w aS aL aG M S' L' G')) ∧ rm_V S' L' G' V' ∧ (qB (x + qv (V 407) (V 408)) ≤ 256 → V' (160 + o + s) = (x + qv (V 407) (V 408)).num ∧ V' (200 + o + s) = ((x + qv (V 407) (V 408)).den : Int)) ∧ ∀ q, q ≠ 160 + o + s → q ≠ 200 + o + s → q ≠ 386 → (q < 389 ∨ 392 < q) → V' q = V q := by
  have h8 := qB_lt8 hxB
  have hd := q_den x
  obtain ⟨a, b, S', L', G', V', e1, e2, a1, a2, a3, a4⟩ := rm_addsV H ho hs hV (k := k) (by rw [hx1]; exact h8.1) (by rw [hx2]; exact h8.2) (by rw [hx2]; exact hd) hDN hDD hDD0 hk
  rw [hx1, hx2] at e1 e2
  have ev : x + qv (V 407) (V 408) = qv (x.num * V 408 + (x.den : Int) * V 407) ((x.den : Int) * V 408) := by
    conv => lhs; rw [← qv_nd x]
    rw [qv_add hd hDD0, Int.mul_comm (V 407)]
  obtain ⟨l1, l2⟩ := low_uni (n := x.num * V 408 + (x.den : Int) * V 407) (d := (x.den : Int) * V 408) (Int.mul_pos hd hDD0)
  rw [← ev] at l1 l2
  rw [l1] at e1
  rw [l2] at e2
  have eB : (rm_bits a.natAbs ≤ 256 ∧ rm_bits b.natAbs ≤ 256) ↔ qB (x + qv (V 407) (V 408)) ≤ 256 := by
    rw [e1, e2, Int.natAbs_natCast]
    unfold qB
    exact Nat.max_le.symm
  refine ⟨S', L', G', V', ?_, a2, fun q => ?_, a4⟩
  · rw [a1, rg_ip (a := (1 : Int32)) (b := 0) eB]
  · have := a3 (eB.mpr q)
    rw [e1, e2] at this
    exact this
/-- sums: the mix of a place, times Y3 / Y4, goes to its sums -/
theorem rm_sums4 (H : rm_F m aS aL aG aN aB M) {g r c p k : Nat} (hg : rg_I M 115 m = nI g) (hr : rg_I M 116 m = nI r) (hc : rg_I M 117 m = nI c) (h1 : g < 3) (hp : p < 20) (hn : rm_wy g r c p ≤ 5) (hsl : ∀ w, w < rm_wy g r c p → rm_sl g p w < 40) (hinj : ∀ w w', rm_sl g p w = rm_sl g p w' → w = w') {z : Nat → Rat} {u : Nat → Int} {T a b : Int} (hT : 0 < T) (hb : 0 < b) (hlu : ∀ w, w < rm_wy g r c p → rm_lt (u w) k) (hlT : rm_lt T k) (hla : rm_lt a k) (hlb : rm_lt b k) (hk : k ≤ 2000) (hz : ∀ w, w < rm_wy g r c p → qB (z w) ≤ 256) : ∀ d j : Nat, rm_wy g r c p - j = d → j ≤ rm_wy g r c p → ∀ (S L G : Nat → Int32) (V : Nat → Int), rm_V S L G V → (∀ w, w < rm_wy g r c p → V (80 + rm_sl g p w) = (z w).num ∧ V (120 + rm_sl g p w) = ((z w).den : Int) ∧ V (320 + rm_sl g p w) = u w) → V (360 + p) = T → V 395 = a → V 396 = b → (∀ w, w < j → qB (z w + qv (u w * a) (T * b)) ≤ 256 ∧ V (240 + rm_sl g p w) = (z w + qv (u w * a) (T * b)).num ∧ V (280 + rm_sl g p w) = ((z w + qv (u w * a) (T * b)).den : Int)) →
    ∃ (S' L' G' : Nat → Int32) (V' : Nat → Int) (f : Int32), rM_sums_4 m (nI p) 1 (nI j) (rm_w aS aL aG M S L G) = some (some (.int f), rm_w aS aL aG M S' L' G') ∧ rm_V S' L' G' V' ∧ (∀ q, (∀ w, w < rm_wy g r c p → q ≠ 240 + rm_sl g p w ∧ q ≠ 280 + rm_sl g p w) → q ≠ 386 → (q < 389 ∨ 392 < q) → q ≠ 407 → q ≠ 408 → V' q = V q) ∧ ((f = 1 ∧ ∀ w, w < rm_wy g r c p → qB (z w + qv (u w * a) (T * b)) ≤ 256 ∧ V' (240 + rm_sl g p w) = (z w + qv (u w * a) (T * b)).num ∧ V' (280 + rm_sl g p w) = ((z w + qv (u w * a) (T * b)).den : Int)) ∨ (f = 0 ∧ ∃ w, w < rm_wy g r c p ∧ ¬ qB (z w + qv (u w * a) (T * b)) ≤ 256)) := by
  have hK := H.1
  intro d
  induction d with
  | zero =>
    intro j hd hj S L G V hV hw hTv ha hb' hdone
    have e : j = rm_wy g r c p := by omega
    have wy := rm_ways (m := m) (M := (rm_w aS aL aG M S L G)) hK (p := p) hg hr hc h1 (by omega)
    rw [rM_sums_4_e]
    simp only [rm_wK, hK, if_true, wy, Option.bind_some, e, Int32.le_refl, rM_sums_71_e]
    rw [if_pos (Or.inr trivial)]
    rw [e] at hdone
    exact ⟨S, L, G, V, 1, rfl, hV, fun _ _ _ _ _ _ => rfl, Or.inl ⟨rfl, hdone⟩⟩
  | succ d ih =>
    intro j hd hj S L G V hV hw hTv ha hb' hdone
    have hjn : j < rm_wy g r c p := by omega
    have hs := hsl j hjn
    have wy := rm_ways (m := m) (M := (rm_w aS aL aG M S L G)) hK (p := p) hg hr hc h1 (by omega)
    have p0 : ¬ nI (rm_wy g r c p) ≤ nI j := by rw [nI_leI (by omega) (by omega)]; omega
    have sl0 : ∀ S L G, rM_slot m (nI p) (nI j) (rm_w aS aL aG M S L G) = some (nI (rm_sl g p j), (rm_w aS aL aG M S L G)) := fun S L G => rm_slot (m := m) (M := (rm_w aS aL aG M S L G)) hK hg h1
    have ea : (320 : Int32) + nI (rm_sl g p j) = nI (320 + rm_sl g p j) := by rw [show (320 : Int32) = nI 320 from rfl, nI_add]
    have eb : (360 : Int32) + nI p = nI (360 + p) := by rw [show (360 : Int32) = nI 360 from rfl, nI_add]
    obtain ⟨w1, w2, w3⟩ := hw j hjn
    have c407 : rm_cap 407 = 4200 := by decide
    have c408 : rm_cap 408 = 4200 := by decide
    obtain ⟨S1, L1, G1, t1, t2⟩ := rm_mulV H (a := 320 + rm_sl g p j) (b := 395) (c := 407) (ka := k) (kb := k) (by omega) (by omega) (by omega) (by omega) (by omega) (by omega) (by omega) hV (by rw [w3]; exact hlu j hjn) (by rw [ha]; exact hla) (by omega)
    rw [w3, ha] at t2
    have t1 : rM_multiply m (nI (320 + rm_sl g p j)) 395 407 (rm_w aS aL aG M S L G) = _ := t1
    have eT : va_up V 407 (u j * a) (360 + p) = T := by rw [rg_up_ne (by omega)]; exact hTv
    have e96 : va_up V 407 (u j * a) 396 = b := by rw [rg_up_ne (by omega)]; exact hb'
    obtain ⟨S2, L2, G2, u1, u2⟩ := rm_mulV H (a := 360 + p) (b := 396) (c := 408) (ka := k) (kb := k) (by omega) (by omega) (by omega) (by omega) (by omega) (by omega) (by omega) t2 (by rw [eT]; exact hlT) (by rw [e96]; exact hlb) (by omega)
    rw [eT, e96] at u2
    have u1 : rM_multiply m (nI (360 + p)) 396 408 (rm_w aS aL aG M S1 L1 G1) = _ := u1
    obtain ⟨V2, hV2⟩ : ∃ V2, V2 = va_up (va_up V 407 (u j * a)) 408 (T * b) := ⟨_, rfl⟩
    rw [← hV2] at u2
    have v7 : V2 407 = u j * a := by rw [hV2, rg_up_ne (by omega), rg_up_eq]
    have v8 : V2 408 = T * b := by rw [hV2, rg_up_eq]
    have vq : ∀ q, q ≠ 407 → q ≠ 408 → V2 q = V q := fun q h7 h8 => by rw [hV2, rg_up_ne h8, rg_up_ne h7]
    obtain ⟨S3, L3, G3, V3, x1, x2, x3, x4⟩ := rm_addsM H (o := 80) (s := rm_sl g p j) (k := k + k) (Or.inr rfl) hs u2 (x := z j) (by rw [vq _ (by omega) (by omega)]; exact w1) (by rw [vq _ (by omega) (by omega)]; exact w2) (hz j hjn) (by rw [v7]; exact (hlu j hjn).mul hla) (by rw [v8]; exact hlT.mul hlb) (by rw [v8]; exact Int.mul_pos hT hb) (by omega)
    have x1 : rM_adds m 80 (nI (rm_sl g p j)) (rm_w aS aL aG M S2 L2 G2) = _ := x1
    rw [v7, v8] at x1 x3
    rw [rM_sums_4_e]
    simp only [rm_wK, hK, if_true, wy, Option.bind_some, p0, if_false, sl0, ea, eb, t1, u1, x1, show ¬ ((1 : Int32) = 0) by decide, nI_1]
    have f3 : ∀ q, q ≠ 240 + rm_sl g p j → q ≠ 280 + rm_sl g p j → q ≠ 386 → (q < 389 ∨ 392 < q) → q ≠ 407 → q ≠ 408 → V3 q = V q := fun q a1 a2 a3 a4 a5 a6 => by rw [x4 q (by omega) (by omega) a3 a4, vq q a5 a6]
    by_cases cB : qB (z j + qv (u j * a) (T * b)) ≤ 256
    · rw [if_pos cB]
      have hx3 := x3 cB
      obtain ⟨S', L', G', V', f, y1, y2, y3, y4⟩ := ih (j + 1) (by omega) (by omega) S3 L3 G3 V3 x2 (fun w hw' => by
        have := hsl w hw'
        rw [f3 _ (by omega) (by omega) (by omega) (by omega) (by omega) (by omega), f3 _ (by omega) (by omega) (by omega) (by omega) (by omega) (by omega), f3 _ (by omega) (by omega) (by omega) (by omega) (by omega) (by omega)]; exact hw w hw') (by rw [f3 _ (by omega) (by omega) (by omega) (by omega) (by omega) (by omega)]; exact hTv) (by rw [f3 _ (by omega) (by omega) (by omega) (by omega) (by omega) (by omega)]; exact ha) (by rw [f3 _ (by omega) (by omega) (by omega) (by omega) (by omega) (by omega)]; exact hb') (fun w hw' => by
        by_cases e : w = j
        · subst e
          exact ⟨cB, by rw [show 240 + rm_sl g p w = 160 + 80 + rm_sl g p w by omega]; exact hx3.1, by rw [show 280 + rm_sl g p w = 200 + 80 + rm_sl g p w by omega]; exact hx3.2⟩
        · have := hsl w (by omega)
          have hne : rm_sl g p w ≠ rm_sl g p j := fun q => e (hinj w j q)
          rw [f3 _ (by omega) (by omega) (by omega) (by omega) (by omega) (by omega), f3 _ (by omega) (by omega) (by omega) (by omega) (by omega) (by omega)]
          exact hdone w (by omega))
      refine ⟨S', L', G', V', f, y1, y2, fun q a1 a2 a3 a4 a5 => ?_, y4⟩
      rw [y3 q a1 a2 a3 a4 a5, f3 q (a1 j hjn).1 (a1 j hjn).2 a2 a3 a4 a5]
    · rw [if_neg cB, rM_sums_4_e]
      have wy3 := rm_ways (m := m) (M := (rm_w aS aL aG M S3 L3 G3)) hK (p := p) hg hr hc h1 (by omega)
      simp only [rm_wK, hK, if_true, wy3, Option.bind_some, rM_sums_71_e, ite_self, true_or]
      exact ⟨S3, L3, G3, V3, 0, rfl, x2, fun q a1 a2 a3 a4 a5 => f3 q (a1 j hjn).1 (a1 j hjn).2 a2 a3 a4 a5, Or.inr ⟨rfl, j, hjn, cB⟩⟩
theorem rm_sumsM (H : rm_F m aS aL aG aN aB M) {g r c p k : Nat} (hg : rg_I M 115 m = nI g) (hr : rg_I M 116 m = nI r) (hc : rg_I M 117 m = nI c) (h1 : g < 3) (hp : p < 20) (hn : rm_wy g r c p ≤ 5) (hsl : ∀ w, w < rm_wy g r c p → rm_sl g p w < 40) {z : Nat → Rat} {u : Nat → Int} {T a b : Int} (hT : 0 < T) (hb : 0 < b) (hlu : ∀ w, w < rm_wy g r c p → rm_lt (u w) k) (hlT : rm_lt T k) (hla : rm_lt a k) (hlb : rm_lt b k) (hk : k ≤ 2000) (hz : ∀ w, w < rm_wy g r c p → qB (z w) ≤ 256) {S L G : Nat → Int32} {V : Nat → Int} (hV : rm_V S L G V) (hw : ∀ w, w < rm_wy g r c p → V (80 + rm_sl g p w) = (z w).num ∧ V (120 + rm_sl g p w) = ((z w).den : Int) ∧ V (320 + rm_sl g p w) = u w) (hTv : V (360 + p) = T) (ha : V 395 = a) (hb' : V 396 = b) :
    ∃ (S' L' G' : Nat → Int32) (V' : Nat → Int) (f : Int32), rM_sums m (nI p) (rm_w aS aL aG M S L G) = some (f, rm_w aS aL aG M S' L' G') ∧ rm_V S' L' G' V' ∧ (∀ q, (∀ w, w < rm_wy g r c p → q ≠ 240 + rm_sl g p w ∧ q ≠ 280 + rm_sl g p w) → q ≠ 386 → (q < 389 ∨ 392 < q) → q ≠ 407 → q ≠ 408 → V' q = V q) ∧ ((f = 1 ∧ ∀ w, w < rm_wy g r c p → qB (z w + qv (u w * a) (T * b)) ≤ 256 ∧ V' (240 + rm_sl g p w) = (z w + qv (u w * a) (T * b)).num ∧ V' (280 + rm_sl g p w) = ((z w + qv (u w * a) (T * b)).den : Int)) ∨ (f = 0 ∧ ∃ w, w < rm_wy g r c p ∧ ¬ qB (z w + qv (u w * a) (T * b)) ≤ 256)) := by
  obtain ⟨S', L', G', V', f, y1, y2, y3, y4⟩ := rm_sums4 H hg hr hc h1 hp hn hsl (fun w w' e => rm_sl_inj e) hT hb hlu hlT hla hlb hk hz _ 0 rfl (Nat.zero_le _) S L G V hV hw hTv ha hb' (fun w hw => by omega)
  have y1 : rM_sums_4 m (nI p) 1 0 (rm_w aS aL aG M S L G) = _ := y1
  refine ⟨S', L', G', V', f, ?_, y2, y3, y4⟩
  rw [rM_sums_u, rM_sums_e, y1]; rfl
/-- stands: what is new at a place takes the place of the old -/
theorem rm_stands2 (H : rm_F m aS aL aG aN aB M) {g r c p : Nat} (hg : rg_I M 115 m = nI g) (hr : rg_I M 116 m = nI r) (hc : rg_I M 117 m = nI c) (h1 : g < 3) (hp : p < 20) (hn : rm_wy g r c p ≤ 5) (hsl : ∀ w, w < rm_wy g r c p → rm_sl g p w < 40) (hinj : ∀ w w', rm_sl g p w = rm_sl g p w' → w = w') {x y : Nat → Rat} (hxy : ∀ w, w < rm_wy g r c p → qB (x w) ≤ 256 ∧ qB (y w) ≤ 256) : ∀ d j : Nat, rm_wy g r c p - j = d → j ≤ rm_wy g r c p → ∀ (S L G : Nat → Int32) (V : Nat → Int), rm_V S L G V → (∀ w, w < rm_wy g r c p → V (160 + rm_sl g p w) = (x w).num ∧ V (200 + rm_sl g p w) = ((x w).den : Int) ∧ V (240 + rm_sl g p w) = (y w).num ∧ V (280 + rm_sl g p w) = ((y w).den : Int)) → (∀ w, w < j → V (rm_sl g p w) = (x w).num ∧ V (40 + rm_sl g p w) = ((x w).den : Int) ∧ V (80 + rm_sl g p w) = (y w).num ∧ V (120 + rm_sl g p w) = ((y w).den : Int)) →
    ∃ (S' L' G' : Nat → Int32) (V' : Nat → Int), rM_stands_2 m (nI p) (nI j) (rm_w aS aL aG M S L G) = some (none, rm_w aS aL aG M S' L' G') ∧ rm_V S' L' G' V' ∧ (∀ w, w < rm_wy g r c p → V' (rm_sl g p w) = (x w).num ∧ V' (40 + rm_sl g p w) = ((x w).den : Int) ∧ V' (80 + rm_sl g p w) = (y w).num ∧ V' (120 + rm_sl g p w) = ((y w).den : Int)) ∧ (∀ q, (∀ w, w < rm_wy g r c p → q ≠ rm_sl g p w ∧ q ≠ 40 + rm_sl g p w ∧ q ≠ 80 + rm_sl g p w ∧ q ≠ 120 + rm_sl g p w) → V' q = V q) := by
  have hK := H.1
  intro d
  induction d with
  | zero =>
    intro j hd hj S L G V hV hw hdone
    have e : j = rm_wy g r c p := by omega
    have wy := rm_ways (m := m) (M := (rm_w aS aL aG M S L G)) hK (p := p) hg hr hc h1 (by omega)
    rw [rM_stands_2_e]
    simp only [rm_wK, hK, if_true, wy, Option.bind_some, e, Int32.le_refl]
    rw [e] at hdone
    exact ⟨S, L, G, V, rfl, hV, hdone, fun _ _ => rfl⟩
  | succ d ih =>
    intro j hd hj S L G V hV hw hdone
    have hjn : j < rm_wy g r c p := by omega
    have hs := hsl j hjn
    have wy := rm_ways (m := m) (M := (rm_w aS aL aG M S L G)) hK (p := p) hg hr hc h1 (by omega)
    have p0 : ¬ nI (rm_wy g r c p) ≤ nI j := by rw [nI_leI (by omega) (by omega)]; omega
    have sl0 := rm_slot (m := m) (M := (rm_w aS aL aG M S L G)) hK (p := p) (w := j) hg h1
    have e0 : (0 : Int32) + nI (rm_sl g p j) = nI (rm_sl g p j) := by rw [show (0 : Int32) = nI 0 from rfl, nI_add, Nat.zero_add]
    have e40 : (40 : Int32) + nI (rm_sl g p j) = nI (40 + rm_sl g p j) := by rw [show (40 : Int32) = nI 40 from rfl, nI_add]
    have e80 : (80 : Int32) + nI (rm_sl g p j) = nI (80 + rm_sl g p j) := by rw [show (80 : Int32) = nI 80 from rfl, nI_add]
    have e120 : (120 : Int32) + nI (rm_sl g p j) = nI (120 + rm_sl g p j) := by rw [show (120 : Int32) = nI 120 from rfl, nI_add]
    have e160 : (160 : Int32) + nI (rm_sl g p j) = nI (160 + rm_sl g p j) := by rw [show (160 : Int32) = nI 160 from rfl, nI_add]
    have e200 : (200 : Int32) + nI (rm_sl g p j) = nI (200 + rm_sl g p j) := by rw [show (200 : Int32) = nI 200 from rfl, nI_add]
    have e240 : (240 : Int32) + nI (rm_sl g p j) = nI (240 + rm_sl g p j) := by rw [show (240 : Int32) = nI 240 from rfl, nI_add]
    have e280 : (280 : Int32) + nI (rm_sl g p j) = nI (280 + rm_sl g p j) := by rw [show (280 : Int32) = nI 280 from rfl, nI_add]
    obtain ⟨w1, w2, w3, w4⟩ := hw j hjn
    obtain ⟨q1, q2⟩ := hxy j hjn
    have l1 := qB_lt8 q1
    have l2 := qB_lt8 q2
    have cg := fun a => rm_cap_ge a
    obtain ⟨S1, L1, G1, t1, t2⟩ := rm_copyV H (a := 160 + rm_sl g p j) (c := rm_sl g p j) (by omega) (by omega) (by omega) hV (by rw [w1]; exact l1.1.mono (by have := cg (rm_sl g p j); omega))
    rw [w1] at t2
    obtain ⟨S2, L2, G2, u1, u2⟩ := rm_copyV H (a := 200 + rm_sl g p j) (c := 40 + rm_sl g p j) (by omega) (by omega) (by omega) t2 (by rw [rg_up_ne (by omega), w2]; exact l1.2.mono (by have := cg (40 + rm_sl g p j); omega))
    rw [rg_up_ne (show 200 + rm_sl g p j ≠ rm_sl g p j by omega), w2] at u2
    obtain ⟨S3, L3, G3, v1, v2⟩ := rm_copyV H (a := 240 + rm_sl g p j) (c := 80 + rm_sl g p j) (by omega) (by omega) (by omega) u2 (by rw [rg_up_ne (by omega), rg_up_ne (by omega), w3]; exact l2.1.mono (by have := cg (80 + rm_sl g p j); omega))
    rw [rg_up_ne (show 240 + rm_sl g p j ≠ 40 + rm_sl g p j by omega), rg_up_ne (show 240 + rm_sl g p j ≠ rm_sl g p j by omega), w3] at v2
    obtain ⟨S4, L4, G4, x1, x2⟩ := rm_copyV H (a := 280 + rm_sl g p j) (c := 120 + rm_sl g p j) (by omega) (by omega) (by omega) v2 (by rw [rg_up_ne (by omega), rg_up_ne (by omega), rg_up_ne (by omega), w4]; exact l2.2.mono (by have := cg (120 + rm_sl g p j); omega))
    rw [rg_up_ne (show 280 + rm_sl g p j ≠ 80 + rm_sl g p j by omega), rg_up_ne (show 280 + rm_sl g p j ≠ 40 + rm_sl g p j by omega), rg_up_ne (show 280 + rm_sl g p j ≠ rm_sl g p j by omega), w4] at x2
    obtain ⟨V4, hV4⟩ : ∃ V4, V4 = va_up (va_up (va_up (va_up V (rm_sl g p j) (x j).num) (40 + rm_sl g p j) ((x j).den : Int)) (80 + rm_sl g p j) (y j).num) (120 + rm_sl g p j) ((y j).den : Int) := ⟨_, rfl⟩
    rw [← hV4] at x2
    have f4 : ∀ q, q ≠ rm_sl g p j → q ≠ 40 + rm_sl g p j → q ≠ 80 + rm_sl g p j → q ≠ 120 + rm_sl g p j → V4 q = V q := fun q a b c d => by rw [hV4, rg_up_ne d, rg_up_ne c, rg_up_ne b, rg_up_ne a]
    rw [rM_stands_2_e]
    simp only [rm_wK, hK, if_true, wy, Option.bind_some, p0, if_false, sl0, e0, e40, e80, e120, e160, e200, e240, e280, t1, u1, v1, x1, nI_1]
    obtain ⟨S', L', G', V', y1, y2, y3, y4⟩ := ih (j + 1) (by omega) (by omega) S4 L4 G4 V4 x2 (fun w hw' => by
      have := hsl w hw'
      rw [f4 _ (by omega) (by omega) (by omega) (by omega), f4 _ (by omega) (by omega) (by omega) (by omega), f4 _ (by omega) (by omega) (by omega) (by omega), f4 _ (by omega) (by omega) (by omega) (by omega)]; exact hw w hw') (fun w hw' => by
      by_cases e : w = j
      · subst e
        refine ⟨?_, ?_, ?_, ?_⟩
        · rw [hV4, rg_up_ne (by omega), rg_up_ne (by omega), rg_up_ne (by omega), rg_up_eq]
        · rw [hV4, rg_up_ne (by omega), rg_up_ne (by omega), rg_up_eq]
        · rw [hV4, rg_up_ne (by omega), rg_up_eq]
        · rw [hV4, rg_up_eq]
      · have := hsl w (by omega)
        have hne : rm_sl g p w ≠ rm_sl g p j := fun q => e (hinj w j q)
        rw [f4 _ (by omega) (by omega) (by omega) (by omega), f4 _ (by omega) (by omega) (by omega) (by omega), f4 _ (by omega) (by omega) (by omega) (by omega), f4 _ (by omega) (by omega) (by omega) (by omega)]
        exact hdone w (by omega))
    refine ⟨S', L', G', V', y1, y2, y3, fun q a1 => ?_⟩
    obtain ⟨b1, b2, b3, b4⟩ := a1 j hjn
    rw [y4 q a1, f4 q b1 b2 b3 b4]
theorem rm_standsM (H : rm_F m aS aL aG aN aB M) {g r c p : Nat} (hg : rg_I M 115 m = nI g) (hr : rg_I M 116 m = nI r) (hc : rg_I M 117 m = nI c) (h1 : g < 3) (hp : p < 20) (hn : rm_wy g r c p ≤ 5) (hsl : ∀ w, w < rm_wy g r c p → rm_sl g p w < 40) {x y : Nat → Rat} (hxy : ∀ w, w < rm_wy g r c p → qB (x w) ≤ 256 ∧ qB (y w) ≤ 256) {S L G : Nat → Int32} {V : Nat → Int} (hV : rm_V S L G V) (hw : ∀ w, w < rm_wy g r c p → V (160 + rm_sl g p w) = (x w).num ∧ V (200 + rm_sl g p w) = ((x w).den : Int) ∧ V (240 + rm_sl g p w) = (y w).num ∧ V (280 + rm_sl g p w) = ((y w).den : Int)) :
    ∃ (S' L' G' : Nat → Int32) (V' : Nat → Int), rM_stands m (nI p) (rm_w aS aL aG M S L G) = some (rm_w aS aL aG M S' L' G') ∧ rm_V S' L' G' V' ∧ (∀ w, w < rm_wy g r c p → V' (rm_sl g p w) = (x w).num ∧ V' (40 + rm_sl g p w) = ((x w).den : Int) ∧ V' (80 + rm_sl g p w) = (y w).num ∧ V' (120 + rm_sl g p w) = ((y w).den : Int)) ∧ (∀ q, (∀ w, w < rm_wy g r c p → q ≠ rm_sl g p w ∧ q ≠ 40 + rm_sl g p w ∧ q ≠ 80 + rm_sl g p w ∧ q ≠ 120 + rm_sl g p w) → V' q = V q) := by
  obtain ⟨S', L', G', V', y1, y2, y3, y4⟩ := rm_stands2 H hg hr hc h1 hp hn hsl (fun w w' e => rm_sl_inj e) hxy _ 0 rfl (Nat.zero_le _) S L G V hV hw (fun w hw => by omega)
  have y1 : rM_stands_2 m (nI p) 0 (rm_w aS aL aG M S L G) = _ := y1
  refine ⟨S', L', G', V', ?_, y2, y3, y4⟩
  rw [rM_stands_u, rM_stands_e, y1]; rfl
end

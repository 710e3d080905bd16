/-! the class: size, bits, times, about, bound -/
theorem qs_const (a : Rat) : ∀ n : Nat, qs (fun _ => a) n = ((n : Nat) : Rat) * a
  | 0 => by show (0 : Rat) = _; rw [show ((0 : Nat) : Rat) = 0 from rfl, Rat.zero_mul]
  | n + 1 => by rw [qs_s, qs_const a n, Rat.natCast_add, Rat.add_mul, show ((1 : Nat) : Rat) = 1 from rfl, Rat.one_mul]
theorem qs_le {f g : Nat → Rat} : ∀ {n : Nat}, (∀ k, k < n → f k ≤ g k) → qs f n ≤ qs g n
  | 0, _ => Rat.le_refl
  | n + 1, h => by rw [qs_s, qs_s]; exact q_le_add (qs_le (fun k hk => h k (by omega))) (h n (by omega))
/-- a mix adds up to 1 -/
theorem mx_sum (f : Nat → Rat) {n : Nat} (hn : 0 < n) : qs (fun w => mx f n w) n = 1 := by
  by_cases c : 0 < mxT f n
  · have hT0 : mxT f n ≠ 0 := fun e => by rw [e] at c; exact absurd c (by decide)
    have : qs (fun w => mx f n w) n = qs (fun w => (mxT f n)⁻¹ * qp (f w)) n := qs_cong (fun w _ => by
      unfold mx qp
      rw [if_pos c]
      by_cases e : 0 < f w
      · rw [if_pos e, if_pos e, Rat.mul_comm]
      · rw [if_neg e, if_neg e, Rat.mul_zero])
    rw [this, qs_mul]
    exact Rat.inv_mul_cancel _ hT0
  · have hz : ((n : Nat) : Rat) ≠ 0 := fun e => by have := Rat.natCast_eq_zero_iff.mp e; omega
    have : qs (fun w => mx f n w) n = qs (fun _ => ((1 : Int) : Rat) / ((n : Nat) : Rat)) n := qs_cong (fun w _ => by unfold mx; rw [if_neg c])
    rw [this, qs_const, Rat.mul_comm, Rat.div_mul_cancel hz, Rat.intCast_one]
theorem cmu_sum (y : Nat → Rat) (o p : Nat) : cmu y o p 0 + cmu y o p 1 = 1 := by
  have := mx_sum (fun w => y (o + (p * 2 + w))) (n := 2) (by decide)
  rw [qs_s, qs_s] at this
  have e : qs (fun w => mx (fun w => y (o + (p * 2 + w))) 2 w) 0 = 0 := rfl
  rw [e, Rat.zero_add] at this
  exact this
theorem qx_l (a b : Rat) : a ≤ qx a b := by
  unfold qx; split
  · rename_i h; exact Rat.le_of_lt h
  · exact Rat.le_refl
/-- two kinds of ways that add up to 1: no less than -1 for each other card -/
theorem aM_ge {mu : Nat → Nat → Rat} {k t t' q w w' : Nat} {a b : Int} (hk : k < 3) (ha : -1 ≤ a) (hb : -1 ≤ b) (e1 : ∀ j, pM mu j t = mu (4 * j + q) w) (e2 : ∀ j, pM mu j t' = mu (4 * j + q) w') (h0 : ∀ j, j < 3 → 0 ≤ mu (4 * j + q) w) (h1 : ∀ j, j < 3 → mu (4 * j + q) w + mu (4 * j + q) w' = 1) : -2 ≤ aM mu k t a b 3 + aM mu k t' (-1) (-1) 3 := by
  unfold aM
  rw [← qs_add]
  have h : qs (fun j => if j = k then 0 else (-1 : Rat)) 3 ≤ qs (fun j => (if j = k then 0 else pM mu j t * (((if j < k then a else b : Int)) : Rat)) + (if j = k then 0 else pM mu j t' * (((if j < k then -1 else -1 : Int)) : Rat))) 3 := qs_le (fun j hj => by
    by_cases c : j = k
    · rw [if_pos c, if_pos c, if_pos c, Rat.add_zero]; exact Rat.le_refl
    · rw [if_neg c, if_neg c, if_neg c, e1, e2, ite_self]
      have hx : -1 ≤ (if j < k then a else b : Int) := by split <;> assumption
      generalize (if j < k then a else b : Int) = x at hx
      have hx2 : ((-1 : Int) : Rat) ≤ (x : Rat) := Rat.intCast_le_intCast.mpr hx
      have h3 := Rat.mul_le_mul_of_nonneg_left hx2 (h0 j hj)
      have h4 := h1 j hj
      have e3 : ((-1 : Int) : Rat) = -1 := rfl
      rw [e3] at h3 ⊢
      grind)
  refine Rat.le_trans ?_ h
  rcases (show k = 0 ∨ k = 1 ∨ k = 2 by omega) with e | e | e <;> subst e <;> decide +kernel
theorem kBest_ge {mu : Nat → Nat → Rat} (h0 : ∀ p w, p < 12 → w < 2 → 0 ≤ mu p w) (h1 : ∀ p, p < 12 → mu p 0 + mu p 1 = 1) : -2 ≤ kBest mu 3 2 := by
  have hA : ∀ k, k < 3 → -2 ≤ fA mu 3 k := fun k hk => by
    have h := aM_ge (mu := mu) (k := k) (t := 2) (t' := 3) (q := 1) (w := 0) (w' := 1) (a := 1) (b := -1) hk (by decide) (by decide) (fun j => rfl) (fun j => rfl) (fun j hj => h0 _ _ (by omega) (by decide)) (fun j hj => h1 _ (by omega))
    have e : wM mu 3 k 0 + wM mu 3 k 6 ≤ fA mu 3 k := Rat.le_trans (q_le_add Rat.le_refl (qx_l _ _)) (qx_l _ _)
    exact Rat.le_trans h e
  have hB : ∀ k, k < 3 → -2 ≤ fB mu 3 k := fun k hk => by
    have h := aM_ge (mu := mu) (k := k) (t := 0) (t' := 1) (q := 0) (w := 0) (w' := 1) (a := 1) (b := -1) hk (by decide) (by decide) (fun j => rfl) (fun j => rfl) (fun j hj => h0 _ _ (by omega) (by decide)) (fun j hj => h1 _ (by omega))
    have e : wM mu 3 k 2 + wM mu 3 k 4 ≤ fB mu 3 k := q_le_add (qx_l _ _) (qx_l _ _)
    exact Rat.le_trans h e
  have sA : qs (fun _ => (-2 : Rat)) 3 ≤ qs (fA mu 3) 3 := qs_le hA
  have sB : qs (fun _ => (-2 : Rat)) 3 ≤ qs (fB mu 3) 3 := qs_le hB
  have c0 : (0 : Rat) ≤ chN 3 := by decide +kernel
  have h := Rat.mul_le_mul_of_nonneg_right (q_le_add sA sB) c0
  unfold kBest
  rw [if_neg (by decide), if_neg (by decide)]
  refine Rat.le_trans ?_ h
  decide +kernel
/-- a number from -2 to 0: its square stays under the bound for 512 rounds -/
theorem under_neg {x : Rat} {n : Nat} (h : -2 ≤ x) (h0 : x.num ≤ 0) (hn : n ≤ 512) : q_under x n 4608 := by
  rw [Rat.le_iff] at h
  have h : (-2 : Int) * (x.den : Int) ≤ x.num * 1 := h
  have h2 : x.num.natAbs ≤ 2 * x.den := by omega
  have h3 := Nat.mul_le_mul (Nat.mul_le_mul h2 h2) hn
  show x.num.natAbs * x.num.natAbs * n ≤ x.den * x.den * 4608
  have e : 2 * x.den * (2 * x.den) * 512 = x.den * x.den * 2048 := by grind
  rw [e] at h3
  exact Nat.le_trans h3 (Nat.mul_le_mul_left _ (by decide))
theorem under_mono {x w : Rat} {l : Nat} (h0 : 0 < x.num) (h : x ≤ w) (hw : q_under w 1 l) : q_under x 1 l := by
  rw [Rat.le_iff] at h
  have hd := x.den_pos
  have hd2 := w.den_pos
  have hw0 : 0 < w.num := by
    rcases (show w.num ≤ 0 ∨ 0 < w.num by omega) with q | q
    · have h1 := Int.mul_pos h0 (show (0 : Int) < (w.den : Int) by omega)
      have h2 := Int.mul_le_mul_of_nonneg_right q (show (0 : Int) ≤ (x.den : Int) by omega)
      rw [Int.zero_mul] at h2
      omega
    · exact q
  obtain ⟨a, ha⟩ : ∃ a : Nat, x.num = (a : Int) := ⟨x.num.natAbs, by omega⟩
  obtain ⟨b, hb⟩ : ∃ b : Nat, w.num = (b : Int) := ⟨w.num.natAbs, by omega⟩
  unfold q_under at *
  rw [hb, Int.natAbs_natCast, Nat.mul_one] at hw
  rw [ha, Int.natAbs_natCast, Nat.mul_one]
  rw [ha, hb] at h
  have h : a * w.den ≤ b * x.den := by exact_mod_cast h
  have h1 := Nat.mul_le_mul h h
  have h2 := Nat.mul_le_mul_right (x.den * x.den) hw
  have e1 : a * w.den * (a * w.den) = a * a * (w.den * w.den) := by grind
  have e2 : b * x.den * (b * x.den) = b * b * (x.den * x.den) := by grind
  have e3 : w.den * w.den * l * (x.den * x.den) = x.den * x.den * l * (w.den * w.den) := by grind
  rw [e1, e2] at h1
  rw [e3] at h2
  exact Nat.le_of_mul_le_mul_right (Nat.le_trans h1 h2) (Nat.mul_pos hd2 hd2)
theorem qM_max {f : Nat → Rat} : ∀ {n : Nat}, (∀ k, k ≤ n → f k ≤ qM f n) ∧ ∃ k, k ≤ n ∧ qM f n = f k
  | 0 => ⟨fun k hk => by have : k = 0 := by omega
                         subst this; exact Rat.le_refl, 0, Nat.le_refl _, rfl⟩
  | n + 1 => by
    obtain ⟨h1, k, h2, h3⟩ := qM_max (f := f) (n := n)
    by_cases c : qM f n < f (n + 1)
    · have e : qM f (n + 1) = f (n + 1) := if_pos c
      rw [e]
      refine ⟨fun j hj => ?_, n + 1, Nat.le_refl _, rfl⟩
      by_cases q : j = n + 1
      · rw [q]; exact Rat.le_refl
      · exact Rat.le_trans (h1 j (by omega)) (Rat.le_of_lt c)
    · have e : qM f (n + 1) = qM f n := if_neg c
      rw [e]
      refine ⟨fun j hj => ?_, k, by omega, h3⟩
      by_cases q : j = n + 1
      · rw [q]; exact Rat.not_lt.mp c
      · exact h1 j (by omega)
theorem qM_under {f : Nat → Rat} {n l : Nat} (hn : 0 < n) : ((qM f (n - 1)).num ≤ 0 ∨ q_under (qM f (n - 1)) 1 l) ↔ ∀ w, w < n → (f w).num ≤ 0 ∨ q_under (f w) 1 l := by
  obtain ⟨h1, k, h2, h3⟩ := qM_max (f := f) (n := n - 1)
  constructor
  · intro h w hw
    rcases (show (f w).num ≤ 0 ∨ 0 < (f w).num by omega) with q | q
    · exact Or.inl q
    · have hle := h1 w (by omega)
      rcases h with p | p
      · have : (qM f (n - 1)) ≤ 0 := Rat.not_lt.mp (fun c => by have := (q_pos_num).mp c; omega)
        have h0 : f w ≤ 0 := Rat.le_trans hle this
        exact absurd (q_pos_num.mpr q) (Rat.not_lt.mpr h0)
      · exact Or.inr (under_mono q hle p)
  · intro h
    rw [h3]; exact h k (by omega)
section
variable {u z rk jf ln ng cg tb rn : Nat} {c ro fx : Nat → Nat} {M : rg_M} {s : sS} {n : Nat} {y : Nat → Rat}
theorem cE_parts (h : cE u z rk c jf ln ng cg tb rn ro fx M y) {i : Nat} (hi : vx i) : ∃ t b, cXf (fx i) t b M ∧ rW_lengthInBits t M = some (nI (rm_bits (y i).num.natAbs), M) ∧ rW_lengthInBits b M = some (nI (rm_bits (y i).den), M) ∧ rW_sign t M = some (rm_sg (y i).num, M) ∧ (∀ x : Int32, rW_bitsAt t x M = some (if x < 0 then 0 else nI ((y i).num.natAbs / 2 ^ (32 * x.toNatClampNeg) % 4294967296), M)) ∧ ∀ x : Int32, rW_bitsAt b x M = some (if x < 0 then 0 else nI ((y i).den / 2 ^ (32 * x.toNatClampNeg) % 4294967296), M) := by
  have h0 := h
  obtain ⟨hE, q, hS, hq⟩ := h
  obtain ⟨t, b, X, p1, p2, -, -, p5, p6, p7⟩ := cS_parts hS (h0.k hi)
  rw [hq i hi] at p1 p2 p5
  refine ⟨t, b, X, p1, p2, p5, fun x => ?_, fun x => ?_⟩
  · have := p6 x; rw [hq i hi] at this; exact this
  · have := p7 x; rw [hq i hi] at this; exact this
theorem cE_sq (h : cE u z rk c jf ln ng cg tb rn ro fx M y) {i : Nat} (hi : vx i) (l : qL (y i) 425) {a b : Int64} {k m : Nat} (ha : a.toInt = (k : Int)) (hb : b.toInt = (m : Int)) : ∃ M', rK_isSquareWithin rk (fx i) a b M = some (if q_under (y i) k m then 1 else 0, M') ∧ cE u z rk c jf ln ng cg tb rn ro fx M' y ∧ cG M M' := by
  have h0 := h
  obtain ⟨hE, q, hS, hq⟩ := h
  obtain ⟨M', r1, r2, r3⟩ := cS_isSquareWithin hS (h0.k hi) (Nat.le_refl 425) (by rw [hq i hi]; exact l) a b
  refine ⟨M', ?_, ⟨hE.G r3, q, r2, hq⟩, r3⟩
  rw [r1, hq i hi, ha, hb]
  have e1 : ((y i).num * (y i).num * (k : Int)).natAbs = (y i).num.natAbs * (y i).num.natAbs * k := by rw [Int.natAbs_mul, Int.natAbs_mul, Int.natAbs_natCast]
  have e2 : (((y i).den : Int) * ((y i).den : Int) * (m : Int)).natAbs = (y i).den * (y i).den * m := by rw [Int.natAbs_mul, Int.natAbs_mul, Int.natAbs_natCast, Int.natAbs_natCast]
  rw [e1, e2]
theorem cE_cut (h : cE u z rk c jf ln ng cg tb rn ro fx M y) {i : Nat} (hi : vx i) (l : qL (y i) 425) (x : Int32) : ∃ M', rK_cutTimes rk (fx i) x M = some (qCut (y i) x.toInt, M') ∧ cE u z rk c jf ln ng cg tb rn ro fx M' y ∧ cG M M' := by
  have h0 := h
  obtain ⟨hE, q, hS, hq⟩ := h
  obtain ⟨M', r1, r2, r3⟩ := cS_cutTimes hS (h0.k hi) (Nat.le_refl 425) (by rw [hq i hi]; exact l) x
  rw [hq i hi] at r1
  exact ⟨M', r1, ⟨hE.G r3, q, r2, hq⟩, r3⟩
/-- reckoning that leaves the state -/
theorem cI_G {M' : rg_M} {y' : Nat → Rat} {r : Int32} (hE : cE u z rk c jf ln ng cg tb rn ro fx M y) (h80 : ∀ i, i < 80 → y i = ts_y s i) (h247 : y 247 = ts_v s) (h1 : ts_g s = 1 → cLi ln 2 5 (ts_a s) (ts_e s) M ∧ ∀ i, i < 25 → rg_A M rn i = ts_num s i) (h2 : ts_g s = 2 → cLi ln (4 * ts_d s) 2 2 2 M ∧ cDk cg (ts_d s) M ∧ y 244 = chN (ts_d s)) (hT : cTi tb (nI (ts_g s)) (nI (ts_n s)) (nI (ts_na s)) (nI (ts_nb s)) r M) (hr : r = 0 ∨ (r = 1 ∧ ¬ ts_bF s)) (hE' : cE u z rk c jf ln ng cg tb rn ro fx M' y') (hG : cG M M') (he : ∀ i, (i < 80 ∨ i = 244 ∨ i = 247) → y' i = y i) : cI u z rk c jf ln ng cg tb rn ro fx s M' := by
  refine ⟨y', r, hE', fun i hi => by rw [he i (Or.inl hi)]; exact h80 i hi, by rw [he 247 (Or.inr (Or.inr rfl))]; exact h247, fun q => ?_, fun q => ?_, hT.G hG, hr⟩
  · obtain ⟨a1, a2⟩ := h1 q
    exact ⟨a1.G hG, fun i hi => by rw [hG.A hE.1]; exact a2 i hi⟩
  · obtain ⟨a1, a2, a3⟩ := h2 q
    exact ⟨a1.G hG, a2.G hG, by rw [he 244 (Or.inr (Or.inl rfl))]; exact a3⟩
theorem cT_size (h : cI u z rk c jf ln ng cg tb rn ro fx s M) (x : Int32) : rT_size tb x M = some (ts_size s x, M) := by
  obtain ⟨y, r, hE, h80, h247, h1, h2, hT, hr⟩ := h
  have A := hE.1.all
  obtain ⟨t, b, X, p1, p2, p3, p4, p5⟩ := cE_parts hE (i := 247) (Or.inl (by decide))
  rw [h247] at p1 p2 p3
  obtain ⟨-, -, x1, x2, x3, x4⟩ := X
  rw [rT_size_u, rT_size_e]
  unfold ts_size
  by_cases c0 : x = 0
  · rw [if_pos c0, if_pos c0]
    simp only [A, if_true, Option.bind_some, x1, x3, p3]
    rfl
  · rw [if_neg c0, if_neg c0]
    by_cases c1 : x = 1
    · rw [if_pos c1, if_pos c1]
      simp only [A, if_true, Option.bind_some, x1, x3, p1]
      rfl
    · rw [if_neg c1, if_neg c1]
      by_cases c2 : x = 2
      · rw [if_pos c2, if_pos c2]
        simp only [A, if_true, Option.bind_some, x2, x4, p2]
        rfl
      · rw [if_neg c2, if_neg c2]; rfl
theorem cT_bits (h : cI u z rk c jf ln ng cg tb rn ro fx s M) (x k : Int32) : rT_bits tb x k M = some (ts_bits s x k, M) := by
  obtain ⟨y, r, hE, h80, h247, h1, h2, hT, hr⟩ := h
  have A := hE.1.all
  obtain ⟨t, b, X, p1, p2, p3, p4, p5⟩ := cE_parts hE (i := 247) (Or.inl (by decide))
  have p4 := p4 k
  have p5 := p5 k
  rw [h247] at p4 p5
  obtain ⟨-, -, x1, x2, x3, x4⟩ := X
  rw [rT_bits_u, rT_bits_e]
  unfold ts_bits
  by_cases c0 : x = 0
  · rw [if_pos c0, if_pos c0]
    simp only [A, if_true, Option.bind_some, x1, x3, p4]
    rfl
  · rw [if_neg c0, if_neg c0]
    by_cases c1 : x = 1
    · rw [if_pos c1, if_pos c1]
      simp only [A, if_true, Option.bind_some, x2, x4, p5, rT_bits_36_e]
      rfl
    · rw [if_neg c1, if_neg c1, rT_bits_36_e]; rfl
theorem cT_times (h : cI u z rk c jf ln ng cg tb rn ro fx s M) (hok : ts_ok n s) (x : Int32) : ∃ M', rT_times tb x M = some (ts_times s x, M') ∧ cI u z rk c jf ln ng cg tb rn ro fx s M' ∧ cW rn M M' := by
  have h0 := h
  obtain ⟨y, r, hE, h80, h247, h1, h2, hT, hr⟩ := h
  have A := hE.1.all
  rw [rT_times_u, rT_times_e, cT_isWithin]
  simp only [Option.bind_some]
  unfold ts_times
  by_cases c0 : 1 ≤ x ∧ x ≤ 1000000000
  · rw [if_pos c0, if_pos c0, if_neg (by decide)]
    obtain ⟨M', a1, a2, a3⟩ := cE_cut hE (i := 247) (Or.inl (by decide)) (by rw [h247]; exact hok.2.2.2.2.2.2.2.1) x
    rw [h247] at a1
    simp only [A, if_true, Option.bind_some, a1, rT_times_28_e]
    exact ⟨M', rfl, cI_G hE h80 h247 h1 h2 hT hr a2 a3 (fun _ _ => rfl), a3.W⟩
  · rw [if_neg c0, if_neg c0, if_pos rfl, rT_times_28_e]
    exact ⟨M, rfl, h0, cW.rf _ _⟩
theorem spA_cong {num num' : Nat → Int32} (h : ∀ i, i < 25 → num i = num' i) {r : Nat} (hr : r < 5) (a : Int32 × Int32) : ∀ {k : Nat}, k ≤ 5 → spA num r a k = spA num' r a k
  | 0, _ => rfl
  | k + 1, hk => by
    show (if num (r * 5 + k) < (spA num r a k).1 then num (r * 5 + k) else (spA num r a k).1, if (spA num r a k).2 < num (r * 5 + k) then num (r * 5 + k) else (spA num r a k).2) = _
    rw [spA_cong h hr a (k := k) (by omega), h _ (by omega)]; rfl
theorem spB_cong {num num' : Nat → Int32} (h : ∀ i, i < 25 → num i = num' i) {we : Nat} (he : we ≤ 5) : ∀ {r : Nat}, r ≤ 5 → spB num we r = spB num' we r
  | 0, _ => rfl
  | r + 1, hr => by
    show spA num r (spB num we r) we = spA num' r (spB num' we r) we
    rw [spB_cong h he (r := r) (by omega), spA_cong h (by omega) _ he]
theorem spn_cong {num num' : Nat → Int32} (h : ∀ i, i < 25 → num i = num' i) {wa we : Nat} (ha : wa ≤ 5) (he : we ≤ 5) : spn num wa we = spn num' wa we := by
  unfold spn; rw [spB_cong h he ha]
def sp_in (a : Int32 × Int32) : Prop := (-1000 ≤ a.1.toInt ∧ a.1.toInt ≤ 1000) ∧ (-1000 ≤ a.2.toInt ∧ a.2.toInt ≤ 1000)
theorem spA_in {num : Nat → Int32} (h : ∀ i, i < 25 → (num i).toInt.natAbs ≤ 1000) {r : Nat} (hr : r < 5) {a : Int32 × Int32} (ha : sp_in a) : ∀ {k : Nat}, k ≤ 5 → sp_in (spA num r a k)
  | 0, _ => ha
  | k + 1, hk => by
    have ih := spA_in h hr ha (k := k) (by omega)
    have hn := h (r * 5 + k) (by omega)
    show sp_in (if num (r * 5 + k) < (spA num r a k).1 then num (r * 5 + k) else (spA num r a k).1, if (spA num r a k).2 < num (r * 5 + k) then num (r * 5 + k) else (spA num r a k).2)
    refine ⟨?_, ?_⟩
    · show -1000 ≤ (if num (r * 5 + k) < (spA num r a k).1 then num (r * 5 + k) else (spA num r a k).1).toInt ∧ _
      by_cases c : num (r * 5 + k) < (spA num r a k).1
      · simp only [c, if_true]; omega
      · simp only [c, if_false]; exact ih.1
    · show -1000 ≤ (if (spA num r a k).2 < num (r * 5 + k) then num (r * 5 + k) else (spA num r a k).2).toInt ∧ _
      by_cases c : (spA num r a k).2 < num (r * 5 + k)
      · simp only [c, if_true]; omega
      · simp only [c, if_false]; exact ih.2
theorem spB_in {num : Nat → Int32} (h : ∀ i, i < 25 → (num i).toInt.natAbs ≤ 1000) {we : Nat} (he : we ≤ 5) : ∀ {r : Nat}, r ≤ 5 → sp_in (spB num we r)
  | 0, _ => (show sp_in ((1000 : Int32), (-1000 : Int32)) from ⟨⟨by decide, by decide⟩, ⟨by decide, by decide⟩⟩)
  | r + 1, hr => spA_in h (by omega) (spB_in h he (r := r) (by omega)) he
theorem spn_in {num : Nat → Int32} (h : ∀ i, i < 25 → (num i).toInt.natAbs ≤ 1000) {wa we : Nat} (ha : wa ≤ 5) (he : we ≤ 5) : (spn num wa we).toInt.natAbs ≤ 2000 := by
  obtain ⟨⟨h1, h2⟩, h3, h4⟩ := spB_in h he ha
  have e : (spn num wa we).toInt = (spB num we wa).2.toInt - (spB num we wa).1.toInt := by
    unfold spn
    rw [Int32.toInt_sub]
    exact Int.bmod_eq_of_le (by omega) (by omega)
  omega
theorem cT_about (h : cI u z rk c jf ln ng cg tb rn ro fx s M) (hok : ts_ok n s) (x : Int32) : rT_about tb x M = some (ts_about s x, M) := by
  obtain ⟨y, r, hE, h80, h247, h1, h2, hT, hr⟩ := h
  have A := hE.1.all
  obtain ⟨t1, t2, -, -, -⟩ := hT
  have g1 : ∀ k : Nat, k < 3 → (nI (ts_g s) = nI k ↔ ts_g s = k) := fun k hk => nI_eq (by have := hok.1; omega) (by omega)
  have gi1 : (nI (ts_g s) = (1 : Int32)) ↔ ts_g s = 1 := g1 1 (by decide)
  have gi2 : (nI (ts_g s) = (2 : Int32)) ↔ ts_g s = 2 := g1 2 (by decide)
  have gi0 : (nI (ts_g s) = (0 : Int32)) ↔ ts_g s = 0 := g1 0 (by decide)
  rw [rT_about_u, rT_about_e]
  unfold ts_about
  by_cases c0 : x = 0
  · rw [if_pos c0, if_pos c0]
    simp only [A, if_true, t1]
    rfl
  rw [if_neg c0, if_neg c0]
  by_cases c1 : x = 1
  · rw [if_pos c1, if_pos c1]
    simp only [A, if_true, t1]
    by_cases cg1 : ts_g s = 1
    · rw [if_pos (gi1.mpr cg1)]
      have w1 : rL_ways ln 0 M = some (nI (ts_a s), M) := cL_ways (p := 0) A.1.1 (h1 cg1).1 (by decide)
      simp only [A, if_true, Option.bind_some, w1, rT_about_69_e]
      rfl
    · rw [if_neg (fun q => cg1 (gi1.mp q)), rT_about_69_e, (hok.2.2.1 cg1).1]; rfl
  rw [if_neg c1, if_neg c1]
  by_cases c2 : x = 2
  · rw [if_pos c2, if_pos c2]
    simp only [A, if_true, t1]
    by_cases cg1 : ts_g s = 1
    · rw [if_pos (gi1.mpr cg1)]
      have w1 : rL_ways ln 1 M = some (nI (ts_e s), M) := cL_ways (p := 1) A.1.1 (h1 cg1).1 (by decide)
      simp only [A, if_true, Option.bind_some, w1, rT_about_90_e]
      rfl
    · rw [if_neg (fun q => cg1 (gi1.mp q)), rT_about_90_e, (hok.2.2.1 cg1).2]; rfl
  rw [if_neg c2, if_neg c2]
  by_cases c3 : x = 3
  · rw [if_pos c3, if_pos c3]
    simp only [A, if_true, t1]
    by_cases cg1 : ts_g s = 2
    · rw [if_pos (gi2.mpr cg1)]
      have w1 : rg_I M 6 cg = nI (ts_d s) := (h2 cg1).2.1
      simp only [A, if_true, Option.bind_some, w1, rT_about_110_e]
      rfl
    · rw [if_neg (fun q => cg1 (gi2.mp q)), rT_about_110_e, hok.2.2.2.2.1 cg1]; rfl
  rw [if_neg c3, if_neg c3]
  by_cases c4 : x = 4
  · rw [if_pos c4, if_pos c4]
    simp only [A, if_true, t2]
    rfl
  rw [if_neg c4, if_neg c4]
  by_cases c5 : x = 5
  · rw [if_pos c5, if_pos c5]
    simp only [A, if_true, t1]
    by_cases cg1 : ts_g s = 1
    · obtain ⟨w1, w2, w3, w4⟩ := hok.2.1 cg1
      rw [if_pos (gi1.mpr cg1), if_pos cg1]
      have w5 := cN_span hE.1 (h1 cg1).1 w2 w4
      rw [spn_cong (h1 cg1).2 w2 w4] at w5
      simp only [A, if_true, Option.bind_some, w5, rT_about_135_e]
      rfl
    · rw [if_neg (fun q => cg1 (gi1.mp q)), rT_about_135_e, if_neg cg1]; rfl
  rw [if_neg c5, if_neg c5]
  by_cases c6 : x = 6
  · rw [if_pos c6, if_pos c6]
    simp only [A, if_true, t1]
    unfold ts_long
    by_cases cg0 : ts_g s = 0
    · rw [if_pos (gi0.mpr cg0), rT_about_154_e, if_neg (by omega), if_neg (by omega)]; rfl
    · rw [if_neg (fun q => cg0 (gi0.mp q))]
      by_cases cg2 : ts_g s = 2
      · obtain ⟨d1, d2⟩ := hok.2.2.2.1 cg2
        have w2 : ∀ p, wyc 2 2 p = 2 := fun p => by unfold wyc; split <;> rfl
        have hst : ∀ p, p < 4 * ts_d s → p * 2 + wyc 2 2 p ≤ 40 := fun p hp => by rw [w2]; omega
        have w5 := cL_longest hE (h2 cg2).1 (by omega) hst
        rw [lgP_cong h80 hst] at w5
        rw [if_pos cg2]
        simp only [A, if_true, Option.bind_some, w5, rT_about_154_e]
        rfl
      · have cg1 : ts_g s = 1 := by have := hok.1; omega
        have hst : ∀ p, p < 2 → p * 5 + wyc (ts_a s) (ts_e s) p ≤ 40 := fun p hp => by have := hok.w cg1 p; omega
        have w5 := cL_longest hE (h1 cg1).1 (by decide) hst
        rw [lgP_cong h80 hst] at w5
        rw [if_neg cg2, if_pos cg1]
        simp only [A, if_true, Option.bind_some, w5, rT_about_154_e]
        rfl
  rw [if_neg c6, if_neg c6]; rfl
end

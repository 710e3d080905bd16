/-! THE STATE OF A TABLE, AND WHAT EACH CALL MAKES OF IT AND ANSWERS: the class and the reference are both held against this -/
abbrev sS := (Nat × Nat × Nat × Nat) × (Nat × Nat × Nat) × (Nat → Int32) × (Nat → Rat) × Rat
/-- the game, A's ways, B's ways, the deck -/
def ts_g (s : sS) : Nat := s.1.1
def ts_a (s : sS) : Nat := s.1.2.1
def ts_e (s : sS) : Nat := s.1.2.2.1
def ts_d (s : sS) : Nat := s.1.2.2.2
/-- rounds, of A alone, of B alone -/
def ts_n (s : sS) : Nat := s.2.1.1
def ts_na (s : sS) : Nat := s.2.1.2.1
def ts_nb (s : sS) : Nat := s.2.1.2.2
def ts_num (s : sS) : Nat → Int32 := s.2.2.1
/-- regrets at 0 .. 39, sums at 40 .. 79 -/
def ts_y (s : sS) : Nat → Rat := s.2.2.2.1
def ts_v (s : sS) : Rat := s.2.2.2.2
def ts_P (s : sS) : Nat := if ts_g s = 2 then 4 * ts_d s else if ts_g s = 1 then 2 else 0
def ts_st (s : sS) : Nat := if ts_g s = 2 then 2 else 5
def ts_w (s : sS) (p : Nat) : Nat := if ts_g s = 2 then 2 else wyc (ts_a s) (ts_e s) p
/-- the one who plays against a told move -/
def ts_aR (s : sS) (p m w : Nat) : Rat := tR (ts_y s) (tMx (ts_y s) 0 (ts_a s) (ts_e s) p) (fun v => if v = m then 1 else 0) (ts_num s) p (wyc (ts_a s) (ts_e s) p) (wyc (ts_a s) (ts_e s) (1 - p)) w
def ts_aS (s : sS) (p w : Nat) : Rat := tS (ts_y s) (tMx (ts_y s) 0 (ts_a s) (ts_e s) p) p w
abbrev ts_aF (s : sS) (p m : Nat) : Prop := ∀ w, w < wyc (ts_a s) (ts_e s) p → qB (ts_aR s p m w) ≤ 256 ∧ qB (ts_aS s p w) ≤ 256
/-- a round of both -/
def ts_bR (s : sS) (p w : Nat) : Rat := if ts_g s = 2 then kR (ts_y s) (ts_d s) p w else tR (ts_y s) (tMx (ts_y s) 0 (ts_a s) (ts_e s) p) (tMx (ts_y s) 0 (ts_a s) (ts_e s) (1 - p)) (ts_num s) p (wyc (ts_a s) (ts_e s) p) (wyc (ts_a s) (ts_e s) (1 - p)) w
def ts_bS (s : sS) (p w : Nat) : Rat := if ts_g s = 2 then kS (ts_y s) p w else tS (ts_y s) (tMx (ts_y s) 0 (ts_a s) (ts_e s) p) p w
abbrev ts_bF (s : sS) : Prop := ∀ p, p < ts_P s → ∀ w, w < ts_w s p → qB (ts_bR s p w) ≤ 256 ∧ qB (ts_bS s p w) ≤ 256
/-- new regrets and sums at the places from lo to below hi -/
def nwY (y : Nat → Rat) (lo hi st : Nat) (wf : Nat → Nat) (fR fS : Nat → Nat → Rat) (i : Nat) : Rat := if i < 40 then (if lo ≤ i / st ∧ i / st < hi ∧ i % st < wf (i / st) then fR (i / st) (i % st) else y i) else if i < 80 then (if lo ≤ (i - 40) / st ∧ (i - 40) / st < hi ∧ (i - 40) % st < wf ((i - 40) / st) then fS ((i - 40) / st) ((i - 40) % st) else y i) else y i
def ts_table (s : sS) (a b : Int32) : Int32 × sS := if (1 ≤ a ∧ a ≤ 5) ∧ (1 ≤ b ∧ b ≤ 5) then (1, ((1, a.toNatClampNeg, b.toNatClampNeg, 0), (0, 0, 0), (fun _ => 0), (fun _ => 0), ts_v s)) else (0, s)
def ts_set (s : sS) (a b v : Int32) : Int32 × sS := if ts_g s = 1 ∧ ts_n s = 0 ∧ (0 ≤ a ∧ a.toNatClampNeg < ts_a s) ∧ (0 ≤ b ∧ b.toNatClampNeg < ts_e s) ∧ (-1000 ≤ v ∧ v ≤ 1000) then (1, (s.1, s.2.1, va_up (ts_num s) (a.toNatClampNeg * 5 + b.toNatClampNeg) v, ts_y s, ts_v s)) else (0, s)
def ts_cards (s : sS) (n : Int32) : Int32 × sS := if 3 ≤ n ∧ n ≤ 5 then (1, ((2, 0, 0, n.toNatClampNeg), (0, 0, 0), ts_num s, (fun _ => 0), ts_v s)) else (0, s)
def ts_aY (s : sS) (p m : Nat) : Nat → Rat := nwY (ts_y s) p (p + 1) 5 (wyc (ts_a s) (ts_e s)) (fun q w => ts_aR s q m w) (ts_aS s)
def ts_play (s : sS) (p : Nat) (x : Int32) : Int32 × sS := if ts_g s = 1 ∧ (0 ≤ x ∧ x.toNatClampNeg < wyc (ts_a s) (ts_e s) (1 - p)) ∧ ts_aF s p x.toNatClampNeg then (1, (s.1, (ts_n s + 1, ts_na s + (if p = 0 then 1 else 0), ts_nb s + (if p = 0 then 0 else 1)), ts_num s, ts_aY s p x.toNatClampNeg, ts_v s)) else (0, s)
def ts_bY (s : sS) : Nat → Rat := nwY (ts_y s) 0 (ts_P s) (ts_st s) (ts_w s) (ts_bR s) (ts_bS s)
def ts_round (s : sS) : Int32 × sS := if ts_g s ≠ 0 ∧ ts_bF s then (nI (ts_n s + 1), (s.1, (ts_n s + 1, ts_na s, ts_nb s), ts_num s, ts_bY s, ts_v s)) else (-1, s)
def ts_mix (s : sS) (o p w : Nat) : Rat := mx (fun v => ts_y s (o + (p * ts_st s + v))) (ts_w s p) w
def ts_best (s : sS) (who : Nat) : Rat := if ts_g s = 2 then kBest (cmu (ts_y s) 40) (ts_d s) who else tBests (ts_y s) (ts_num s) (ts_a s) (ts_e s) who
/-- what is viewed of a way -/
def ts_vw (s : sS) (x : Int32) (p w : Nat) : Rat := if x = 0 then ts_y s (p * ts_st s + w) else if x = 1 then ts_y s (40 + (p * ts_st s + w)) else if x = 2 then ts_mix s 0 p w else ts_mix s 40 p w
def ts_setV (s : sS) (v : Rat) : sS := (s.1, s.2.1, s.2.2.1, s.2.2.2.1, v)
def ts_view (s : sS) (x p w : Int32) : Int32 × sS := if ts_g s = 0 then (0, s) else if 0 ≤ x ∧ x ≤ 3 then (if (0 ≤ p ∧ p.toNatClampNeg < ts_P s) ∧ (0 ≤ w ∧ w.toNatClampNeg < ts_w s p.toNatClampNeg) then (1, ts_setV s (ts_vw s x p.toNatClampNeg w.toNatClampNeg)) else (0, s)) else if w = 0 ∧ x = 4 ∧ p = 0 then (1, ts_setV s (ts_best s 0)) else if w = 0 ∧ x = 4 ∧ p = 1 then (1, ts_setV s (ts_best s 1)) else if w = 0 ∧ x = 5 ∧ p = 0 then (1, ts_setV s (ts_best s 2)) else (0, s)
def ts_size (s : sS) (x : Int32) : Int32 := if x = 0 then rm_sg (ts_v s).num else if x = 1 then nI (rm_bits (ts_v s).num.natAbs) else if x = 2 then nI (rm_bits (ts_v s).den) else -2
def ts_bits (s : sS) (p k : Int32) : Int32 := if p = 0 then (if k < 0 then 0 else nI ((ts_v s).num.natAbs / 2 ^ (32 * k.toNatClampNeg) % 4294967296)) else if p = 1 then (if k < 0 then 0 else nI ((ts_v s).den / 2 ^ (32 * k.toNatClampNeg) % 4294967296)) else 0
def ts_times (s : sS) (x : Int32) : Int64 := if 1 ≤ x ∧ x ≤ 1000000000 then qCut (ts_v s) x.toInt else -9223372036854775808
/-- under the bound: the square of each regret above 0 -/
def ts_lim (s : sS) (p : Nat) : Nat := (spn (ts_num s) (ts_a s) (ts_e s)).toInt.natAbs * (spn (ts_num s) (ts_a s) (ts_e s)).toInt.natAbs * wyc (ts_a s) (ts_e s) p * ts_n s
abbrev q_under (x : Rat) (k l : Nat) : Prop := x.num.natAbs * x.num.natAbs * k ≤ x.den * x.den * l
abbrev ts_bd (s : sS) (p : Nat) : Prop := ∀ w, w < wyc (ts_a s) (ts_e s) p → (ts_y s (p * 5 + w)).num ≤ 0 ∨ q_under (ts_y s (p * 5 + w)) 1 (ts_lim s p)
def ts_bound (s : sS) (x : Int32) : Int32 := if x = 0 then (if ts_g s = 1 ∧ ts_na s = ts_n s then (if ts_bd s 0 then 1 else 0) else -1) else if x = 1 then (if ts_g s = 1 ∧ ts_nb s = ts_n s then (if ts_bd s 1 then 1 else 0) else -1) else if x = 2 then (if ts_g s = 2 ∧ ts_d s = 3 then (if (ts_best s 2).num ≤ 0 ∨ q_under (ts_best s 2) (ts_n s) 4608 then 1 else 0) else -1) else -1
def ts_long (s : sS) : Nat := if ts_g s = 2 then lgP (ts_y s) 2 2 2 (4 * ts_d s) else if ts_g s = 1 then lgP (ts_y s) 5 (ts_a s) (ts_e s) 2 else 0
def ts_about (s : sS) (x : Int32) : Int32 := if x = 0 then nI (ts_g s) else if x = 1 then nI (ts_a s) else if x = 2 then nI (ts_e s) else if x = 3 then nI (ts_d s) else if x = 4 then nI (ts_n s) else if x = 5 then (if ts_g s = 1 then spn (ts_num s) (ts_a s) (ts_e s) else 0) else if x = 6 then nI (ts_long s) else -1
/-- what always holds, after n calls -/
def ts_ok (n : Nat) (s : sS) : Prop := (ts_g s = 0 ∨ ts_g s = 1 ∨ ts_g s = 2) ∧ (ts_g s = 1 → 0 < ts_a s ∧ ts_a s ≤ 5 ∧ 0 < ts_e s ∧ ts_e s ≤ 5) ∧ (ts_g s ≠ 1 → ts_a s = 0 ∧ ts_e s = 0) ∧ (ts_g s = 2 → 3 ≤ ts_d s ∧ ts_d s ≤ 5) ∧ (ts_g s ≠ 2 → ts_d s = 0) ∧ (∀ i, i < 25 → (ts_num s i).toInt.natAbs ≤ 1000) ∧ (∀ i, i < 80 → qB (ts_y s i) ≤ 256) ∧ qL (ts_v s) 425 ∧ (ts_n s ≤ n ∧ ts_na s ≤ n ∧ ts_nb s ≤ n) ∧ (ts_n s = 0 → ∀ i, i < 80 → ts_y s i = 0)
theorem ts_ok.w {n : Nat} {s : sS} (h : ts_ok n s) (hg : ts_g s = 1) (p : Nat) : 0 < wyc (ts_a s) (ts_e s) p ∧ wyc (ts_a s) (ts_e s) p ≤ 5 := by
  obtain ⟨h1, h2, h3, h4⟩ := h.2.1 hg
  unfold wyc; split <;> omega
theorem ts_ok.mono {n m : Nat} {s : sS} (h : ts_ok n s) (hm : n ≤ m) : ts_ok m s := by
  obtain ⟨h1, h2, h3, h4, h5, h6, h7, h8, ⟨h9, h10, h11⟩, h12⟩ := h
  exact ⟨h1, h2, h3, h4, h5, h6, h7, h8, ⟨by omega, by omega, by omega⟩, h12⟩
theorem nI_has {x : Int32} {n : Nat} (hn : n < 2 ^ 31) : (0 ≤ x ∧ x.toNatClampNeg < n) ↔ ∃ k, k < n ∧ x = nI k := by
  constructor
  · rintro ⟨h1, h2⟩
    obtain ⟨k, k1, k2⟩ := nI_of (x := x) (by rw [Int32.le_iff_toInt_le] at h1; rw [Int32.lt_iff_toInt_lt]; omega)
    rw [k2, nI_clamp k1] at h2
    exact ⟨k, h2, k2⟩
  · rintro ⟨k, h1, rfl⟩
    rw [nI_clamp (by omega)]
    exact ⟨nI_pos' (by omega), h1⟩
theorem nI_rng {x : Int32} {a b : Nat} (hb : b < 2 ^ 31) : (nI a ≤ x ∧ x ≤ nI b) → a < 2 ^ 31 → ∃ k, a ≤ k ∧ k ≤ b ∧ x = nI k := by
  rintro ⟨h1, h2⟩ ha
  obtain ⟨k, k1, k2⟩ := nI_of (x := x) (by rw [Int32.le_iff_toInt_le, nI_toInt ha] at h1; rw [Int32.lt_iff_toInt_lt]; show ¬ x.toInt < 0; omega)
  subst k2
  rw [nI_leI ha k1] at h1
  rw [nI_leI k1 hb] at h2
  exact ⟨k, h1, h2, rfl⟩
theorem qB_0 : qB 0 ≤ 256 := by decide
theorem ts_ok_table {n : Nat} {s : sS} (h : ts_ok n s) (a b : Int32) : ts_ok (n + 1) (ts_table s a b).2 := by
  unfold ts_table
  by_cases c : (1 ≤ a ∧ a ≤ 5) ∧ (1 ≤ b ∧ b ≤ 5)
  · rw [if_pos c]
    obtain ⟨k, k1, k2, k3⟩ := nI_rng (a := 1) (b := 5) (x := a) (by decide) c.1 (by decide)
    obtain ⟨l, l1, l2, l3⟩ := nI_rng (a := 1) (b := 5) (x := b) (by decide) c.2 (by decide)
    subst k3 l3
    rw [nI_clamp (by omega), nI_clamp (by omega)]
    exact ⟨Or.inr (Or.inl rfl), fun _ => ⟨by show 0 < k; omega, by show k ≤ 5; omega, by show 0 < l; omega, by show l ≤ 5; omega⟩, fun h => absurd rfl h, fun h => absurd (show (1 : Nat) = 2 from h) (by decide), fun _ => rfl, fun i _ => by show ((0 : Int32)).toInt.natAbs ≤ 1000; decide, fun i _ => qB_0, h.2.2.2.2.2.2.2.1, ⟨Nat.zero_le _, Nat.zero_le _, Nat.zero_le _⟩, fun _ i _ => rfl⟩
  · rw [if_neg c]; exact h.mono (by omega)
theorem ts_ok_cards {n : Nat} {s : sS} (h : ts_ok n s) (a : Int32) : ts_ok (n + 1) (ts_cards s a).2 := by
  unfold ts_cards
  by_cases c : 3 ≤ a ∧ a ≤ 5
  · rw [if_pos c]
    obtain ⟨k, k1, k2, k3⟩ := nI_rng (a := 3) (b := 5) (x := a) (by decide) c (by decide)
    subst k3
    rw [nI_clamp (by omega)]
    exact ⟨Or.inr (Or.inr rfl), fun h => absurd (show (2 : Nat) = 1 from h) (by decide), fun _ => ⟨rfl, rfl⟩, fun _ => ⟨by show 3 ≤ k; omega, by show k ≤ 5; omega⟩, fun h => absurd rfl h, h.2.2.2.2.2.1, fun i _ => qB_0, h.2.2.2.2.2.2.2.1, ⟨Nat.zero_le _, Nat.zero_le _, Nat.zero_le _⟩, fun _ i _ => rfl⟩
  · rw [if_neg c]; exact h.mono (by omega)
theorem i32_1000 {v : Int32} (h : -1000 ≤ v ∧ v ≤ 1000) : v.toInt.natAbs ≤ 1000 := by
  obtain ⟨h1, h2⟩ := h
  rw [Int32.le_iff_toInt_le] at h1 h2
  have h1 : (-1000 : Int) ≤ v.toInt := h1
  have h2 : v.toInt ≤ (1000 : Int) := h2
  omega
theorem ts_ok_set {n : Nat} {s : sS} (h : ts_ok n s) (a b v : Int32) : ts_ok (n + 1) (ts_set s a b v).2 := by
  unfold ts_set
  by_cases c : ts_g s = 1 ∧ ts_n s = 0 ∧ (0 ≤ a ∧ a.toNatClampNeg < ts_a s) ∧ (0 ≤ b ∧ b.toNatClampNeg < ts_e s) ∧ (-1000 ≤ v ∧ v ≤ 1000)
  · rw [if_pos c]
    obtain ⟨h1, h2, h3, h4, h5, h6, h7, h8, ⟨h9, h10, h11⟩, h12⟩ := h
    refine ⟨h1, h2, h3, h4, h5, fun i hi => ?_, h7, h8, ⟨Nat.le_succ_of_le h9, Nat.le_succ_of_le h10, Nat.le_succ_of_le h11⟩, h12⟩
    show (va_up (ts_num s) (a.toNatClampNeg * 5 + b.toNatClampNeg) v i).toInt.natAbs ≤ 1000
    by_cases e : i = a.toNatClampNeg * 5 + b.toNatClampNeg
    · rw [e, rg_up_eq]; exact i32_1000 c.2.2.2.2
    · rw [rg_up_ne e]; exact h6 i hi
  · rw [if_neg c]; exact h.mono (by omega)
theorem nwY_B {y : Nat → Rat} {lo hi st : Nat} {wf : Nat → Nat} {fR fS : Nat → Nat → Rat} (hy : ∀ i, i < 80 → qB (y i) ≤ 256) (hf : ∀ p w, lo ≤ p → p < hi → w < wf p → qB (fR p w) ≤ 256 ∧ qB (fS p w) ≤ 256) {i : Nat} (hi8 : i < 80) : qB (nwY y lo hi st wf fR fS i) ≤ 256 := by
  unfold nwY
  by_cases c : i < 40
  · rw [if_pos c]
    by_cases c2 : lo ≤ i / st ∧ i / st < hi ∧ i % st < wf (i / st)
    · rw [if_pos c2]; exact (hf _ _ c2.1 c2.2.1 c2.2.2).1
    · rw [if_neg c2]; exact hy i hi8
  · rw [if_neg c, if_pos hi8]
    by_cases c2 : lo ≤ (i - 40) / st ∧ (i - 40) / st < hi ∧ (i - 40) % st < wf ((i - 40) / st)
    · rw [if_pos c2]; exact (hf _ _ c2.1 c2.2.1 c2.2.2).2
    · rw [if_neg c2]; exact hy i hi8
/-- what makes nwY -/
theorem nwY_of {y y' : Nat → Rat} {lo hi st : Nat} {wf : Nat → Nat} {fR fS : Nat → Nat → Rat} (hst : 0 < st) (hin : ∀ p w, lo ≤ p → p < hi → w < wf p → w < st ∧ p * st + w < 40) (h1 : ∀ p w, lo ≤ p → p < hi → w < wf p → y' (p * st + w) = fR p w ∧ y' (40 + (p * st + w)) = fS p w) (h2 : ∀ i, i < 80 → (∀ p w, lo ≤ p → p < hi → w < wf p → i ≠ p * st + w ∧ i ≠ 40 + (p * st + w)) → y' i = y i) : ∀ i, i < 80 → y' i = nwY y lo hi st wf fR fS i := by
  intro i hi8
  have hmd : ∀ p w, w < st → (p * st + w) / st = p ∧ (p * st + w) % st = w := fun p w hw => ⟨by rw [Nat.mul_comm, Nat.mul_add_div hst, Nat.div_eq_of_lt hw, Nat.add_zero], by rw [Nat.mul_comm, Nat.mul_add_mod, Nat.mod_eq_of_lt hw]⟩
  have hdm : ∀ i, i = i / st * st + i % st := fun i => by rw [Nat.mul_comm]; exact (Nat.div_add_mod i st).symm
  unfold nwY
  by_cases c : i < 40
  · rw [if_pos c]
    by_cases c2 : lo ≤ i / st ∧ i / st < hi ∧ i % st < wf (i / st)
    · rw [if_pos c2, ← (h1 _ _ c2.1 c2.2.1 c2.2.2).1, ← hdm i]
    · rw [if_neg c2]
      refine h2 i hi8 (fun p w p1 p2 p3 => ⟨fun e => c2 ?_, fun e => by omega⟩)
      obtain ⟨q1, -⟩ := hin p w p1 p2 p3
      obtain ⟨q2, q3⟩ := hmd p w q1
      rw [e, q2, q3]; exact ⟨p1, p2, p3⟩
  · rw [if_neg c, if_pos hi8]
    by_cases c2 : lo ≤ (i - 40) / st ∧ (i - 40) / st < hi ∧ (i - 40) % st < wf ((i - 40) / st)
    · rw [if_pos c2, ← (h1 _ _ c2.1 c2.2.1 c2.2.2).2, ← hdm (i - 40)]
      congr 1; omega
    · rw [if_neg c2]
      refine h2 i hi8 (fun p w p1 p2 p3 => ⟨fun e => ?_, fun e => c2 ?_⟩)
      · have := (hin p w p1 p2 p3).2; omega
      · obtain ⟨q1, -⟩ := hin p w p1 p2 p3
        obtain ⟨q2, q3⟩ := hmd p w q1
        rw [e, Nat.add_sub_cancel_left, q2, q3]; exact ⟨p1, p2, p3⟩
theorem ts_ok_play {n : Nat} {s : sS} (h : ts_ok n s) (p : Nat) (x : Int32) : ts_ok (n + 1) (ts_play s p x).2 := by
  unfold ts_play
  by_cases c : ts_g s = 1 ∧ (0 ≤ x ∧ x.toNatClampNeg < wyc (ts_a s) (ts_e s) (1 - p)) ∧ ts_aF s p x.toNatClampNeg
  · rw [if_pos c]
    obtain ⟨h1, h2, h3, h4, h5, h6, h7, h8, ⟨h9, h10, h11⟩, h12⟩ := h
    refine ⟨h1, h2, h3, h4, h5, h6, fun i hi => ?_, h8, ⟨Nat.succ_le_succ h9, ?_, ?_⟩, fun h => absurd h (Nat.succ_ne_zero _)⟩
    · show qB (ts_aY s p x.toNatClampNeg i) ≤ 256
      unfold ts_aY
      refine nwY_B h7 (fun q w q1 q2 q3 => ?_) hi
      have e : q = p := by omega
      subst e
      exact c.2.2 w q3
    · show ts_na s + (if p = 0 then 1 else 0) ≤ n + 1
      split <;> omega
    · show ts_nb s + (if p = 0 then 0 else 1) ≤ n + 1
      split <;> omega
  · rw [if_neg c]; exact h.mono (by omega)
theorem ts_ok_round {n : Nat} {s : sS} (h : ts_ok n s) : ts_ok (n + 1) (ts_round s).2 := by
  unfold ts_round
  by_cases c : ts_g s ≠ 0 ∧ ts_bF s
  · rw [if_pos c]
    obtain ⟨h1, h2, h3, h4, h5, h6, h7, h8, ⟨h9, h10, h11⟩, h12⟩ := h
    exact ⟨h1, h2, h3, h4, h5, h6, fun i hi => nwY_B h7 (fun q w q1 q2 q3 => c.2 q q2 w q3) hi, h8, ⟨Nat.succ_le_succ h9, Nat.le_succ_of_le h10, Nat.le_succ_of_le h11⟩, fun h => absurd h (Nat.succ_ne_zero _)⟩
  · rw [if_neg c]; exact h.mono (by omega)
theorem ts_ok_V {n : Nat} {s : sS} (h : ts_ok n s) {v : Rat} (hv : qL v 425) : ts_ok n (ts_setV s v) := by
  obtain ⟨h1, h2, h3, h4, h5, h6, h7, h8, h9, h12⟩ := h
  exact ⟨h1, h2, h3, h4, h5, h6, h7, hv, h9, h12⟩
/-- the same at the first 80 -/
theorem tMx_cong {y y' : Nat → Rat} (h : ∀ i, i < 80 → y i = y' i) {o wa we p w : Nat} (ho : o = 0 ∨ o = 40) (hp : p < 2) (hn : wyc wa we p ≤ 5) (hw : w < wyc wa we p) : tMx y o wa we p w = tMx y' o wa we p w := mx_cong (fun k hk => h _ (by omega)) hw
theorem gT_cong {num num' : Nat → Int32} (h : ∀ i, i < 25 → num i = num' i) {p w v : Nat} (hw : w < 5) (hv : v < 5) : gT num p w v = gT num' p w v := by
  unfold gT; rw [h _ (by omega), h _ (by omega)]
theorem tWr_cong {nu nu' : Nat → Rat} {num num' : Nat → Int32} {p w n : Nat} (h : ∀ v, v < n → nu v = nu' v) (h2 : ∀ i, i < 25 → num i = num' i) (hw : w < 5) (hn : n ≤ 5) : tWr nu num p w n = tWr nu' num' p w n := qs_cong (fun v hv => by rw [h v hv, gT_cong h2 hw (by omega)])
theorem tAv_cong {mu mu' nu nu' : Nat → Rat} {num num' : Nat → Int32} {p n n' : Nat} (h0 : ∀ w, w < n → mu w = mu' w) (h : ∀ v, v < n' → nu v = nu' v) (h2 : ∀ i, i < 25 → num i = num' i) (hn : n ≤ 5) (hn' : n' ≤ 5) : tAv mu nu num p n n' = tAv mu' nu' num' p n n' := qs_cong (fun w hw => by rw [h0 w hw, tWr_cong h h2 (by omega) hn'])
theorem tR_cong {y y' mu mu' nu nu' : Nat → Rat} {num num' : Nat → Int32} {p n n' w : Nat} (hy : ∀ i, i < 80 → y i = y' i) (h0 : ∀ w, w < n → mu w = mu' w) (h : ∀ v, v < n' → nu v = nu' v) (h2 : ∀ i, i < 25 → num i = num' i) (hn : n ≤ 5) (hn' : n' ≤ 5) (hp : p < 2) (hw : w < n) : tR y mu nu num p n n' w = tR y' mu' nu' num' p n n' w := by
  unfold tR; rw [hy _ (by omega), tWr_cong h h2 (by omega) hn', tAv_cong h0 h h2 hn hn']
theorem tS_cong {y y' mu mu' : Nat → Rat} {p w : Nat} (hy : ∀ i, i < 80 → y i = y' i) (h0 : mu w = mu' w) (hp : p < 2) (hw : w < 5) : tS y mu p w = tS y' mu' p w := by
  unfold tS; rw [hy _ (by omega), h0]
theorem qM_cong {f g : Nat → Rat} : ∀ {n : Nat}, (∀ k, k ≤ n → f k = g k) → qM f n = qM g n
  | 0, h => h 0 (Nat.le_refl _)
  | n + 1, h => by
    show (if qM f n < f (n + 1) then f (n + 1) else qM f n) = (if qM g n < g (n + 1) then g (n + 1) else qM g n)
    rw [qM_cong (n := n) (fun k hk => h k (by omega)), h (n + 1) (Nat.le_refl _)]
theorem tBest_cong {y y' : Nat → Rat} {num num' : Nat → Int32} {wa we p : Nat} (hy : ∀ i, i < 80 → y i = y' i) (h2 : ∀ i, i < 25 → num i = num' i) (hw : ∀ q, 0 < wyc wa we q ∧ wyc wa we q ≤ 5) (hp : p < 2) : tBest y num wa we p = tBest y' num' wa we p := by
  have h1 := hw p
  have h3 := hw (1 - p)
  exact qM_cong (fun k hk => tWr_cong (fun v hv => tMx_cong hy (Or.inr rfl) (by omega) h3.2 hv) h2 (by omega) h3.2)
theorem tBests_cong {y y' : Nat → Rat} {num num' : Nat → Int32} {wa we who : Nat} (hy : ∀ i, i < 80 → y i = y' i) (h2 : ∀ i, i < 25 → num i = num' i) (hw : ∀ q, 0 < wyc wa we q ∧ wyc wa we q ≤ 5) : tBests y num wa we who = tBests y' num' wa we who := by
  unfold tBests; rw [tBest_cong (p := 0) hy h2 hw (by decide), tBest_cong (p := 1) hy h2 hw (by decide)]
theorem cmu_cong {y y' : Nat → Rat} (h : ∀ i, i < 80 → y i = y' i) {o d : Nat} (ho : o = 0 ∨ o = 40) (hd : d ≤ 5) : ∀ p w, p < 4 * d → w < 2 → cmu y o p w = cmu y' o p w := fun p w hp hw => mx_cong (fun k hk => h _ (by omega)) hw
section
variable {mu nu : Nat → Nat → Rat} {d : Nat}
theorem pM_cong (h : ∀ p w, p < 4 * d → w < 2 → mu p w = nu p w) {j t : Nat} (hj : j < d) (ht : t < 8) : pM mu j t = pM nu j t := by
  unfold pM
  by_cases c : t < 6
  · rw [if_pos c, if_pos c, h _ _ (by omega) (by omega)]
  · rw [if_neg c, if_neg c, h _ _ (by omega) (by omega), h _ _ (by omega) (by omega)]
theorem aM_cong (h : ∀ p w, p < 4 * d → w < 2 → mu p w = nu p w) {k t : Nat} {a b : Int} (ht : t < 8) : aM mu k t a b d = aM nu k t a b d := qs_cong (fun j hj => by rw [pM_cong h hj ht])
theorem wM_cong (h : ∀ p w, p < 4 * d → w < 2 → mu p w = nu p w) (k s : Nat) : wM mu d k s = wM nu d k s := by
  unfold wM
  rw [aM_cong h (t := 0) (by decide), aM_cong h (t := 1) (by decide), aM_cong h (t := 1) (by decide), aM_cong h (t := 2) (by decide), aM_cong h (t := 3) (by decide), aM_cong h (t := 3) (by decide), aM_cong h (t := 4) (by decide), aM_cong h (t := 5) (by decide), aM_cong h (t := 6) (by decide), aM_cong h (t := 7) (by decide)]
theorem vM_cong (h : ∀ p w, p < 4 * d → w < 2 → mu p w = nu p w) {k : Nat} (hk : k < d) (s : Nat) : vM mu d k s = vM nu d k s := by
  unfold vM; rw [wM_cong h, wM_cong h, wM_cong h, wM_cong h, h _ _ (by omega) (by decide), h _ _ (by omega) (by decide)]
theorem vC_cong (h : ∀ p w, p < 4 * d → w < 2 → mu p w = nu p w) {p : Nat} (hp : p < 4 * d) (w : Nat) : vC mu d p w = vC nu d p w := by
  unfold vC; rw [vM_cong h (by omega)]
theorem kav_cong (h : ∀ p w, p < 4 * d → w < 2 → mu p w = nu p w) {p : Nat} (hp : p < 4 * d) : kav mu d p = kav nu d p := qs_cong (fun w hw => by rw [h p w hp hw, vC_cong h hp])
theorem kBest_cong (h : ∀ p w, p < 4 * d → w < 2 → mu p w = nu p w) (who : Nat) : kBest mu d who = kBest nu d who := by
  have e1 : qs (fA mu d) d = qs (fA nu d) d := qs_cong (fun k _ => by unfold fA; rw [wM_cong h, wM_cong h, wM_cong h, wM_cong h])
  have e2 : qs (fB mu d) d = qs (fB nu d) d := qs_cong (fun k _ => by unfold fB fB1 fB2; rw [wM_cong h, wM_cong h, wM_cong h, wM_cong h])
  unfold kBest; rw [e1, e2]
end
theorem kR_cong {y y' : Nat → Rat} (hy : ∀ i, i < 80 → y i = y' i) {d p w : Nat} (hd : d ≤ 5) (hp : p < 4 * d) (hw : w < 2) : kR y d p w = kR y' d p w := by
  have h := cmu_cong hy (o := 0) (Or.inl rfl) hd
  unfold kR; rw [hy _ (by omega), vC_cong h hp, kav_cong h hp]
theorem kS_cong {y y' : Nat → Rat} (hy : ∀ i, i < 80 → y i = y' i) {d p w : Nat} (hd : d ≤ 5) (hp : p < 4 * d) (hw : w < 2) : kS y p w = kS y' p w := by
  have h := cmu_cong hy (o := 0) (Or.inl rfl) hd
  unfold kS; rw [hy _ (by omega), pM_cong h (by omega) (by omega)]
theorem lgW_cong {y y' : Nat → Rat} (hy : ∀ i, i < 80 → y i = y' i) {fr a : Nat} : ∀ {n : Nat}, fr + n ≤ 40 → lgW y fr a n = lgW y' fr a n
  | 0, _ => rfl
  | n + 1, h => by
    show max (max (lgW y fr a n) _) _ = max (max (lgW y' fr a n) _) _
    rw [lgW_cong hy (n := n) (by omega), hy _ (by omega), hy _ (by omega)]
theorem lgP_cong {y y' : Nat → Rat} (hy : ∀ i, i < 80 → y i = y' i) {st wa we : Nat} : ∀ {P : Nat}, (∀ p, p < P → p * st + wyc wa we p ≤ 40) → lgP y st wa we P = lgP y' st wa we P
  | 0, _ => rfl
  | P + 1, h => by
    show lgW y (P * st) (lgP y st wa we P) _ = lgW y' (P * st) (lgP y' st wa we P) _
    rw [lgP_cong hy (P := P) (fun p hp => h p (by omega)), lgW_cong hy (h P (by omega))]

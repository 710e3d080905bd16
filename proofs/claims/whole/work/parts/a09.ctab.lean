/-! THE CLASS AGAINST THE STATE: its invariant; table, set, cards -/
/-- what stays for the others when the class works -/
def cW (rn : Nat) (M M' : rg_M) : Prop := rg_sz M ≤ rg_sz M' ∧ (∀ a, a < rg_sz M → rg_K M' a = rg_K M a ∧ rg_L M' a = rg_L M a) ∧ (∀ f a, 112 ≤ f → rg_I M' f a = rg_I M f a ∧ rg_R M' f a = rg_R M f a) ∧ (∀ b, b < rg_sz M → ¬ cO M b → b ≠ rn → rg_A M' b = rg_A M b ∧ ¬ cO M' b) ∧ ∀ w, rg_K M' w = 6 → rg_K M w = 6
theorem cW.rf (rn : Nat) (M : rg_M) : cW rn M M := ⟨Nat.le_refl _, fun _ _ => ⟨rfl, rfl⟩, fun _ _ _ => ⟨rfl, rfl⟩, fun _ _ h _ => ⟨rfl, h⟩, fun _ h => h⟩
theorem cW.tr {rn : Nat} {M M1 M2 : rg_M} (h : cW rn M M1) (h2 : cW rn M1 M2) : cW rn M M2 := by
  obtain ⟨a1, a2, a3, a4, a5⟩ := h
  obtain ⟨b1, b2, b3, b4, b5⟩ := h2
  refine ⟨by omega, fun a ha => ⟨(b2 a (by omega)).1.trans (a2 a ha).1, (b2 a (by omega)).2.trans (a2 a ha).2⟩, fun f a hf => ⟨(b3 f a hf).1.trans (a3 f a hf).1, (b3 f a hf).2.trans (a3 f a hf).2⟩, fun b hb ho hn => ?_, fun w hw => a5 w (b5 w hw)⟩
  obtain ⟨p1, p2⟩ := a4 b hb ho hn
  obtain ⟨q1, q2⟩ := b4 b (by omega) p2 hn
  exact ⟨q1.trans p1, q2⟩
theorem cG.W {rn : Nat} {M M' : rg_M} (h : cG M M') : cW rn M M' := by
  obtain ⟨g1, g2, g3, g4, g5, g6, g7⟩ := h
  refine ⟨g1, fun a ha => ⟨?_, g3 a ha⟩, fun f a hf => ⟨g4 f a (by omega) (by omega), g5 f a (by omega) (by omega) (by omega)⟩, fun b hb ho _ => g7 b hb ho, fun w hw => ?_⟩
  · rcases g2 a with p | p
    · exact p
    · omega
  · rcases g2 w with p | p
    · rw [← p]; exact hw
    · rw [p.2.2] at hw; exact absurd hw (by decide)
/-- the table's own ints are written -/
def xT (M M' : rg_M) : Prop := xM M M' ∧ (∀ g b, g < 102 → rg_I M' g b = rg_I M g b) ∧ (∀ g b, 112 ≤ g → rg_I M' g b = rg_I M g b) ∧ rg_A M' = rg_A M
theorem xT.rf (M : rg_M) : xT M M := ⟨xM.rf M, fun _ _ _ => rfl, fun _ _ _ => rfl, rfl⟩
theorem xT.tr {M M1 M2 : rg_M} (h : xT M M1) (h2 : xT M1 M2) : xT M M2 := ⟨h.1.tr h2.1, fun g b hg => (h2.2.1 g b hg).trans (h.2.1 g b hg), fun g b hg => (h2.2.2.1 g b hg).trans (h.2.2.1 g b hg), h2.2.2.2.trans h.2.2.2⟩
theorem xT_wI (M : rg_M) {f a : Nat} (v : Int32) (h1 : 102 ≤ f) (h2 : f < 112) : xT M (rg_wI M f a v) := ⟨xM_wI M v (by omega) (by omega), fun g b hg => cw_IIn (Or.inl (by omega)), fun g b hg => cw_IIn (Or.inl (by omega)), rfl⟩
theorem xT.W {rn : Nat} {M M' : rg_M} (h : xT M M') : cW rn M M' := by
  have hO := h.1.O
  obtain ⟨⟨a1, a2, a3, a4, a5, a6, a7, a8⟩, b1, b2, b3⟩ := h
  exact ⟨by omega, fun a _ => ⟨by rw [a1], by rw [a3]⟩, fun f a hf => ⟨b2 f a hf, by rw [a2]⟩, fun b hb ho _ => ⟨by rw [b3], fun q => ho ((hO b).mp q)⟩, fun w hw => by rw [a1] at hw; exact hw⟩
theorem xT.Li {ln P st wa we : Nat} {M M' : rg_M} (h : xT M M') (hI : cLi ln P st wa we M) : cLi ln P st wa we M' := by
  have hg := h.2.1
  unfold cLi; rw [hg 42 _ (by decide), hg 43 _ (by decide), hg 44 _ (by decide), hg 45 _ (by decide)]; exact hI
theorem xT.Dk {cg d : Nat} {M M' : rg_M} (h : xT M M') (hI : cDk cg d M) : cDk cg d M' := by
  unfold cDk; rw [h.2.1 6 _ (by decide)]; exact hI
/-- the table's own ints -/
def cTi (tb : Nat) (g n na nb r : Int32) (M : rg_M) : Prop := rg_I M 102 tb = g ∧ rg_I M 103 tb = n ∧ rg_I M 104 tb = na ∧ rg_I M 105 tb = nb ∧ rg_I M 106 tb = r
theorem cTi.G {tb : Nat} {g n na nb r : Int32} {M M' : rg_M} (h : cTi tb g n na nb r M) (hG : cG M M') : cTi tb g n na nb r M' := by
  have hI : ∀ f a, f ≠ 81 → f ≠ 82 → rg_I M' f a = rg_I M f a := hG.2.2.2.1
  unfold cTi; rw [hI _ _ (by decide) (by decide), hI _ _ (by decide) (by decide), hI _ _ (by decide) (by decide), hI _ _ (by decide) (by decide), hI _ _ (by decide) (by decide)]; exact h
section
variable {u z rk jf ln ng cg tb rn : Nat} {c ro fx : Nat → Nat} {M : rg_M} {s : sS} {n : Nat}
/-- the class's memory holds the state s -/
def cI (u z rk : Nat) (c : Nat → Nat) (jf ln ng cg tb rn : Nat) (ro fx : Nat → Nat) (s : sS) (M : rg_M) : Prop := ∃ (y : Nat → Rat) (r : Int32), cE u z rk c jf ln ng cg tb rn ro fx M y ∧ (∀ i, i < 80 → y i = ts_y s i) ∧ y 247 = ts_v s ∧ (ts_g s = 1 → cLi ln 2 5 (ts_a s) (ts_e s) M ∧ ∀ i, i < 25 → rg_A M rn i = ts_num s i) ∧ (ts_g s = 2 → cLi ln (4 * ts_d s) 2 2 2 M ∧ cDk cg (ts_d s) M ∧ y 244 = chN (ts_d s)) ∧ cTi tb (nI (ts_g s)) (nI (ts_n s)) (nI (ts_na s)) (nI (ts_nb s)) r M ∧ (r = 0 ∨ (r = 1 ∧ ¬ ts_bF s))
theorem cT_begin (hK : rg_K M tb = 7) (x : Int32) : ∃ M', rT_begin tb x M = some M' ∧ xT M M' ∧ cTi tb x 0 0 0 0 M' := by
  refine ⟨rg_wI (rg_wI (rg_wI (rg_wI (rg_wI M 102 tb x) 103 tb 0) 104 tb 0) 105 tb 0) 106 tb 0, ?_, ?_, ?_⟩
  · rw [rT_begin_u, rT_begin_e, if_pos hK, if_pos hK, if_pos hK, if_pos hK, if_pos ⟨hK, Or.inl rfl⟩]; rfl
  · exact (xT_wI _ _ (by decide) (by decide)).tr ((xT_wI _ _ (by decide) (by decide)).tr ((xT_wI _ _ (by decide) (by decide)).tr ((xT_wI _ _ (by decide) (by decide)).tr (xT_wI _ _ (by decide) (by decide)))))
  · refine ⟨?_, ?_, ?_, ?_, ?_⟩
    · rw [cw_IIn (Or.inl (by decide)), cw_IIn (Or.inl (by decide)), cw_IIn (Or.inl (by decide)), cw_IIn (Or.inl (by decide)), cw_II]
    · rw [cw_IIn (Or.inl (by decide)), cw_IIn (Or.inl (by decide)), cw_IIn (Or.inl (by decide)), cw_II]
    · rw [cw_IIn (Or.inl (by decide)), cw_IIn (Or.inl (by decide)), cw_II]
    · rw [cw_IIn (Or.inl (by decide)), cw_II]
    · rw [cw_II]
theorem xM_cW {M' : rg_M} (h : xM M M') (h1 : ∀ f a, 112 ≤ f → rg_I M' f a = rg_I M f a) (h2 : ∀ b, b ≠ rn → rg_A M' b = rg_A M b) : cW rn M M' := by
  have hO := h.O
  obtain ⟨a1, a2, a3, a4, a5, a6, a7, a8⟩ := h
  exact ⟨by omega, fun a _ => ⟨by rw [a1], by rw [a3]⟩, fun f a hf => ⟨h1 f a hf, by rw [a2]⟩, fun b hb ho hn => ⟨h2 b hn, fun q => ho ((hO b).mp q)⟩, fun w hw => by rw [a1] at hw; exact hw⟩
theorem cT_table (h : cI u z rk c jf ln ng cg tb rn ro fx s M) (a b : Int32) : ∃ M', rT_table tb a b M = some ((ts_table s a b).1, M') ∧ cI u z rk c jf ln ng cg tb rn ro fx (ts_table s a b).2 M' ∧ cW rn M M' := by
  have h0 := h
  obtain ⟨y, r, hE, h80, h247, h1, h2, hT, hr⟩ := h
  have A := hE.1.all
  rw [rT_table_u, rT_table_e, cT_isWithin]
  simp only [Option.bind_some]
  by_cases ca : 1 ≤ a ∧ a ≤ 5
  · rw [if_pos ca, if_neg (by decide), cT_isWithin]
    simp only [Option.bind_some]
    by_cases cb : 1 ≤ b ∧ b ≤ 5
    · rw [if_pos cb, if_neg (by decide)]
      rw [show ts_table s a b = (1, ((1, a.toNatClampNeg, b.toNatClampNeg, 0), (0, 0, 0), (fun _ => 0), (fun _ => 0), ts_v s)) from if_pos ⟨ca, cb⟩]
      obtain ⟨k, k1, k2, k3⟩ := nI_rng (a := 1) (b := 5) (x := a) (by decide) ca (by decide)
      obtain ⟨l, l1, l2, l3⟩ := nI_rng (a := 1) (b := 5) (x := b) (by decide) cb (by decide)
      subst k3 l3
      rw [nI_clamp (by omega), nI_clamp (by omega)]
      obtain ⟨M1, M2, y2, b1, b2, b3, b4, b5, b6, b7, b8, b9⟩ := cN_begin hE k l
      have A2 := b2.1.all
      obtain ⟨M3, c1, c2, c3⟩ := cT_begin A2.1.2.2.2.1 1
      simp only [A, A2, if_true, Option.bind_some, b1, c1]
      refine ⟨M3, rfl, ⟨y2, 0, c2.1.E b2, fun i hi => b4 i hi, by rw [b3 _ (by decide)]; exact h247, fun _ => ⟨c2.Li b5, fun i hi => ?_⟩, fun h => absurd (show (1 : Nat) = 2 from h) (by decide), c3, Or.inl rfl⟩, ?_⟩
      · rw [c2.2.2.2]; exact b6 i hi
      · refine cW.tr (xM_cW b8 (fun f q hf => ?_) (fun x hx => ?_)) (b9.W.tr c2.W)
        · rw [b7, cw_IIn (Or.inl (by omega)), cw_IIn (Or.inl (by omega)), cw_IIn (Or.inl (by omega)), cw_IIn (Or.inl (by omega))]; rfl
        · rw [b7]; exact cr_An hx
    · rw [if_neg cb, if_pos rfl, rT_table_18_e]
      unfold ts_table
      rw [if_neg (fun q => cb q.2)]
      exact ⟨M, rfl, h0, cW.rf _ _⟩
  · rw [if_neg ca, if_pos rfl, rT_table_18_e]
    unfold ts_table
    rw [if_neg (fun q => ca q.1)]
    exact ⟨M, rfl, h0, cW.rf _ _⟩
theorem cT_cards (h : cI u z rk c jf ln ng cg tb rn ro fx s M) (a : Int32) : ∃ M', rT_cards tb a M = some ((ts_cards s a).1, M') ∧ cI u z rk c jf ln ng cg tb rn ro fx (ts_cards s a).2 M' ∧ cW rn M M' := by
  have h0 := h
  obtain ⟨y, r, hE, h80, h247, h1, h2, hT, hr⟩ := h
  have A := hE.1.all
  rw [rT_cards_u, rT_cards_e, cT_isWithin]
  simp only [Option.bind_some]
  by_cases ca : 3 ≤ a ∧ a ≤ 5
  · rw [if_pos ca, if_neg (by decide)]
    rw [show ts_cards s a = (1, ((2, 0, 0, a.toNatClampNeg), (0, 0, 0), ts_num s, (fun _ => 0), ts_v s)) from if_pos ca]
    obtain ⟨k, k1, k2, k3⟩ := nI_rng (a := 3) (b := 5) (x := a) (by decide) ca (by decide)
    subst k3
    rw [nI_clamp (by omega)]
    obtain ⟨M1, M2, M3, M4, y4, b1, b2, b3, b4, b5, b6, b7, b8, b9, b10, b11, b12, b13⟩ := cC_begin hE k1 k2
    have A4 := b2.1.all
    obtain ⟨M5, c1, c2, c3⟩ := cT_begin A4.1.2.2.2.1 2
    simp only [A, A4, if_true, Option.bind_some, b1, c1]
    refine ⟨M5, rfl, ⟨y4, 0, c2.1.E b2, fun i hi => b4 i hi, by rw [b3 _ (by decide) (by decide)]; exact h247, fun h => absurd (show (2 : Nat) = 1 from h) (by decide), fun _ => ⟨c2.Li b6, c2.Dk b7, b5⟩, c3, Or.inl rfl⟩, ?_⟩
    refine cW.tr (xM_cW b9 (fun f q hf => ?_) (fun x hx => ?_)) (b10.W.tr (cW.tr (xM_cW b12 (fun f q hf => ?_) (fun x hx => ?_)) (b13.W.tr c2.W)))
    · rw [b8, cw_IIn (Or.inl (by omega))]
    · rw [b8]; rfl
    · rw [b11, cw_IIn (Or.inl (by omega)), cw_IIn (Or.inl (by omega)), cw_IIn (Or.inl (by omega)), cw_IIn (Or.inl (by omega))]
    · rw [b11]; rfl
  · rw [if_neg ca, if_pos rfl]
    unfold ts_cards
    rw [if_neg ca]
    exact ⟨M, rfl, h0, cW.rf _ _⟩
/-- fewer than 9 words: at most 256 bits -/
theorem bits_le {v k : Nat} (h : v < 2 ^ k) : rm_bits v ≤ k := by
  unfold rm_bits
  by_cases c : v = 0
  · rw [if_pos c]; exact Nat.zero_le _
  · rw [if_neg c]
    exact (Nat.log2_lt c).mpr h
theorem qL_B {x : Rat} {k : Nat} (h : qL x k) (hk : k ≤ 8) : qB x ≤ 256 := by
  have e : ∀ m : Nat, m < wB ^ k → rm_bits m ≤ 256 := fun m hm => by
    have h1 : wB ^ k = 2 ^ (31 * k) := by rw [Nat.pow_mul]
    rw [h1] at hm
    exact Nat.le_trans (bits_le hm) (by omega)
  unfold qB
  exact Nat.max_le.mpr ⟨e _ h.1, e _ h.2⟩
/-- a mix of nothing -/
theorem mx_none {f : Nat → Rat} {n w : Nat} (h : ∀ v, v < n → f v = 0) : mx f n w = ((1 : Int) : Rat) / ((n : Nat) : Rat) := by
  have e : mxT f n = 0 := by
    have : mxT f n = qs (fun v => 0 * (0 : Rat)) n := qs_cong (fun k hk => by show qp (f k) = _; rw [h k hk, Rat.mul_zero]; unfold qp; rw [if_neg (by decide)])
    rw [this, qs_mul, Rat.zero_mul]
  unfold mx
  rw [e, if_neg (by decide)]
theorem q1n_facts {n : Nat} (hn : 0 < n) : qD (((1 : Int) : Rat) / ((n : Nat) : Rat)) (n : Int) ∧ 0 ≤ ((1 : Int) : Rat) / ((n : Nat) : Rat) ∧ ((1 : Int) : Rat) / ((n : Nat) : Rat) ≤ ((1 : Nat) : Rat) := by
  have hr : (0 : Rat) < ((n : Nat) : Rat) := Rat.natCast_pos.mpr hn
  have hz : ((n : Nat) : Rat) ≠ 0 := fun e => by rw [e] at hr; exact absurd hr (by decide)
  have hm : ((1 : Int) : Rat) / ((n : Nat) : Rat) * ((n : Nat) : Rat) = 1 := by rw [Rat.div_mul_cancel hz, Rat.intCast_one]
  refine ⟨⟨1, by rw [Rat.intCast_natCast, hm, Rat.intCast_one]⟩, ?_, ?_⟩
  · rw [Rat.div_def, Rat.intCast_one, Rat.one_mul]
    exact Rat.le_of_lt (Rat.inv_pos.mpr hr)
  · refine Rat.le_of_mul_le_mul_right (c := ((n : Nat) : Rat)) ?_ hr
    rw [hm, ← Rat.natCast_mul, Nat.one_mul]
    have h8 : ((1 : Nat) : Rat) ≤ ((n : Nat) : Rat) := Rat.natCast_le_natCast.mpr hn
    exact h8
/-- a first round of both at a table of numbers always fits -/
theorem ts_fit0 (hok : ts_ok n s) (hg : ts_g s = 1) (h0 : ts_n s = 0) : ts_bF s := by
  have hy := hok.2.2.2.2.2.2.2.2.2 h0
  intro p hp w hw
  have e2 : ts_g s ≠ 2 := by omega
  have hp2 : p < 2 := by unfold ts_P at hp; rw [if_neg e2, if_pos hg] at hp; exact hp
  have hw2 : w < wyc (ts_a s) (ts_e s) p := by unfold ts_w at hw; rw [if_neg e2] at hw; exact hw
  have hn : ∀ q, 0 < wyc (ts_a s) (ts_e s) q ∧ wyc (ts_a s) (ts_e s) q ≤ 5 := fun q => hok.w hg q
  have hmx : ∀ q v, q < 2 → tMx (ts_y s) 0 (ts_a s) (ts_e s) q v = ((1 : Int) : Rat) / ((wyc (ts_a s) (ts_e s) q : Nat) : Rat) := fun q v hq => mx_none (fun v hv => hy _ (by have := hn q; omega))
  have hqN : ∀ q, q < 2 → qN (tMx (ts_y s) 0 (ts_a s) (ts_e s) q) (wyc (ts_a s) (ts_e s) q) ((wyc (ts_a s) (ts_e s) q : Nat) : Int) := fun q hq => ⟨by have := hn q; omega, fun v hv => by rw [hmx q v hq]; exact q1n_facts (hn q).1⟩
  have hcL : ∀ q, cL ((wyc (ts_a s) (ts_e s) q : Nat) : Int) 1 := fun q => by
    unfold cL; rw [Int.natAbs_natCast, Nat.pow_one]; exact Nat.lt_of_le_of_lt (hn q).2 (by decide)
  have hW : ∀ w, w < wyc (ts_a s) (ts_e s) p → qD (tWr (tMx (ts_y s) 0 (ts_a s) (ts_e s) (1 - p)) (ts_num s) p w (wyc (ts_a s) (ts_e s) (1 - p))) ((wyc (ts_a s) (ts_e s) (1 - p) : Nat) : Int) ∧ -((5000 : Nat) : Rat) ≤ tWr (tMx (ts_y s) 0 (ts_a s) (ts_e s) (1 - p)) (ts_num s) p w (wyc (ts_a s) (ts_e s) (1 - p)) ∧ tWr (tMx (ts_y s) 0 (ts_a s) (ts_e s) (1 - p)) (ts_num s) p w (wyc (ts_a s) (ts_e s) (1 - p)) ≤ ((5000 : Nat) : Rat) := fun w hw => by
    have h5 := hn p
    have h6 := hn (1 - p)
    obtain ⟨-, x2, x3, x4⟩ := qN.sum (j := wyc (ts_a s) (ts_e s) (1 - p)) (g := 1000) (a := fun v => gT (ts_num s) p w v) (hqN (1 - p) (by omega)) (hcL (1 - p)) (Nat.le_refl _) (fun v hv => (gI_T (p := p) hok.2.2.2.2.2.1 (w := w) (v := v) (by omega) (by omega)).2) (by omega)
    have x5 := q_wide (n := 5000) (by omega) x3 x4
    exact ⟨x2, x5⟩
  have hA := qN.avg (j := wyc (ts_a s) (ts_e s) p) (B := 5000) (hqN p hp2) (hcL p) (hcL (1 - p)) (by have := hn (1 - p); omega) (Nat.le_refl _) hW (by have := hn p; omega)
  have hW1 := hW w hw2
  have lW := hW1.1.L (k := 1) (by have := hn (1 - p); omega) (hcL (1 - p)) (by decide) hW1.2.1 hW1.2.2
  refine ⟨?_, ?_⟩
  · unfold ts_bR
    rw [if_neg e2]
    unfold tR
    rw [hy _ (by have := hn p; omega), Rat.zero_add, Rat.sub_eq_add_neg]
    have lA : qL (-(tAv (tMx (ts_y s) 0 (ts_a s) (ts_e s) p) (tMx (ts_y s) 0 (ts_a s) (ts_e s) (1 - p)) (ts_num s) p (wyc (ts_a s) (ts_e s) p) (wyc (ts_a s) (ts_e s) (1 - p)))) (1 + 1 + 1) := by
      obtain ⟨a1, a2⟩ := hA
      refine ⟨?_, ?_⟩
      · show cL (-(tAv _ _ _ _ _ _)).num _
        rw [Rat.neg_num]; unfold cL; rw [Int.natAbs_neg]; exact a1
      · show cL (((-(tAv _ _ _ _ _ _)).den : Nat) : Int) _
        rw [Rat.neg_den]; exact a2
    exact qL_B (qL_add lW lA) (by decide)
  · unfold ts_bS
    rw [if_neg e2]
    unfold tS
    rw [hy _ (by have := hn p; omega), Rat.zero_add]
    exact qL_B ((hqN p hp2).L (hcL p) hw2) (by decide)
theorem cT_set (h : cI u z rk c jf ln ng cg tb rn ro fx s M) (hok : ts_ok n s) (hn : n < 2 ^ 20) (a b v : Int32) : ∃ M', rT_set tb a b v M = some ((ts_set s a b v).1, M') ∧ cI u z rk c jf ln ng cg tb rn ro fx (ts_set s a b v).2 M' ∧ cW rn M M' := by
  have h0 := h
  obtain ⟨y, r, hE, h80, h247, h1, h2, hT, hr⟩ := h
  have A := hE.1.all
  have hN : ts_n s ≤ n := hok.2.2.2.2.2.2.2.2.1.1
  have no : ∀ P : Prop, ¬ P → (ts_g s = 1 ∧ ts_n s = 0 ∧ (0 ≤ a ∧ a.toNatClampNeg < ts_a s) ∧ (0 ≤ b ∧ b.toNatClampNeg < ts_e s) ∧ (-1000 ≤ v ∧ v ≤ 1000) → P) → (some (0, M) : Option (Int32 × rg_M)) = some ((ts_set s a b v).1, M) ∧ cI u z rk c jf ln ng cg tb rn ro fx (ts_set s a b v).2 M := fun P hP hi => by
    unfold ts_set
    rw [if_neg (fun q => hP (hi q))]
    exact ⟨rfl, h0⟩
  rw [rT_set_u, rT_set_e, if_pos A.1.2.2.2.1, hT.1]
  by_cases cg1 : ts_g s = 1
  · rw [cg1, if_pos (show nI 1 = (1 : Int32) from rfl), if_pos A.1.2.2.2.1, hT.2.1]
    by_cases cn : ts_n s = 0
    · rw [cn, if_pos (show nI 0 = (0 : Int32) from rfl), if_pos A.1.2.2.2.1]
      obtain ⟨hI, hA⟩ := h1 cg1
      obtain ⟨w1, w2, w3, w4⟩ := hok.2.1 cg1
      obtain ⟨r1, e1, e2, e3⟩ := cL_has A.1.1 hI (by decide) (by omega) (by omega) 0 a
      obtain ⟨r2, f1, f2, f3⟩ := cL_has A.1.1 hI (by decide) (by omega) (by omega) 1 b
      have e3' : r1 = 1 ↔ (0 ≤ a ∧ a.toNatClampNeg < ts_a s) := by
        rw [e3, nI_has (by omega)]
        constructor
        · rintro ⟨p, k, q1, q2, q3, q4⟩
          have : (0 : Nat) = p := (nI_eq (by decide) (by omega)).mp q3
          subst this
          exact ⟨k, q2, q4⟩
        · rintro ⟨k, q1, q2⟩
          exact ⟨0, k, by decide, q1, rfl, q2⟩
      have f3' : r2 = 1 ↔ (0 ≤ b ∧ b.toNatClampNeg < ts_e s) := by
        rw [f3, nI_has (by omega)]
        constructor
        · rintro ⟨p, k, q1, q2, q3, q4⟩
          have : (1 : Nat) = p := (nI_eq (by decide) (by omega)).mp q3
          subst this
          exact ⟨k, q2, q4⟩
        · rintro ⟨k, q1, q2⟩
          exact ⟨1, k, by decide, q1, rfl, q2⟩
      simp only [A, if_true, Option.bind_some, e1]
      by_cases ca : r1 = 1
      · rw [if_neg (by rw [ca]; decide)]
        simp only [A, if_true, Option.bind_some, f1]
        by_cases cb : r2 = 1
        · rw [if_neg (by rw [cb]; decide), cT_isWithin]
          simp only [Option.bind_some]
          by_cases cv : -1000 ≤ v ∧ v ≤ 1000
          · rw [if_pos cv, if_neg (by decide)]
            have ha := e3'.mp ca
            have hb := f3'.mp cb
            rw [show ts_set s a b v = (1, (s.1, s.2.1, va_up (ts_num s) (a.toNatClampNeg * 5 + b.toNatClampNeg) v, ts_y s, ts_v s)) from if_pos ⟨cg1, cn, ha, hb, cv⟩]
            obtain ⟨k, k1, k2⟩ := (nI_has (by omega)).mp ha
            obtain ⟨l, l1, l2⟩ := (nI_has (by omega)).mp hb
            subst k2 l2
            rw [nI_clamp (by omega), nI_clamp (by omega)]
            have ei : nI k * (5 : Int32) + nI l = nI (k * 5 + l) := by rw [show (5 : Int32) = nI 5 from rfl, pk_mul, nI_add]
            have k1' := nI_clamp (n := k * 5 + l) (by omega)
            have k2' := rm_i0 (a := k * 5 + l) (by omega)
            have k3' : k * 5 + l < 25 := by omega
            simp only [A, if_true, Option.bind_some, ei, k1', k2', k3', and_self]
            have hx : xM M (rg_wA M rn (k * 5 + l) v) := xM_wA M v hE.1.1.2.2.2.2.2.2
            refine ⟨_, rfl, ⟨y, 0, hx.E hE, h80, h247, fun _ => ⟨hI, fun i hi => ?_⟩, fun q => absurd (cg1.symm.trans q) (by decide), ?_, Or.inl rfl⟩, ?_⟩
            · show rg_u2 (rg_A M) rn (k * 5 + l) v rn i = va_up (ts_num s) (k * 5 + l) v i
              unfold rg_u2
              rw [if_pos rfl]
              by_cases e : i = k * 5 + l
              · rw [if_pos e, e, rg_up_eq]
              · rw [if_neg e, rg_up_ne e]; exact hA i hi
            · have hr0 : r = 0 := by
                rcases hr with q | q
                · exact q
                · exact absurd (ts_fit0 hok cg1 cn) q.2
              rw [hr0] at hT
              exact hT
            · exact xM_cW hx (fun _ _ _ => rfl) (fun x hx => by
                show rg_u2 (rg_A M) rn (k * 5 + l) v x = _
                funext j
                unfold rg_u2; rw [if_neg hx])
          · rw [if_neg cv, if_pos rfl, rT_set_54_e]
            obtain ⟨t1, t2⟩ := no _ cv (fun q => q.2.2.2.2)
            exact ⟨M, t1, t2, cW.rf _ _⟩
        · have : r2 = 0 := by rcases f2 with q | q; exact q; exact absurd q cb
          rw [if_pos this, rT_set_54_e]
          obtain ⟨t1, t2⟩ := no _ cb (fun q => f3'.mpr q.2.2.2.1)
          exact ⟨M, t1, t2, cW.rf _ _⟩
      · have : r1 = 0 := by rcases e2 with q | q; exact q; exact absurd q ca
        rw [if_pos this, rT_set_54_e]
        obtain ⟨t1, t2⟩ := no _ ca (fun q => e3'.mpr q.2.2.1)
        exact ⟨M, t1, t2, cW.rf _ _⟩
    · rw [if_neg (fun q => cn ((nI_eq (by omega) (by decide)).mp (q.trans (show (0 : Int32) = nI 0 from rfl)))), rT_set_15_e]
      obtain ⟨t1, t2⟩ := no _ cn (fun q => q.2.1)
      exact ⟨M, t1, t2, cW.rf _ _⟩
  · rw [if_neg (fun q => cg1 ((nI_eq (by have := hok.1; omega) (by decide)).mp (q.trans (show (1 : Int32) = nI 1 from rfl)))), rT_set_15_e]
    obtain ⟨t1, t2⟩ := no _ cg1 (fun q => q.1)
    exact ⟨M, t1, t2, cW.rf _ _⟩
end

/-! other changes of the memory; adopt, begin, greatestRegret, longest, has -/
def xM (M M' : rg_M) : Prop := rg_K M' = rg_K M ∧ rg_R M' = rg_R M ∧ rg_L M' = rg_L M ∧ rg_Q M' = rg_Q M ∧ rg_sz M' = rg_sz M ∧ rg_us M' = rg_us M ∧ (∀ f a, f = 81 ∨ f = 82 → rg_I M' f a = rg_I M f a) ∧ ∀ b, cO M b → rg_A M' b = rg_A M b
theorem xM.rf (M : rg_M) : xM M M := ⟨rfl, rfl, rfl, rfl, rfl, rfl, fun _ _ _ => rfl, fun _ _ => rfl⟩
theorem xM_wI (M : rg_M) {f a : Nat} (v : Int32) (h1 : f ≠ 81) (h2 : f ≠ 82) : xM M (rg_wI M f a v) := ⟨rfl, rfl, rfl, rfl, rfl, rfl, fun g b hg => cw_IIn (Or.inl (by omega)), fun _ _ => rfl⟩
theorem xM_wA (M : rg_M) {b i : Nat} (v : Int32) (h : ¬ cO M b) : xM M (rg_wA M b i v) := by
  refine ⟨rfl, rfl, rfl, rfl, rfl, rfl, fun _ _ _ => rfl, fun x hx => ?_⟩
  have hne : x ≠ b := fun e => h (by rw [← e]; exact hx)
  funext j
  show rg_u2 _ _ _ _ x j = _
  unfold rg_u2; rw [if_neg hne]
theorem xM.O {M M' : rg_M} (h : xM M M') (b : Nat) : cO M' b ↔ cO M b := by unfold cO; rw [h.1, h.2.1]
theorem xM.tr {M M1 M2 : rg_M} (h : xM M M1) (h2 : xM M1 M2) : xM M M2 := by
  have hO := h.O
  obtain ⟨a1, a2, a3, a4, a5, a6, a7, a8⟩ := h
  obtain ⟨b1, b2, b3, b4, b5, b6, b7, b8⟩ := h2
  exact ⟨b1.trans a1, b2.trans a2, b3.trans a3, b4.trans a4, b5.trans a5, b6.trans a6, fun f a hf => (b7 f a hf).trans (a7 f a hf), fun b hb => (b8 b ((hO b).mpr hb)).trans (a8 b hb)⟩
theorem xM.S {u z rk jf : Nat} {c : Nat → Nat} {M M' : rg_M} {q : Nat → Rat} (h : xM M M') (hS : cS u z rk c jf M q) : cS u z rk c jf M' q := by
  obtain ⟨a1, a2, a3, a4, a5, a6, a7, a8⟩ := h
  obtain ⟨hH, hR, hFr, V, hV, hQ⟩ := hS
  have fc : cwc M' = cwc M := by funext x; unfold cwc; rw [a1, a2, a3]
  refine ⟨?_, ?_, ?_, V, ?_, ?_⟩
  · unfold cH; rw [fc, a1, a2, a3, a5, a6]; exact hH
  · unfold cRk; rw [a1, a2, a3, a5]; exact hR
  · unfold cFr; rw [a1, a2, a5]; exact hFr
  · intro w hw
    rw [a1] at hw
    obtain ⟨b, n, hW⟩ := hV w hw
    refine ⟨b, n, ?_⟩
    unfold cwW
    rw [a1, a2, a3, a7 81 w (Or.inl rfl), a7 82 w (Or.inr rfl), a8 b ⟨w, hw, hW.2.1⟩]
    exact hW
  · unfold cvQ; rw [a1, a2]; exact hQ
section
variable {u z rk jf ln ng cg tb rn P st wa we : Nat} {c ro fx : Nat → Nat} {M : rg_M} {y : Nat → Rat}
theorem xM.E {M' : rg_M} (h : xM M M') (hE : cE u z rk c jf ln ng cg tb rn ro fx M y) : cE u z rk c jf ln ng cg tb rn ro fx M' y := by
  have hO := h.O
  obtain ⟨hn, q, hS, hq⟩ := hE
  refine ⟨?_, q, h.S hS, hq⟩
  obtain ⟨a1, a2, a3, a4, a5, a6, a7, a8⟩ := h
  have hr := hO rn
  unfold cEn at *
  rw [a1, a2, a3, a4, a5, hr]
  exact hn
theorem cL_adopt2 {p : Nat} (hp : p < 20) (hst : p * st + wyc wa we p ≤ 40) (hL : ∀ w, w < wyc wa we p → qL (y (80 + (p * st + w))) 9 ∧ qL (y (120 + (p * st + w))) 9) : ∀ d j : Nat, wyc wa we p - j = d → j ≤ wyc wa we p → ∀ (M : rg_M) (y' : Nat → Rat), cE u z rk c jf ln ng cg tb rn ro fx M y' → cLi ln P st wa we M → (∀ i, (i < p * st ∨ p * st + wyc wa we p ≤ i) → (i < 40 + p * st ∨ 40 + p * st + wyc wa we p ≤ i) → y' i = y i) → (∀ w, w < j → y' (p * st + w) = y (80 + (p * st + w)) ∧ y' (40 + (p * st + w)) = y (120 + (p * st + w))) →
    ∃ M' y'', rL_adopt_2 ln (nI p) (nI j) M = some (none, M') ∧ cE u z rk c jf ln ng cg tb rn ro fx M' y'' ∧ (∀ i, (i < p * st ∨ p * st + wyc wa we p ≤ i) → (i < 40 + p * st ∨ 40 + p * st + wyc wa we p ≤ i) → y'' i = y i) ∧ (∀ w, w < wyc wa we p → y'' (p * st + w) = y (80 + (p * st + w)) ∧ y'' (40 + (p * st + w)) = y (120 + (p * st + w))) ∧ cG M M' := by
  intro d
  induction d with
  | zero =>
    intro j hd hj M y' hE hI h1 h2
    have e : j = wyc wa we p := by omega
    subst e
    have A := hE.1.all
    rw [rL_adopt_2_e, if_pos A.1.1, cL_ways A.1.1 hI (by omega)]
    simp only [Option.bind_some, Int32.le_refl, if_true]
    exact ⟨M, y', rfl, hE, h1, h2, cG.rf M⟩
  | succ d ih =>
    intro j hd hj M y' hE hI h1 h2
    have hjn : j < wyc wa we p := by omega
    have A := hE.1.all
    have q0 := hE.1.q (k := 0) (i := p * st + j) (by omega) (by omega)
    have q2 := hE.1.q (k := 2) (i := p * st + j) (by omega) (by omega)
    have k1 := nI_clamp (n := p * st + j) (by omega)
    have k2 := rm_i0 (a := p * st + j) (by omega)
    have k3 : p * st + j < 40 := by omega
    have pp : ¬ nI (wyc wa we p) ≤ nI j := by rw [nI_leI (by omega) (by omega)]; omega
    have e2 : y' (40 * 2 + (p * st + j)) = y (80 + (p * st + j)) := h1 _ (by omega) (by omega)
    obtain ⟨M1, a1, a2, a3⟩ := cE_copy hE (i := 40 * 0 + (p * st + j)) (j := 40 * 2 + (p * st + j)) (k := 9) (Or.inl (by omega)) (Or.inl (by omega)) (by omega) (by decide) (by rw [e2]; exact (hL j hjn).1)
    rw [e2] at a2
    have A1 := a2.1.all
    have q1 := a2.1.q (k := 1) (i := p * st + j) (by omega) (by omega)
    have q3 := a2.1.q (k := 3) (i := p * st + j) (by omega) (by omega)
    have e3 : va_up y' (40 * 0 + (p * st + j)) (y (80 + (p * st + j))) (40 * 3 + (p * st + j)) = y (120 + (p * st + j)) := by rw [rg_up_ne (by omega)]; exact h1 _ (by omega) (by omega)
    obtain ⟨M2, b1, b2, b3⟩ := cE_copy a2 (i := 40 * 1 + (p * st + j)) (j := 40 * 3 + (p * st + j)) (k := 9) (Or.inl (by omega)) (Or.inl (by omega)) (by omega) (by decide) (by rw [e3]; exact (hL j hjn).2)
    rw [e3] at b2
    rw [rL_adopt_2_e, if_pos A.1.1, cL_ways A.1.1 hI (by omega)]
    simp only [Option.bind_some, pp, if_false, A, if_true, cL_slot A.1.1 hI p j, k1, k2, k3, and_self, q0, q2, a1, A1, q1, q3, b1, nI_1]
    obtain ⟨M', y'', d1, d2, d3, d4, d5⟩ := ih (j + 1) (by omega) (by omega) M2 _ b2 (hI.G (a3.tr b3)) (fun i hi hi2 => by rw [rg_up_ne (by omega), rg_up_ne (by omega)]; exact h1 i hi hi2) (fun w hw => by
      by_cases e : w = j
      · rw [e]
        refine ⟨?_, ?_⟩
        · rw [rg_up_ne (by omega)]
          have e00 : 40 * 0 + (p * st + j) = p * st + j := by omega
          rw [e00, rg_up_eq]
        · rw [show 40 + (p * st + j) = 40 * 1 + (p * st + j) by omega, rg_up_eq]
      · obtain ⟨t1, t2⟩ := h2 w (by omega)
        exact ⟨by rw [rg_up_ne (by omega), rg_up_ne (by omega)]; exact t1, by rw [rg_up_ne (by omega), rg_up_ne (by omega)]; exact t2⟩)
    exact ⟨M', y'', d1, d2, d3, d4, a3.tr (b3.tr d5)⟩
theorem cL_adopt (hE : cE u z rk c jf ln ng cg tb rn ro fx M y) (hI : cLi ln P st wa we M) {p : Nat} (hp : p < 20) (hst : p * st + wyc wa we p ≤ 40) (hL : ∀ w, w < wyc wa we p → qL (y (80 + (p * st + w))) 9 ∧ qL (y (120 + (p * st + w))) 9) : ∃ M' y', rL_adopt ln (nI p) M = some M' ∧ cE u z rk c jf ln ng cg tb rn ro fx M' y' ∧ (∀ i, (i < p * st ∨ p * st + wyc wa we p ≤ i) → (i < 40 + p * st ∨ 40 + p * st + wyc wa we p ≤ i) → y' i = y i) ∧ (∀ w, w < wyc wa we p → y' (p * st + w) = y (80 + (p * st + w)) ∧ y' (40 + (p * st + w)) = y (120 + (p * st + w))) ∧ cG M M' := by
  obtain ⟨M', y', b1, b2, b3, b4, b5⟩ := cL_adopt2 (y := y) hp hst hL _ 0 rfl (Nat.zero_le _) M y hE hI (fun _ _ _ => rfl) (fun w hw => by omega)
  have b1 : rL_adopt_2 ln (nI p) 0 M = _ := b1
  refine ⟨M', y', ?_, b2, b3, b4, b5⟩
  rw [rL_adopt_u, rL_adopt_e, b1]; rfl
theorem cL_begin24 : ∀ d j : Nat, 40 - j = d → j ≤ 40 → ∀ (M : rg_M) (y' : Nat → Rat), cE u z rk c jf ln ng cg tb rn ro fx M y' → (∀ i, 80 ≤ i → y' i = y i) → (∀ s, s < j → y' s = 0 ∧ y' (40 + s) = 0) →
    ∃ M' y'', rL_begin_24 ln (nI j) M = some (none, M') ∧ cE u z rk c jf ln ng cg tb rn ro fx M' y'' ∧ (∀ i, 80 ≤ i → y'' i = y i) ∧ (∀ s, s < 80 → y'' s = 0) ∧ cG M M' := by
  intro d
  induction d with
  | zero =>
    intro j hd hj M y' hE h1 h2
    have e : j = 40 := by omega
    subst e
    rw [rL_begin_24_e, if_pos (by decide)]
    refine ⟨M, y', rfl, hE, h1, fun s hs => ?_, cG.rf M⟩
    by_cases c : s < 40
    · exact (h2 s c).1
    · have := (h2 (s - 40) (by omega)).2
      rw [show 40 + (s - 40) = s by omega] at this; exact this
  | succ d ih =>
    intro j hd hj M y' hE h1 h2
    have A := hE.1.all
    have q0 := hE.1.q (k := 0) (i := j) (by omega) (by omega)
    rw [show 40 * 0 + j = j by omega] at q0
    have k1 := nI_clamp (n := j) (by omega)
    have k2 := rm_i0 (a := j) (by omega)
    have k3 : j < 40 := by omega
    obtain ⟨M1, a1, a2, a3⟩ := cE_zero hE (i := j) (Or.inl (by omega))
    have A1 := a2.1.all
    have q1 := a2.1.q (k := 1) (i := j) (by omega) (by omega)
    rw [show 40 * 1 + j = 40 + j by omega] at q1
    obtain ⟨M2, b1, b2, b3⟩ := cE_zero a2 (i := 40 + j) (Or.inl (by omega))
    rw [rL_begin_24_e, if_neg (by rw [show (40 : Int32) = nI 40 from rfl, nI_leI (by omega) (by omega)]; omega)]
    simp only [A, if_true, Option.bind_some, k1, k2, k3, and_self, q0, a1, A1, q1, b1, nI_1]
    obtain ⟨M', y'', d1, d2, d3, d4, d5⟩ := ih (j + 1) (by omega) (by omega) M2 _ b2 (fun i hi => by rw [rg_up_ne (by omega), rg_up_ne (by omega)]; exact h1 i hi) (fun s hs => by
      by_cases e : s = j
      · rw [e]; exact ⟨by rw [rg_up_ne (by omega), rg_up_eq], rg_up_eq⟩
      · obtain ⟨t1, t2⟩ := h2 s (by omega)
        exact ⟨by rw [rg_up_ne (by omega), rg_up_ne (by omega)]; exact t1, by rw [rg_up_ne (by omega), rg_up_ne (by omega)]; exact t2⟩)
    exact ⟨M', y'', d1, d2, d3, d4, a3.tr (b3.tr d5)⟩
/-- begin: all regrets and sums at 0, and the shape of the game -/
theorem cL_begin (hE : cE u z rk c jf ln ng cg tb rn ro fx M y) (P' st' wa' we' : Nat) : ∃ M1 M' y', rL_begin ln (nI P') (nI st') (nI wa') (nI we') M = some M' ∧ cE u z rk c jf ln ng cg tb rn ro fx M' y' ∧ (∀ i, 80 ≤ i → y' i = y i) ∧ (∀ s, s < 80 → y' s = 0) ∧ cLi ln P' st' wa' we' M' ∧ M1 = rg_wI (rg_wI (rg_wI (rg_wI M 42 ln (nI P')) 43 ln (nI st')) 44 ln (nI wa')) 45 ln (nI we') ∧ xM M M1 ∧ cG M1 M' := by
  have A := hE.1.all
  obtain ⟨M1, hM1⟩ : ∃ M1, M1 = rg_wI (rg_wI (rg_wI (rg_wI M 42 ln (nI P')) 43 ln (nI st')) 44 ln (nI wa')) 45 ln (nI we') := ⟨_, rfl⟩
  have hx : xM M M1 := by
    rw [hM1]
    exact (((xM_wI M _ (by decide) (by decide)).tr (xM_wI _ _ (by decide) (by decide))).tr (xM_wI _ _ (by decide) (by decide))).tr (xM_wI _ _ (by decide) (by decide))
  have hI1 : cLi ln P' st' wa' we' M1 := by
    rw [hM1]
    refine ⟨?_, ?_, ?_, ?_⟩
    · rw [cw_IIn (Or.inl (by decide)), cw_IIn (Or.inl (by decide)), cw_IIn (Or.inl (by decide)), cw_II]
    · rw [cw_IIn (Or.inl (by decide)), cw_IIn (Or.inl (by decide)), cw_II]
    · rw [cw_IIn (Or.inl (by decide)), cw_II]
    · rw [cw_II]
  obtain ⟨M', y', b1, b2, b3, b4, b5⟩ := cL_begin24 (u := u) (z := z) (rk := rk) (jf := jf) (ln := ln) (ng := ng) (cg := cg) (tb := tb) (rn := rn) (c := c) (ro := ro) (fx := fx) (y := y) 40 0 rfl (Nat.zero_le _) M1 y (hx.E hE) (fun _ _ => rfl) (fun s hs => by omega)
  have b1 : rL_begin_24 ln 0 M1 = _ := b1
  refine ⟨M1, M', y', ?_, b2, b3, b4, hI1.G b5, hM1, hx, b5⟩
  rw [rL_begin_u, rL_begin_e]
  simp only [A, if_true]
  rw [← hM1, b1]; rfl
/-- the greatest of some numbers -/
def qM (f : Nat → Rat) : Nat → Rat
  | 0 => f 0
  | n + 1 => if qM f n < f (n + 1) then f (n + 1) else qM f n
theorem qM_L {f : Nat → Rat} {k : Nat} : ∀ n, (∀ i, i ≤ n → qL (f i) k) → qL (qM f n) k
  | 0, h => h 0 (Nat.le_refl _)
  | n + 1, h => by
    show qL (if qM f n < f (n + 1) then f (n + 1) else qM f n) k
    split
    · exact h _ (Nat.le_refl _)
    · exact qM_L n (fun i hi => h i (by omega))
theorem cL_gr20 {p : Nat} (hp : p < 20) (hst : p * st + wyc wa we p ≤ 40) (hL : ∀ w, w < wyc wa we p → qL (y (p * st + w)) 9) : ∀ d j : Nat, wyc wa we p - (j + 1) = d → j + 1 ≤ wyc wa we p → ∀ (M : rg_M) (y' : Nat → Rat), cE u z rk c jf ln ng cg tb rn ro fx M y' → cLi ln P st wa we M → (∀ i, i ≠ 242 → y' i = y i) → y' 242 = qM (fun w => y (p * st + w)) j →
    ∃ M' y'', rL_greatestRegret_20 ln (nI p) (nI (j + 1)) M = some (some (.ref (fx 242)), M') ∧ cE u z rk c jf ln ng cg tb rn ro fx M' y'' ∧ (∀ i, i ≠ 242 → y'' i = y i) ∧ y'' 242 = qM (fun w => y (p * st + w)) (wyc wa we p - 1) ∧ cG M M' := by
  intro d
  induction d with
  | zero =>
    intro j hd hj M y' hE hI h1 h2
    have e : wyc wa we p = j + 1 := by omega
    have A := hE.1.all
    rw [rL_greatestRegret_20_e, if_pos A.1.1, cL_ways A.1.1 hI (by omega), e]
    simp only [Option.bind_some, Int32.le_refl, if_true, A]
    exact ⟨M, y', rfl, hE, h1, by rw [h2, Nat.add_sub_cancel], cG.rf M⟩
  | succ d ih =>
    intro j hd hj M y' hE hI h1 h2
    have hjn : j + 1 < wyc wa we p := by omega
    have A := hE.1.all
    have q0 := hE.1.q (k := 0) (i := p * st + (j + 1)) (by omega) (by omega)
    have k1 := nI_clamp (n := p * st + (j + 1)) (by omega)
    have k2 := rm_i0 (a := p * st + (j + 1)) (by omega)
    have k3 : p * st + (j + 1) < 40 := by omega
    have pp : ¬ nI (wyc wa we p) ≤ nI (j + 1) := by rw [nI_leI (by omega) (by omega)]; omega
    have e0 : y' (40 * 0 + (p * st + (j + 1))) = y (p * st + (j + 1)) := by rw [show 40 * 0 + (p * st + (j + 1)) = p * st + (j + 1) by omega]; exact h1 _ (by omega)
    obtain ⟨M1, a1, a2, a3⟩ := cE_keepG hE (i := 242) (j := 40 * 0 + (p * st + (j + 1))) (k := 9) (Or.inl (by decide)) (Or.inl (by omega)) (by omega) (by decide) (by rw [h2]; exact qM_L j (fun i hi => hL i (by omega))) (by rw [e0]; exact hL _ hjn)
    rw [e0, h2] at a2
    rw [rL_greatestRegret_20_e, if_pos A.1.1, cL_ways A.1.1 hI (by omega)]
    simp only [Option.bind_some, pp, if_false, A, if_true, cL_slot A.1.1 hI p (j + 1), k1, k2, k3, and_self, q0, a1]
    rw [nI_1]
    obtain ⟨M', y'', d1, d2, d3, d4, d5⟩ := ih (j + 1) (by omega) (by omega) M1 _ a2 (hI.G a3) (fun i hi => by rw [rg_up_ne hi]; exact h1 i hi) (by rw [rg_up_eq]; rfl)
    exact ⟨M', y'', d1, d2, d3, d4, a3.tr d5⟩
theorem cL_greatestRegret (hE : cE u z rk c jf ln ng cg tb rn ro fx M y) (hI : cLi ln P st wa we M) {p : Nat} (hp : p < 20) (hst : p * st + wyc wa we p ≤ 40) (hn : 0 < wyc wa we p) (hL : ∀ w, w < wyc wa we p → qL (y (p * st + w)) 9) : ∃ M' y', rL_greatestRegret ln (nI p) M = some (fx 242, M') ∧ cE u z rk c jf ln ng cg tb rn ro fx M' y' ∧ (∀ i, i ≠ 242 → y' i = y i) ∧ y' 242 = qM (fun w => y (p * st + w)) (wyc wa we p - 1) ∧ cG M M' := by
  have A := hE.1.all
  have w2 := cL_slot A.1.1 hI p 0
  have w2 : rL_slot ln (nI p) 0 M = some (nI (p * st), M) := w2
  have q0 := hE.1.q (k := 0) (i := p * st) (by omega) (by omega)
  have k1 := nI_clamp (n := p * st) (by omega)
  have k2 := rm_i0 (a := p * st) (by omega)
  have k3 : p * st < 40 := by omega
  have e0 : y (40 * 0 + p * st) = y (p * st + 0) := by rw [show 40 * 0 + p * st = p * st + 0 by omega]
  obtain ⟨M1, a1, a2, a3⟩ := cE_copy hE (i := 242) (j := 40 * 0 + p * st) (k := 9) (Or.inl (by decide)) (Or.inl (by omega)) (by omega) (by decide) (by rw [e0]; exact hL 0 hn)
  obtain ⟨M', y', b1, b2, b3, b4, b5⟩ := cL_gr20 (y := y) hp hst hL _ 0 rfl (by omega) M1 _ a2 (hI.G a3) (fun i hi => rg_up_ne hi) (by rw [rg_up_eq, e0]; rfl)
  have b1 : rL_greatestRegret_20 ln (nI p) 1 M1 = _ := b1
  refine ⟨M', y', ?_, b2, b3, b4, a3.tr b5⟩
  rw [rL_greatestRegret_u, rL_greatestRegret_e]
  simp only [A, if_true, Option.bind_some, w2, k1, k2, k3, and_self, q0, a1, b1]
  rfl
end

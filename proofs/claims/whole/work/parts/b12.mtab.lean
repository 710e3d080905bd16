/-! THE REFERENCE AGAINST THE STATE: its invariant; table, set, cards -/
/-- what the reference changes -/
def mX (aS aL aG aN aB : Nat) (M M' : rg_M) : Prop := (rg_K M' = rg_K M ∧ rg_R M' = rg_R M ∧ rg_L M' = rg_L M ∧ rg_Q M' = rg_Q M ∧ rg_sz M' = rg_sz M ∧ rg_us M' = rg_us M) ∧ (∀ f a, f < 112 → rg_I M' f a = rg_I M f a) ∧ ∀ b, b ≠ aS → b ≠ aL → b ≠ aG → b ≠ aN → b ≠ aB → rg_A M' b = rg_A M b
section
variable {m aS aL aG aN aB : Nat} {M : rg_M}
theorem mX.rf (M : rg_M) : mX aS aL aG aN aB M M := ⟨⟨rfl, rfl, rfl, rfl, rfl, rfl⟩, fun _ _ _ => rfl, fun _ _ _ _ _ _ => rfl⟩
theorem mX.tr {M1 M2 : rg_M} (h : mX aS aL aG aN aB M M1) (h2 : mX aS aL aG aN aB M1 M2) : mX aS aL aG aN aB M M2 := by
  obtain ⟨⟨a1, a2, a3, a4, a5, a6⟩, a7, a8⟩ := h
  obtain ⟨⟨b1, b2, b3, b4, b5, b6⟩, b7, b8⟩ := h2
  exact ⟨⟨b1.trans a1, b2.trans a2, b3.trans a3, b4.trans a4, b5.trans a5, b6.trans a6⟩, fun f a hf => (b7 f a hf).trans (a7 f a hf), fun b h1 h2 h3 h4 h5 => (b8 b h1 h2 h3 h4 h5).trans (a8 b h1 h2 h3 h4 h5)⟩
theorem mX_w (M : rg_M) (S L G : Nat → Int32) : mX aS aL aG aN aB M (rm_w aS aL aG M S L G) := ⟨⟨rfl, rfl, rfl, rfl, rfl, rfl⟩, fun _ _ _ => rfl, fun b h1 h2 h3 _ _ => (if_neg h1).trans ((if_neg h2).trans (if_neg h3))⟩
theorem mX_wI (M : rg_M) {f a : Nat} (v : Int32) (h : 112 ≤ f) : mX aS aL aG aN aB M (rg_wI M f a v) := ⟨⟨rfl, rfl, rfl, rfl, rfl, rfl⟩, fun g b hg => cw_IIn (Or.inl (by omega)), fun _ _ _ _ _ _ => rfl⟩
theorem mX_cr (M : rg_M) {b : Nat} (f : Nat → Int32) (h : b = aN ∨ b = aB) : mX aS aL aG aN aB M (cr M b f) := ⟨⟨rfl, rfl, rfl, rfl, rfl, rfl⟩, fun _ _ _ => rfl, fun c h1 h2 h3 h4 h5 => cr_An (by rcases h with e | e <;> rw [e] <;> assumption)⟩
theorem rm_wid (M : rg_M) : rm_w aS aL aG M (rg_A M aS) (rg_A M aL) (rg_A M aG) = M := by
  refine rm_ext rfl rfl rfl rfl ?_ rfl rfl rfl rfl
  funext b
  show (if b = aS then rg_A M aS else if b = aL then rg_A M aL else if b = aG then rg_A M aG else rg_A M b) = rg_A M b
  by_cases h1 : b = aS
  · rw [if_pos h1, h1]
  · rw [if_neg h1]
    by_cases h2 : b = aL
    · rw [if_pos h2, h2]
    · rw [if_neg h2]
      by_cases h3 : b = aG
      · rw [if_pos h3, h3]
      · rw [if_neg h3]
/-- a flag that stands says that the call is refused -/
def mBad (s : sS) (k : Nat) : Prop := if k = 10 then ¬ ts_bF s else if k < 5 then ¬ ts_aF s 0 k else ¬ ts_aF s 1 (k - 5)
/-- the reference's memory holds the state s -/
def mI (m aS aL aG aN aB : Nat) (s : sS) (M : rg_M) : Prop := rm_F m aS aL aG aN aB M ∧ mInt m s M ∧ (∃ V, rm_V (rg_A M aS) (rg_A M aL) (rg_A M aG) V ∧ mV s V) ∧ (ts_g s = 1 → ∀ i, i < 25 → rg_A M aN i = ts_num s i) ∧ ∀ k, k < 11 → rg_A M aB k = 0 ∨ (rg_A M aB k = 1 ∧ mBad s k)
theorem rm_F.ne (H : rm_F m aS aL aG aN aB M) : aB ≠ aS ∧ aB ≠ aL ∧ aB ≠ aG ∧ aB ≠ aN ∧ aL ≠ aS ∧ aG ≠ aS ∧ aG ≠ aL ∧ aN ≠ aS ∧ aN ≠ aL ∧ aN ≠ aG := by
  obtain ⟨-, -, -, -, -, -, kS, kL, kG, kN, kB, -, -, -, -, -, d1, d2, d3, d4, d5, d6⟩ := H
  refine ⟨fun e => ?_, fun e => ?_, fun e => ?_, fun e => ?_, d1, d2, d3, d4, d5, d6⟩
  · rw [e, kS] at kB; exact absurd kB (by decide)
  · rw [e, kL] at kB; exact absurd kB (by decide)
  · rw [e, kG] at kB; exact absurd kB (by decide)
  · rw [e, kN] at kB; exact absurd kB (by decide)
/-- the rows behind the register steps -/
theorem rm_wrows (H : rm_F m aS aL aG aN aB M) (S L G : Nat → Int32) : rg_A (rm_w aS aL aG M S L G) aS = S ∧ rg_A (rm_w aS aL aG M S L G) aL = L ∧ rg_A (rm_w aS aL aG M S L G) aG = G ∧ rg_A (rm_w aS aL aG M S L G) aN = rg_A M aN ∧ rg_A (rm_w aS aL aG M S L G) aB = rg_A M aB := by
  obtain ⟨b1, b2, b3, b4, d1, d2, d3, d4, d5, d6⟩ := H.ne
  exact ⟨rm_rS, rm_rL d1, rm_rG d2 d3, (if_neg d4).trans ((if_neg d5).trans (if_neg d6)), (if_neg b1).trans ((if_neg b2).trans (if_neg b3))⟩
theorem cr_rows (H : rm_F m aS aL aG aN aB M) (f : Nat → Int32) : (rg_A (cr M aB f) aS = rg_A M aS ∧ rg_A (cr M aB f) aL = rg_A M aL ∧ rg_A (cr M aB f) aG = rg_A M aG ∧ rg_A (cr M aB f) aN = rg_A M aN ∧ rg_A (cr M aB f) aB = f) ∧ (rg_A (cr M aN f) aS = rg_A M aS ∧ rg_A (cr M aN f) aL = rg_A M aL ∧ rg_A (cr M aN f) aG = rg_A M aG ∧ rg_A (cr M aN f) aN = f ∧ rg_A (cr M aN f) aB = rg_A M aB) := by
  obtain ⟨b1, b2, b3, b4, d1, d2, d3, d4, d5, d6⟩ := H.ne
  exact ⟨⟨cr_An b1.symm, cr_An b2.symm, cr_An b3.symm, cr_An b4.symm, cr_A _ _ _⟩, ⟨cr_An d4.symm, cr_An d5.symm, cr_An d6.symm, cr_A _ _ _, cr_An b4⟩⟩
/-- the register steps' end: the same ints, numbers and flags -/
theorem mI_w {s s' : sS} (h : mI m aS aL aG aN aB s M) {S L G : Nat → Int32} {V : Nat → Int} (hV : rm_V S L G V) (hs : mV s' V) (e1 : s'.1 = s.1) (e2 : s'.2.1 = s.2.1) (e3 : ts_num s' = ts_num s) (e4 : ∀ k, mBad s k → mBad s' k) : mI m aS aL aG aN aB s' (rm_w aS aL aG M S L G) := by
  obtain ⟨H, hI, -, hN, hB⟩ := h
  obtain ⟨r1, r2, r3, r4, r5⟩ := rm_wrows H S L G
  have g1 : ts_g s' = ts_g s := by unfold ts_g; rw [e1]
  refine ⟨H, ?_, ⟨V, by rw [r1, r2, r3]; exact hV, hs⟩, fun q i hi => ?_, fun k hk => ?_⟩
  · unfold mInt ts_g ts_a ts_e ts_d ts_n ts_na ts_nb
    rw [e1, e2]; exact hI
  · rw [r4, e3]; exact hN (by rw [← g1]; exact q) i hi
  · rw [r5]
    rcases hB k hk with q | ⟨q1, q2⟩
    · exact Or.inl q
    · exact Or.inr ⟨q1, e4 k q2⟩
/-- all flags down -/
theorem rm_changedM (H : rm_F m aS aL aG aN aB M) : ∃ f : Nat → Int32, rM_changed m M = some (cr M aB f) ∧ ∀ k, k < 11 → f k = 0 := by
  have H0 := H
  obtain ⟨hK, -, -, -, -, hB, -, -, -, -, kB, -, -, -, -, lB, -⟩ := H
  have go : ∀ e j : Nat, 11 - j = e → j ≤ 11 → ∀ f : Nat → Int32, (∀ k, k < j → f k = 0) → ∃ f' : Nat → Int32, rM_changed_2 m (nI j) (cr M aB f) = some (none, cr M aB f') ∧ ∀ k, k < 11 → f' k = 0 := by
    intro e
    induction e with
    | zero =>
      intro j he hj f hf
      have e : j = 11 := by omega
      subst e
      rw [rM_changed_2_e, if_pos (show (11 : Int32) ≤ nI 11 from Int32.le_refl _)]
      exact ⟨f, rfl, hf⟩
    | succ e ih =>
      intro j he hj f hf
      have k1 := nI_clamp (n := j) (by omega)
      have k2 := rm_i0 (a := j) (by omega)
      have k3 : j < 11 := by omega
      have pp : ¬ (11 : Int32) ≤ nI j := by rw [show (11 : Int32) = nI 11 from rfl, nI_leI (by omega) (by omega)]; omega
      rw [rM_changed_2_e, if_neg pp]
      simp only [cr_K, cr_R, cr_L, hK, hB, kB, lB, if_true, Option.bind_some, k1, k2, k3, cr_w, nI_1, true_and, true_or]
      refine ih (j + 1) (by omega) (by omega) _ (fun k hk => ?_)
      unfold upd
      by_cases c : k = j
      · rw [if_pos c]
      · rw [if_neg c]; exact hf k (by omega)
  obtain ⟨f', a1, a2⟩ := go _ 0 rfl (Nat.zero_le _) (rg_A M aB) (fun k hk => by omega)
  rw [cr_id] at a1
  have a1 : rM_changed_2 m 0 M = _ := a1
  refine ⟨f', ?_, a2⟩
  rw [rM_changed_u, rM_changed_e, a1]; rfl
theorem r0_nd : (0 : Rat).num = 0 ∧ (((0 : Rat).den : Nat) : Int) = 1 := ⟨rfl, rfl⟩
/-- begin: all regrets and sums at 0 -/
theorem rm_begin22 (H : rm_F m aS aL aG aN aB M) {V : Nat → Int} : ∀ e j : Nat, 40 - j = e → j ≤ 40 → ∀ (S L G : Nat → Int32) (V1 : Nat → Int), rm_V S L G V1 → (∀ i, i < j → V1 i = 0 ∧ V1 (40 + i) = 1 ∧ V1 (80 + i) = 0 ∧ V1 (120 + i) = 1) → (∀ q, 160 ≤ q → V1 q = V q) → ∃ (S' L' G' : Nat → Int32) (V' : Nat → Int) (f : Nat → Int32), rM_begin_22 m (nI j) (rm_w aS aL aG M S L G) = some (none, cr (rm_w aS aL aG M S' L' G') aB f) ∧ rm_V S' L' G' V' ∧ (∀ i, i < 40 → V' i = 0 ∧ V' (40 + i) = 1 ∧ V' (80 + i) = 0 ∧ V' (120 + i) = 1) ∧ (∀ q, 160 ≤ q → V' q = V q) ∧ ∀ k, k < 11 → f k = 0 := by
  have hK := H.1
  intro e
  induction e with
  | zero =>
    intro j he hj S L G V1 hV h1 h2
    have e : j = 40 := by omega
    subst e
    obtain ⟨f, a1, a2⟩ := rm_changedM (M := rm_w aS aL aG M S L G) H
    rw [rM_begin_22_e, if_pos (show (40 : Int32) ≤ nI 40 from Int32.le_refl _)]
    simp only [rm_wK, hK, if_true, a1, Option.bind_some]
    exact ⟨S, L, G, V1, f, rfl, hV, h1, h2, a2⟩
  | succ e ih =>
    intro j he hj S L G V1 hV h1 h2
    have pp : ¬ (40 : Int32) ≤ nI j := by rw [show (40 : Int32) = nI 40 from rfl, nI_leI (by omega) (by omega)]; omega
    have e0 : (0 : Int32) + nI j = nI j := by rw [show (0 : Int32) = nI 0 from rfl, nI_add, Nat.zero_add]
    have e40 : (40 : Int32) + nI j = nI (40 + j) := by rw [show (40 : Int32) = nI 40 from rfl, nI_add]
    have e80 : (80 : Int32) + nI j = nI (80 + j) := by rw [show (80 : Int32) = nI 80 from rfl, nI_add]
    have e120 : (120 : Int32) + nI j = nI (120 + j) := by rw [show (120 : Int32) = nI 120 from rfl, nI_add]
    obtain ⟨S1, L1, G1, a1, a2⟩ := rm_isV H (c := j) (by omega) hV 0
    have a2 : rm_V S1 L1 G1 (va_up V1 j 0) := a2
    obtain ⟨S2, L2, G2, b1, b2⟩ := rm_isV H (c := 40 + j) (by omega) a2 1
    have b2 : rm_V S2 L2 G2 (va_up (va_up V1 j 0) (40 + j) 1) := b2
    obtain ⟨S3, L3, G3, c1, c2⟩ := rm_isV H (c := 80 + j) (by omega) b2 0
    have c2 : rm_V S3 L3 G3 (va_up (va_up (va_up V1 j 0) (40 + j) 1) (80 + j) 0) := c2
    obtain ⟨S4, L4, G4, d1, d2⟩ := rm_isV H (c := 120 + j) (by omega) c2 1
    have d2 : rm_V S4 L4 G4 (va_up (va_up (va_up (va_up V1 j 0) (40 + j) 1) (80 + j) 0) (120 + j) 1) := d2
    rw [rM_begin_22_e, if_neg pp]
    simp only [rm_wK, hK, if_true, e0, e40, e80, e120, a1, b1, c1, d1, Option.bind_some, nI_1]
    refine ih (j + 1) (by omega) (by omega) S4 L4 G4 _ d2 (fun i hi => ?_) (fun q hq => by rw [rg_up_ne (by omega), rg_up_ne (by omega), rg_up_ne (by omega), rg_up_ne (by omega)]; exact h2 q hq)
    by_cases c : i = j
    · subst c
      refine ⟨?_, ?_, ?_, rg_up_eq⟩
      · rw [rg_up_ne (by omega), rg_up_ne (by omega), rg_up_ne (by omega), rg_up_eq]
      · rw [rg_up_ne (by omega), rg_up_ne (by omega), rg_up_eq]
      · rw [rg_up_ne (by omega), rg_up_eq]
    · have h3 := h1 i (by omega)
      rw [rg_up_ne (by omega), rg_up_ne (by omega), rg_up_ne (by omega), rg_up_ne (by omega), rg_up_ne (by omega), rg_up_ne (by omega), rg_up_ne (by omega), rg_up_ne (by omega), rg_up_ne (by omega), rg_up_ne (by omega), rg_up_ne (by omega), rg_up_ne (by omega), rg_up_ne (by omega), rg_up_ne (by omega), rg_up_ne (by omega), rg_up_ne (by omega)]
      exact h3
/-- begin -/
theorem rm_beginM (H : rm_F m aS aL aG aN aB M) {V : Nat → Int} (hV : rm_V (rg_A M aS) (rg_A M aL) (rg_A M aG) V) (x : Int32) : ∃ (M' : rg_M) (V' : Nat → Int), rM_begin m x M = some M' ∧ rm_F m aS aL aG aN aB M' ∧ mX aS aL aG aN aB M M' ∧ rm_V (rg_A M' aS) (rg_A M' aL) (rg_A M' aG) V' ∧ (∀ i, i < 40 → V' i = 0 ∧ V' (40 + i) = 1 ∧ V' (80 + i) = 0 ∧ V' (120 + i) = 1) ∧ (∀ q, 160 ≤ q → V' q = V q) ∧ (∀ k, k < 11 → rg_A M' aB k = 0) ∧ rg_A M' aN = rg_A M aN ∧ (rg_I M' 115 m = x ∧ rg_I M' 116 m = rg_I M 116 m ∧ rg_I M' 117 m = rg_I M 117 m ∧ rg_I M' 118 m = rg_I M 118 m ∧ rg_I M' 119 m = 0 ∧ rg_I M' 120 m = 0 ∧ rg_I M' 121 m = 0) := by
  obtain ⟨M1, hM1⟩ : ∃ M1, M1 = rg_wI (rg_wI (rg_wI (rg_wI M 115 m x) 119 m 0) 120 m 0) 121 m 0 := ⟨_, rfl⟩
  have H1 : rm_F m aS aL aG aN aB M1 := by rw [hM1]; exact H
  have hA1 : rg_A M1 = rg_A M := by rw [hM1]; rfl
  have hx1 : mX aS aL aG aN aB M M1 := by rw [hM1]; exact (mX_wI _ _ (by decide)).tr ((mX_wI _ _ (by decide)).tr ((mX_wI _ _ (by decide)).tr (mX_wI _ _ (by decide))))
  obtain ⟨S', L', G', V', f, a1, a2, a3, a4, a5⟩ := rm_begin22 H1 (V := V) _ 0 rfl (Nat.zero_le _) (rg_A M aS) (rg_A M aL) (rg_A M aG) V hV (fun i hi => by omega) (fun _ _ => rfl)
  rw [← hA1, rm_wid] at a1
  have a1 : rM_begin_22 m 0 M1 = _ := a1
  obtain ⟨⟨r1, r2, r3, r4, r5⟩, -⟩ := cr_rows (M := rm_w aS aL aG M1 S' L' G') H1 f
  obtain ⟨q1, q2, q3, q4, q5⟩ := rm_wrows H1 S' L' G'
  refine ⟨cr (rm_w aS aL aG M1 S' L' G') aB f, V', ?_, H1, hx1.tr ((mX_w _ _ _ _).tr (mX_cr _ _ (Or.inr rfl))), by rw [r1, r2, r3, q1, q2, q3]; exact a2, a3, a4, fun k hk => by rw [r5]; exact a5 k hk, by rw [r4, q4, hA1], ?_⟩
  · rw [rM_begin_u, rM_begin_e]
    simp only [H.1, if_true]
    rw [← hM1, a1]; rfl
  · show rg_I M1 115 m = x ∧ rg_I M1 116 m = _ ∧ rg_I M1 117 m = _ ∧ rg_I M1 118 m = _ ∧ rg_I M1 119 m = 0 ∧ rg_I M1 120 m = 0 ∧ rg_I M1 121 m = 0
    rw [hM1]
    refine ⟨?_, ?_, ?_, ?_, ?_, ?_, cw_II _ _ _ _⟩
    · rw [cw_IIn (Or.inl (by decide)), cw_IIn (Or.inl (by decide)), cw_IIn (Or.inl (by decide)), cw_II]
    · rw [cw_IIn (Or.inl (by decide)), cw_IIn (Or.inl (by decide)), cw_IIn (Or.inl (by decide)), cw_IIn (Or.inl (by decide))]
    · rw [cw_IIn (Or.inl (by decide)), cw_IIn (Or.inl (by decide)), cw_IIn (Or.inl (by decide)), cw_IIn (Or.inl (by decide))]
    · rw [cw_IIn (Or.inl (by decide)), cw_IIn (Or.inl (by decide)), cw_IIn (Or.inl (by decide)), cw_IIn (Or.inl (by decide))]
    · rw [cw_IIn (Or.inl (by decide)), cw_IIn (Or.inl (by decide)), cw_II]
    · rw [cw_IIn (Or.inl (by decide)), cw_II]
/-- all numbers at 0 -/
theorem rm_table39 (H : rm_F m aS aL aG aN aB M) : ∃ f : Nat → Int32, rM_table_39 m 0 M = (if rg_K M m = 8 then (rM_begin m 1 (cr M aN f)).bind (fun M1 => some (some (.int 1), M1)) else none) ∧ ∀ k, k < 25 → f k = 0 := by
  have H0 := H
  obtain ⟨hK, -, -, -, hN, -, -, -, -, kN, -, -, -, -, lN, -⟩ := H
  have go : ∀ e j : Nat, 25 - j = e → j ≤ 25 → ∀ f : Nat → Int32, (∀ k, k < j → f k = 0) → ∃ f' : Nat → Int32, rM_table_39 m (nI j) (cr M aN f) = (if rg_K M m = 8 then (rM_begin m 1 (cr M aN f')).bind (fun M1 => some (some (.int 1), M1)) else none) ∧ ∀ k, k < 25 → f' k = 0 := by
    intro e
    induction e with
    | zero =>
      intro j he hj f hf
      have e : j = 25 := by omega
      subst e
      rw [rM_table_39_e, if_pos (show (25 : Int32) ≤ nI 25 from Int32.le_refl _)]
      exact ⟨f, rfl, hf⟩
    | succ e ih =>
      intro j he hj f hf
      have k1 := nI_clamp (n := j) (by omega)
      have k2 := rm_i0 (a := j) (by omega)
      have k3 : j < 25 := by omega
      have pp : ¬ (25 : Int32) ≤ nI j := by rw [show (25 : Int32) = nI 25 from rfl, nI_leI (by omega) (by omega)]; omega
      rw [rM_table_39_e, if_neg pp]
      simp only [cr_K, cr_R, cr_L, hK, hN, kN, lN, if_true, Option.bind_some, k1, k2, k3, cr_w, nI_1, and_self]
      have := ih (j + 1) (by omega) (by omega) (upd f j 0) (fun k hk => by
        unfold upd
        by_cases c : k = j
        · rw [if_pos c]
        · rw [if_neg c]; exact hf k (by omega))
      simp only [hK, if_true] at this
      exact this
  obtain ⟨f', a1, a2⟩ := go _ 0 rfl (Nat.zero_le _) (rg_A M aN) (fun k hk => by omega)
  rw [cr_id] at a1
  exact ⟨f', a1, a2⟩
theorem i32_rng (x a b : Int32) : (a ≤ x ∧ x ≤ b) ↔ (¬ x < a ∧ ¬ b < x) := by rw [Int32.not_lt, Int32.not_lt]
theorem mM_table {s : sS} (h : mI m aS aL aG aN aB s M) (a b : Int32) : ∃ M', rM_table m a b M = some ((ts_table s a b).1, M') ∧ mI m aS aL aG aN aB (ts_table s a b).2 M' ∧ mX aS aL aG aN aB M M' := by
  have h0 := h
  obtain ⟨H, hI, ⟨V, hV, hs⟩, hN, hB⟩ := h
  have no : ¬ ((1 ≤ a ∧ a ≤ 5) ∧ (1 ≤ b ∧ b ≤ 5)) → ∃ M', rg_ui (rM_table_20 M) = some ((ts_table s a b).1, M') ∧ mI m aS aL aG aN aB (ts_table s a b).2 M' ∧ mX aS aL aG aN aB M M' := fun q => by
    rw [rM_table_20_e, show ts_table s a b = (0, s) from if_neg q]
    exact ⟨M, rfl, h0, mX.rf M⟩
  rw [rM_table_u, rM_table_e]
  by_cases c1 : a < 1
  · rw [if_pos c1]; exact no (fun q => absurd c1 ((i32_rng _ _ _).mp q.1).1)
  rw [if_neg c1]
  by_cases c2 : 5 < a
  · rw [if_pos c2]; exact no (fun q => absurd c2 ((i32_rng _ _ _).mp q.1).2)
  rw [if_neg c2]
  by_cases c3 : b < 1
  · rw [if_pos c3]; exact no (fun q => absurd c3 ((i32_rng _ _ _).mp q.2).1)
  rw [if_neg c3]
  by_cases c4 : b ≤ 5
  · have ca : 1 ≤ a ∧ a ≤ 5 := (i32_rng _ _ _).mpr ⟨c1, c2⟩
    have cb : 1 ≤ b ∧ b ≤ 5 := ⟨Int32.not_lt.mp c3, c4⟩
    rw [if_pos c4, show ts_table s a b = (1, ((1, a.toNatClampNeg, b.toNatClampNeg, 0), (0, 0, 0), (fun _ => 0), (fun _ => 0), ts_v s)) from if_pos ⟨ca, cb⟩]
    obtain ⟨k, k1, k2, k3⟩ := nI_rng (a := 1) (b := 5) (x := a) (by decide) ca (by decide)
    obtain ⟨l, l1, l2, l3⟩ := nI_rng (a := 1) (b := 5) (x := b) (by decide) cb (by decide)
    subst k3 l3
    rw [nI_clamp (by omega), nI_clamp (by omega)]
    obtain ⟨M1, hM1⟩ : ∃ M1, M1 = rg_wI (rg_wI (rg_wI M 116 m (nI k)) 117 m (nI l)) 118 m 0 := ⟨_, rfl⟩
    have H1 : rm_F m aS aL aG aN aB M1 := by rw [hM1]; exact H
    have hA1 : rg_A M1 = rg_A M := by rw [hM1]; rfl
    have hx1 : mX aS aL aG aN aB M M1 := by rw [hM1]; exact (mX_wI _ _ (by decide)).tr ((mX_wI _ _ (by decide)).tr (mX_wI _ _ (by decide)))
    obtain ⟨f, a1, a2⟩ := rm_table39 H1
    have H2 : rm_F m aS aL aG aN aB (cr M1 aN f) := H1
    obtain ⟨-, r1, r2, r3, r4, r5⟩ := cr_rows H1 f
    obtain ⟨M2, V2, b1, b2, b3, b4, b5, b6, b7, b8, i1, i2, i3, i4, i5, i6, i7⟩ := rm_beginM H2 (V := V) (by rw [r1, r2, r3, hA1]; exact hV) 1
    have hs1 : ∀ q, 160 ≤ q → V2 q = V q := b6
    simp only [H.1, if_true]
    rw [← hM1, a1]
    simp only [H1.1, if_true, b1, Option.bind_some]
    refine ⟨M2, rfl, ⟨b2, ⟨i1, ?_, ?_, ?_, i5, i6, i7⟩, ⟨V2, b4, fun _ i hi => b5 i hi, by rw [hs1 _ (by decide)]; exact hs.2.1, by rw [hs1 _ (by decide)]; exact hs.2.2.1, by rw [hs1 _ (by decide)]; exact hs.2.2.2⟩, fun _ i hi => ?_, fun k hk => Or.inl (b7 k hk)⟩, hx1.tr ((mX_cr _ _ (Or.inl rfl)).tr b3)⟩
    · rw [i2, cr_I, hM1, cw_IIn (Or.inl (by decide)), cw_IIn (Or.inl (by decide)), cw_II]; rfl
    · rw [i3, cr_I, hM1, cw_IIn (Or.inl (by decide)), cw_II]; rfl
    · rw [i4, cr_I, hM1, cw_II]; rfl
    · rw [b8, r4]; exact a2 i hi
  · rw [if_neg c4]; exact no (fun q => c4 q.2.2)
theorem mM_cards {s : sS} (h : mI m aS aL aG aN aB s M) (a : Int32) : ∃ M', rM_cards m a M = some ((ts_cards s a).1, M') ∧ mI m aS aL aG aN aB (ts_cards s a).2 M' ∧ mX aS aL aG aN aB M M' := by
  have h0 := h
  obtain ⟨H, hI, ⟨V, hV, hs⟩, hN, hB⟩ := h
  have no : ¬ (3 ≤ a ∧ a ≤ 5) → ∃ M', rg_ui (rM_cards_10 M) = some ((ts_cards s a).1, M') ∧ mI m aS aL aG aN aB (ts_cards s a).2 M' ∧ mX aS aL aG aN aB M M' := fun q => by
    rw [rM_cards_10_e, show ts_cards s a = (0, s) from if_neg q]
    exact ⟨M, rfl, h0, mX.rf M⟩
  rw [rM_cards_u, rM_cards_e]
  by_cases c1 : a < 3
  · rw [if_pos c1]; exact no (fun q => absurd c1 ((i32_rng _ _ _).mp q).1)
  rw [if_neg c1]
  by_cases c4 : a ≤ 5
  · have ca : 3 ≤ a ∧ a ≤ 5 := ⟨Int32.not_lt.mp c1, c4⟩
    rw [if_pos c4, show ts_cards s a = (1, ((2, 0, 0, a.toNatClampNeg), (0, 0, 0), ts_num s, (fun _ => 0), ts_v s)) from if_pos ca]
    obtain ⟨k, k1, k2, k3⟩ := nI_rng (a := 3) (b := 5) (x := a) (by decide) ca (by decide)
    subst k3
    rw [nI_clamp (by omega)]
    obtain ⟨M1, hM1⟩ : ∃ M1, M1 = rg_wI (rg_wI (rg_wI M 118 m (nI k)) 116 m 0) 117 m 0 := ⟨_, rfl⟩
    have H1 : rm_F m aS aL aG aN aB M1 := by rw [hM1]; exact H
    have hA1 : rg_A M1 = rg_A M := by rw [hM1]; rfl
    have hx1 : mX aS aL aG aN aB M M1 := by rw [hM1]; exact (mX_wI _ _ (by decide)).tr ((mX_wI _ _ (by decide)).tr (mX_wI _ _ (by decide)))
    obtain ⟨M2, V2, b1, b2, b3, b4, b5, b6, b7, b8, i1, i2, i3, i4, i5, i6, i7⟩ := rm_beginM H1 (V := V) (by rw [hA1]; exact hV) 2
    have hs1 : ∀ q, 160 ≤ q → V2 q = V q := b6
    simp only [H.1, if_true]
    rw [← hM1]
    simp only [b1, Option.bind_some]
    refine ⟨M2, rfl, ⟨b2, ⟨i1, ?_, ?_, ?_, i5, i6, i7⟩, ⟨V2, b4, fun _ i hi => b5 i hi, by rw [hs1 _ (by decide)]; exact hs.2.1, by rw [hs1 _ (by decide)]; exact hs.2.2.1, by rw [hs1 _ (by decide)]; exact hs.2.2.2⟩, fun q => absurd (show (2 : Nat) = 1 from q) (by decide), fun k hk => Or.inl (b7 k hk)⟩, hx1.tr b3⟩
    · rw [i2, hM1, cw_IIn (Or.inl (by decide)), cw_II]; rfl
    · rw [i3, hM1, cw_II]; rfl
    · rw [i4, hM1, cw_IIn (Or.inl (by decide)), cw_IIn (Or.inl (by decide)), cw_II]; rfl
  · rw [if_neg c4]; exact no (fun q => c4 q.2)
theorem mM_set {s : sS} {n : Nat} (h : mI m aS aL aG aN aB s M) (hok : ts_ok n s) (hn : n < 2 ^ 20) (a b v : Int32) : ∃ M', rM_set m a b v M = some ((ts_set s a b v).1, M') ∧ mI m aS aL aG aN aB (ts_set s a b v).2 M' ∧ mX aS aL aG aN aB M M' := by
  have h0 := h
  obtain ⟨H, hI, ⟨V, hV, hs⟩, hN, hB⟩ := h
  have hnn : ts_n s ≤ n := hok.2.2.2.2.2.2.2.2.1.1
  have no : ∀ P : Prop, ¬ P → (ts_g s = 1 ∧ ts_n s = 0 ∧ (0 ≤ a ∧ a.toNatClampNeg < ts_a s) ∧ (0 ≤ b ∧ b.toNatClampNeg < ts_e s) ∧ (-1000 ≤ v ∧ v ≤ 1000) → P) → ∃ M', rg_ui (rM_set_53 M) = some ((ts_set s a b v).1, M') ∧ mI m aS aL aG aN aB (ts_set s a b v).2 M' ∧ mX aS aL aG aN aB M M' := fun P hP hi => by
    rw [rM_set_53_e, show ts_set s a b v = (0, s) from if_neg (fun q => hP (hi q))]
    exact ⟨M, rfl, h0, mX.rf M⟩
  have gi1 : (nI (ts_g s) = (1 : Int32)) ↔ ts_g s = 1 := nI_eq (b := 1) (by have := hok.1; omega) (by omega)
  rw [rM_set_u, rM_set_e, if_pos H.1, hI.1]
  by_cases cg : ts_g s = 1
  · obtain ⟨w1, w2, w3, w4⟩ := hok.2.1 cg
    rw [if_pos (gi1.mpr cg), if_pos H.1, hI.2.2.2.2.1]
    by_cases cn : ts_n s = 0
    · rw [if_neg (by rw [cn]; decide)]
      have hna : ∀ {x : Int32} {k : Nat}, k ≤ 5 → ((0 ≤ x ∧ x.toNatClampNeg < k) ↔ (¬ x < 0 ∧ ¬ nI k ≤ x)) := fun {x k} hk => by
        rw [nI_has (by omega)]
        constructor
        · rintro ⟨j, j1, rfl⟩
          refine ⟨by rw [Int32.not_lt]; exact nI_pos' (by omega), by rw [nI_leI (by omega) (by omega)]; omega⟩
        · rintro ⟨q1, q2⟩
          obtain ⟨j, j1, j2⟩ := nI_of q1
          subst j2
          rw [nI_leI (by omega) j1] at q2
          exact ⟨j, by omega, rfl⟩
      by_cases c1 : a < 0
      · rw [if_pos c1]; exact no _ (fun q => q c1) (fun q => ((hna w2).mp q.2.2.1).1)
      rw [if_neg c1, if_pos H.1, hI.2.1]
      by_cases c2 : nI (ts_a s) ≤ a
      · rw [if_pos c2]; exact no _ (fun q => q c2) (fun q => ((hna w2).mp q.2.2.1).2)
      rw [if_neg c2]
      by_cases c3 : b < 0
      · rw [if_pos c3]; exact no _ (fun q => q c3) (fun q => ((hna w4).mp q.2.2.2.1).1)
      rw [if_neg c3, if_pos H.1, hI.2.2.1]
      by_cases c4 : nI (ts_e s) ≤ b
      · rw [if_pos c4]; exact no _ (fun q => q c4) (fun q => ((hna w4).mp q.2.2.2.1).2)
      rw [if_neg c4]
      by_cases c5 : v < -1000
      · rw [if_pos c5]; exact no _ (fun q => q c5) (fun q => ((i32_rng _ _ _).mp q.2.2.2.2).1)
      rw [if_neg c5]
      by_cases c6 : v ≤ 1000
      · rw [if_pos c6, if_pos H.1]
        have ha := (hna w2).mpr ⟨c1, c2⟩
        have hb := (hna w4).mpr ⟨c3, c4⟩
        have cv : -1000 ≤ v ∧ v ≤ 1000 := ⟨Int32.not_lt.mp c5, c6⟩
        rw [show ts_set s a b v = (1, (s.1, s.2.1, va_up (ts_num s) (a.toNatClampNeg * 5 + b.toNatClampNeg) v, ts_y s, ts_v s)) from if_pos ⟨cg, cn, ha, hb, cv⟩]
        obtain ⟨k, k1, k2⟩ := (nI_has (by omega)).mp ha
        obtain ⟨l, l1, l2⟩ := (nI_has (by omega)).mp hb
        subst k2 l2
        rw [nI_clamp (by omega), nI_clamp (by omega)]
        have ei : (5 : Int32) * nI k + nI l = nI (k * 5 + l) := by rw [show (5 : Int32) = nI 5 from rfl, pk_mul, nI_add, Nat.mul_comm]
        have k1' := nI_clamp (n := k * 5 + l) (by omega)
        have k2' := rm_i0 (a := k * 5 + l) (by omega)
        have k3' : k * 5 + l < 25 := by omega
        have H0 := H
        obtain ⟨hK, -, -, -, hN', hB', -, -, -, kN, kB, -, -, -, lN, lB, -⟩ := H
        have ecr : rg_wA M aN (k * 5 + l) v = cr M aN (upd (rg_A M aN) (k * 5 + l) v) := by
          have := cr_w M aN (rg_A M aN) (k * 5 + l) v
          rw [cr_id] at this; exact this
        have H2 : rm_F m aS aL aG aN aB (cr M aN (upd (rg_A M aN) (k * 5 + l) v)) := H0
        obtain ⟨f, a1, a2⟩ := rm_changedM H2
        obtain ⟨-, r1, r2, r3, r4, r5⟩ := cr_rows H0 (upd (rg_A M aN) (k * 5 + l) v)
        obtain ⟨⟨q1, q2, q3, q4, q5⟩, -⟩ := cr_rows H2 f
        simp only [hN', kN, lN, if_true, Option.bind_some, ei, k1', k2', k3', and_self, ecr, hK, a1]
        refine ⟨_, rfl, ⟨H2, hI, ⟨V, by rw [q1, q2, q3, r1, r2, r3]; exact hV, hs⟩, fun _ i hi => ?_, fun j hj => Or.inl (by rw [q5]; exact a2 j hj)⟩, (mX_cr _ _ (Or.inl rfl)).tr (mX_cr _ _ (Or.inr rfl))⟩
        rw [q4, r4]
        show upd (rg_A M aN) (k * 5 + l) v i = va_up (ts_num s) (k * 5 + l) v i
        unfold upd
        by_cases e : i = k * 5 + l
        · rw [if_pos e, e, rg_up_eq]
        · rw [if_neg e, rg_up_ne e]; exact hN cg i hi
      · rw [if_neg c6]; exact no _ c6 (fun q => q.2.2.2.2.2)
    · rw [if_pos (by rw [show (0 : Int32) = nI 0 from rfl, nI_ltI (by omega) (by omega)]; omega)]
      exact no _ cn (fun q => q.2.1)
  · rw [if_neg (fun q => cg (gi1.mp q))]
    exact no _ cg (fun q => q.1)
end

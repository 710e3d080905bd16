/-! fractions in the heap -/
/-- what stays when fractions are reckoned with -/
def cG (M M' : rg_M) : Prop := rg_sz M ≤ rg_sz M' ∧ (∀ a, rg_K M' a = rg_K M a ∨ (rg_sz M ≤ a ∧ rg_K M a ≠ 6 ∧ rg_K M' a = 9)) ∧ (∀ a, a < rg_sz M → rg_L M' a = rg_L M a) ∧ (∀ f a, f ≠ 81 → f ≠ 82 → rg_I M' f a = rg_I M f a) ∧ (∀ f a, f ≠ 80 → f ≠ 16 → f ≠ 17 → rg_R M' f a = rg_R M f a) ∧ (∀ b i, b < rg_sz M → rg_Q M' b i = rg_Q M b i) ∧ (∀ b, b < rg_sz M → ¬ cO M b → rg_A M' b = rg_A M b ∧ ¬ cO M' b)
theorem cF.G {M M' : rg_M} (h : cF M M') : cG M M' := ⟨h.1, h.2.1, h.2.2.1, h.2.2.2.1, fun f a h1 _ _ => h.2.2.2.2.1 f a h1, h.2.2.2.2.2.1, h.2.2.2.2.2.2⟩
theorem cG.rf (M : rg_M) : cG M M := (cF.rf M).G
theorem cG.tr {M M1 M2 : rg_M} (h : cG M M1) (h2 : cG M1 M2) : cG M M2 := by
  obtain ⟨a1, a2, a3, a4, a5, a6, a7⟩ := h
  obtain ⟨b1, b2, b3, b4, b5, b6, b7⟩ := h2
  refine ⟨by omega, fun a => ?_, fun a h => (b3 a (by omega)).trans (a3 a h), fun f a h h' => (b4 f a h h').trans (a4 f a h h'), fun f a h h' h'' => (b5 f a h h' h'').trans (a5 f a h h' h''), fun b i h => (b6 b i (by omega)).trans (a6 b i h), fun b h h' => ?_⟩
  · rcases a2 a with p | ⟨p1, p2, p3⟩
    · rcases b2 a with q | ⟨q1, q2, q3⟩
      · exact Or.inl (q.trans p)
      · exact Or.inr ⟨by omega, by rw [← p]; exact q2, q3⟩
    · rcases b2 a with q | ⟨q1, q2, q3⟩
      · exact Or.inr ⟨p1, p2, by rw [q, p3]⟩
      · exact Or.inr ⟨p1, p2, q3⟩
  · obtain ⟨p1, p2⟩ := a7 b h h'
    obtain ⟨q1, q2⟩ := b7 b (by omega) p2
    exact ⟨q1.trans p1, q2⟩
theorem cG.K {M M' : rg_M} (h : cG M M') {a : Nat} (ha : a < rg_sz M) : rg_K M' a = rg_K M a := by
  rcases h.2.1 a with p | p
  · exact p
  · omega
/-- each Fraction has two Wholes of its own -/
def cFr (c : Nat → Nat) (M : rg_M) : Prop := (∀ f, rg_K M f = 2 → f < rg_sz M ∧ ∃ t b, rg_R M 16 f = some t ∧ rg_R M 17 f = some b ∧ rg_K M t = 6 ∧ rg_K M b = 6 ∧ t ≠ b ∧ ∀ i, i < 11 → t ≠ c i ∧ b ≠ c i) ∧ ∀ f f' i j w, rg_K M f = 2 → rg_K M f' = 2 → (i = 16 ∨ i = 17) → (j = 16 ∨ j = 17) → rg_R M i f = some w → rg_R M j f' = some w → f = f'
theorem cFr.F {c : Nat → Nat} {M M' : rg_M} (h : cFr c M) (hF : cF M M') : cFr c M' := by
  have hR : ∀ f a, f ≠ 80 → rg_R M' f a = rg_R M f a := hF.2.2.2.2.1
  have hk : ∀ f, rg_K M' f = 2 → rg_K M f = 2 := fun f hf => by
    rcases hF.2.1 f with p | ⟨-, -, p⟩
    · rw [← p]; exact hf
    · rw [p] at hf; exact absurd hf (by decide)
  refine ⟨fun f hf => ?_, fun f f' i j w hf hf' hi hj h1 h2 => ?_⟩
  · obtain ⟨g1, t, b, g2, g3, g4, g5, g6, g7⟩ := h.1 f (hk f hf)
    exact ⟨Nat.lt_of_lt_of_le g1 hF.1, t, b, by rw [hR _ _ (by decide)]; exact g2, by rw [hR _ _ (by decide)]; exact g3, (hF.K6 t).mpr g4, (hF.K6 b).mpr g5, g6, g7⟩
  · rw [hR _ _ (by omega)] at h1 h2
    exact h.2 f f' i j w (hk f hf) (hk f' hf') hi hj h1 h2
def cvQ (M : rg_M) (V : Nat → Int) (q : Nat → Rat) : Prop := ∀ f t b, rg_K M f = 2 → rg_R M 16 f = some t → rg_R M 17 f = some b → V t = (q f).num ∧ V b = ((q f).den : Int)
/-- the class's numbers: q f is what Fraction f holds -/
def cS (u z rk : Nat) (c : Nat → Nat) (jf : Nat) (M : rg_M) (q : Nat → Rat) : Prop := cH u z M ∧ cRk rk c jf M ∧ cFr c M ∧ ∃ V, cvV M V ∧ cvQ M V q
def qL (x : Rat) (k : Nat) : Prop := cL x.num k ∧ cL (x.den : Int) k
theorem qL.mono {x : Rat} {k l : Nat} (h : qL x k) (hl : k ≤ l) : qL x l := ⟨h.1.mono hl, h.2.mono hl⟩
section
variable {u z rk jf : Nat} {c : Nat → Nat} {M : rg_M} {q : Nat → Rat} {V : Nat → Int}
theorem cFr.get (h : cFr c M) {f : Nat} (hf : rg_K M f = 2) : ∃ t b, cXf f t b M ∧ t ≠ b ∧ ∀ i, i < 11 → t ≠ c i ∧ b ≠ c i := by
  obtain ⟨g1, t, b, g2, g3, g4, g5, g6, g7⟩ := h.1 f hf
  exact ⟨t, b, ⟨g1, hf, g2, g3, g4, g5⟩, g6, g7⟩
/-- two Fractions share nothing -/
theorem cFr.two (h : cFr c M) {f f' t b t' b' : Nat} (hx : cXf f t b M) (hx' : cXf f' t' b' M) (hne : f ≠ f') : t ≠ t' ∧ t ≠ b' ∧ b ≠ t' ∧ b ≠ b' := by
  obtain ⟨-, a1, a2, a3, -, -⟩ := hx
  obtain ⟨-, b1, b2, b3, -, -⟩ := hx'
  exact ⟨fun e => hne (h.2 f f' 16 16 t a1 b1 (Or.inl rfl) (Or.inl rfl) a2 (by rw [e]; exact b2)), fun e => hne (h.2 f f' 16 17 t a1 b1 (Or.inl rfl) (Or.inr rfl) a2 (by rw [e]; exact b3)), fun e => hne (h.2 f f' 17 16 b a1 b1 (Or.inr rfl) (Or.inl rfl) a3 (by rw [e]; exact b2)), fun e => hne (h.2 f f' 17 17 b a1 b1 (Or.inr rfl) (Or.inr rfl) a3 (by rw [e]; exact b3))⟩
theorem cS_up (hR : cRk rk c jf M) (hFr : cFr c M) (hQ : cvQ M V q) {V' : Nat → Int} {M' : rg_M} (hP : cP u z M V' M') {f t b : Nat} {x : Rat} (hx : cXf f t b M) (e1 : V' t = x.num) (e2 : V' b = (x.den : Int)) (ho : ∀ y, (∀ i, i < 11 → y ≠ c i) → y ≠ t → y ≠ b → V' y = V y) : cS u z rk c jf M' (va_up q f x) ∧ cG M M' := by
  have hF := hP.2.1
  have hRr : ∀ f a, f ≠ 80 → rg_R M' f a = rg_R M f a := hF.2.2.2.2.1
  have hk : ∀ f, rg_K M' f = 2 → rg_K M f = 2 := fun f hf => by
    rcases hF.2.1 f with p | ⟨-, -, p⟩
    · rw [← p]; exact hf
    · rw [p] at hf; exact absurd hf (by decide)
  refine ⟨⟨hP.1, hR.F hF, hFr.F hF, V', hP.2.2, fun f' t' b' hf' h1 h2 => ?_⟩, hF.G⟩
  rw [hRr _ _ (by decide)] at h1 h2
  have hf'' := hk f' hf'
  by_cases e : f' = f
  · subst e
    rw [hx.2.2.1] at h1
    rw [hx.2.2.2.1] at h2
    cases h1; cases h2
    rw [rg_up_eq]
    exact ⟨e1, e2⟩
  · rw [rg_up_ne e]
    obtain ⟨t2, b2, hx2, -, hd⟩ := hFr.get hf''
    have i1 : t' = t2 := by have := hx2.2.2.1; rw [h1] at this; cases this; rfl
    have i2 : b' = b2 := by have := hx2.2.2.2.1; rw [h2] at this; cases this; rfl
    subst i1; subst i2
    obtain ⟨d1, d2, d3, d4⟩ := hFr.two hx2 hx e
    rw [ho t' (fun i hi => (hd i hi).1) d1 d2, ho b' (fun i hi => (hd i hi).2) d3 d4]
    exact hQ f' t' b' hf'' h1 h2
theorem cS_keep (hR : cRk rk c jf M) (hFr : cFr c M) (hQ : cvQ M V q) {V' : Nat → Int} {M' : rg_M} (hP : cP u z M V' M') (ho : ∀ y, (∀ i, i < 11 → y ≠ c i) → V' y = V y) : cS u z rk c jf M' q ∧ cG M M' := by
  have hF := hP.2.1
  have hRr : ∀ f a, f ≠ 80 → rg_R M' f a = rg_R M f a := hF.2.2.2.2.1
  have hk : ∀ f, rg_K M' f = 2 → rg_K M f = 2 := fun f hf => by
    rcases hF.2.1 f with p | ⟨-, -, p⟩
    · rw [← p]; exact hf
    · rw [p] at hf; exact absurd hf (by decide)
  refine ⟨⟨hP.1, hR.F hF, hFr.F hF, V', hP.2.2, fun f' t' b' hf' h1 h2 => ?_⟩, hF.G⟩
  rw [hRr _ _ (by decide)] at h1 h2
  have hf'' := hk f' hf'
  obtain ⟨t2, b2, hx2, -, hd⟩ := hFr.get hf''
  have i1 : t' = t2 := by have := hx2.2.2.1; rw [h1] at this; cases this; rfl
  have i2 : b' = b2 := by have := hx2.2.2.2.1; rw [h2] at this; cases this; rfl
  subst i1; subst i2
  rw [ho t' (fun i hi => (hd i hi).1), ho b' (fun i hi => (hd i hi).2)]
  exact hQ f' t' b' hf'' h1 h2
theorem cS_same (h : cS u z rk c jf M q) {f : Nat} {x : Rat} (e : x = q f) : cS u z rk c jf M (va_up q f x) := by rw [rg_up_id e.symm]; exact h
/-- to + by * x -/
theorem cS_addTimes (hS : cS u z rk c jf M q) {to by' k : Nat} (h1 : rg_K M to = 2) (h2 : rg_K M by' = 2) (hne : to ≠ by') (x : Int32) (hk : k ≤ 425) (l1 : qL (q to) k) (l2 : qL (q by') k) : ∃ M', rK_addTimes rk to by' x M = some M' ∧ cS u z rk c jf M' (va_up q to (q to + q by' * ((x.toInt : Int) : Rat))) ∧ cG M M' := by
  have hS0 := hS
  obtain ⟨hH, hR, hFr, V, hV, hQ⟩ := hS
  obtain ⟨t1, b1, X1, p1, D1⟩ := hFr.get h1
  obtain ⟨t2, b2, X2, p2, D2⟩ := hFr.get h2
  obtain ⟨p3, p4, p5, p6⟩ := hFr.two X1 X2 hne
  obtain ⟨v1, v2⟩ := hQ to t1 b1 h1 X1.2.2.1 X1.2.2.2.1
  obtain ⟨v3, v4⟩ := hQ by' t2 b2 h2 X2.2.2.1 X2.2.2.2.1
  by_cases hx0 : x = 0
  · refine ⟨M, ?_, cS_same hS0 ?_, cG.rf M⟩
    · rw [rK_addTimes_u, rK_addTimes_e, if_pos hx0, rK_addTimes_14_e]; rfl
    · rw [hx0]
      show q to + q by' * ((0 : Int) : Rat) = q to
      rw [Rat.intCast_zero, Rat.mul_zero, Rat.add_zero]
  · by_cases ht0 : V t2 = 0
    · obtain ⟨rt, nt, hT⟩ := hV t2 X2.2.2.2.2.1
      have hn : nt = 0 := hT.zero.mp ht0
      have hi : rg_I M 81 t2 = 0 := by rw [hT.2.2.2.2.1, hn]; rfl
      refine ⟨M, ?_, cS_same hS0 ?_, cG.rf M⟩
      · rw [rK_addTimes_u, rK_addTimes_e, if_neg hx0]
        simp only [X2.all, if_true, Option.bind_some, hi, rK_addTimes_14_e]
        rfl
      · rw [v3] at ht0
        rw [q_zero ht0, Rat.zero_mul, Rat.add_zero]
    · have hf : x.toInt64.toInt = x.toInt := Int32.toInt_toInt64 x
      obtain ⟨g, l, r, e, N, V', M', a1, a2, a3, a4, a5, a6, a7, a8, a9, a10⟩ := cw_addT hH hV hR X1 X2 (fun i hi => ⟨(D1 i hi).1, (D1 i hi).2, (D2 i hi).1, (D2 i hi).2⟩) p1 p2 p3 p4 p5 p6 (by rw [v2]; exact q_den _) (by rw [v4]; exact q_den _) hk (by rw [v1]; exact l1.1) (by rw [v2]; exact l1.2) (by rw [v3]; exact l2.1) (by rw [v4]; exact l2.2) hx0 hf ht0
      rw [v2, v4] at a3
      rw [v2] at a4
      rw [v4] at a5 a9
      rw [v1, v3] at a7
      obtain ⟨-, g2, g3⟩ := q_add (x := q to) (y := q by') (f := x.toInt) a3 a4 a5 a6 a7
      refine ⟨M', a1, ?_⟩
      by_cases hN : N = 0
      · obtain ⟨w1, w2⟩ := a8 hN
        exact cS_up hR hFr hQ a2 X1 (by rw [w1, g2 hN]; rfl) (by rw [w2, g2 hN]; rfl) a10
      · obtain ⟨w1, w2⟩ := a9 hN
        obtain ⟨k1, k2, -, -, -⟩ := g3 hN _ rfl
        exact cS_up hR hFr hQ a2 X1 (by rw [w1, k1]) (by rw [w2, k2]) a10
theorem cS_multiply (hS : cS u z rk c jf M q) {to by' k : Nat} (h1 : rg_K M to = 2) (h2 : rg_K M by' = 2) (hne : to ≠ by') (hk : k ≤ 425) (l1 : qL (q to) k) (l2 : qL (q by') k) : ∃ M', rK_multiply rk to by' M = some M' ∧ cS u z rk c jf M' (va_up q to (q to * q by')) ∧ cG M M' := by
  obtain ⟨hH, hR, hFr, V, hV, hQ⟩ := hS
  obtain ⟨t1, b1, X1, p1, D1⟩ := hFr.get h1
  obtain ⟨t2, b2, X2, p2, D2⟩ := hFr.get h2
  obtain ⟨p3, p4, p5, p6⟩ := hFr.two X1 X2 hne
  obtain ⟨v1, v2⟩ := hQ to t1 b1 h1 X1.2.2.1 X1.2.2.2.1
  obtain ⟨v3, v4⟩ := hQ by' t2 b2 h2 X2.2.2.1 X2.2.2.2.1
  obtain ⟨V', M', a1, a2, a3, a4, a5⟩ := cw_mulT hH hV hR X1 X2 (fun i hi => ⟨(D1 i hi).1, (D1 i hi).2, (D2 i hi).1, (D2 i hi).2⟩) p1 p2 p3 p4 p5 p6 (by rw [v2]; exact q_den _) (by rw [v4]; exact q_den _) hk (by rw [v1]; exact l1.1) (by rw [v2]; exact l1.2) (by rw [v3]; exact l2.1) (by rw [v4]; exact l2.2)
  rw [v1, v2, v3, v4] at a3 a4
  obtain ⟨k1, k2, -, -⟩ := q_mul (x := q to) (y := q by') rfl rfl
  exact ⟨M', a1, cS_up hR hFr hQ a2 X1 (by rw [a3, k1]) (by rw [a4, k2]) a5⟩
theorem cS_become (hS : cS u z rk c jf M q) {f : Nat} (hf : rg_K M f = 2) (a b : Int32) {x : Rat} (e1 : x.num = a.toInt) (e2 : (x.den : Int) = b.toInt) : ∃ M', rF_become f a b M = some M' ∧ cS u z rk c jf M' (va_up q f x) ∧ cG M M' := by
  obtain ⟨hH, hR, hFr, V, hV, hQ⟩ := hS
  obtain ⟨t, b', X, p1, D⟩ := hFr.get hf
  obtain ⟨M1, r1, P1⟩ := cw_become hH hV X.2.2.2.2.1 a.toInt64
  have X1 := X.F P1.2.1
  obtain ⟨M2, r2, P2⟩ := cw_become P1.1 P1.2.2 X1.2.2.2.2.2 b.toInt64
  refine ⟨M2, ?_, cS_up (V' := va_up (va_up V t a.toInt64.toInt) b' b.toInt64.toInt) hR hFr hQ ⟨P2.1, P1.2.1.tr P2.2.1, P2.2.2⟩ X ?_ ?_ (fun y _ y1 y2 => by rw [rg_up_ne y2, rg_up_ne y1])⟩
  · rw [rF_become_u, rF_become_e]
    simp only [X.all, X1.all, if_true, Option.bind_some, r1, r2]
    rfl
  · rw [rg_up_ne p1, rg_up_eq, e1]; exact Int32.toInt_toInt64 a
  · rw [rg_up_eq, e2]; exact Int32.toInt_toInt64 b
theorem cS_copy (hS : cS u z rk c jf M q) {f g k : Nat} (hf : rg_K M f = 2) (hg : rg_K M g = 2) (hne : f ≠ g) (hk : k ≤ 866) (hl : qL (q g) k) : ∃ M', rF_copy f g M = some M' ∧ cS u z rk c jf M' (va_up q f (q g)) ∧ cG M M' := by
  obtain ⟨hH, hR, hFr, V, hV, hQ⟩ := hS
  obtain ⟨t, b, X, p1, D⟩ := hFr.get hf
  obtain ⟨t', b', X', p1', D'⟩ := hFr.get hg
  obtain ⟨p3, p4, p5, p6⟩ := hFr.two X X' hne
  obtain ⟨v3, v4⟩ := hQ g t' b' hg X'.2.2.1 X'.2.2.2.1
  obtain ⟨M1, r1, P1⟩ := cw_copy hH hV X.2.2.2.2.1 X'.2.2.2.2.1 (Ne.symm p3) (by rw [v3]; exact hl.1.mono hk)
  have X1 := X.F P1.2.1
  have X1' := X'.F P1.2.1
  have eb : va_up V t (V t') b' = V b' := rg_up_ne (Ne.symm p4)
  obtain ⟨M2, r2, P2⟩ := cw_copy P1.1 P1.2.2 X1.2.2.2.2.2 X1'.2.2.2.2.2 (Ne.symm p6) (by rw [eb, v4]; exact hl.2.mono hk)
  rw [eb] at P2
  refine ⟨M2, ?_, cS_up (V' := va_up (va_up V t (V t')) b (V b')) hR hFr hQ ⟨P2.1, P1.2.1.tr P2.2.1, P2.2.2⟩ X ?_ ?_ (fun y _ y1 y2 => by rw [rg_up_ne y2, rg_up_ne y1])⟩
  · rw [rF_copy_u, rF_copy_e]
    simp only [X.all, X1.all, X'.all, X1'.all, if_true, Option.bind_some, r1, r2]
    rfl
  · rw [rg_up_ne p1, rg_up_eq, v3]
  · rw [rg_up_eq, v4]
end

/-! the class's objects: fractions by index. 40 k + i: row k of the Learning (0 regrets, 1 sums, 2 nextRegrets, 3 nextSums, 4 parts, 5 worths) at i; 240 total, 241 average, 242 change, 243 the number game's greatest, 244 chance, 245 onward, 246 the card game's greatest, 247 viewed, 248 gap; 250 + i: played at i, where it isn't the part itself -/
def vx (i : Nat) : Prop := i < 249 ∨ (250 ≤ i ∧ i < 290 ∧ 6 ≤ (i - 250) % 8)
def plx (i : Nat) : Nat := if i % 8 < 6 then 160 + i else 250 + i
theorem plx_v {i : Nat} (h : i < 40) : vx (plx i) := by
  unfold vx plx
  by_cases c : i % 8 < 6
  · rw [if_pos c]; left; omega
  · rw [if_neg c]; right; exact ⟨by omega, by omega, by rw [Nat.add_sub_cancel_left]; omega⟩
def cEn (rk ln ng cg tb rn : Nat) (ro : Nat → Nat) (fx : Nat → Nat) (M : rg_M) : Prop :=
  (ln < rg_sz M ∧ ng < rg_sz M ∧ cg < rg_sz M ∧ tb < rg_sz M ∧ rn < rg_sz M ∧ rk < rg_sz M ∧ ¬ cO M rn) ∧
  (rg_K M ln = 3 ∧ rg_K M ng = 4 ∧ rg_K M cg = 1 ∧ rg_K M tb = 7 ∧ rg_K M rn = 9 ∧ rg_K M rk = 5 ∧ rg_L M rn = 25) ∧
  (rg_R M 32 ln = some rk ∧ rg_R M 33 ln = some (ro 0) ∧ rg_R M 34 ln = some (ro 1) ∧ rg_R M 35 ln = some (ro 2) ∧ rg_R M 36 ln = some (ro 3) ∧ rg_R M 37 ln = some (ro 4) ∧ rg_R M 38 ln = some (ro 5) ∧ rg_R M 39 ln = some (fx 240) ∧ rg_R M 40 ln = some (fx 241) ∧ rg_R M 41 ln = some (fx 242)) ∧
  (rg_R M 48 ng = some rk ∧ rg_R M 49 ng = some ln ∧ rg_R M 50 ng = some rn ∧ rg_R M 51 ng = some (fx 243)) ∧
  (rg_R M 0 cg = some rk ∧ rg_R M 1 cg = some ln ∧ rg_R M 2 cg = some (ro 6) ∧ rg_R M 3 cg = some (fx 244) ∧ rg_R M 4 cg = some (fx 245) ∧ rg_R M 5 cg = some (fx 246)) ∧
  (rg_R M 96 tb = some rk ∧ rg_R M 97 tb = some ln ∧ rg_R M 98 tb = some ng ∧ rg_R M 99 tb = some cg ∧ rg_R M 100 tb = some (fx 247) ∧ rg_R M 101 tb = some (fx 248)) ∧
  (∀ k, k < 7 → ro k < rg_sz M ∧ rg_K M (ro k) = 12 ∧ rg_L M (ro k) = 40) ∧
  (∀ k i, k < 6 → i < 40 → rg_Q M (ro k) i = some (fx (40 * k + i))) ∧ (∀ i, i < 40 → rg_Q M (ro 6) i = some (fx (plx i))) ∧
  (∀ i, vx i → fx i < rg_sz M ∧ rg_K M (fx i) = 2) ∧ (∀ i j, vx i → vx j → fx i = fx j → i = j)
section
variable {rk ln ng cg tb rn : Nat} {ro fx : Nat → Nat} {M M' : rg_M}
theorem cEn.G (h : cEn rk ln ng cg tb rn ro fx M) (hG : cG M M') : cEn rk ln ng cg tb rn ro fx M' := by
  obtain ⟨⟨a1, a2, a3, a4, a5, a6, a7⟩, ⟨b1, b2, b3, b4, b5, b6, b7⟩, hc, hd, he, hf, hg, hh, hi, hj, hk⟩ := h
  obtain ⟨g1, g2, g3, g4, g5, g6, g7⟩ := hG
  have K : ∀ {a}, a < rg_sz M → rg_K M' a = rg_K M a := fun {a} ha => by
    rcases g2 a with p | p
    · exact p
    · omega
  have R : ∀ f a, f ≠ 80 → f ≠ 16 → f ≠ 17 → rg_R M' f a = rg_R M f a := g5
  refine ⟨⟨by omega, by omega, by omega, by omega, by omega, by omega, (g7 rn a5 a7).2⟩, ⟨by rw [K a1]; exact b1, by rw [K a2]; exact b2, by rw [K a3]; exact b3, by rw [K a4]; exact b4, by rw [K a5]; exact b5, by rw [K a6]; exact b6, by rw [g3 _ a5]; exact b7⟩, ?_, ?_, ?_, ?_, fun k hk' => ?_, fun k i hk' hi' => ?_, fun i hi' => ?_, fun i hi' => ?_, hk⟩
  · simp only [R _ _ (show (32 : Nat) ≠ 80 by decide) (by decide) (by decide), R _ _ (show (33 : Nat) ≠ 80 by decide) (by decide) (by decide), R _ _ (show (34 : Nat) ≠ 80 by decide) (by decide) (by decide), R _ _ (show (35 : Nat) ≠ 80 by decide) (by decide) (by decide), R _ _ (show (36 : Nat) ≠ 80 by decide) (by decide) (by decide), R _ _ (show (37 : Nat) ≠ 80 by decide) (by decide) (by decide), R _ _ (show (38 : Nat) ≠ 80 by decide) (by decide) (by decide), R _ _ (show (39 : Nat) ≠ 80 by decide) (by decide) (by decide), R _ _ (show (40 : Nat) ≠ 80 by decide) (by decide) (by decide), R _ _ (show (41 : Nat) ≠ 80 by decide) (by decide) (by decide)]; exact hc
  · simp only [R _ _ (show (48 : Nat) ≠ 80 by decide) (by decide) (by decide), R _ _ (show (49 : Nat) ≠ 80 by decide) (by decide) (by decide), R _ _ (show (50 : Nat) ≠ 80 by decide) (by decide) (by decide), R _ _ (show (51 : Nat) ≠ 80 by decide) (by decide) (by decide)]; exact hd
  · simp only [R _ _ (show (0 : Nat) ≠ 80 by decide) (by decide) (by decide), R _ _ (show (1 : Nat) ≠ 80 by decide) (by decide) (by decide), R _ _ (show (2 : Nat) ≠ 80 by decide) (by decide) (by decide), R _ _ (show (3 : Nat) ≠ 80 by decide) (by decide) (by decide), R _ _ (show (4 : Nat) ≠ 80 by decide) (by decide) (by decide), R _ _ (show (5 : Nat) ≠ 80 by decide) (by decide) (by decide)]; exact he
  · simp only [R _ _ (show (96 : Nat) ≠ 80 by decide) (by decide) (by decide), R _ _ (show (97 : Nat) ≠ 80 by decide) (by decide) (by decide), R _ _ (show (98 : Nat) ≠ 80 by decide) (by decide) (by decide), R _ _ (show (99 : Nat) ≠ 80 by decide) (by decide) (by decide), R _ _ (show (100 : Nat) ≠ 80 by decide) (by decide) (by decide), R _ _ (show (101 : Nat) ≠ 80 by decide) (by decide) (by decide)]; exact hf
  · obtain ⟨q1, q2, q3⟩ := hg k hk'
    exact ⟨by omega, by rw [K q1]; exact q2, by rw [g3 _ q1]; exact q3⟩
  · rw [g6 _ _ (hg k (by omega)).1]; exact hh k i hk' hi'
  · rw [g6 _ _ (hg 6 (by omega)).1]; exact hi i hi'
  · obtain ⟨q1, q2⟩ := hj i hi'
    exact ⟨by omega, by rw [K q1]; exact q2⟩
/-- what of it is rewritten with -/
theorem cEn.all (h : cEn rk ln ng cg tb rn ro fx M) : (rg_K M ln = 3 ∧ rg_K M ng = 4 ∧ rg_K M cg = 1 ∧ rg_K M tb = 7 ∧ rg_K M rn = 9 ∧ rg_K M rk = 5 ∧ rg_L M rn = 25) ∧ (rg_R M 32 ln = some rk ∧ rg_R M 33 ln = some (ro 0) ∧ rg_R M 34 ln = some (ro 1) ∧ rg_R M 35 ln = some (ro 2) ∧ rg_R M 36 ln = some (ro 3) ∧ rg_R M 37 ln = some (ro 4) ∧ rg_R M 38 ln = some (ro 5) ∧ rg_R M 39 ln = some (fx 240) ∧ rg_R M 40 ln = some (fx 241) ∧ rg_R M 41 ln = some (fx 242)) ∧ (rg_R M 48 ng = some rk ∧ rg_R M 49 ng = some ln ∧ rg_R M 50 ng = some rn ∧ rg_R M 51 ng = some (fx 243)) ∧ (rg_R M 0 cg = some rk ∧ rg_R M 1 cg = some ln ∧ rg_R M 2 cg = some (ro 6) ∧ rg_R M 3 cg = some (fx 244) ∧ rg_R M 4 cg = some (fx 245) ∧ rg_R M 5 cg = some (fx 246)) ∧ (rg_R M 96 tb = some rk ∧ rg_R M 97 tb = some ln ∧ rg_R M 98 tb = some ng ∧ rg_R M 99 tb = some cg ∧ rg_R M 100 tb = some (fx 247) ∧ rg_R M 101 tb = some (fx 248)) ∧ (rg_K M (ro 0) = 12 ∧ rg_K M (ro 1) = 12 ∧ rg_K M (ro 2) = 12 ∧ rg_K M (ro 3) = 12 ∧ rg_K M (ro 4) = 12 ∧ rg_K M (ro 5) = 12 ∧ rg_K M (ro 6) = 12 ∧ rg_L M (ro 0) = 40 ∧ rg_L M (ro 1) = 40 ∧ rg_L M (ro 2) = 40 ∧ rg_L M (ro 3) = 40 ∧ rg_L M (ro 4) = 40 ∧ rg_L M (ro 5) = 40 ∧ rg_L M (ro 6) = 40) ∧ (rg_K M (fx 240) = 2 ∧ rg_K M (fx 241) = 2 ∧ rg_K M (fx 242) = 2 ∧ rg_K M (fx 243) = 2 ∧ rg_K M (fx 244) = 2 ∧ rg_K M (fx 245) = 2 ∧ rg_K M (fx 246) = 2 ∧ rg_K M (fx 247) = 2 ∧ rg_K M (fx 248) = 2) := by
  obtain ⟨-, hb, hc, hd, he, hf, hg, -, -, hj, -⟩ := h
  refine ⟨hb, hc, hd, he, hf, ⟨(hg 0 (by decide)).2.1, (hg 1 (by decide)).2.1, (hg 2 (by decide)).2.1, (hg 3 (by decide)).2.1, (hg 4 (by decide)).2.1, (hg 5 (by decide)).2.1, (hg 6 (by decide)).2.1, (hg 0 (by decide)).2.2, (hg 1 (by decide)).2.2, (hg 2 (by decide)).2.2, (hg 3 (by decide)).2.2, (hg 4 (by decide)).2.2, (hg 5 (by decide)).2.2, (hg 6 (by decide)).2.2⟩, ?_⟩
  have v : ∀ i, i < 249 → rg_K M (fx i) = 2 := fun i hi => (hj i (Or.inl hi)).2
  exact ⟨v 240 (by decide), v 241 (by decide), v 242 (by decide), v 243 (by decide), v 244 (by decide), v 245 (by decide), v 246 (by decide), v 247 (by decide), v 248 (by decide)⟩
theorem cEn.q (h : cEn rk ln ng cg tb rn ro fx M) {k i : Nat} (hk : k < 6) (hi : i < 40) : rg_Q M (ro k) i = some (fx (40 * k + i)) ∧ rg_K M (fx (40 * k + i)) = 2 := by
  obtain ⟨-, hb, hc, hd, he, hf, hg, hh, -, hj, -⟩ := h
  exact ⟨hh k i hk hi, (hj _ (Or.inl (by omega))).2⟩
theorem cEn.q6 (h : cEn rk ln ng cg tb rn ro fx M) {i : Nat} (hi : i < 40) : rg_Q M (ro 6) i = some (fx (plx i)) ∧ rg_K M (fx (plx i)) = 2 := by
  obtain ⟨-, hb, hc, hd, he, hf, hg, -, h6, hj, -⟩ := h
  exact ⟨h6 i hi, (hj _ (plx_v hi)).2⟩
end
/-- y i: what the Fraction with index i holds -/
def cE (u z rk : Nat) (c : Nat → Nat) (jf ln ng cg tb rn : Nat) (ro fx : Nat → Nat) (M : rg_M) (y : Nat → Rat) : Prop := cEn rk ln ng cg tb rn ro fx M ∧ ∃ q, cS u z rk c jf M q ∧ ∀ i, vx i → q (fx i) = y i
section
variable {u z rk jf ln ng cg tb rn : Nat} {c ro fx : Nat → Nat} {M : rg_M} {y : Nat → Rat}
theorem cE_up (hE : cEn rk ln ng cg tb rn ro fx M) {q : Nat → Rat} (hq : ∀ i, vx i → q (fx i) = y i) {M' : rg_M} {i : Nat} {x : Rat} (hi : vx i) (hS : cS u z rk c jf M' (va_up q (fx i) x)) (hG : cG M M') : cE u z rk c jf ln ng cg tb rn ro fx M' (va_up y i x) := by
  refine ⟨hE.G hG, _, hS, fun j hj => ?_⟩
  by_cases e : j = i
  · rw [e, rg_up_eq, rg_up_eq]
  · rw [rg_up_ne e, rg_up_ne (fun h => e (hE.2.2.2.2.2.2.2.2.2.2 j i hj hi h))]; exact hq j hj
theorem cE.ne (h : cE u z rk c jf ln ng cg tb rn ro fx M y) {i j : Nat} (hi : vx i) (hj : vx j) (hne : i ≠ j) : fx i ≠ fx j := fun e => hne (h.1.2.2.2.2.2.2.2.2.2.2 i j hi hj e)
theorem cE.k (h : cE u z rk c jf ln ng cg tb rn ro fx M y) {i : Nat} (hi : vx i) : rg_K M (fx i) = 2 := (h.1.2.2.2.2.2.2.2.2.2.1 i hi).2
theorem cE_add (h : cE u z rk c jf ln ng cg tb rn ro fx M y) {i j k : Nat} (hi : vx i) (hj : vx j) (hne : i ≠ j) (x : Int32) (hk : k ≤ 425) (l1 : qL (y i) k) (l2 : qL (y j) k) : ∃ M', rK_addTimes rk (fx i) (fx j) x M = some M' ∧ cE u z rk c jf ln ng cg tb rn ro fx M' (va_up y i (y i + y j * ((x.toInt : Int) : Rat))) ∧ cG M M' := by
  have h0 := h
  obtain ⟨hE, q, hS, hq⟩ := h
  obtain ⟨M', r, s, g⟩ := cS_addTimes hS (h0.k hi) (h0.k hj) (h0.ne hi hj hne) x hk (by rw [hq i hi]; exact l1) (by rw [hq j hj]; exact l2)
  rw [hq i hi, hq j hj] at s
  exact ⟨M', r, cE_up hE hq hi s g, g⟩
theorem cE_mul (h : cE u z rk c jf ln ng cg tb rn ro fx M y) {i j k : Nat} (hi : vx i) (hj : vx j) (hne : i ≠ j) (hk : k ≤ 425) (l1 : qL (y i) k) (l2 : qL (y j) k) : ∃ M', rK_multiply rk (fx i) (fx j) M = some M' ∧ cE u z rk c jf ln ng cg tb rn ro fx M' (va_up y i (y i * y j)) ∧ cG M M' := by
  have h0 := h
  obtain ⟨hE, q, hS, hq⟩ := h
  obtain ⟨M', r, s, g⟩ := cS_multiply hS (h0.k hi) (h0.k hj) (h0.ne hi hj hne) hk (by rw [hq i hi]; exact l1) (by rw [hq j hj]; exact l2)
  rw [hq i hi, hq j hj] at s
  exact ⟨M', r, cE_up hE hq hi s g, g⟩
theorem cE_keepG (h : cE u z rk c jf ln ng cg tb rn ro fx M y) {i j k : Nat} (hi : vx i) (hj : vx j) (hne : i ≠ j) (hk : k ≤ 425) (l1 : qL (y i) k) (l2 : qL (y j) k) : ∃ M', rK_keepGreater rk (fx i) (fx j) M = some M' ∧ cE u z rk c jf ln ng cg tb rn ro fx M' (va_up y i (if y i < y j then y j else y i)) ∧ cG M M' := by
  have h0 := h
  obtain ⟨hE, q, hS, hq⟩ := h
  obtain ⟨M', r, s, g⟩ := cS_keepGreater hS (h0.k hi) (h0.k hj) (h0.ne hi hj hne) hk (by rw [hq i hi]; exact l1) (by rw [hq j hj]; exact l2)
  rw [hq i hi, hq j hj] at s
  exact ⟨M', r, cE_up hE hq hi s g, g⟩
theorem cE_become (h : cE u z rk c jf ln ng cg tb rn ro fx M y) {i : Nat} (hi : vx i) (a b : Int32) {x : Rat} (e1 : x.num = a.toInt) (e2 : (x.den : Int) = b.toInt) : ∃ M', rF_become (fx i) a b M = some M' ∧ cE u z rk c jf ln ng cg tb rn ro fx M' (va_up y i x) ∧ cG M M' := by
  have h0 := h
  obtain ⟨hE, q, hS, hq⟩ := h
  obtain ⟨M', r, s, g⟩ := cS_become hS (h0.k hi) a b e1 e2
  exact ⟨M', r, cE_up hE hq hi s g, g⟩
theorem cE_zero (h : cE u z rk c jf ln ng cg tb rn ro fx M y) {i : Nat} (hi : vx i) : ∃ M', rF_become (fx i) 0 1 M = some M' ∧ cE u z rk c jf ln ng cg tb rn ro fx M' (va_up y i 0) ∧ cG M M' := cE_become h hi 0 1 rfl rfl
theorem cE_copy (h : cE u z rk c jf ln ng cg tb rn ro fx M y) {i j k : Nat} (hi : vx i) (hj : vx j) (hne : i ≠ j) (hk : k ≤ 866) (l : qL (y j) k) : ∃ M', rF_copy (fx i) (fx j) M = some M' ∧ cE u z rk c jf ln ng cg tb rn ro fx M' (va_up y i (y j)) ∧ cG M M' := by
  have h0 := h
  obtain ⟨hE, q, hS, hq⟩ := h
  obtain ⟨M', r, s, g⟩ := cS_copy hS (h0.k hi) (h0.k hj) (h0.ne hi hj hne) hk (by rw [hq j hj]; exact l)
  rw [hq j hj] at s
  exact ⟨M', r, cE_up hE hq hi s g, g⟩
theorem cE_turn (h : cE u z rk c jf ln ng cg tb rn ro fx M y) {i : Nat} (hi : vx i) (hp : 0 < y i) : ∃ M', rF_turnOver (fx i) M = some M' ∧ cE u z rk c jf ln ng cg tb rn ro fx M' (va_up y i (y i)⁻¹) ∧ cG M M' := by
  have h0 := h
  obtain ⟨hE, q, hS, hq⟩ := h
  obtain ⟨M', r, s, g⟩ := cS_turnOver hS (h0.k hi) (by rw [hq i hi]; exact hp)
  rw [hq i hi] at s
  exact ⟨M', r, cE_up hE hq hi s g, g⟩
/-- the sign of a Fraction's top: above 0 or not -/
theorem cE_sign (h : cE u z rk c jf ln ng cg tb rn ro fx M y) {i : Nat} (hi : vx i) : ∃ t s, rg_R M 16 (fx i) = some t ∧ rg_K M t = 6 ∧ rW_sign t M = some (s, M) ∧ (s ≤ 0 ↔ ¬ 0 < y i) := by
  have h0 := h
  obtain ⟨hE, q, hS, hq⟩ := h
  obtain ⟨t, b, X, -, -, -, -, c1, -⟩ := cS_parts hS (h0.k hi)
  rw [hq i hi] at c1
  refine ⟨t, _, X.2.2.1, X.2.2.2.2.1, c1, ?_⟩
  rw [q_pos_num]
  generalize (y i).num = v
  rcases (show v < 0 ∨ v = 0 ∨ 0 < v by omega) with e | e | e
  · rw [rm_sg_n e]; exact ⟨fun _ => by omega, fun _ => by decide⟩
  · rw [e]; exact ⟨fun _ => by omega, fun _ => by decide⟩
  · rw [rm_sg_p e]; exact ⟨fun h => absurd h (by decide), fun h => absurd e h⟩
theorem cE_longest (h : cE u z rk c jf ln ng cg tb rn ro fx M y) {i : Nat} (hi : vx i) : rF_longest (fx i) M = some (nI (qB (y i)), M) ∧ qB (y i) ≤ 40300 := by
  have h0 := h
  obtain ⟨hE, q, hS, hq⟩ := h
  have := cS_longest hS (h0.k hi)
  rw [hq i hi] at this
  exact this
end

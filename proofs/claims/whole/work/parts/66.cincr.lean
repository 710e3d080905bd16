/-! increase -/
theorem dz_cut (f : Nat → Int32) {n N : Nat} (h : n ≤ N) : dz (fun i => if i < n then (rm_u (f i) : Int) else 0) N = (cV f n : Int) := by
  obtain ⟨d, rfl⟩ := Nat.exists_eq_add_of_le h
  rw [dz_app, show dz (fun k => if n + k < n then (rm_u (f (n + k)) : Int) else 0) d = 0 from (dz_cong (fun k _ => if_neg (by omega))).trans (dz_zero d), Int.mul_zero, Int.add_zero]
  unfold cV
  rw [dz_ds]
  exact dz_cong (fun k hk => if_pos hk)
theorem cV_sc {t : Nat → Int} {c : Int} {f : Nat → Int32} {N : Nat} (hf : ∀ j, j < N → rm_u (f j) = scO t c j) : ((cV f N : Nat) : Int) + scC t c N * (2147483648 : Int) ^ N = c + dz t N := by
  rw [← sc_sum t c N]
  congr 1
  unfold cV
  rw [dz_ds]
  exact dz_cong (fun k hk => by rw [hf k hk])
section
variable {u z : Nat} {M : rg_M} {V : Nat → Int} {w : Nat}
def cit (fw fx : Nat → Int32) (nw nx : Nat) (mi ot : Int) (i : Nat) : Int := mi * (if i < nw then (rm_u (fw i) : Int) else 0) + ot * (if i < nx then (rm_u (fx i) : Int) else 0)
theorem cw_in104 {x r rx nw nx N : Nat} {vw vx mi ot : Int} {lg : Int32} (hW : cwW M w r nw vw) (hX : cwW M x rx nx vx) (hN : N ≤ rg_L M r) (hN2 : N < 2 ^ 30) (hnw : nw < 2 ^ 30) (hnx : nx < 2 ^ 30) (hxr : rx ≠ r) (h1 : mi = 1 ∨ mi = -1) (h2 : ot = 1 ∨ ot = -1) (h3 : ¬ (mi = -1 ∧ ot = -1)) : ∀ d i : Nat, N - i = d → i ≤ N → rW_increase_104 w x (nI N) lg (iL mi) (iL ot) (iL (scC (cit (rg_A M r) (rg_A M rx) nw nx mi ot) 0 i)) (nI i) (cr M r (fb_put (rg_A M r) (fun j => nI (scO (cit (rg_A M r) (rg_A M rx) nw nx mi ot) 0 j)) 0 i)) = rW_increase_104 w x (nI N) lg (iL mi) (iL ot) (iL (scC (cit (rg_A M r) (rg_A M rx) nw nx mi ot) 0 N)) (nI N) (cr M r (fb_put (rg_A M r) (fun j => nI (scO (cit (rg_A M r) (rg_A M rx) nw nx mi ot) 0 j)) 0 N)) := by
  obtain ⟨a1, a2, a3, a4, a5, a6, a7, a8, a9⟩ := hW
  obtain ⟨b1, b2, b3, b4, b5, b6, b7, b8, b9⟩ := hX
  have hb1 : ∀ k, (0 : Int) ≤ (if k < nw then (rm_u (rg_A M r k) : Int) else 0) ∧ (if k < nw then (rm_u (rg_A M r k) : Int) else 0) ≤ 2147483647 := by
    intro k
    by_cases h : k < nw
    · have h9 : rm_u (rg_A M r k) < 2147483648 := a7 k h
      rw [if_pos h]; omega
    · rw [if_neg h]; omega
  have hb2 : ∀ k, (0 : Int) ≤ (if k < nx then (rm_u (rg_A M rx k) : Int) else 0) ∧ (if k < nx then (rm_u (rg_A M rx k) : Int) else 0) ≤ 2147483647 := by
    intro k
    by_cases h : k < nx
    · have h9 : rm_u (rg_A M rx k) < 2147483648 := b7 k h
      rw [if_pos h]; omega
    · rw [if_neg h]; omega
  have hT : ∀ k, (-1) * 2147483647 ≤ cit (rg_A M r) (rg_A M rx) nw nx mi ot k ∧ cit (rg_A M r) (rg_A M rx) nw nx mi ot k ≤ 1 * 2147483647 + 2147483647 := by
    intro k
    have p1 := hb1 k
    have p2 := hb2 k
    unfold cit
    generalize (if k < nw then (rm_u (rg_A M r k) : Int) else 0) = A at p1 ⊢
    generalize (if k < nx then (rm_u (rg_A M rx k) : Int) else 0) = B at p2 ⊢
    rcases h1 with e | e <;> rcases h2 with e2 | e2 <;> subst e <;> subst e2 <;> omega
  obtain ⟨t, ht⟩ : ∃ t, t = cit (rg_A M r) (rg_A M rx) nw nx mi ot := ⟨_, rfl⟩
  rw [← ht] at hT ⊢
  intro d
  induction d with
  | zero => intro i hd hi; rw [show i = N by omega]
  | succ d ih =>
    intro i hd hi
    have hi2 : i < N := by omega
    have p : ¬ nI N ≤ nI i := by rw [nI_leI (by omega) (by omega)]; omega
    have k1 := nI_clamp (n := i) (by omega)
    have k2 := rm_i0 (a := i) (by omega)
    have k3 : i < rg_L M r := by omega
    have hr := sc_rng (t := t) (c := 0) (lo := -1) (hi := 1) (by omega) (by omega) (n := i) (fun k _ => hT k)
    have hti := hT i
    have e := fb_put_succ (rg_A M r) (fun j => nI (scO t 0 j)) 0 i
    rw [Nat.zero_add] at e
    have gi : fb_put (rg_A M r) (fun j => nI (scO t 0 j)) 0 i i = rg_A M r i := fb_put_out (Or.inr (by omega))
    have e154 : ∀ A B : Int, mi * A + ot * B = t i → rW_increase_154 w x (nI N) lg (iL mi) (iL ot) (iL (scC t 0 i)) (nI i) (iL A) (iL B) (cr M r (fb_put (rg_A M r) (fun j => nI (scO t 0 j)) 0 i)) = rW_increase_104 w x (nI N) lg (iL mi) (iL ot) (iL (scC t 0 (i + 1))) (nI (i + 1)) (cr M r (fb_put (rg_A M r) (fun j => nI (scO t 0 j)) 0 (i + 1))) := by
      intro A B hAB
      rw [rW_increase_154_e]
      simp only [cr_K, cr_R, cr_L, a1, a2, a3, Option.bind_some, if_true, k1, k2, k3, and_self, cr_w, iL_mul, iL_add, hAB, nI_1]
      rw [iL_shr (by omega) (by omega), iL_and]
      rw [← e]; rfl
    have e131 : ∀ A : Int, (∀ B, B = (if i < nx then (rm_u (rg_A M rx i) : Int) else 0) → mi * A + ot * B = t i) → rW_increase_131 w x (nI N) lg (iL mi) (iL ot) (iL (scC t 0 i)) (nI i) (iL A) (cr M r (fb_put (rg_A M r) (fun j => nI (scO t 0 j)) 0 i)) = rW_increase_104 w x (nI N) lg (iL mi) (iL ot) (iL (scC t 0 (i + 1))) (nI (i + 1)) (cr M r (fb_put (rg_A M r) (fun j => nI (scO t 0 j)) 0 (i + 1))) := by
      intro A hA
      rw [rW_increase_131_e]
      simp only [cr_K, cr_R, cr_L, cr_I, b1, b2, b3, b5, Option.bind_some, if_true, k1, k2, cr_An hxr]
      by_cases h : i < nx
      · have k4 : i < rg_L M rx := by omega
        rw [if_neg (by rw [nI_leI (by omega) (by omega)]; omega), if_pos ⟨trivial, trivial, k4⟩, iL_u (b7 i h)]
        exact e154 A _ (hA _ (by rw [if_pos h]))
      · rw [if_pos (by rw [nI_leI (by omega) (by omega)]; omega), iL_0]
        exact e154 A 0 (hA _ (by rw [if_neg h]))
    rw [← ih (i + 1) (by omega) (by omega), rW_increase_104_e, if_neg p]
    simp only [cr_K, cr_R, cr_L, cr_I, a1, a2, a3, a5, Option.bind_some, if_true, k1, k2, k3, and_self, cr_A, gi]
    by_cases h : i < nw
    · rw [if_neg (by rw [nI_leI (by omega) (by omega)]; omega), iL_u (a7 i h)]
      exact e131 _ (fun B hB => by rw [ht, hB]; unfold cit; rw [if_pos h])
    · rw [if_pos (by rw [nI_leI (by omega) (by omega)]; omega), iL_0]
      exact e131 0 (fun B hB => by rw [ht, hB]; unfold cit; rw [if_neg h])
theorem cw_increase (hH : cH u z M) (hV : cvV M V) (hw : rg_K M w = 6) {x k : Nat} (hx : rg_K M x = 6) (hxw : x ≠ w) (hkw : cL (V w) k) (hkx : cL (V x) k) (hk : k + 1 ≤ 866) : ∃ M', rW_increase w x M = some M' ∧ cP u z M (va_up V w (V w + V x)) M' := by
  obtain ⟨r0, nw, hW0⟩ := hV w hw
  obtain ⟨rx0, nx, hX0⟩ := hV x hx
  have hnw := hW0.len hkw
  have hnx := hX0.len hkx
  obtain ⟨N, hN⟩ : ∃ N, N = max nw nx + 1 := ⟨_, rfl⟩
  have iw : rg_I M 81 w = nI nw := hW0.2.2.2.2.1
  have ix : rg_I M 81 x = nI nx := hX0.2.2.2.2.1
  obtain ⟨M1, t1, t2, t3, t4, ⟨c, t5, t6⟩, t7⟩ := cw_room hH hw (k := N) (by omega)
  obtain ⟨r, hW⟩ := t7 w r0 nw _ hW0
  obtain ⟨rx, hX⟩ := t7 x rx0 nx _ hX0
  have hcr : c = r := by have := hW.2.1; rw [t5] at this; cases this; rfl
  subst hcr
  have hxr : rx ≠ c := fun e => hxw (t2.2.1 x w c hX.1 hW.1 (by rw [← e]; exact hX.2.1) hW.2.1)
  have hC := t2.L hW.1 t5
  have hcmp := cw_compare hW hX (by omega) (by omega)
  have hV1 : cvV M1 V := fun y hy => by
    obtain ⟨q1, q2, q3⟩ := hV y ((t3.K6 y).mp hy)
    obtain ⟨q4, q5⟩ := t7 y q1 q2 _ q3
    exact ⟨q4, q2, q5⟩
  have hw1 := hW.1
  have hx1 := hX.1
  have f1 := hW.2.2.2.2.2.1
  have f2 := hX.2.2.2.2.2.1
  have vw9 := hW.2.2.2.2.2.2.2.2
  have vx9 := hX.2.2.2.2.2.2.2.2
  have clw : (V w).natAbs < wB ^ (N - 1) := ((cwW_cl hW).mono (by omega) : cL (V w) (N - 1))
  have clx : (V x).natAbs < wB ^ (N - 1) := ((cwW_cl hX).mono (by omega) : cL (V x) (N - 1))
  -- from the two factors on
  have go : ∀ (mi ot : Int) (lg : Int32), (mi = 1 ∨ mi = -1) → (ot = 1 ∨ ot = -1) → ¬ (mi = -1 ∧ ot = -1) → (lg = 0 ∨ lg = 1) → mi * ((V w).natAbs : Int) + ot * ((V x).natAbs : Int) = ((V w + V x).natAbs : Int) → (V w + V x ≠ 0 → (if lg = 0 then V x else V w) ≠ 0 ∧ ((if lg = 0 then V x else V w) < 0 ↔ V w + V x < 0)) → ∃ M', rW_increase_96 w x (nI N) lg (iL mi) (iL ot) M1 = some (none, M') ∧ cP u z M (va_up V w (V w + V x)) M' := by
    intro mi ot lg g1 g2 g3 g4 g5 g6
    have hl := cw_in104 (lg := lg) hW hX t6 (by omega) (by omega) (by omega) hxr g1 g2 g3 _ 0 rfl (Nat.zero_le _)
    rw [fb_put_0, cr_id] at hl
    have hl : rW_increase_104 w x (nI N) lg (iL mi) (iL ot) 0 0 M1 = _ := hl
    rw [rW_increase_96_e, hl, rW_increase_104_e, if_pos (Int32.le_refl _)]
    obtain ⟨t, ht⟩ : ∃ t, t = cit (rg_A M1 c) (rg_A M1 rx) nw nx mi ot := ⟨_, rfl⟩
    rw [← ht]
    obtain ⟨g, hg⟩ : ∃ g, g = fb_put (rg_A M1 c) (fun j => nI (scO t 0 j)) 0 N := ⟨_, rfl⟩
    rw [← hg]
    have hgj : ∀ j, j < N → rm_u (g j) = scO t 0 j := by
      intro j hj
      have := scO_lt t 0 j
      rw [hg, fb_put_in (Nat.zero_le _) (by omega)]
      show rm_u (nI (scO t 0 j)) = _
      rw [rm_u_nI]; omega
    have hdz : dz t N = ((V w + V x).natAbs : Int) := by
      rw [← g5, vw9, vx9, ← dz_cut (rg_A M1 c) (show nw ≤ N by omega), ← dz_cut (rg_A M1 rx) (show nx ≤ N by omega), ← dz_mul, ← dz_mul, ← dz_add, ht]
      rfl
    have hsum := cV_sc (t := t) (c := 0) (f := g) (N := N) hgj
    rw [hdz, Int.zero_add] at hsum
    have hgl : cV g N < wB ^ N := cV_lt (fun j hj => by rw [hgj j hj]; exact scO_lt t 0 j)
    have hvl : (V w + V x).natAbs < wB ^ N := by
      have e : wB ^ N = wB ^ (N - 1) * 2147483648 := by rw [show N = (N - 1) + 1 by omega, Nat.pow_succ]; rfl
      omega
    have hval : (V w + V x).natAbs = cV g N := by
      have e : (2147483648 : Int) ^ N = ((wB ^ N : Nat) : Int) := by rw [Int.natCast_pow]; rfl
      rw [e] at hsum
      have hc0 : scC t 0 N = 0 := by
        rcases (show scC t 0 N ≤ -1 ∨ scC t 0 N = 0 ∨ 1 ≤ scC t 0 N by omega) with q | q | q
        · have := Int.mul_le_mul_of_nonneg_right q (Int.natCast_nonneg (wB ^ N))
          omega
        · exact q
        · have := Int.mul_le_mul_of_nonneg_right q (Int.natCast_nonneg (wB ^ N))
          omega
      rw [hc0] at hsum
      omega
    have fin : ∀ M2, cU (fun y => y = w) M1 M2 → rg_A M2 c = g → (V w + V x ≠ 0 → rg_I M2 82 w = if V w + V x < 0 then 1 else 0) → ∃ M', rW_increase_212 w (nI N) M2 = some (none, M') ∧ cP u z M (va_up V w (V w + V x)) M' := by
      intro M2 hU hA hs
      obtain ⟨M3, s1, s2, -, n, s3, s4⟩ := cw_settle (M := M2) (w := w) (b := c) (k := N) (v := V w + V x) (by rw [hU.1]; exact hw1) (by rw [hU.2.2.1]; exact t5) (by rw [hU.1]; exact hC.2.1) (by rw [hU.2.1]; omega) (by rw [hU.2.1]; exact t6) (fun j hj => by rw [hA, hgj j hj]; exact scO_lt t 0 j) (by rw [hA]; exact hval) hs
      rw [rW_increase_212_e, if_pos (by rw [hU.1]; exact hw1), s1]
      exact ⟨M3, rfl, cP.of2 t2 t3 hV1 (hU.tr s2) hw1 ⟨c, n, s4⟩⟩
    rcases g4 with e | e
    · subst e
      rw [if_pos rfl, cr_K, if_pos hx1, if_pos ⟨hw1, f2.1⟩]
      refine fin _ ((cU_cr g t5).tr (cU_wI _ w 82 _ (Or.inr rfl))) (cr_A _ _ _) (fun h => ?_)
      have := g6 h
      rw [if_pos rfl] at this
      rw [cw_II, cr_I, f2.2 this.1]
      exact rg_ip this.2
    · subst e
      rw [if_neg (by decide)]
      refine fin _ (cU_cr g t5) (cr_A _ _ _) (fun h => ?_)
      have := g6 h
      rw [if_neg (by decide)] at this
      rw [cr_I, f1.2 this.1]
      exact rg_ip this.2
  -- the road there
  have road : ∃ M', rW_increase_22 w x (nI (N - 1)) M = some (none, M') ∧ cP u z M (va_up V w (V w + V x)) M' := by
    have eN : nI (N - 1) + (1 : Int32) = nI N := by rw [nI_1, show N - 1 + 1 = N by omega]
    rw [rW_increase_22_e, if_pos hw, eN, t1]
    simp only [Option.bind_some, hw1, hx1, if_true]
    have e46 : ∀ s0 : Int32, rW_increase_46 w x (nI N) s0 M1 = if (V w).natAbs < (V x).natAbs then rW_increase_60 w x (nI N) s0 0 M1 else rW_increase_60 w x (nI N) s0 1 M1 := by
      intro s0
      rw [rW_increase_46_e, if_pos hw1, hcmp]
      simp only [Option.bind_some]
      by_cases h : (V w).natAbs < (V x).natAbs
      · rw [if_pos h, if_pos (by decide), if_pos h]
      · rw [if_neg h, if_neg h]
        by_cases h2 : (V w).natAbs = (V x).natAbs
        · rw [if_pos h2, if_neg (by decide)]
        · rw [if_neg h2, if_neg (by decide)]
    have hfl : ∀ p q : Int32, (p = 0 ∨ p = 1) → (V w ≠ 0 → p = if V w < 0 then 1 else 0) → (q = 0 ∨ q = 1) → (V x ≠ 0 → q = if V x < 0 then 1 else 0) → V w ≠ 0 → V x ≠ 0 → (p = q ↔ (V w < 0 ↔ V x < 0)) := by
      intro p q _ hp _ hq h1 h2
      rw [hp h1, hq h2]
      by_cases c1 : V w < 0 <;> by_cases c2 : V x < 0
      · rw [if_pos c1, if_pos c2]; exact ⟨fun _ => ⟨fun _ => c2, fun _ => c1⟩, fun _ => rfl⟩
      · rw [if_pos c1, if_neg c2]; exact ⟨fun h => absurd h (by decide), fun h => absurd (h.mp c1) c2⟩
      · rw [if_neg c1, if_pos c2]; exact ⟨fun h => absurd h (by decide), fun h => absurd (h.mpr c2) c1⟩
      · rw [if_neg c1, if_neg c2]; exact ⟨fun _ => ⟨fun h => absurd h c1, fun h => absurd h c2⟩, fun _ => rfl⟩
    have hfl2 := hfl _ _ f1.1 f1.2 f2.1 f2.2
    by_cases hal : rg_I M1 82 w = rg_I M1 82 x
    · have hs : V w ≠ 0 → V x ≠ 0 → (V w < 0 ↔ V x < 0) := fun a b => (hfl2 a b).mp hal
      rw [if_pos hal, e46]
      by_cases h : (V w).natAbs < (V x).natAbs
      · rw [if_pos h, rW_increase_60_e, if_neg (by decide), rW_increase_71_e, rW_increase_78_e, if_neg (by decide), rW_increase_89_e]
        exact go 1 1 0 (Or.inl rfl) (Or.inl rfl) (by omega) (Or.inl rfl) (by omega) (fun _ => by rw [if_pos rfl]; omega)
      · rw [if_neg h, rW_increase_60_e, if_neg (by decide), rW_increase_71_e, rW_increase_78_e, if_neg (by decide), rW_increase_89_e]
        exact go 1 1 1 (Or.inl rfl) (Or.inl rfl) (by omega) (Or.inr rfl) (by omega) (fun _ => by rw [if_neg (by decide)]; omega)
    · have hs : V w ≠ 0 → V x ≠ 0 → ¬ (V w < 0 ↔ V x < 0) := fun a b c => hal ((hfl2 a b).mpr c)
      rw [if_neg hal, e46]
      by_cases h : (V w).natAbs < (V x).natAbs
      · rw [if_pos h, rW_increase_60_e, if_pos rfl, if_pos rfl, rW_increase_78_e, if_pos rfl, if_pos rfl, rW_increase_89_e]
        exact go (-1) 1 0 (Or.inr rfl) (Or.inl rfl) (by omega) (Or.inl rfl) (by omega) (fun _ => by rw [if_pos rfl]; omega)
      · rw [if_neg h, rW_increase_60_e, if_pos rfl, if_neg (by decide), rW_increase_71_e, rW_increase_78_e, if_pos rfl, if_neg (by decide)]
        exact go 1 (-1) 1 (Or.inl rfl) (Or.inr rfl) (by omega) (Or.inr rfl) (by omega) (fun _ => by rw [if_neg (by decide)]; omega)
  obtain ⟨M', r1, r2⟩ := road
  refine ⟨M', ?_, r2⟩
  rw [rW_increase_u, rW_increase_e]
  simp only [hw, hx, if_true, iw, ix]
  by_cases h : nw ≤ nx
  · rw [if_pos (by rw [nI_leI (by omega) (by omega)]; exact h), show nI nx = nI (N - 1) by rw [show N - 1 = nx by omega], r1]; rfl
  · rw [if_neg (by rw [nI_leI (by omega) (by omega)]; exact h), show nI nw = nI (N - 1) by rw [show N - 1 = nw by omega], r1]; rfl
end

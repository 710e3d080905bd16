/-! the small methods of Whole -/
def cP (u z : Nat) (M : rg_M) (V' : Nat → Int) (M' : rg_M) : Prop := cH u z M' ∧ cF M M' ∧ cvV M' V'
theorem cP.of {u z w : Nat} {M M1 : rg_M} {V : Nat → Int} {v : Int} (hH : cH u z M) (hV : cvV M V) (hU : cU (fun x => x = w) M M1) (hw : rg_K M w = 6) (hW : ∃ b n, cwW M1 w b n v) : cP u z M (va_up V w v) M1 :=
  ⟨hU.H hH, hU.F (fun x hx => by rw [hx]; exact hw), hV.up hH hU hw hW⟩
theorem cP.of2 {u z w : Nat} {M M1 M2 : rg_M} {V : Nat → Int} {v : Int} (hH : cH u z M1) (hF : cF M M1) (hV : cvV M1 V) (hU : cU (fun x => x = w) M1 M2) (hw : rg_K M1 w = 6) (hW : ∃ b n, cwW M2 w b n v) : cP u z M (va_up V w v) M2 := by
  obtain ⟨a, b, c⟩ := cP.of hH hV hU hw hW
  exact ⟨a, hF.tr b, c⟩
section
variable {u z : Nat} {M : rg_M} {V : Nat → Int} {w : Nat}
theorem cw_clear (hH : cH u z M) (hV : cvV M V) (hw : rg_K M w = 6) : ∃ M', rW_clear w M = some M' ∧ cU (fun x => x = w) M M' ∧ cP u z M (va_up V w 0) M' := by
  have hu : cU (fun x => x = w) M (rg_wI (rg_wI M 81 w 0) 82 w 0) := (cU_wI M w 81 _ (Or.inl rfl)).tr (cU_wI _ w 82 _ (Or.inr rfl))
  rw [rW_clear_u, rW_clear_e, if_pos hw, if_pos ⟨hw, Or.inl rfl⟩]
  refine ⟨_, rfl, hu, cP.of hH hV hu hw ?_⟩
  obtain ⟨b, n, c1, c2, c3, c4, c5, c6, c7, c8, c9⟩ := hV w hw
  refine ⟨b, 0, c1, c2, c3, Nat.zero_le _, ?_, ?_, fun j hj => absurd hj (Nat.not_lt_zero _), Or.inl rfl, rfl⟩
  · rw [cw_IIn (Or.inl (by decide)), cw_II]; rfl
  · rw [cw_II]; exact ⟨Or.inl rfl, fun h => absurd rfl h⟩
theorem cw_sign {v : Int} {b n : Nat} (hW : cwW M w b n v) (hn : n < 2 ^ 31) : rW_sign w M = some (rm_sg v, M) := by
  have hz := hW.zero
  obtain ⟨c1, c2, c3, c4, c5, c6, c7, c8, c9⟩ := hW
  rw [rW_sign_u, rW_sign_e, if_pos c1, c5]
  by_cases h : n = 0
  · rw [if_pos (by rw [h]; rfl), hz.mpr h]; rfl
  · have hv : v ≠ 0 := fun e => h (hz.mp e)
    rw [if_neg (nI_ne0 (by omega) hn), if_pos c1, c6.2 hv]
    by_cases hl : v < 0
    · rw [if_pos hl, if_neg (by decide), rW_sign_21_e, rm_sg_n hl]; rfl
    · rw [if_neg hl, if_pos rfl, rW_sign_21_e, rm_sg_p (by omega)]; rfl
theorem cV_1 (f : Nat → Int32) : cV f 1 = rm_u (f 0) := by
  show ds wB (fun j => rm_u (f j)) 1 = _
  rw [ds_s, ds_0]; simp
theorem cV_2 (f : Nat → Int32) : cV f 2 = rm_u (f 0) + rm_u (f 1) * 2147483648 := by
  show ds wB (fun j => rm_u (f j)) 2 = _
  rw [ds_s, ds_s, ds_0]; simp [wB]
theorem cw_isOne {v : Int} {b n : Nat} (hW : cwW M w b n v) (hn : n < 2 ^ 31) : rW_isOneWithoutSign w M = some (if v.natAbs = 1 then 1 else 0, M) := by
  have hlen : v.natAbs = 1 → n ≤ 1 := fun h => hW.len (k := 1) (by unfold cL; rw [h]; decide)
  have hz := hW.zero
  obtain ⟨c1, c2, c3, c4, c5, c6, c7, c8, c9⟩ := hW
  rw [rW_isOneWithoutSign_u, rW_isOneWithoutSign_e, if_pos c1, c5]
  by_cases h : n = 1
  · subst h
    have hc : (0 : Int32).toNatClampNeg < rg_L M b := c4
    rw [if_pos (show nI 1 = (1 : Int32) from rfl), if_pos c1, c2]
    simp only [Option.bind_some, c3]
    rw [if_pos ⟨trivial, by decide, hc⟩]
    have e : v.natAbs = rm_u (rg_A M b 0) := c9.trans (cV_1 _)
    have e2 : (rg_A M b (0 : Int32).toNatClampNeg = 1) ↔ v.natAbs = 1 := by
      rw [e]
      refine ⟨fun h => ?_, fun h => ?_⟩
      · have h : rg_A M b 0 = 1 := h
        rw [h]; rfl
      · show rg_A M b 0 = 1
        exact rm_u_inj h
    by_cases q : v.natAbs = 1
    · rw [if_pos (e2.mpr q), if_pos q, rW_isOneWithoutSign_23_e]; rfl
    · rw [if_neg (fun h => q (e2.mp h)), if_neg q, rW_isOneWithoutSign_22_e, rW_isOneWithoutSign_23_e]; rfl
  · rw [if_neg (by rw [show (1 : Int32) = nI 1 from rfl, nI_eq hn (by decide)]; exact h), rW_isOneWithoutSign_22_e, rW_isOneWithoutSign_23_e]
    have hq : ¬ v.natAbs = 1 := fun q => by
      have := hlen q
      have h0 : n = 0 := by omega
      rw [hz.mpr h0] at q; exact absurd q (by decide)
    rw [if_pos (Or.inl rfl), if_neg hq]
    rfl
theorem wb_or31 {a b : Nat} (hb : b < 2147483648) : a * 2 ^ 31 ||| b = a * 2 ^ 31 + b := by
  have := Nat.shiftLeft_add_eq_or_of_lt (i := 31) (b := b) (by omega) a
  rw [Nat.shiftLeft_eq] at this
  exact this.symm
theorem cw_lowest {v : Int} {b n : Nat} (hW : cwW M w b n v) (hn : n ≤ 2) : rW_lowest w M = some (lN v.natAbs, M) := by
  obtain ⟨c1, c2, c3, c4, c5, c6, c7, c8, c9⟩ := hW
  rw [rW_lowest_u, rW_lowest_e, if_pos c1, c5]
  have fin : ∀ lo hi : Nat, lo < 2147483648 → hi < 2147483648 → rW_lowest_38 (lN lo) (lN hi) M = some (some (.long (lN (lo + hi * 2147483648))), M) := by
    intro lo hi h1 h2
    have e : lN hi <<< ((31 : Int32).toInt64 &&& 63) = lN (hi * 2 ^ 31) := wb_shl hi (k := 31) (by decide)
    rw [rW_lowest_38_e, e, wb_or (by omega) (by omega), wb_or31 h1, Nat.add_comm]
  have m18 : ∀ lo : Nat, lo < 2147483648 → rW_lowest_18 w (lN lo) M = some (some (.long (lN (lo + (if 1 < n then rm_u (rg_A M b 1) else 0) * 2147483648))), M) := by
    intro lo h1
    rw [rW_lowest_18_e, if_pos c1, c5]
    by_cases h : 1 < n
    · have hc : (1 : Int32).toNatClampNeg < rg_L M b := by show 1 < _; omega
      have hu := c7 1 h
      rw [if_neg (by rw [show (1 : Int32) = nI 1 from rfl, nI_leI (by omega) (by decide)]; omega), if_pos c1, c2, if_pos h]
      simp only [Option.bind_some, c3]
      rw [if_pos ⟨trivial, by decide, hc⟩]
      have e : (rg_A M b (1 : Int32).toNatClampNeg).toInt64 = lN (rm_u (rg_A M b 1)) := by
        show (rg_A M b 1).toInt64 = _
        rw [iL_u hu, iL_n]
      rw [e]; exact fin _ _ h1 hu
    · rw [if_pos (by rw [show (1 : Int32) = nI 1 from rfl, nI_leI (by omega) (by decide)]; omega), if_neg h]
      exact fin lo 0 h1 (by decide)
  by_cases h : n = 0
  · subst h
    rw [nI_0, if_pos (Int32.le_refl _)]
    have := m18 0 (by decide)
    have this : rW_lowest_18 w 0 M = _ := this
    rw [this, if_neg (by decide), Nat.zero_mul, c9]; rfl
  · have hc : (0 : Int32).toNatClampNeg < rg_L M b := by show 0 < _; omega
    have hu := c7 0 (by omega)
    rw [if_neg (nI_nle (by omega) (by omega)), if_pos c1, c2]
    simp only [Option.bind_some, c3]
    rw [if_pos ⟨trivial, by decide, hc⟩]
    have e : (rg_A M b (0 : Int32).toNatClampNeg).toInt64 = lN (rm_u (rg_A M b 0)) := by
      show (rg_A M b 0).toInt64 = _
      rw [iL_u hu, iL_n]
    rw [e, m18 _ hu]
    have e2 : v.natAbs = rm_u (rg_A M b 0) + (if 1 < n then rm_u (rg_A M b 1) else 0) * 2147483648 := by
      rw [c9]
      by_cases h2 : n = 1
      · subst h2; rw [cV_1]; simp
      · have : n = 2 := by omega
        subst this; rw [cV_2]; simp
    rw [e2]; rfl
theorem cw_cmp35 {x : Nat} {va vb : Int} {b c n : Nat} (hA : cwW M w b n va) (hB : cwW M x c n vb) (hn : n < 2 ^ 31) : ∀ k : Nat, k ≤ n → (∀ j, k ≤ j → j < n → rm_u (rg_A M b j) = rm_u (rg_A M c j)) → rW_compareSize_35 w x (nI k - 1) M = some (some (.int (if va.natAbs < vb.natAbs then -1 else if va.natAbs = vb.natAbs then 0 else 1)), M) := by
  obtain ⟨a1, a2, a3, a4, a5, a6, a7, a8, a9⟩ := hA
  obtain ⟨b1, b2, b3, b4, b5, b6, b7, b8, b9⟩ := hB
  intro k
  induction k with
  | zero =>
    intro _ he
    have e : cV (rg_A M b) n = cV (rg_A M c) n := ds_cong (fun j hj => he j (by omega) hj)
    rw [rW_compareSize_35_e, nI_0, if_pos (by decide), a9, b9, e, if_neg (Nat.lt_irrefl _), if_pos rfl]
  | succ k ih =>
    intro hk he
    have p : ¬ nI k < 0 := nI_pos (by omega)
    have c1 := nI_clamp (n := k) (by omega)
    have c2 := rm_i0 (a := k) (by omega)
    have c3 : k < rg_L M b := by omega
    have c4 : k < rg_L M c := by omega
    rw [rW_compareSize_35_e, nI_pred, if_neg p]
    simp only [a1, a2, a3, b1, b2, b3, Option.bind_some, if_true, c1, c2, c3, c4, and_self]
    have ua := a7 k (by omega)
    have ub := b7 k (by omega)
    by_cases e : rm_u (rg_A M b k) = rm_u (rg_A M c k)
    · rw [if_pos (rm_u_inj e), show nI k + (-1) = nI k - 1 from (Int32.sub_eq_add_neg _ _).symm]
      exact ih (by omega) (fun j h1 h2 => by
        by_cases q : j = k
        · rw [q]; exact e
        · exact he j (by omega) h2)
    · rw [if_neg (fun h => e (by rw [h]))]
      have le : (rg_A M c k ≤ rg_A M b k) ↔ rm_u (rg_A M c k) ≤ rm_u (rg_A M b k) := by
        rw [← rm_nI_u (rg_A M c k), ← rm_nI_u (rg_A M b k), nI_leI (by omega) (by omega), rm_nI_u, rm_nI_u]
      by_cases hl : rm_u (rg_A M b k) < rm_u (rg_A M c k)
      · have hd : cV (rg_A M b) n < cV (rg_A M c) n := ds_cmp (fun j hj => a7 j hj) (show k < n by omega) (fun j h1 h2 => he j (by omega) h2) hl
        rw [if_neg (by rw [le]; omega), rW_compareSize_74_e, a9, b9, if_pos hd]
      · have hd : cV (rg_A M c) n < cV (rg_A M b) n := ds_cmp (fun j hj => b7 j hj) (show k < n by omega) (fun j h1 h2 => (he j (by omega) h2).symm) (by omega)
        rw [if_pos (by rw [le]; omega), rW_compareSize_74_e, a9, b9, if_neg (by omega), if_neg (by omega)]
theorem cw_compare {x : Nat} {va vb : Int} {b c n m : Nat} (hA : cwW M w b n va) (hB : cwW M x c m vb) (hn : n < 2 ^ 31) (hm : m < 2 ^ 31) : rW_compareSize w x M = some (if va.natAbs < vb.natAbs then -1 else if va.natAbs = vb.natAbs then 0 else 1, M) := by
  by_cases e : n = m
  · subst e
    have h := cw_cmp35 hA hB hn n (Nat.le_refl _) (fun j h1 h2 => by omega)
    obtain ⟨a1, a2, a3, a4, a5, a6, a7, a8, a9⟩ := hA
    obtain ⟨b1, b2, b3, b4, b5, b6, b7, b8, b9⟩ := hB
    rw [rW_compareSize_u, rW_compareSize_e]
    simp only [a1, b1, a5, b5, if_true, h]
    rfl
  · obtain ⟨a1, a2, a3, a4, a5, a6, a7, a8, a9⟩ := hA
    obtain ⟨b1, b2, b3, b4, b5, b6, b7, b8, b9⟩ := hB
    have e2 : ¬ nI n = nI m := by rw [nI_eq hn hm]; exact e
    rw [rW_compareSize_u, rW_compareSize_e]
    simp only [a1, b1, a5, b5, if_true, e2, if_false]
    by_cases hl : n < m
    · have hd : cV (rg_A M b) n < cV (rg_A M c) m := Nat.lt_of_lt_of_le (cV_lt a7) (Nat.le_trans (Nat.pow_le_pow_right (by decide) (show n ≤ m - 1 by omega)) (cV_top b8 (by omega)))
      rw [if_neg (by rw [nI_leI hm hn]; omega), rW_compareSize_27_e, a9, b9, if_pos hd]; rfl
    · have hd : cV (rg_A M c) m < cV (rg_A M b) n := Nat.lt_of_lt_of_le (cV_lt b7) (Nat.le_trans (Nat.pow_le_pow_right (by decide) (show m ≤ n - 1 by omega)) (cV_top a8 (by omega)))
      rw [if_pos (by rw [nI_leI hm hn]; omega), rW_compareSize_27_e, a9, b9, if_neg (by omega), if_neg (by omega)]; rfl
/-- copy -/
theorem cw_cp10 {x b c n : Nat} {v : Int} (hX : cwW M x b n v) (hw : rg_K M w = 6) (hc : rg_R M 80 w = some c) (hC : rg_K M c = 9) (hL : n ≤ rg_L M c) (hbc : b ≠ c) (hn : n < 2 ^ 31) (hxw : x ≠ w) : ∀ d k : Nat, n - k = d → k ≤ n → rW_copy_10 w x (nI k) (cr M c (fb_put (rg_A M c) (rg_A M b) 0 k)) = some (none, rg_wI (rg_wI (cr M c (fb_put (rg_A M c) (rg_A M b) 0 n)) 81 w (nI n)) 82 w (rg_I M 82 x)) := by
  obtain ⟨a1, a2, a3, a4, a5, a6, a7, a8, a9⟩ := hX
  intro d
  induction d with
  | zero =>
    intro k hd hk
    have e : k = n := by omega
    subst e
    have h1 : rg_I (rg_wI (cr M c (fb_put (rg_A M c) (rg_A M b) 0 k)) 81 w (nI k)) 82 x = rg_I M 82 x := by
      rw [cw_IIn (Or.inl (by decide)), cr_I]
    have h2 := a6.1
    rw [rW_copy_10_e]
    simp only [cr_K, cr_I, a1, a5, hw, if_true, Int32.le_refl, h1, h2, and_self]
  | succ d ih =>
    intro k hd hk
    have p : ¬ nI n ≤ nI k := by rw [nI_leI (by omega) (by omega)]; omega
    have c1 := nI_clamp (n := k) (by omega)
    have c2 := rm_i0 (a := k) (by omega)
    have c3 : k < rg_L M b := by omega
    have c4 : k < rg_L M c := by omega
    have e := fb_put_succ (rg_A M c) (rg_A M b) 0 k
    rw [Nat.zero_add] at e
    rw [rW_copy_10_e]
    simp only [cr_K, cr_R, cr_L, cr_I, a1, a2, a3, a5, hw, hc, hC, Option.bind_some, if_true, p, if_false, c1, c2, c3, c4, and_self, cr_w, cr_An hbc, e, nI_1]
    exact ih (k + 1) (by omega) (by omega)
theorem cw_copy (hH : cH u z M) (hV : cvV M V) (hw : rg_K M w = 6) {x : Nat} (hx : rg_K M x = 6) (hxw : x ≠ w) (hl : cL (V x) 866) : ∃ M', rW_copy w x M = some M' ∧ cP u z M (va_up V w (V x)) M' := by
  obtain ⟨b, n, hX⟩ := hV x hx
  have hn := hX.len hl
  have hI : rg_I M 81 x = nI n := hX.2.2.2.2.1
  obtain ⟨M1, t1, t2, t3, t4, ⟨c, t5, t6⟩, t7⟩ := cw_room hH hw (k := n) hn
  obtain ⟨b', hX1⟩ := t7 x b n _ hX
  have hw1 := (t3.K6 w).mpr hw
  have hx1 := (t3.K6 x).mpr hx
  have hbc : b' ≠ c := fun e => hxw (t2.2.1 x w c hx1 hw1 (by rw [← e]; exact hX1.2.1) t5)
  have hC := t2.L hw1 t5
  have h := cw_cp10 hX1 hw1 t5 hC.2.1 t6 hbc (by omega) hxw _ 0 rfl (Nat.zero_le _)
  rw [fb_put_0, cr_id] at h
  have h : rW_copy_10 w x 0 M1 = _ := h
  rw [rW_copy_u, rW_copy_e, if_pos hx, if_pos hw, hI, t1]
  show ∃ M', rg_uv (rW_copy_10 w x 0 M1) = some M' ∧ _
  rw [h]
  refine ⟨_, rfl, cP.of2 t2 t3 (fun y hy => ?_) (((cU_cr _ t5).tr (cU_wI _ w 81 _ (Or.inl rfl))).tr (cU_wI _ w 82 _ (Or.inr rfl))) hw1 ⟨c, n, hw1, t5, hC.2.1, t6, ?_, ?_, fun j hj => ?_, ?_, ?_⟩⟩
  · obtain ⟨q1, q2, q3⟩ := hV y ((t3.K6 y).mp hy)
    obtain ⟨q4, q5⟩ := t7 y q1 q2 _ q3
    exact ⟨q4, q2, q5⟩
  · rw [cw_IIn (Or.inl (by decide)), cw_II]
  · rw [cw_II]; exact hX1.2.2.2.2.2.1
  all_goals obtain ⟨a1, a2, a3, a4, a5, a6, a7, a8, a9⟩ := hX1
  · show rm_u (rg_A (cr M1 c _) c j) < wB
    rw [cr_A, fb_put_in (Nat.zero_le _) (by omega)]; exact a7 j hj
  · show n = 0 ∨ rg_A (cr M1 c _) c (n - 1) ≠ 0
    by_cases h0 : n = 0
    · exact Or.inl h0
    · rw [cr_A, fb_put_in (Nat.zero_le _) (by omega)]; exact a8
  · show _ = cV (rg_A (cr M1 c _) c) n
    rw [cr_A, a9]
    exact ds_cong (fun j hj => by rw [fb_put_in (Nat.zero_le _) (by omega)]; rfl)
/-- become -/
theorem cw_become (hH : cH u z M) (hV : cvV M V) (hw : rg_K M w = 6) (v : Int64) : ∃ M', rW_become w v M = some M' ∧ cP u z M (va_up V w v.toInt) M' := by
  obtain ⟨hs, b, hR, hbs, hB, hL4, hL⟩ := hH.1 w hw
  have go : ∀ (q : Nat) (g : Int32), q < 18446744073709551616 → q = v.toInt.natAbs → g = (if v.toInt < 0 then 1 else 0) → (rW_become_16 w v (lN q) 0 M = rW_become_58 w g w (cr M b (upd (upd (upd (rg_A M b) 0 (nI (q % 2147483648))) 1 (nI (q / 2147483648 % 2147483648))) 2 (nI (q / 2147483648 / 2147483648 % 2147483648))))) := by
    intro q g hq hqv hg
    have sh : ∀ r : Nat, r < 18446744073709551616 → ((lN r).toUInt64 >>> ((31 : Int32).toInt64.toUInt64 &&& Int64.toUInt64 63)).toInt64 = lN (r / 2147483648) := fun r hr => wb_shr (n := r) (k := 31) hr (by decide)
    have an : ∀ r : Nat, r < 18446744073709551616 → (lN r &&& (2147483647 : Int64)).toInt32 = nI (r % 2147483648) := fun r hr => by
      have := wb_mask (n := r) (k := 31) hr (by decide)
      rw [show (2147483647 : Int64) = lN (2 ^ 31 - 1) from rfl, this, lN_i]
    have z0 : (0 : Int32).toNatClampNeg = 0 := rfl
    have z1 : ((0 : Int32) + 1).toNatClampNeg = 1 := rfl
    have z2 : ((0 : Int32) + 1 + 1).toNatClampNeg = 2 := rfl
    have y0 : (0 : Int32) ≤ 0 := by decide
    have y1 : (0 : Int32) ≤ 0 + 1 := by decide
    have y2 : (0 : Int32) ≤ 0 + 1 + 1 := by decide
    have x0 : ¬ (3 : Int32) ≤ 0 := by decide
    have x1 : ¬ (3 : Int32) ≤ 0 + 1 := by decide
    have x2 : ¬ (3 : Int32) ≤ 0 + 1 + 1 := by decide
    have x3 : (3 : Int32) ≤ 0 + 1 + 1 + 1 := by decide
    have l0 : 0 < rg_L M b := by omega
    have l1 : 1 < rg_L M b := by omega
    have l2 : 2 < rg_L M b := by omega
    have w0 : ∀ i x, rg_wA M b i x = cr M b (upd (rg_A M b) i x) := fun i x => by
      have := cr_w M b (rg_A M b) i x
      rw [cr_id] at this; exact this
    rw [rW_become_16_e]
    simp only [x0, if_false, hw, if_true, hR, Option.bind_some, hB, y0, z0, l0, and_self, sh q hq, an q hq, w0]
    rw [rW_become_16_e]
    simp only [cr_K, cr_R, cr_L, x1, if_false, hw, if_true, hR, Option.bind_some, hB, y1, z1, l1, and_self, sh (q / 2147483648) (by omega), an (q / 2147483648) (by omega), cr_w]
    rw [rW_become_16_e]
    simp only [cr_K, cr_R, cr_L, x2, if_false, hw, if_true, hR, Option.bind_some, hB, y2, z2, l2, and_self, an (q / 2147483648 / 2147483648) (by omega), cr_w]
    rw [rW_become_16_e, if_pos x3]
    by_cases hv : (0 : Int64) ≤ v
    · have hv2 : 0 ≤ v.toInt := by rw [Int64.le_iff_toInt_le] at hv; exact hv
      rw [if_pos hv, hg, if_neg (by omega)]
    · have hv2 : v.toInt < 0 := by rw [Int64.le_iff_toInt_le] at hv; exact Int.not_le.mp hv
      rw [if_neg hv, hg, if_pos hv2]
  have fin : ∀ (q : Nat) (g : Int32), q < 18446744073709551616 → q = v.toInt.natAbs → g = (if v.toInt < 0 then 1 else 0) → ∃ M', rW_become_16 w v (lN q) 0 M = some (none, M') ∧ cP u z M (va_up V w v.toInt) M' := by
    intro q g hq hqv hg
    rw [go q g hq hqv hg, rW_become_58_e, cr_K, if_pos ⟨hw, by rw [hg]; split; exact Or.inr rfl; exact Or.inl rfl⟩, if_pos hw]
    obtain ⟨M1, hM1⟩ : ∃ M1, M1 = rg_wI (cr M b (upd (upd (upd (rg_A M b) 0 (nI (q % 2147483648))) 1 (nI (q / 2147483648 % 2147483648))) 2 (nI (q / 2147483648 / 2147483648 % 2147483648)))) 82 w g := ⟨_, rfl⟩
    rw [← hM1]
    have hU : cU (fun x => x = w) M M1 := by rw [hM1]; exact (cU_cr _ hR).tr (cU_wI _ w 82 _ (Or.inr rfl))
    have A0 : rg_A M1 b = upd (upd (upd (rg_A M b) 0 (nI (q % 2147483648))) 1 (nI (q / 2147483648 % 2147483648))) 2 (nI (q / 2147483648 / 2147483648 % 2147483648)) := by rw [hM1]; exact cr_A _ _ _
    have a0 : rg_A M1 b 0 = nI (q % 2147483648) := by rw [A0, pk_un (by decide), pk_un (by decide), pk_us]
    have a1 : rg_A M1 b 1 = nI (q / 2147483648 % 2147483648) := by rw [A0, pk_un (by decide), pk_us]
    have a2 : rg_A M1 b 2 = nI (q / 2147483648 / 2147483648 % 2147483648) := by rw [A0, pk_us]
    have u0 : rm_u (rg_A M1 b 0) = q % 2147483648 := by rw [a0, rm_u_nI]; omega
    have u1 : rm_u (rg_A M1 b 1) = q / 2147483648 % 2147483648 := by rw [a1, rm_u_nI]; omega
    have u2 : rm_u (rg_A M1 b 2) = q / 2147483648 / 2147483648 % 2147483648 := by rw [a2, rm_u_nI]; omega
    obtain ⟨M2, s1, s2, -, n, s3, s4⟩ := cw_settle (M := M1) (w := w) (b := b) (k := 3) (v := v.toInt) (by rw [hU.1]; exact hw) (by rw [hU.2.2.1]; exact hR) (by rw [hU.1]; exact hB) (by rw [hU.2.1]; omega) (by rw [hU.2.1]; omega) (fun j hj => by
      rcases (show j = 0 ∨ j = 1 ∨ j = 2 by omega) with p | p | p
      · rw [p, u0]; show _ < 2147483648; omega
      · rw [p, u1]; show _ < 2147483648; omega
      · rw [p, u2]; show _ < 2147483648; omega) (by
      rw [← hqv]
      show q = ds wB _ 3
      rw [ds_s, ds_s, ds_s, ds_0, u0, u1, u2]
      show q = 0 + q % 2147483648 * 1 + q / 2147483648 % 2147483648 * 2147483648 + q / 2147483648 / 2147483648 % 2147483648 * 4611686018427387904
      omega) (fun _ => by rw [hM1, cw_II, hg])
    have s1 : rW_settle w 3 M1 = _ := s1
    rw [s1]
    exact ⟨M2, rfl, cP.of hH hV (hU.tr s2) hw ⟨b, n, s4⟩⟩
  rw [rW_become_u, rW_become_e]
  by_cases hv : (0 : Int64) ≤ v
  · have hv2 : 0 ≤ v.toInt := by rw [Int64.le_iff_toInt_le] at hv; exact hv
    obtain ⟨M', f1, f2⟩ := fin v.toInt.natAbs 0 (by have := fb_rngL v; omega) rfl (by rw [if_neg (by omega)])
    have e : lN v.toInt.natAbs = v := by rw [iL_n, Int.natAbs_of_nonneg hv2, iL_of]
    rw [e] at f1
    rw [if_pos hv, rW_become_12_e, f1]
    exact ⟨M', rfl, f2⟩
  · have hv2 : v.toInt < 0 := by rw [Int64.le_iff_toInt_le] at hv; exact Int.not_le.mp hv
    obtain ⟨M', f1, f2⟩ := fin v.toInt.natAbs 1 (by have := fb_rngL v; omega) rfl (by rw [if_pos hv2])
    have e : lN v.toInt.natAbs = -v := by
      rw [iL_n, show ((v.toInt.natAbs : Nat) : Int) = -v.toInt by omega, ← iL_neg, iL_of]
    rw [e] at f1
    rw [if_neg hv, rW_become_12_e, f1]
    exact ⟨M', rfl, f2⟩
end

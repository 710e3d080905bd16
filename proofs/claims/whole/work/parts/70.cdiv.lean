/-! division -/
theorem cr_swap {M : rg_M} {r q : Nat} {f g : Nat → Int32} (h : r ≠ q) : cr (cr M r f) q g = cr (cr M q g) r f := by
  refine rm_ext rfl rfl rfl rfl ?_ rfl rfl rfl rfl
  funext x
  show (if x = q then g else if x = r then f else rg_A M x) = (if x = r then f else if x = q then g else rg_A M x)
  by_cases h1 : x = r
  · rw [if_neg (by rw [h1]; exact h), if_pos h1, if_pos h1]
  · simp only [if_neg h1]
theorem cr_comm {M : rg_M} {r q : Nat} {f g f' : Nat → Int32} (h : r ≠ q) : cr (cr (cr M r f) q g) r f' = cr (cr M r f') q g := by
  rw [cr_swap h, cr_cr, cr_swap h]
theorem cV_seg {f : Nat → Int32} {n a m : Nat} (h : a + m ≤ n) (hz : ∀ j, a + m ≤ j → j < n → f j = 0) : cV f n = cV f a + wB ^ a * ds wB (fun i => rm_u (f (a + i))) m := by
  unfold cV
  rw [ds_more (n := a + m) h (fun k h1 h2 => by rw [hz k h1 h2]; rfl), ds_app]
theorem cV_put {f : Nat → Int32} {d : Nat → Nat} {n a m : Nat} (h : a + m ≤ n) (hz : ∀ j, a + m ≤ j → j < n → f j = 0) (hd : ∀ j, d j < wB) : cV (fb_put f (fun j => nI (d j)) a m) n = cV f a + wB ^ a * ds wB d m := by
  rw [cV_seg (a := a) (m := m) h (fun j h1 h2 => by rw [fb_put_out (Or.inr h1)]; exact hz j h1 h2)]
  have e1 : cV (fb_put f (fun j => nI (d j)) a m) a = cV f a := ds_cong (fun k hk => by rw [fb_put_out (Or.inl hk)])
  have e2 : ds wB (fun i => rm_u (fb_put f (fun j => nI (d j)) a m (a + i))) m = ds wB d m := ds_cong (fun k hk => by
    have := hd k
    rw [fb_put_in (by omega) (by omega), Nat.add_sub_cancel_left, rm_u_nI, Nat.mod_eq_of_lt (by have : d k < 2147483648 := this; omega)])
  rw [e1, e2]
theorem fb_put_lt {f : Nat → Int32} {d : Nat → Nat} {n a m : Nat} (hf : ∀ j, j < n → rm_u (f j) < wB) (hd : ∀ j, d j < wB) : ∀ j, j < n → rm_u (fb_put f (fun j => nI (d j)) a m j) < wB := by
  intro j hj
  by_cases c : a ≤ j ∧ j < a + m
  · have h1 : d (j - a) < 2147483648 := hd (j - a)
    rw [fb_put_in c.1 c.2, rm_u_nI]; show _ < 2147483648; omega
  · rw [fb_put_out (by omega)]; exact hf j hj
theorem dz_cutm (f : Nat → Int32) {n m : Nat} (h : n ≤ m) : dz (fun i => if i < n then (rm_u (f i) : Int) else 0) m = (cV f n : Int) := dz_cut f h
section
variable {M : rg_M}
theorem cw_step {w x r rx n nb at' g : Nat} (F : Int64 → rg_M → Option rg_U) (hN : cwN M w r n) (hX : cwN M x rx nb) (hn : n ≤ 1300) (ha : at' + nb ≤ n) (hxr : rx ≠ r) (hg : g ≤ 2147483647) (hR : cV (rg_A M r) n < cV (rg_A M rx) nb * wB ^ (at' + 1)) (hg1 : cV (rg_A M r) n / (cV (rg_A M rx) nb * wB ^ at') ≤ g) (hg2 : g ≤ cV (rg_A M r) n / (cV (rg_A M rx) nb * wB ^ at') + 1) : ∃ f2, ((rK_takeAway w x (nI at') (lN g) M).bind (fun r6 => if r6.1 = 0 then F (lN g) r6.2 else (rK_putBack w x (nI at') r6.2).bind (fun M7 => F (lN g - (1 : Int64)) M7))) = F (lN (cV (rg_A M r) n / (cV (rg_A M rx) nb * wB ^ at'))) (cr M r f2) ∧ (∀ j, j < n → rm_u (f2 j) < wB) ∧ cV f2 n + cV (rg_A M r) n / (cV (rg_A M rx) nb * wB ^ at') * (cV (rg_A M rx) nb * wB ^ at') = cV (rg_A M r) n := by
  obtain ⟨m, hm⟩ : ∃ m, m = if at' + nb < n then nb + 1 else nb := ⟨_, rfl⟩
  have hmn : at' + m ≤ n := by split at hm <;> omega
  have hmb : nb ≤ m := by split at hm <;> omega
  obtain ⟨t1, t2, t3⟩ := cw_take hN hX hn ha hxr hg hm
  obtain ⟨D, hD⟩ : ∃ D, D = cV (rg_A M rx) nb := ⟨_, rfl⟩
  obtain ⟨R, hRd⟩ : ∃ R, R = cV (rg_A M r) n := ⟨_, rfl⟩
  rw [← hD, ← hRd] at hR hg1 hg2 ⊢
  have hDB : D < wB ^ nb := by rw [hD]; exact cV_lt hX.2.2.2.2.2
  have hp : ∀ k, 0 < wB ^ k := fun k => Nat.pow_pos (by decide)
  -- the words above are 0
  have hz : ∀ j, at' + m ≤ j → j < n → rg_A M r j = 0 := by
    intro j h1 h2
    have hc : at' + nb < n := by split at hm <;> omega
    have hm1 : m = nb + 1 := by rw [hm, if_pos hc]
    have hlt : R < wB ^ j := by
      refine Nat.lt_of_lt_of_le hR (Nat.le_trans (Nat.mul_le_mul_right _ (Nat.le_of_lt hDB)) ?_)
      rw [← Nat.pow_add]
      exact Nat.pow_le_pow_right (by decide) (by omega)
    have := hN.wd h2
    rw [← hRd, Nat.div_eq_of_lt hlt] at this
    exact rm_u_eq0.mp this.symm
  obtain ⟨T, hT⟩ : ∃ T, T = ds wB (fun i => rm_u (rg_A M r (at' + i))) m := ⟨_, rfl⟩
  have hRT : R = cV (rg_A M r) at' + wB ^ at' * T := by rw [hRd, hT]; exact cV_seg hmn hz
  have hlow : cV (rg_A M r) at' < wB ^ at' := cV_lt (fun j hj => hN.2.2.2.2.2 j (by omega))
  have hTB : T < wB ^ m := by rw [hT]; exact ds_lt (fun k hk => hN.2.2.2.2.2 _ (by omega))
  have hRdiv : R / wB ^ at' = T := by rw [hRT, Nat.add_mul_div_left _ _ (hp at'), Nat.div_eq_of_lt hlow, Nat.zero_add]
  obtain ⟨q, hq⟩ : ∃ q, q = R / (D * wB ^ at') := ⟨_, rfl⟩
  rw [← hq] at hg1 hg2 ⊢
  have hqT : q = T / D := by rw [hq, Nat.mul_comm, ← Nat.div_div_eq_div_mul, hRdiv]
  have hD0 : 0 < D := by
    rcases Nat.eq_zero_or_pos D with e | e
    · rw [e] at hR; simp at hR
    · exact e
  have hq1 : q * D ≤ T := by rw [hqT]; exact Nat.div_mul_le_self _ _
  have hq2 : T < (q + 1) * D := by rw [hqT, Nat.mul_comm]; exact Nat.lt_mul_div_succ T hD0
  have hDm : D < wB ^ m := Nat.lt_of_lt_of_le hDB (Nat.pow_le_pow_right (by decide) hmb)
  rw [Nat.add_mul, Nat.one_mul] at hq2
  -- the chain
  obtain ⟨t, ht⟩ : ∃ t, t = ctt (rg_A M r) (rg_A M rx) at' nb g := ⟨_, rfl⟩
  rw [← ht] at t1 t2 t3
  have hdt : dz t m = (T : Int) - (g : Int) * (D : Int) := by
    have e1 : dz t m = dz (fun i => (rm_u (rg_A M r (at' + i)) : Int) + (-(g : Int)) * (if i < nb then (rm_u (rg_A M rx i) : Int) else 0)) m := dz_cong (fun k hk => by
      rw [ht]; unfold ctt
      by_cases c : k < nb
      · rw [if_pos c, if_pos c, Int.neg_mul]; omega
      · rw [if_neg c, if_neg c, Int.mul_zero]; omega)
    rw [e1, dz_add, dz_mul, dz_cut _ hmb, ← dz_ds, ← hT, ← hD, Int.neg_mul]
    omega
  have hs := sc_sum t 0 m
  rw [hdt, ← dz_ds, Int.zero_add] at hs
  have hBm : (2147483648 : Int) ^ m = ((wB ^ m : Nat) : Int) := by rw [Int.natCast_pow]; rfl
  rw [hBm] at hs
  have hT1 : ds wB (scO t 0) m < wB ^ m := ds_lt (fun k _ => scO_lt t 0 k)
  have hd1 : ∀ j, scO t 0 j < wB := scO_lt t 0
  have hf1 := fb_put_lt (a := at') (m := m) hN.2.2.2.2.2 hd1
  obtain ⟨f1, hf1d⟩ : ∃ f1, f1 = fb_put (rg_A M r) (fun j => nI (scO t 0 j)) at' m := ⟨_, rfl⟩
  rw [← hf1d] at t1 hf1
  have hz1 : ∀ j, at' + m ≤ j → j < n → f1 j = 0 := fun j h1 h2 => by rw [hf1d, fb_put_out (Or.inr h1)]; exact hz j h1 h2
  have fl1 : cV f1 at' = cV (rg_A M r) at' := by rw [hf1d]; exact ds_cong (fun k hk => by rw [fb_put_out (Or.inl hk)])
  have hseg1 : ds wB (fun i => rm_u (f1 (at' + i))) m = ds wB (scO t 0) m := ds_cong (fun k hk => by
    have := scO_lt t 0 k
    rw [hf1d, fb_put_in (by omega) (by omega), Nat.add_sub_cancel_left, rm_u_nI, Nat.mod_eq_of_lt (by omega)])
  -- what a row says whose words from at' on say T - q D
  have close : ∀ f2 : Nat → Int32, cV f2 n = cV (rg_A M r) at' + wB ^ at' * (T - q * D) → cV f2 n + q * (D * wB ^ at') = R := by
    intro f2 h
    rw [h, hRT, ← Nat.mul_assoc, Nat.mul_comm (q * D) (wB ^ at'), Nat.add_assoc, ← Nat.mul_add, Nat.sub_add_cancel hq1]
  rw [t1]
  simp only [Option.bind_some]
  by_cases hc : 0 ≤ scC t 0 m
  · have hc0 : scC t 0 m = 0 := by omega
    rw [hc0, Int.zero_mul, Int.add_zero] at hs
    rw [if_pos hc, if_pos rfl]
    have hgq : g = q := by
      rcases Nat.lt_or_ge q g with c | c
      · have e : g = q + 1 := by omega
        rw [e] at hs
        rw [← Int.natCast_mul, Nat.add_mul, Nat.one_mul] at hs
        omega
      · omega
    rw [hgq] at hs ⊢
    refine ⟨f1, rfl, hf1, close f1 ?_⟩
    rw [cV_seg hmn hz1, fl1, hseg1]
    congr 2
    rw [← Int.natCast_mul] at hs
    omega
  · rw [if_neg hc, if_neg (by decide)]
    have hgq : g = q + 1 := by
      rcases Nat.lt_or_ge q g with c | c
      · omega
      · exfalso
        have e : g = q := by omega
        rw [e, ← Int.natCast_mul] at hs
        have : scC t 0 m * ((wB ^ m : Nat) : Int) ≤ (-1) * ((wB ^ m : Nat) : Int) := Int.mul_le_mul_of_nonneg_right (by omega) (Int.natCast_nonneg _)
        omega
    have hNf : cwN (cr M r f1) w r n := ⟨hN.1, hN.2.1, hN.2.2.1, hN.2.2.2.1, hN.2.2.2.2.1, by rw [cr_A]; exact hf1⟩
    have hXf : cwN (cr M r f1) x rx nb := ⟨hX.1, hX.2.1, hX.2.2.1, hX.2.2.2.1, hX.2.2.2.2.1, by rw [cr_An hxr]; exact hX.2.2.2.2.2⟩
    have hput := cw_put hNf hXf hn ha hxr hm
    rw [cr_A, cr_An hxr, cr_cr] at hput
    obtain ⟨t', ht'⟩ : ∃ t', t' = cpt f1 (rg_A M rx) at' nb := ⟨_, rfl⟩
    rw [← ht'] at hput
    rw [hput]
    simp only [Option.bind_some]
    have e2 : lN g - (1 : Int64) = lN q := by
      rw [show (1 : Int64) = lN 1 from rfl, iL_n, iL_n, iL_sub, iL_n, hgq]; congr 1; omega
    rw [e2]
    have hdt' : dz t' m = (ds wB (scO t 0) m : Int) + (D : Int) := by
      have e1 : dz t' m = dz (fun i => (rm_u (f1 (at' + i)) : Int) + (if i < nb then (rm_u (rg_A M rx i) : Int) else 0)) m := dz_cong (fun k hk => by rw [ht']; rfl)
      rw [e1, dz_add, dz_cut _ hmb, ← dz_ds, hseg1, ← hD]
    have hs' := sc_sum t' 0 m
    rw [hdt', ← dz_ds, Int.zero_add, hBm] at hs'
    have hT2 : ds wB (scO t' 0) m < wB ^ m := ds_lt (fun k _ => scO_lt t' 0 k)
    refine ⟨_, rfl, fb_put_lt hf1 (scO_lt t' 0), close _ ?_⟩
    rw [cV_put hmn hz1 (scO_lt t' 0), fl1]
    congr 2
    -- two numbers below B^m that differ by a multiple of it
    rw [hgq, ← Int.natCast_mul, Nat.add_mul, Nat.one_mul] at hs
    have hk : (ds wB (scO t' 0) m : Int) - ((T : Int) - ((q * D : Nat) : Int)) = (-(scC t 0 m) - scC t' 0 m) * ((wB ^ m : Nat) : Int) := by
      rw [Int.sub_mul, Int.neg_mul]; omega
    generalize -(scC t 0 m) - scC t' 0 m = k at hk
    have hk0 : k = 0 := by
      rcases (show k ≤ -1 ∨ k = 0 ∨ 1 ≤ k by omega) with c | c | c
      · have := Int.mul_le_mul_of_nonneg_right c (Int.natCast_nonneg (wB ^ m))
        omega
      · exact c
      · have := Int.mul_le_mul_of_nonneg_right c (Int.natCast_nonneg (wB ^ m))
        omega
    rw [hk0, Int.zero_mul] at hk
    omega
theorem cw_div71 {rk w x qo r rx rq n nb P s R0 D : Nat} (hK : rg_K M rk = 5) (hq : rg_R M 65 rk = some qo) (hw : rg_K M w = 6) (hrw : rg_R M 80 w = some r) (hKr : rg_K M r = 9) (hLr : n ≤ rg_L M r) (hIw : rg_I M 81 w = nI n) (hX : cwN M x rx nb) (hqo : rg_K M qo = 6) (hrq : rg_R M 80 qo = some rq) (hKq : rg_K M rq = 9) (hLq : P ≤ rg_L M rq) (hn : n ≤ 1300) (hnb : 0 < nb) (hP : P = n - nb + 1) (hnbn : nb ≤ n) (h1 : rx ≠ r) (h2 : rq ≠ r) (h3 : rx ≠ rq) (hs : s ≤ 30) (hD : D = cV (rg_A M rx) nb) (hD1 : D * 2 ^ s < wB ^ nb) (hD2 : wB ^ nb ≤ 2 * (D * 2 ^ s)) : ∀ k : Nat, k ≤ P → ∀ f g : Nat → Int32, (∀ j, j < n → rm_u (f j) < wB) → (∀ j, k ≤ j → j < P → rm_u (g j) < wB) → cV f n < D * wB ^ k → ds wB (fun j => if j < k then 0 else rm_u (g j)) P * D + cV f n = R0 →
    ∃ f2 g2, rK_divide_71 rk w x (nI nb) (nI P) (nI s) (lN (kz D nb / 2 ^ (31 - s))) (nI k - 1) (cr (cr M r f) rq g) = rK_divide_71 rk w x (nI nb) (nI P) (nI s) (lN (kz D nb / 2 ^ (31 - s))) (-1) (cr (cr M r f2) rq g2) ∧ (∀ j, j < n → rm_u (f2 j) < wB) ∧ (∀ j, j < P → rm_u (g2 j) < wB) ∧ cV f2 n < D ∧ cV g2 P * D + cV f2 n = R0 := by
  intro k
  induction k with
  | zero =>
    intro _ f g hf hg hlt hsum
    refine ⟨f, g, rfl, hf, fun j hj => hg j (Nat.zero_le _) hj, by simpa using hlt, ?_⟩
    rw [← hsum]
    congr 2
  | succ k ih =>
    intro hk f g hf hg hlt hsum
    rw [nI_pred, rK_divide_71_e, if_neg (nI_pos (by omega)), nI_add]
    obtain ⟨M1, hM1⟩ : ∃ M1, M1 = cr (cr M r f) rq g := ⟨_, rfl⟩
    rw [← hM1]
    have hA1 : rg_A M1 r = f := by rw [hM1, cr_An (Ne.symm h2), cr_A]
    have hA2 : rg_A M1 rx = rg_A M rx := by rw [hM1, cr_An h3, cr_An h1]
    have fK : rg_K M1 = rg_K M := by rw [hM1]; rfl
    have fR : rg_R M1 = rg_R M := by rw [hM1]; rfl
    have fL : rg_L M1 = rg_L M := by rw [hM1]; rfl
    have fI : rg_I M1 = rg_I M := by rw [hM1]; rfl
    have hN1 : cwN M1 w r n := ⟨by rw [fK]; exact hw, by rw [fR]; exact hrw, by rw [fK]; exact hKr, by rw [fL]; exact hLr, by rw [fI]; exact hIw, by rw [hA1]; exact hf⟩
    have hX1 : cwN M1 x rx nb := ⟨by rw [fK]; exact hX.1, by rw [fR]; exact hX.2.1, by rw [fK]; exact hX.2.2.1, by rw [fL]; exact hX.2.2.2.1, by rw [fI]; exact hX.2.2.2.2.1, by rw [hA2]; exact hX.2.2.2.2.2⟩
    obtain ⟨gu, g1, g2, g3, g4⟩ := cw_guess (M := M1) (w := w) (r := r) (n := n) (e := k + nb) (s := s) (D := D) (at' := k) (nb := nb) hN1 hn rfl hs hnb (by omega) hD1 hD2 (by rw [hA1]; exact hlt)
    rw [g1]
    simp only [Option.bind_some]
    rw [hA1] at g3 g4
    obtain ⟨q, hqd⟩ : ∃ q, q = cV f n / (D * wB ^ k) := ⟨_, rfl⟩
    rw [← hqd] at g3 g4
    have hp : ∀ k, 0 < wB ^ k := fun k => Nat.pow_pos (by decide)
    have hD0 : 0 < D := by
      rcases Nat.eq_zero_or_pos D with e | e
      · rw [e] at hlt; simp at hlt
      · exact e
    have hqB : q < 2147483648 := by
      rw [hqd, Nat.div_lt_iff_lt_mul (Nat.mul_pos hD0 (hp k)), Nat.mul_comm, Nat.mul_assoc, ← Nat.pow_succ]; exact hlt
    have F : ∃ f2, (if lN gu = (0 : Int64) then rK_divide_122 rk w x (nI nb) (nI P) (nI s) (lN (kz D nb / 2 ^ (31 - s))) (nI k) (lN gu) M1 else ((rK_takeAway w x (nI k) (lN gu) M1).bind (fun r6 => if r6.1 = 0 then rK_divide_122 rk w x (nI nb) (nI P) (nI s) (lN (kz D nb / 2 ^ (31 - s))) (nI k) (lN gu) r6.2 else (rK_putBack w x (nI k) r6.2).bind (fun M7 => rK_divide_122 rk w x (nI nb) (nI P) (nI s) (lN (kz D nb / 2 ^ (31 - s))) (nI k) (lN gu - (1 : Int64)) M7)))) = rK_divide_122 rk w x (nI nb) (nI P) (nI s) (lN (kz D nb / 2 ^ (31 - s))) (nI k) (lN q) (cr (cr M r f2) rq g) ∧ (∀ j, j < n → rm_u (f2 j) < wB) ∧ cV f2 n + q * (D * wB ^ k) = cV f n := by
      by_cases c : gu = 0
      · have hq0 : q = 0 := by omega
        rw [if_pos (by rw [c]; rfl), c, hq0]
        exact ⟨f, by rw [hM1], hf, by rw [Nat.zero_mul, Nat.add_zero]⟩
      · rw [if_neg (by rw [show (0 : Int64) = lN 0 from rfl, pk_lEQ (by omega) (by omega)]; exact c)]
        obtain ⟨f2, s1, s2, s3⟩ := cw_step (M := M1) (w := w) (x := x) (r := r) (rx := rx) (n := n) (nb := nb) (at' := k) (g := gu) (fun a b => rK_divide_122 rk w x (nI nb) (nI P) (nI s) (lN (kz D nb / 2 ^ (31 - s))) (nI k) a b) hN1 hX1 hn (by omega) h1 g2 (by rw [hA1, hA2, ← hD]; exact hlt) (by rw [hA1, hA2, ← hD, ← hqd]; exact g3) (by rw [hA1, hA2, ← hD, ← hqd]; exact g4)
        rw [hA1, hA2, ← hD, ← hqd] at s1 s3
        refine ⟨f2, ?_, s2, s3⟩
        rw [s1, hM1, cr_comm (Ne.symm h2)]
    obtain ⟨f2, s1, s2, s3⟩ := F
    rw [s1, rK_divide_122_e]
    have k1 := nI_clamp (n := k) (by omega)
    have k2 := rm_i0 (a := k) (by omega)
    have k3 : k < rg_L M rq := by omega
    simp only [cr_K, cr_R, cr_L, hK, hq, hqo, hrq, hKq, Option.bind_some, if_true, k1, k2, k3, and_self, cr_w, lN_i]
    rw [show nI k + (-1) = nI k - 1 from (Int32.sub_eq_add_neg _ _).symm]
    have hq2 : cV f n < (q + 1) * (D * wB ^ k) := by rw [hqd, Nat.mul_comm]; exact Nat.lt_mul_div_succ _ (Nat.mul_pos hD0 (hp k))
    rw [Nat.add_mul, Nat.one_mul] at hq2
    obtain ⟨f3, g5, r1, r2, r3, r4, r5⟩ := ih (by omega) f2 (upd g k (nI q)) s2 (fun j h4 h5 => by
      by_cases c : j = k
      · rw [c, pk_us, rm_u_nI]; show _ < 2147483648; omega
      · rw [pk_un c]; exact hg j (by omega) h5) (by omega) (by
      rw [← hsum, ← s3]
      have e : ds wB (fun j => if j < k then 0 else rm_u (upd g k (nI q) j)) P = ds wB (fun j => if j < k + 1 then 0 else rm_u (g j)) P + q * wB ^ k := by
        have := ds_upd (B := wB) (f := fun j => if j < k + 1 then 0 else rm_u (g j)) (n := P) (j := k) (by omega) q
        simp only [Nat.lt_succ_self, if_true, Nat.zero_mul, Nat.add_zero] at this
        rw [← this]
        refine ds_cong (fun j hj => ?_)
        by_cases c : j = k
        · rw [if_pos c, c, if_neg (Nat.lt_irrefl _), pk_us, rm_u_nI, Nat.mod_eq_of_lt (by omega)]
        · rw [if_neg c, pk_un c]
          by_cases c2 : j < k
          · rw [if_pos c2, if_pos (by omega)]
          · rw [if_neg c2, if_neg (by omega)]
      rw [e, Nat.add_mul, Nat.mul_assoc q, Nat.mul_comm (wB ^ k) D]
      omega)
    exact ⟨f3, g5, r1, r2, r3, r4, r5⟩
end

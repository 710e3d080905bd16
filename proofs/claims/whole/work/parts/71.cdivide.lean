/-! divide, divideOut -/
def sgm (v : Int) (m : Nat) : Int := if v < 0 then -(m : Int) else m
theorem sgm_abs (v : Int) (m : Nat) : (sgm v m).natAbs = m := by unfold sgm; split <;> omega
theorem sgm_flag {v : Int} {m : Nat} (h : sgm v m ≠ 0) : (if v < 0 then (1 : Int32) else 0) = if sgm v m < 0 then 1 else 0 := by
  unfold sgm at *
  by_cases c : v < 0
  · rw [if_pos c] at h ⊢; rw [if_pos c, if_pos (by omega)]
  · rw [if_neg c] at h ⊢; rw [if_neg c, if_neg (by omega)]
theorem sgm_id (v : Int) : sgm v v.natAbs = v := by unfold sgm; split <;> omega
section
variable {u z : Nat} {M : rg_M} {V : Nat → Int}
theorem cw_divide (hH : cH u z M) (hV : cvV M V) {rk qo w x : Nat} (hK : rg_K M rk = 5) (hrs : rk < rg_sz M) (hq : rg_R M 65 rk = some qo) (hqo : rg_K M qo = 6) (hw : rg_K M w = 6) (hx : rg_K M x = 6) (hwx : w ≠ x) (hwq : w ≠ qo) (hxq : x ≠ qo) (hx0 : V x ≠ 0) (hl : cL (V w) 866) : ∃ M', rK_divide rk w x M = some M' ∧ cP u z M (va_up (va_up V qo (((V w).natAbs / (V x).natAbs : Nat) : Int)) w (sgm (V w) ((V w).natAbs % (V x).natAbs))) M' := by
  obtain ⟨r0, n, hW0⟩ := hV w hw
  obtain ⟨rx0, nb, hX0⟩ := hV x hx
  have hn := hW0.len hl
  have hL0 := hH.L hx hX0.2.1
  have hnb2 : nb ≤ 1300 := Nat.le_trans hX0.2.2.2.1 hL0.2.2.2
  have hnb : nb ≠ 0 := fun e => hx0 (hX0.zero.mpr e)
  have iw : rg_I M 81 w = nI n := hW0.2.2.2.2.1
  have ix : rg_I M 81 x = nI nb := hX0.2.2.2.2.1
  rw [rK_divide_u, rK_divide_e]
  simp only [hw, hx, if_true, iw, ix]
  rw [if_neg (nI_ne0 (by omega) (by omega))]
  by_cases hp : nb ≤ n
  · obtain ⟨P, hP⟩ : ∃ P, P = n - nb + 1 := ⟨_, rfl⟩
    have e1 : nI n - nI nb + (1 : Int32) = nI P := by rw [pk_sub hp, nI_1, hP]
    rw [e1, if_pos (by rw [show (0 : Int32) = nI 0 from rfl, nI_ltI (by omega) (by omega)]; omega), if_pos hK, hq]
    simp only [Option.bind_some, hqo, if_true]
    obtain ⟨M2, t1, t2, t3, t4, ⟨rq, t5, t6⟩, t7⟩ := cw_room hH hqo (k := P) (by omega)
    obtain ⟨r, hW⟩ := t7 w r0 n _ hW0
    obtain ⟨rx, hX⟩ := t7 x rx0 nb _ hX0
    have hqo2 := (t3.K6 qo).mpr hqo
    have hQ2 := t2.L hqo2 t5
    have hV2 : cvV M2 V := fun y hy => by
      obtain ⟨q1, q2, q3⟩ := hV y ((t3.K6 y).mp hy)
      obtain ⟨q4, q5⟩ := t7 y q1 q2 _ q3
      exact ⟨q4, q2, q5⟩
    have h1 : rx ≠ r := fun e => hwx (t2.2.1 w x r hW.1 hX.1 hW.2.1 (by rw [← e]; exact hX.2.1))
    have h2 : rq ≠ r := fun e => hwq (t2.2.1 w qo r hW.1 hqo2 hW.2.1 (by rw [← e]; exact t5))
    have h3 : rx ≠ rq := fun e => hxq (t2.2.1 x qo rq hX.1 hqo2 (by rw [← e]; exact hX.2.1) t5)
    rw [t1]
    obtain ⟨m, hm⟩ := Nat.exists_eq_succ_of_ne_zero hnb
    have k1 := nI_clamp (n := m) (by omega)
    have k2 := rm_i0 (a := m) (by omega)
    have k3 : m < rg_L M2 rx := by have := hX.2.2.2.1; omega
    have en : nI nb - (1 : Int32) = nI m := by rw [hm]; exact nI_pred m
    have hmw := hX.2.2.2.2.2.2.1 m (by omega)
    have hm0 : rm_u (rg_A M2 rx m) ≠ 0 := by
      rw [Ne, rm_u_eq0]
      rcases hX.2.2.2.2.2.2.2.1 with q | q
      · omega
      · rw [show m = nb - 1 by omega]; exact q
    simp only [Option.bind_some, hX.1, hX.2.1, hX.2.2.1, if_true, en, k1, k2, k3, and_self]
    have hl4 := nlz (M := M2) (n := rm_u (rg_A M2 rx m)) (by omega) hmw
    rw [rm_nI_u] at hl4
    rw [hl4]
    obtain ⟨bt, hbt⟩ : ∃ bt, bt = rm_bits (rm_u (rg_A M2 rx m)) := ⟨_, rfl⟩
    have hb1 : bt ≤ 31 := by rw [hbt]; exact rm_bits_mono hmw
    have hb2 : 0 < bt := by rw [hbt]; exact rm_bits_pos (by omega)
    obtain ⟨s, hs⟩ : ∃ s, s = 31 - bt := ⟨_, rfl⟩
    have es : nI (32 - rm_bits (rm_u (rg_A M2 rx m))) - (1 : Int32) = nI s := by
      rw [← hbt, show 32 - bt = s + 1 by omega]; exact nI_pred s
    simp only [Option.bind_some, es]
    obtain ⟨D, hD⟩ : ∃ D, D = cV (rg_A M2 rx) nb := ⟨_, rfl⟩
    have hDx : (V x).natAbs = D := by rw [hD]; exact hX.2.2.2.2.2.2.2.2
    have hDb : rm_bits D = 31 * m + bt := by
      rw [hD, hm, hbt]
      show rm_bits (ds wB _ m + rm_u (rg_A M2 rx m) * wB ^ m) = _
      exact rm_bits_app (w := 31) (by decide) (ds_lt (fun k hk => hX.2.2.2.2.2.2.1 k (by omega))) hm0
    have hD0 : D ≠ 0 := by omega
    have hB : wB ^ nb = 2 ^ (31 * m + bt) * 2 ^ s := by
      rw [show wB = 2 ^ 31 from rfl, ← Nat.pow_mul, ← Nat.pow_add]; congr 1; omega
    have hD1 : D * 2 ^ s < wB ^ nb := by
      rw [hB]
      have := rm_bits_lt D
      rw [hDb] at this
      exact Nat.mul_lt_mul_of_pos_right this (Nat.pow_pos (by decide))
    have hD2 : wB ^ nb ≤ 2 * (D * 2 ^ s) := by
      have := rm_bits_le hD0
      rw [hDb] at this
      rw [hB, ← Nat.mul_assoc]
      refine Nat.mul_le_mul_right _ ?_
      rw [show 31 * m + bt = (31 * m + bt - 1) + 1 by omega, Nat.pow_succ]
      omega
    have hld := cw_leading (M := M2) (w := x) (r := rx) (n := nb) (e := nb) (s := s) hX.N hnb2 hnb2 (by omega) (by rw [← hD]; exact hD1)
    rw [← hD] at hld
    rw [hld]
    simp only [Option.bind_some]
    have hr2 := t2.L hW.1 hW.2.1
    obtain ⟨f2, g2, d1, d2, d3, d4, d5⟩ := cw_div71 (M := M2) (rk := rk) (w := w) (x := x) (qo := qo) (r := r) (rx := rx) (rq := rq) (n := n) (nb := nb) (P := P) (s := s) (R0 := (V w).natAbs) (D := D) (by rw [t3.K hrs]; exact hK) (by rw [t3.2.2.2.2.1 _ _ (by decide)]; exact hq) hW.1 hW.2.1 hW.2.2.1 hW.2.2.2.1 hW.2.2.2.2.1 hX.N hqo2 t5 hQ2.2.1 t6 (by omega) (by omega) hP hp h1 h2 h3 (by omega) hD hD1 hD2 P (Nat.le_refl _) (rg_A M2 r) (rg_A M2 rq) hW.2.2.2.2.2.2.1 (fun j h4 h5 => by omega) (by
      refine Nat.lt_of_lt_of_le (cV_lt hW.2.2.2.2.2.2.1) ?_
      have hX8 := cV_top hX.2.2.2.2.2.2.2.1 hnb
      rw [← hD] at hX8
      refine Nat.le_trans ?_ (Nat.mul_le_mul_right _ hX8)
      rw [← Nat.pow_add]
      exact Nat.pow_le_pow_right (by decide) (by omega)) (by
      rw [ds_zero (fun k hk => by rw [if_pos hk]), Nat.zero_mul, Nat.zero_add]
      exact hW.2.2.2.2.2.2.2.2.symm)
    rw [cr_id] at d1
    rw [show cr M2 rq (rg_A M2 rq) = M2 from cr_id M2 rq] at d1
    rw [d1]
    have hdiv : cV g2 P = (V w).natAbs / D ∧ cV f2 n = (V w).natAbs % D := by
      rw [← d5]
      have hD0' : 0 < D := by omega
      constructor
      · rw [Nat.mul_comm, Nat.mul_add_div hD0', Nat.div_eq_of_lt d4, Nat.add_zero]
      · rw [Nat.mul_comm, Nat.mul_add_mod, Nat.mod_eq_of_lt d4]
    obtain ⟨M3, hM3⟩ : ∃ M3, M3 = cr (cr M2 r f2) rq g2 := ⟨_, rfl⟩
    rw [← hM3]
    have hU3 : cU (fun y => y = qo ∨ y = w) M2 M3 := by
      rw [hM3]
      exact ((cU_cr f2 hW.2.1).mono (fun y h => Or.inr h)).tr ((cU_cr (M := cr M2 r f2) g2 t5).mono (fun y h => Or.inl h))
    have a3r : rg_A M3 r = f2 := by rw [hM3, cr_An (Ne.symm h2), cr_A]
    have a3q : rg_A M3 rq = g2 := by rw [hM3, cr_A]
    have K3 : rg_K M3 = rg_K M2 := hU3.1
    have R3 : rg_R M3 = rg_R M2 := hU3.2.2.1
    have L3 : rg_L M3 = rg_L M2 := hU3.2.1
    have hK2 : rg_K M2 rk = 5 := by rw [t3.K hrs]; exact hK
    have hq2 : rg_R M2 65 rk = some qo := by rw [t3.2.2.2.2.1 _ _ (by decide)]; exact hq
    -- the quotient settles
    have hU4 : cU (fun y => y = qo ∨ y = w) M2 (rg_wI M3 82 qo 0) := hU3.tr ((cU_wI M3 qo 82 0 (Or.inr rfl)).mono (fun y h => Or.inl h))
    obtain ⟨M4, s1, s2, s2a, nq, s3, s4⟩ := cw_settle (M := rg_wI M3 82 qo 0) (w := qo) (b := rq) (k := P) (v := (((V w).natAbs / D : Nat) : Int)) (by rw [hU4.1]; exact hqo2) (by rw [hU4.2.2.1]; exact t5) (by rw [hU4.1]; exact hQ2.2.1) (by rw [hU4.2.1]; omega) (by rw [hU4.2.1]; exact t6) (by show ∀ j, j < P → rm_u (rg_A M3 rq j) < wB; rw [a3q]; exact d3) (by show _ = cV (rg_A M3 rq) P; rw [a3q, hdiv.1]; rfl) (fun _ => by rw [cw_II, if_neg (by omega)])
    have hU5 : cU (fun y => y = qo ∨ y = w) M2 M4 := hU4.tr (s2.mono (fun y h => Or.inl h))
    have iw4 : rg_I M4 81 w = nI n := by
      rw [s2.2.2.2.2.2.2.1 _ _ (Or.inr hwq), cw_IIn (Or.inr hwq), hM3]; exact hW.2.2.2.2.1
    have fw4 : V w ≠ 0 → rg_I M4 82 w = if V w < 0 then 1 else 0 := by
      rw [s2.2.2.2.2.2.2.1 _ _ (Or.inr hwq), cw_IIn (Or.inr hwq), hM3]; exact hW.2.2.2.2.2.1.2
    have a4r : rg_A M4 r = f2 := by rw [s2a]; exact a3r
    obtain ⟨M5, v1, v2, v2a, nr, v3, v4⟩ := cw_settle (M := M4) (w := w) (b := r) (k := n) (v := sgm (V w) ((V w).natAbs % D)) (by rw [hU5.1]; exact hW.1) (by rw [hU5.2.2.1]; exact hW.2.1) (by rw [hU5.1]; exact hW.2.2.1) (by rw [hU5.2.1]; omega) (by rw [hU5.2.1]; exact hW.2.2.2.1) (by rw [a4r]; exact d2) (by rw [sgm_abs, a4r, hdiv.2]) (fun h => by rw [fw4 (fun e => h (by rw [e]; unfold sgm; rw [if_neg (by decide)]; show ((0 % D : Nat) : Int) = 0; rw [Nat.zero_mod]; rfl))]; exact sgm_flag h)
    rw [rK_divide_71_e, if_pos (by decide)]
    have kq : rg_K (rg_wI M3 82 qo 0) qo = 6 := by rw [hU4.1]; exact hqo2
    have k4w : rg_K M4 w = 6 := by rw [hU5.1]; exact hW.1
    simp only [K3, R3, hK2, hq2, hqo2, Option.bind_some, if_true, true_or, and_self, s1, k4w, iw4, v1]
    have hP6 : ∀ y, (y = qo ∨ y = w) → rg_K M2 y = 6 := fun y hy => hy.elim (fun e => by rw [e]; exact hqo2) (fun e => by rw [e]; exact hW.1)
    have hH4 := hU5.H t2
    refine ⟨M5, rfl, v2.H hH4, t3.tr ((hU5.F hP6).tr (v2.F (fun y hy => by rw [hy]; exact k4w))), fun y hy => ?_⟩
    rw [v2.1] at hy
    rw [hDx]
    by_cases c1 : y = w
    · rw [c1, rg_up_eq]; exact ⟨r, nr, v4⟩
    · rw [rg_up_ne c1]
      by_cases c2 : y = qo
      · rw [c2, rg_up_eq]
        exact ⟨rq, nq, v2.W hH4 (fun y hy => by rw [hy]; exact k4w) (Ne.symm hwq) s4⟩
      · rw [rg_up_ne c2]
        rw [hU5.1] at hy
        obtain ⟨b, n', hb⟩ := hV2 y hy
        exact ⟨b, n', v2.W hH4 (fun y hy => by rw [hy]; exact k4w) c1 (hU5.W t2 hP6 (fun h => h.elim c2 c1) hb)⟩
  · have e1 : nI n - nI nb + (1 : Int32) = nI (n + 1) - nI nb := by
      rw [Int32.sub_eq_add_neg, Int32.sub_eq_add_neg, Int32.add_assoc, Int32.add_comm (-_), ← Int32.add_assoc, nI_1]
    rw [e1, if_neg (by rw [Int32.lt_iff_toInt_lt, pk_sub_toInt (by omega) (by omega)]; show ¬ (0 : Int) < _; omega), rK_divide_24_e, if_pos hK, hq]
    simp only [Option.bind_some, hqo, if_true]
    obtain ⟨M', c1, c2, c3⟩ := cw_clear hH hV hqo
    rw [c1]
    have hlt : (V w).natAbs < (V x).natAbs := by
      have := cwW_cl hW0
      unfold cL at this
      have h2 := cV_top hX0.2.2.2.2.2.2.2.1 hnb
      rw [← hX0.2.2.2.2.2.2.2.2] at h2
      exact Nat.lt_of_lt_of_le this (Nat.le_trans (Nat.pow_le_pow_right (by decide) (by omega)) h2)
    refine ⟨M', rfl, ?_⟩
    rw [Nat.div_eq_of_lt hlt, Nat.mod_eq_of_lt hlt, sgm_id]
    have : va_up (va_up V qo ((0 : Nat) : Int)) w (V w) = va_up V qo 0 := rg_up_id (rg_up_ne hwq)
    rw [this]; exact c3
/-- the Reckoner's own numbers: 64 common, 65 quotient, 66 rest, 67 greater, 68 lesser, 69 shared, 70 left, 71 right, 72 first, 73 second, 74 scale -/
def cRk (rk : Nat) (c : Nat → Nat) (jf : Nat) (M : rg_M) : Prop := rk < rg_sz M ∧ rg_K M rk = 5 ∧ (∀ i, i < 11 → rg_R M (64 + i) rk = some (c i) ∧ rg_K M (c i) = 6) ∧ (∀ i j, i < 11 → j < 11 → c i = c j → i = j) ∧ rg_R M 75 rk = some jf ∧ jf < rg_sz M ∧ rg_K M jf = 10 ∧ 4 ≤ rg_L M jf
theorem cRk.F {rk : Nat} {c : Nat → Nat} {jf : Nat} {M M' : rg_M} (h : cRk rk c jf M) (hF : cF M M') : cRk rk c jf M' := by
  obtain ⟨h1, h2, h3, h4, h5, h6, h7, h8⟩ := h
  have hs := hF.1
  have hR : ∀ f a, f ≠ 80 → rg_R M' f a = rg_R M f a := hF.2.2.2.2.1
  refine ⟨by omega, by rw [hF.K h1]; exact h2, fun i hi => ⟨by rw [hR _ _ (by omega)]; exact (h3 i hi).1, (hF.K6 _).mpr (h3 i hi).2⟩, h4, by rw [hR _ _ (by decide)]; exact h5, by omega, by rw [hF.K h6]; exact h7, by rw [hF.2.2.1 _ h6]; exact h8⟩
/-- an exact quotient -/
theorem cw_divideOut (hH : cH u z M) (hV : cvV M V) {rk jf : Nat} {c : Nat → Nat} (hR : cRk rk c jf M) {a b o : Nat} (ha : rg_K M a = 6) (hb : rg_K M b = 6) (ho : rg_K M o = 6) (hoa : o ≠ a) (hob : o ≠ b) (ha1 : a ≠ c 1) (ha2 : a ≠ c 2) (hb1 : b ≠ c 1) (hb2 : b ≠ c 2) (ho1 : o ≠ c 1) (ho2 : o ≠ c 2) (hpos : 0 < V b) (hd : V b ∣ V a) (hl : cL (V a) 866) : ∃ V' M', rK_divideOut rk a b o M = some M' ∧ cP u z M V' M' ∧ V' o = V a / V b ∧ ∀ y, y ≠ o → y ≠ c 1 → y ≠ c 2 → V' y = V y := by
  obtain ⟨rb, nb, hB⟩ := hV b hb
  have hnb : nb ≤ 1300 := Nat.le_trans hB.2.2.2.1 (hH.L hb hB.2.1).2.2.2
  obtain ⟨q1, q1k⟩ := hR.2.2.1 1 (by decide)
  obtain ⟨q2, q2k⟩ := hR.2.2.1 2 (by decide)
  have hc12 : c 2 ≠ c 1 := fun e => absurd (hR.2.2.2.1 2 1 (by decide) (by decide) e) (by decide)
  rw [rK_divideOut_u, rK_divideOut_e, if_pos hb, cw_isOne hB (by omega)]
  simp only [Option.bind_some]
  by_cases h1 : (V b).natAbs = 1
  · rw [if_pos h1, if_neg (by decide), if_pos ho]
    obtain ⟨M1, t1, t2⟩ := cw_copy hH hV ho ha (Ne.symm hoa) hl
    rw [t1]
    refine ⟨_, M1, rfl, t2, ?_, fun y hy _ _ => rg_up_ne hy⟩
    rw [rg_up_eq, show V b = 1 by omega, Int.ediv_one]
  · rw [if_neg h1, if_pos rfl, if_pos hR.2.1, q2]
    simp only [Option.bind_some, q2k, if_true]
    obtain ⟨M1, t1, t2, t3, t4⟩ := cw_copy hH hV q2k ha ha2 hl
    rw [t1]
    have hR1 := hR.F t3
    obtain ⟨p1, p1k⟩ := hR1.2.2.1 1 (by decide)
    obtain ⟨p2, p2k⟩ := hR1.2.2.1 2 (by decide)
    simp only [Option.bind_some, hR1.2.1, if_true, p2]
    have e2 : va_up V (c 2) (V a) (c 2) = V a := rg_up_eq
    have eb : va_up V (c 2) (V a) b = V b := rg_up_ne hb2
    obtain ⟨M2, u1, u2, u3, u4⟩ := cw_divide t2 t4 (rk := rk) (qo := c 1) (w := c 2) (x := b) hR1.2.1 hR1.1 p1 p1k p2k ((t3.K6 b).mpr hb) (Ne.symm hb2) hc12 hb1 (by rw [eb]; omega) (by rw [e2]; exact hl)
    rw [u1]
    have hR2 := hR1.F u3
    obtain ⟨o1, o1k⟩ := hR2.2.2.1 1 (by decide)
    have ha2' : rg_K M2 a = 6 := (u3.K6 a).mpr ((t3.K6 a).mpr ha)
    have ho2' : rg_K M2 o = 6 := (u3.K6 o).mpr ((t3.K6 o).mpr ho)
    simp only [Option.bind_some, ha2', hR2.2.1, if_true, o1, ho2']
    rw [e2, eb] at u4
    obtain ⟨V2, hV2⟩ : ∃ V2, V2 = va_up (va_up (va_up V (c 2) (V a)) (c 1) (((V a).natAbs / (V b).natAbs : Nat) : Int)) (c 2) (sgm (V a) ((V a).natAbs % (V b).natAbs)) := ⟨_, rfl⟩
    rw [← hV2] at u4
    have ea : V2 a = V a := by rw [hV2, rg_up_ne ha2, rg_up_ne ha1, rg_up_ne ha2]
    have e1 : V2 (c 1) = (((V a).natAbs / (V b).natAbs : Nat) : Int) := by rw [hV2, rg_up_ne (Ne.symm hc12), rg_up_eq]
    obtain ⟨ra, na, hA2⟩ := u4 a ha2'
    have fa := hA2.2.2.2.2.2.1
    rw [ea] at fa
    have hql : cL (V2 (c 1)) 866 := by
      rw [e1]
      unfold cL at *
      exact Nat.lt_of_le_of_lt (Nat.div_le_self _ _) hl
    obtain ⟨M3, w1, w2, w3, w4⟩ := cw_copy u2 u4 (w := o) (x := c 1) ho2' o1k (Ne.symm ho1) hql
    rw [w1]
    have ho3 : rg_K M3 o = 6 := (w3.K6 o).mpr ho2'
    simp only [Option.bind_some, ho3]
    rw [if_pos ⟨trivial, fa.1⟩]
    have hU : cU (fun x => x = o) M3 (rg_wI M3 82 o (rg_I M2 82 a)) := cU_wI M3 o 82 _ (Or.inr rfl)
    obtain ⟨ro, no, hO⟩ := w4 o ho3
    rw [rg_up_eq, e1] at hO
    have hval : (V a / V b).natAbs = (V a).natAbs / (V b).natAbs := by
      obtain ⟨y, hy⟩ := hd
      rw [hy, Int.mul_ediv_cancel_left _ (by omega), Int.natAbs_mul, Nat.mul_div_cancel_left _ (by omega)]
    have hsg : (V a / V b) < 0 ↔ V a < 0 := by
      obtain ⟨y, hy⟩ := hd
      rw [hy, Int.mul_ediv_cancel_left _ (by omega)]
      constructor
      · intro h; exact Int.mul_neg_of_pos_of_neg hpos h
      · intro h
        rcases (show y < 0 ∨ 0 ≤ y by omega) with e | e
        · exact e
        · have := Int.mul_nonneg (Int.le_of_lt hpos) e; omega
    have hP := cP.of w2 w4 hU ho3 (v := V a / V b) ⟨ro, no, hO.1, hO.2.1, hO.2.2.1, hO.2.2.2.1, by rw [cw_IIn (Or.inl (by decide))]; exact hO.2.2.2.2.1, by rw [cw_II]; exact ⟨fa.1, fun h => by rw [fa.2 (fun e => h (by rw [e, Int.zero_ediv]))]; exact (rg_ip hsg).symm⟩, hO.2.2.2.2.2.2.1, hO.2.2.2.2.2.2.2.1, by rw [hval]; exact hO.2.2.2.2.2.2.2.2⟩
    refine ⟨_, _, rfl, ⟨hP.1, t3.tr (u3.tr (w3.tr hP.2.1)), hP.2.2⟩, rg_up_eq, fun y y1 y2 y3 => ?_⟩
    rw [rg_up_ne y1, rg_up_ne y1, hV2, rg_up_ne y3, rg_up_ne y2, rg_up_ne y3]
end

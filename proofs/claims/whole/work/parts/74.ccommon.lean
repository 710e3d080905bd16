/-! combine and findCommon -/
theorem sc_exact {t : Nat → Int} {N v : Nat} (h : dz t N = (v : Int)) (hv : v < wB ^ N) : ds wB (scO t 0) N = v := by
  have hs := sc_sum t 0 N
  have hBm : (2147483648 : Int) ^ N = ((wB ^ N : Nat) : Int) := by rw [Int.natCast_pow]; rfl
  rw [h, ← dz_ds, Int.zero_add, hBm] at hs
  have hl : ds wB (scO t 0) N < wB ^ N := ds_lt (fun k _ => scO_lt t 0 k)
  have hc0 : scC t 0 N = 0 := by
    rcases (show scC t 0 N ≤ -1 ∨ scC t 0 N = 0 ∨ 1 ≤ scC t 0 N by omega) with q | q | q
    · have := Int.mul_le_mul_of_nonneg_right q (Int.natCast_nonneg (wB ^ N))
      omega
    · exact q
    · have := Int.mul_le_mul_of_nonneg_right q (Int.natCast_nonneg (wB ^ N))
      omega
  rw [hc0] at hs
  omega
theorem cr_w2 {M : rg_M} {r q i : Nat} {f g : Nat → Int32} {v : Int32} (h : r ≠ q) : rg_wA (cr (cr M r f) q g) r i v = cr (cr M r (upd f i v)) q g := by
  have e : rg_wA (cr (cr M r f) q g) r i v = cr (cr (cr M r f) q g) r (upd f i v) := by
    have := cr_w (cr (cr M r f) q g) r (rg_A (cr (cr M r f) q g) r) i v
    rw [cr_id] at this
    rw [this, cr_An h, cr_A]
  rw [e, cr_comm h]
def cbt (f g : Nat → Int32) (n : Nat) (a b : Int) (i : Nat) : Int := a * (rm_u (f i) : Int) + b * (if i < n then (rm_u (g i) : Int) else 0)
section
variable {u z : Nat} {M : rg_M} {V : Nat → Int}
theorem cbt_rng {f g : Nat → Int32} {n i : Nat} {a b : Int} (hf : rm_u (f i) < wB) (hg : i < n → rm_u (g i) < wB) (ha : a.natAbs ≤ 1073741824) (hb : b.natAbs ≤ 1073741824) (hs : (0 ≤ a ∧ b ≤ 0) ∨ (a ≤ 0 ∧ 0 ≤ b)) : (-1073741824) * 2147483647 ≤ cbt f g n a b i ∧ cbt f g n a b i ≤ 1073741824 * 2147483647 + 2147483647 := by
  unfold cbt
  have hf' : rm_u (f i) < 2147483648 := hf
  have hG : ∃ G : Int, G = (if i < n then (rm_u (g i) : Int) else 0) ∧ 0 ≤ G ∧ G ≤ 2147483647 := by
    refine ⟨_, rfl, ?_⟩
    by_cases c : i < n
    · have hg' : rm_u (g i) < 2147483648 := hg c
      rw [if_pos c]; omega
    · rw [if_neg c]; omega
  obtain ⟨G, h1, h2, h3⟩ := hG
  rw [← h1]
  have hF2 : (0 : Int) ≤ (rm_u (f i) : Int) ∧ (rm_u (f i) : Int) ≤ 2147483647 := by omega
  generalize (rm_u (f i) : Int) = F at hF2
  rcases hs with ⟨p1, p2⟩ | ⟨p1, p2⟩
  · have m1 := Int.mul_nonneg p1 hF2.1
    have m2 : a * F ≤ 1073741824 * 2147483647 := Int.mul_le_mul (by omega) hF2.2 hF2.1 (by omega)
    have m3 : (-b) * G ≤ 1073741824 * 2147483647 := Int.mul_le_mul (by omega) h3 h2 (by omega)
    have m4 := Int.mul_nonneg (show 0 ≤ -b by omega) h2
    rw [Int.neg_mul] at m3 m4
    omega
  · have m1 := Int.mul_nonneg p2 h2
    have m2 : b * G ≤ 1073741824 * 2147483647 := Int.mul_le_mul (by omega) h3 h2 (by omega)
    have m3 : (-a) * F ≤ 1073741824 * 2147483647 := Int.mul_le_mul (by omega) hF2.2 hF2.1 (by omega)
    have m4 := Int.mul_nonneg (show 0 ≤ -a by omega) hF2.1
    rw [Int.neg_mul] at m3 m4
    omega
theorem cw_cb52 {w x r rx n nx : Nat} {a b c d : Int} (hN : cwN M w r n) (hX : cwN M x rx nx) (hn : n ≤ 1300) (hnx : nx ≤ 1300) (hL : n ≤ rg_L M rx) (hrr : r ≠ rx) (hb : lhb a b c d) (hs : (0 ≤ a ∧ b ≤ 0 ∧ c ≤ 0 ∧ 0 ≤ d) ∨ (a ≤ 0 ∧ 0 ≤ b ∧ 0 ≤ c ∧ d ≤ 0)) : ∀ k i : Nat, n - i = k → i ≤ n → rK_combine_52 w x (iL a) (iL b) (iL c) (iL d) (nI n) (iL (scC (cbt (rg_A M r) (rg_A M rx) nx a b) 0 i)) (iL (scC (cbt (rg_A M r) (rg_A M rx) nx c d) 0 i)) (nI i) (cr (cr M r (fb_put (rg_A M r) (fun j => nI (scO (cbt (rg_A M r) (rg_A M rx) nx a b) 0 j)) 0 i)) rx (fb_put (rg_A M rx) (fun j => nI (scO (cbt (rg_A M r) (rg_A M rx) nx c d) 0 j)) 0 i)) = rK_combine_52 w x (iL a) (iL b) (iL c) (iL d) (nI n) (iL (scC (cbt (rg_A M r) (rg_A M rx) nx a b) 0 n)) (iL (scC (cbt (rg_A M r) (rg_A M rx) nx c d) 0 n)) (nI n) (cr (cr M r (fb_put (rg_A M r) (fun j => nI (scO (cbt (rg_A M r) (rg_A M rx) nx a b) 0 j)) 0 n)) rx (fb_put (rg_A M rx) (fun j => nI (scO (cbt (rg_A M r) (rg_A M rx) nx c d) 0 j)) 0 n)) := by
  obtain ⟨a1, a2, a3, a4, a5, a6⟩ := hN
  obtain ⟨b1, b2, b3, b4, b5, b6⟩ := hX
  obtain ⟨h1, h2, h3, h4⟩ := hb
  have hT1 : ∀ k, k < n → _ := fun k hk => cbt_rng (f := rg_A M r) (g := rg_A M rx) (n := nx) (i := k) (a := a) (b := b) (a6 k hk) (b6 k) h1 h2 (by omega)
  have hT2 : ∀ k, k < n → _ := fun k hk => cbt_rng (f := rg_A M r) (g := rg_A M rx) (n := nx) (i := k) (a := c) (b := d) (a6 k hk) (b6 k) h3 h4 (by omega)
  obtain ⟨t, ht⟩ : ∃ t, t = cbt (rg_A M r) (rg_A M rx) nx a b := ⟨_, rfl⟩
  obtain ⟨t', ht'⟩ : ∃ t', t' = cbt (rg_A M r) (rg_A M rx) nx c d := ⟨_, rfl⟩
  rw [← ht] at hT1 ⊢
  rw [← ht'] at hT2 ⊢
  intro k
  induction k with
  | zero => intro i hd hi; rw [show i = n by omega]
  | succ k ih =>
    intro i hd hi
    have hi2 : i < n := by omega
    have p : ¬ nI n ≤ nI i := by rw [nI_leI (by omega) (by omega)]; omega
    have k1 := nI_clamp (n := i) (by omega)
    have k2 := rm_i0 (a := i) (by omega)
    have k3 : i < rg_L M r := by omega
    have k4 : i < rg_L M rx := by omega
    have r1 := sc_rng (t := t) (c := 0) (lo := -1073741824) (hi := 1073741824) (by omega) (by omega) (n := i) (fun k hk => hT1 k (by omega))
    have r2 := sc_rng (t := t') (c := 0) (lo := -1073741824) (hi := 1073741824) (by omega) (by omega) (n := i) (fun k hk => hT2 k (by omega))
    have q1 := hT1 i hi2
    have q2 := hT2 i hi2
    have e := fb_put_succ (rg_A M r) (fun j => nI (scO t 0 j)) 0 i
    have e' := fb_put_succ (rg_A M rx) (fun j => nI (scO t' 0 j)) 0 i
    rw [Nat.zero_add] at e e'
    have gi : fb_put (rg_A M r) (fun j => nI (scO t 0 j)) 0 i i = rg_A M r i := fb_put_out (Or.inr (by omega))
    have gi' : fb_put (rg_A M rx) (fun j => nI (scO t' 0 j)) 0 i i = rg_A M rx i := fb_put_out (Or.inr (by omega))
    have e90 : ∀ G : Int, G = (if i < nx then (rm_u (rg_A M rx i) : Int) else 0) → rK_combine_90 w x (iL a) (iL b) (iL c) (iL d) (nI n) (iL (scC t 0 i)) (iL (scC t' 0 i)) (nI i) (iL (rm_u (rg_A M r i) : Int)) (iL G) (cr (cr M r (fb_put (rg_A M r) (fun j => nI (scO t 0 j)) 0 i)) rx (fb_put (rg_A M rx) (fun j => nI (scO t' 0 j)) 0 i)) = rK_combine_52 w x (iL a) (iL b) (iL c) (iL d) (nI n) (iL (scC t 0 (i + 1))) (iL (scC t' 0 (i + 1))) (nI (i + 1)) (cr (cr M r (fb_put (rg_A M r) (fun j => nI (scO t 0 j)) 0 (i + 1))) rx (fb_put (rg_A M rx) (fun j => nI (scO t' 0 j)) 0 (i + 1))) := by
      intro G hG
      have g1 : a * (rm_u (rg_A M r i) : Int) + b * G = t i := by rw [ht, hG]; rfl
      have g2 : c * (rm_u (rg_A M r i) : Int) + d * G = t' i := by rw [ht', hG]; rfl
      rw [rK_combine_90_e]
      simp only [cr_K, cr_R, cr_L, a1, a2, a3, b1, b2, b3, Option.bind_some, if_true, k1, k2, k3, k4, and_self, iL_mul, iL_add, g1, g2, nI_1]
      rw [cr_w2 hrr, cr_w, iL_shr (by omega) (by omega), iL_shr (by omega) (by omega), iL_and, iL_and, ← e, ← e']
      rfl
    rw [← ih (i + 1) (by omega) (by omega), rK_combine_52_e, if_neg p]
    simp only [cr_K, cr_R, cr_L, cr_I, a1, a2, a3, b1, b2, b3, b5, Option.bind_some, if_true, k1, k2, k3, k4, and_self, cr_A, cr_An hrr, gi, gi', iL_u (a6 i hi2)]
    by_cases h : i < nx
    · rw [if_neg (by rw [nI_leI (by omega) (by omega)]; omega), iL_u (b6 i h)]
      exact e90 _ (by rw [if_pos h])
    · rw [if_pos (by rw [nI_leI (by omega) (by omega)]; omega), iL_0]
      exact e90 0 (by rw [if_neg h])
theorem cw_combine (hH : cH u z M) (hV : cvV M V) {rk jf w x : Nat} {c : Nat → Nat} (hR : cRk rk c jf M) (hw : rg_K M w = 6) (hx : rg_K M x = 6) (hwx : w ≠ x) (hl : cL (V w) 866) (hff : ffo jf M (V w).natAbs (V x).natAbs) (hle : (V x).natAbs ≤ (V w).natAbs) (hx0 : V x ≠ 0) : ∃ (U W : Nat) (M' : rg_M), rK_combine rk w x M = some M' ∧ cP u z M (va_up (va_up V w (sgm (V w) U)) x (sgm (V x) W)) M' ∧ W ≤ U ∧ U ≤ (V w).natAbs ∧ Nat.gcd U W = Nat.gcd (V w).natAbs (V x).natAbs ∧ 2 * (U * W) ≤ (V w).natAbs * (V x).natAbs := by
  obtain ⟨a, b, cc, d, j1, j2, j3, j4, hb, hs, g1, g2, g3, g4, g5⟩ := hff
  obtain ⟨r0, n, hW0⟩ := hV w hw
  obtain ⟨rx0, nx, hX0⟩ := hV x hx
  have hn := hW0.len hl
  have hnx : nx ≤ n := hX0.len (k := n) (by
    have := cwW_cl hW0
    unfold cL at *
    omega)
  obtain ⟨M1, t1, t2, t3, t4, ⟨rx', t5, t6⟩, t7⟩ := cw_room hH hx (k := n) (by omega)
  obtain ⟨r, hW⟩ := t7 w r0 n _ hW0
  obtain ⟨rx, hX⟩ := t7 x rx0 nx _ hX0
  have hrx : rx' = rx := by have := hX.2.1; rw [t5] at this; cases this; rfl
  subst hrx
  have hrr : r ≠ rx' := fun e => hwx (t2.2.1 w x r hW.1 hX.1 hW.2.1 (by rw [e]; exact t5))
  have hV1 : cvV M1 V := fun y hy => by
    obtain ⟨q1, q2, q3⟩ := hV y ((t3.K6 y).mp hy)
    obtain ⟨q4, q5⟩ := t7 y q1 q2 _ q3
    exact ⟨q4, q2, q5⟩
  have hLw := t2.L hW.1 hW.2.1
  have hLx := t2.L hX.1 t5
  have h52 := cw_cb52 hW.N hX.N (by omega) (by omega) t6 hrr hb hs n 0 rfl (Nat.zero_le _)
  rw [fb_put_0, fb_put_0, cr_id, cr_id] at h52
  have h52 : rK_combine_52 w x (iL a) (iL b) (iL cc) (iL d) (nI n) 0 0 0 M1 = _ := h52
  obtain ⟨t, ht⟩ : ∃ t, t = cbt (rg_A M1 r) (rg_A M1 rx') nx a b := ⟨_, rfl⟩
  obtain ⟨t', ht'⟩ : ∃ t', t' = cbt (rg_A M1 r) (rg_A M1 rx') nx cc d := ⟨_, rfl⟩
  rw [← ht, ← ht'] at h52
  have vw : (V w).natAbs = cV (rg_A M1 r) n := hW.2.2.2.2.2.2.2.2
  have vx : (V x).natAbs = cV (rg_A M1 rx') nx := hX.2.2.2.2.2.2.2.2
  have hdz : ∀ p q : Int, dz (cbt (rg_A M1 r) (rg_A M1 rx') nx p q) n = p * ((V w).natAbs : Int) + q * ((V x).natAbs : Int) := by
    intro p q
    have e1 : dz (cbt (rg_A M1 r) (rg_A M1 rx') nx p q) n = dz (fun i => p * (rm_u (rg_A M1 r i) : Int) + q * (if i < nx then (rm_u (rg_A M1 rx' i) : Int) else 0)) n := rfl
    rw [e1, dz_add, dz_mul, dz_mul, dz_cut _ hnx, ← dz_ds, vw, vx]
    rfl
  obtain ⟨U, hU⟩ : ∃ U : Nat, (U : Int) = a * ((V w).natAbs : Int) + b * ((V x).natAbs : Int) := ⟨(a * ((V w).natAbs : Int) + b * ((V x).natAbs : Int)).toNat, by omega⟩
  obtain ⟨W, hWv⟩ : ∃ W : Nat, (W : Int) = cc * ((V w).natAbs : Int) + d * ((V x).natAbs : Int) := ⟨(cc * ((V w).natAbs : Int) + d * ((V x).natAbs : Int)).toNat, by omega⟩
  rw [← hU, ← hWv] at g2 g4 g5
  rw [← hU] at g3
  have hwB : (V w).natAbs < wB ^ n := cwW_cl hW
  have dU : ds wB (scO t 0) n = U := sc_exact (by rw [ht, hdz, hU]) (by omega)
  have dW : ds wB (scO t' 0) n = W := sc_exact (by rw [ht', hdz, hWv]) (by omega)
  obtain ⟨F, hF⟩ : ∃ F, F = fb_put (rg_A M1 r) (fun j => nI (scO t 0 j)) 0 n := ⟨_, rfl⟩
  obtain ⟨G, hG⟩ : ∃ G, G = fb_put (rg_A M1 rx') (fun j => nI (scO t' 0 j)) 0 n := ⟨_, rfl⟩
  rw [← hF, ← hG] at h52
  have fF : ∀ j, j < n → rm_u (F j) = scO t 0 j := fun j hj => by
    have := scO_lt t 0 j
    rw [hF, fb_put_in (Nat.zero_le _) (by omega)]
    show rm_u (nI (scO t 0 j)) = _
    rw [rm_u_nI]; omega
  have fG : ∀ j, j < n → rm_u (G j) = scO t' 0 j := fun j hj => by
    have := scO_lt t' 0 j
    rw [hG, fb_put_in (Nat.zero_le _) (by omega)]
    show rm_u (nI (scO t' 0 j)) = _
    rw [rm_u_nI]; omega
  have cF' : cV F n = U := by rw [← dU]; exact ds_cong fF
  have cG' : cV G n = W := by rw [← dW]; exact ds_cong fG
  obtain ⟨M2, hM2⟩ : ∃ M2, M2 = cr (cr M1 r F) rx' G := ⟨_, rfl⟩
  rw [← hM2] at h52
  have hU2 : cU (fun y => y = w ∨ y = x) M1 M2 := by
    rw [hM2]
    exact ((cU_cr F hW.2.1).mono (fun y h => Or.inl h)).tr ((cU_cr (M := cr M1 r F) G t5).mono (fun y h => Or.inr h))
  have a2r : rg_A M2 r = F := by rw [hM2, cr_An hrr, cr_A]
  have a2x : rg_A M2 rx' = G := by rw [hM2, cr_A]
  have I2 : rg_I M2 = rg_I M1 := by rw [hM2]; rfl
  obtain ⟨M3, s1, s2, s2a, nq, s3, s4⟩ := cw_settle (M := M2) (w := w) (b := r) (k := n) (v := sgm (V w) U) (by rw [hU2.1]; exact hW.1) (by rw [hU2.2.2.1]; exact hW.2.1) (by rw [hU2.1]; exact hW.2.2.1) (by rw [hU2.2.1]; omega) (by rw [hU2.2.1]; exact hW.2.2.2.1) (fun j hj => by rw [a2r, fF j hj]; exact scO_lt t 0 j) (by rw [sgm_abs, a2r, cF']) (fun h => by rw [I2, hW.2.2.2.2.2.1.2 (by omega)]; exact sgm_flag h)
  have hU3 : cU (fun y => y = w ∨ y = x) M1 M3 := hU2.tr (s2.mono (fun y h => Or.inl h))
  have fx3 : rg_I M3 82 x = if V x < 0 then 1 else 0 := by
    rw [s2.2.2.2.2.2.2.1 _ _ (Or.inr (Ne.symm hwx)), I2]; exact hX.2.2.2.2.2.1.2 hx0
  obtain ⟨M4, v1, v2, v2a, nr, v3, v4⟩ := cw_settle (M := M3) (w := x) (b := rx') (k := n) (v := sgm (V x) W) (by rw [hU3.1]; exact hX.1) (by rw [hU3.2.2.1]; exact t5) (by rw [hU3.1]; exact hLx.2.1) (by rw [hU3.2.1]; omega) (by rw [hU3.2.1]; exact t6) (fun j hj => by rw [s2a, a2x, fG j hj]; exact scO_lt t' 0 j) (by rw [sgm_abs, s2a, a2x, cG']) (fun h => by rw [fx3]; exact sgm_flag h)
  have k2w : rg_K M2 w = 6 := by rw [hU2.1]; exact hW.1
  have k3x : rg_K M3 x = 6 := by rw [hU3.1]; exact hX.1
  have hrun : rK_combine rk w x M = some M4 := by
    obtain ⟨-, q1, -, -, q2, q3, q4, q5⟩ := hR
    have z0 : (0 : Int32).toNatClampNeg < rg_L M jf := by show 0 < _; omega
    have z1 : (1 : Int32).toNatClampNeg < rg_L M jf := by show 1 < _; omega
    have z2 : (2 : Int32).toNatClampNeg < rg_L M jf := by show 2 < _; omega
    have z3 : (3 : Int32).toNatClampNeg < rg_L M jf := by show 3 < _; omega
    have y0 : (0 : Int32) ≤ 0 := by decide
    have y1 : (0 : Int32) ≤ 1 := by decide
    have y2 : (0 : Int32) ≤ 2 := by decide
    have y3 : (0 : Int32) ≤ 3 := by decide
    have j1 : rg_J M jf (0 : Int32).toNatClampNeg = iL a := j1
    have j2 : rg_J M jf (1 : Int32).toNatClampNeg = iL b := j2
    have j3 : rg_J M jf (2 : Int32).toNatClampNeg = iL cc := j3
    have j4 : rg_J M jf (3 : Int32).toNatClampNeg = iL d := j4
    have iw : rg_I M 81 w = nI n := hW0.2.2.2.2.1
    rw [rK_combine_u, rK_combine_e]
    simp only [q1, q2, q4, Option.bind_some, if_true, z0, z1, z2, z3, y0, y1, y2, y3, and_self, hw, hx, iw, t1, j1, j2, j3, j4, h52]
    rw [rK_combine_52_e, if_pos (Int32.le_refl _)]
    simp only [k2w, if_true, s1, Option.bind_some, k3x, v1]
    rfl
  have hP6 : ∀ y, (y = w ∨ y = x) → rg_K M1 y = 6 := fun y hy => hy.elim (fun e => by rw [e]; exact hW.1) (fun e => by rw [e]; exact hX.1)
  have hH3 := hU3.H t2
  refine ⟨U, W, M4, hrun, ⟨v2.H hH3, t3.tr ((hU3.F hP6).tr (v2.F (fun y hy => by rw [hy]; exact k3x))), fun y hy => ?_⟩, by omega, by omega, ?_, ?_⟩
  · rw [v2.1] at hy
    by_cases c1 : y = x
    · rw [c1, rg_up_eq]; exact ⟨rx', nr, v4⟩
    · rw [rg_up_ne c1]
      by_cases c2 : y = w
      · rw [c2, rg_up_eq]
        exact ⟨r, nq, v2.W hH3 (fun y hy => by rw [hy]; exact k3x) hwx s4⟩
      · rw [rg_up_ne c2]
        rw [hU3.1] at hy
        obtain ⟨q, n', hq⟩ := hV1 y hy
        exact ⟨q, n', v2.W hH3 (fun y hy => by rw [hy]; exact k3x) c1 (hU3.W t2 hP6 (fun h => h.elim c2 c1) hq)⟩
  · have : Int.gcd (U : Int) (W : Int) = Int.gcd ((V w).natAbs : Int) ((V x).natAbs : Int) := g4
    exact this
  · rw [← Int.natCast_mul, ← Int.natCast_mul] at g5
    omega
end

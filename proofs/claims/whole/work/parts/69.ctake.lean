/-! leading words; taking away and putting back -/
theorem kz_sh3 {y e s : Nat} (h : y < wB ^ e) (hs : s ≤ 30) : kz y e / 2 ^ (31 - s) = (kw y e 1 * wB + kw y e 2) * 2 ^ s + kw y e 3 / 2 ^ (31 - s) := by
  have hp : 2 ^ (31 - s) * 2 ^ s = wB := by rw [← Nat.pow_add, show 31 - s + s = 31 by omega]
  have hq : 0 < 2 ^ (31 - s) := Nat.pow_pos (by decide)
  rw [kz_eq (Nat.lt_of_lt_of_le h (Nat.pow_le_pow_right (by decide) (Nat.le_succ e))), kw_0 h]
  generalize kw y e 1 = b
  generalize kw y e 2 = c
  generalize kw y e 3 = d
  have e1 : 0 * wB ^ 3 + b * wB ^ 2 + c * wB + d = d + 2 ^ (31 - s) * ((b * wB + c) * 2 ^ s) := by
    rw [Nat.mul_comm (b * wB + c), ← Nat.mul_assoc, hp, Nat.zero_mul, Nat.zero_add, show wB ^ 2 = wB * wB from Nat.pow_two wB, Nat.mul_add, Nat.add_comm d]
    congr 1
    congr 1
    · ac_rfl
    · ac_rfl
  rw [e1, Nat.add_mul_div_left _ _ hq, Nat.add_comm]
section
variable {M : rg_M}
theorem cw_leading {w r n e s : Nat} (hN : cwN M w r n) (hn : n ≤ 1300) (he : e ≤ 1300) (hs : s ≤ 30) (hy : cV (rg_A M r) n * 2 ^ s < wB ^ e) : rK_leading w (nI e) (nI s) M = some (lN (kz (cV (rg_A M r) n) e / 2 ^ (31 - s)), M) := by
  obtain ⟨a1, a2, a3, a4, a5, a6⟩ := hN
  have hN : cwN M w r n := ⟨a1, a2, a3, a4, a5, a6⟩
  obtain ⟨y, hyd⟩ : ∃ y, y = cV (rg_A M r) n := ⟨_, rfl⟩
  rw [← hyd] at hy ⊢
  have hps : 0 < 2 ^ s := Nat.pow_pos (by decide)
  have hye : y < wB ^ e := Nat.lt_of_le_of_lt (Nat.le_mul_of_pos_right _ hps) hy
  have hp : 2 ^ (31 - s) * 2 ^ s = wB := by rw [← Nat.pow_add, show 31 - s + s = 31 by omega]
  have hq2 : 0 < 2 ^ (31 - s) := Nat.pow_pos (by decide)
  have hsh := kz_sh3 hye hs
  have hlt : kz y e / 2 ^ (31 - s) < 4611686018427387904 := by
    unfold kz
    rw [Nat.div_div_eq_div_mul, Nat.div_lt_iff_lt_mul (Nat.mul_pos (Nat.pow_pos (by decide)) hq2)]
    have h1 : y * wB ^ 3 * 2 ^ s < wB ^ e * wB ^ 3 := by
      calc y * wB ^ 3 * 2 ^ s = y * 2 ^ s * wB ^ 3 := by ac_rfl
        _ < wB ^ e * wB ^ 3 := Nat.mul_lt_mul_of_pos_right hy (Nat.pow_pos (by decide))
    have h2 : 4611686018427387904 * (wB ^ e * 2 ^ (31 - s)) * 2 ^ s = wB ^ e * wB ^ 3 := by
      rw [Nat.mul_assoc, Nat.mul_assoc, hp, show (4611686018427387904 : Nat) = wB ^ 2 by decide, Nat.pow_succ wB 2]
      ac_rfl
    rw [← h2] at h1
    exact Nat.lt_of_mul_lt_mul_right h1
  obtain ⟨n1, e1⟩ : ∃ x, x = kw y e 1 := ⟨_, rfl⟩
  obtain ⟨n2, e2⟩ : ∃ x, x = kw y e 2 := ⟨_, rfl⟩
  obtain ⟨n3, e3⟩ : ∃ x, x = kw y e 3 := ⟨_, rfl⟩
  rw [← e1, ← e2, ← e3] at hsh
  have l1 : n1 < 2147483648 := by rw [e1]; exact kw_lt _ _ _
  have l2 : n2 < 2147483648 := by rw [e2]; exact kw_lt _ _ _
  have l3 : n3 < 2147483648 := by rw [e3]; exact kw_lt _ _ _
  rw [hsh] at hlt ⊢
  have m3 : n3 / 2 ^ (31 - s) < 2 ^ s := by rw [Nat.div_lt_iff_lt_mul hq2, Nat.mul_comm, hp]; exact l3
  have hps2 : 2 ^ s ≤ 1073741824 := Nat.pow_le_pow_right (n := 2) (by decide) hs
  have hs64 : s < 64 := by omega
  have hs65 : 31 - s < 64 := by omega
  have h12 : n1 * 2 ^ 31 + n2 < 4611686018427387904 := by omega
  have h12' : (n1 * 2 ^ 31 + n2) * 2 ^ s < 4611686018427387904 := Nat.lt_of_le_of_lt (Nat.le_add_right _ _) hlt
  have fin : rK_leading_85 (nI s) (lN n1) (lN n2) (lN n3) M = some (some (.long (lN ((n1 * wB + n2) * 2 ^ s + n3 / 2 ^ (31 - s)))), M) := by
    have f1 : lN n1 <<< ((31 : Int32).toInt64 &&& 63) = lN (n1 * 2 ^ 31) := shl_lN n1 (k := 31) (by decide)
    rw [rK_leading_85_e, f1, wb_or (Nat.lt_of_le_of_lt (Nat.le_add_right _ n2) (Nat.lt_trans h12 (by decide))) (Nat.lt_trans l2 (by decide)), wb_or31 l2, shl_lN _ hs64, show (31 : Int32) - nI s = nI (31 - s) from pk_sub (a := 31) (b := s) (by omega), shr_lN (Nat.lt_trans l3 (by decide)) hs65, wb_or (Nat.lt_trans h12' (by decide)) (Nat.lt_of_le_of_lt (Nat.div_le_self _ _) (Nat.lt_trans l3 (by decide))), wb_orS m3]
  have g3 : rK_leading_55 w (nI e) (nI s) (lN n1) (lN n2) M = some (some (.long (lN ((n1 * wB + n2) * 2 ^ s + n3 / 2 ^ (31 - s)))), M) := by
    rw [rK_leading_55_e]
    have z0 : n3 = 0 → rK_leading_84 (nI s) (lN n1) (lN n2) M = some (some (.long (lN ((n1 * wB + n2) * 2 ^ s + n3 / 2 ^ (31 - s)))), M) := fun h => by rw [rK_leading_84_e, ← fin, h]; rfl
    by_cases c : e < 3
    · rw [if_pos (by rw [show (3 : Int32) = nI 3 from rfl, nI_ltI (by omega) (by omega)]; exact c)]
      exact z0 (by rw [e3]; unfold kw; rw [if_neg (by omega)])
    · have en : nI e - (3 : Int32) = nI (e - 3) := pk_sub (a := e) (b := 3) (by omega)
      have en2 : nI e - (2 : Int32) = nI (e - 2) := pk_sub (a := e) (b := 2) (by omega)
      rw [if_neg (by rw [show (3 : Int32) = nI 3 from rfl, nI_ltI (by omega) (by omega)]; exact c), if_pos a1, a5, en2]
      by_cases c2 : n < e - 2
      · rw [if_pos (by rw [nI_ltI (by omega) (by omega)]; exact c2)]
        exact z0 (by rw [e3]; unfold kw; rw [if_pos (by omega), hyd, hN.wd0 (by omega)])
      · have k1 := nI_clamp (n := e - 3) (by omega)
        have k2 := rm_i0 (a := e - 3) (by omega)
        have k3 : e - 3 < rg_L M r := by omega
        have hw : rm_u (rg_A M r (e - 3)) = n3 := by rw [e3]; unfold kw; rw [if_pos (by omega), hyd, hN.wd (by omega)]
        rw [if_neg (by rw [nI_ltI (by omega) (by omega)]; exact c2), if_pos a1, a2]
        simp only [Option.bind_some, en, a3, k1, k2, k3, and_self, if_true, lN_u (a6 (e - 3) (by omega)), hw]
        exact fin
  have g2 : rK_leading_26 w (nI e) (nI s) (lN n1) M = some (some (.long (lN ((n1 * wB + n2) * 2 ^ s + n3 / 2 ^ (31 - s)))), M) := by
    rw [rK_leading_26_e]
    have z0 : n2 = 0 → rK_leading_54 w (nI e) (nI s) (lN n1) M = some (some (.long (lN ((n1 * wB + n2) * 2 ^ s + n3 / 2 ^ (31 - s)))), M) := fun h => by rw [rK_leading_54_e, ← g3, h]; rfl
    by_cases c : e < 2
    · rw [if_pos (by rw [show (2 : Int32) = nI 2 from rfl, nI_ltI (by omega) (by omega)]; exact c)]
      exact z0 (by rw [e2]; unfold kw; rw [if_neg (by omega)])
    · have en : nI e - (2 : Int32) = nI (e - 2) := pk_sub (a := e) (b := 2) (by omega)
      have en2 : nI e - (1 : Int32) = nI (e - 1) := pk_sub (a := e) (b := 1) (by omega)
      rw [if_neg (by rw [show (2 : Int32) = nI 2 from rfl, nI_ltI (by omega) (by omega)]; exact c), if_pos a1, a5, en2]
      by_cases c2 : n < e - 1
      · rw [if_pos (by rw [nI_ltI (by omega) (by omega)]; exact c2)]
        exact z0 (by rw [e2]; unfold kw; rw [if_pos (by omega), hyd, hN.wd0 (by omega)])
      · have k1 := nI_clamp (n := e - 2) (by omega)
        have k2 := rm_i0 (a := e - 2) (by omega)
        have k3 : e - 2 < rg_L M r := by omega
        have hw : rm_u (rg_A M r (e - 2)) = n2 := by rw [e2]; unfold kw; rw [if_pos (by omega), hyd, hN.wd (by omega)]
        rw [if_neg (by rw [nI_ltI (by omega) (by omega)]; exact c2), if_pos a1, a2]
        simp only [Option.bind_some, en, a3, k1, k2, k3, and_self, if_true, lN_u (a6 (e - 2) (by omega)), hw]
        exact g3
  rw [rK_leading_u, rK_leading_e]
  have z0 : n1 = 0 → rK_leading_25 w (nI e) (nI s) M = some (some (.long (lN ((n1 * wB + n2) * 2 ^ s + n3 / 2 ^ (31 - s)))), M) := fun h => by rw [rK_leading_25_e, ← g2, h]; rfl
  by_cases c : e < 1
  · rw [if_pos (by rw [show (1 : Int32) = nI 1 from rfl, nI_ltI (by omega) (by omega)]; exact c), z0 (by rw [e1]; unfold kw; rw [if_neg (by omega)])]; rfl
  · have en : nI e - (1 : Int32) = nI (e - 1) := pk_sub (a := e) (b := 1) (by omega)
    rw [if_neg (by rw [show (1 : Int32) = nI 1 from rfl, nI_ltI (by omega) (by omega)]; exact c), if_pos a1, a5]
    by_cases c2 : n < e
    · rw [if_pos (by rw [nI_ltI (by omega) (by omega)]; exact c2), z0 (by rw [e1]; unfold kw; rw [if_pos (by omega), hyd, hN.wd0 (by omega)])]; rfl
    · have k1 := nI_clamp (n := e - 1) (by omega)
      have k2 := rm_i0 (a := e - 1) (by omega)
      have k3 : e - 1 < rg_L M r := by omega
      have hw : rm_u (rg_A M r (e - 1)) = n1 := by rw [e1]; unfold kw; rw [if_pos (by omega), hyd, hN.wd (by omega)]
      rw [if_neg (by rw [nI_ltI (by omega) (by omega)]; exact c2), if_pos a1, a2]
      simp only [Option.bind_some, en, a3, k1, k2, k3, and_self, if_true, lN_u (a6 (e - 1) (by omega)), hw]
      rw [g2]; rfl
/-- what is taken away -/
def ctt (f fx : Nat → Int32) (at' nb : Nat) (g : Int) (i : Nat) : Int := (rm_u (f (at' + i)) : Int) - (if i < nb then g * (rm_u (fx i) : Int) else 0)
theorem cw_take6 {w x r rx n nb at' g : Nat} (hN : cwN M w r n) (hX : cwN M x rx nb) (hn : n ≤ 1300) (ha : at' + nb ≤ n) (hxr : rx ≠ r) (hg : g ≤ 2147483647) : ∀ d i : Nat, nb - i = d → i ≤ nb → rK_takeAway_6 w x (nI at') (lN g) (iL (scC (ctt (rg_A M r) (rg_A M rx) at' nb g) 0 i)) (nI i) (cr M r (fb_put (rg_A M r) (fun j => nI (scO (ctt (rg_A M r) (rg_A M rx) at' nb g) 0 j)) at' i)) = rK_takeAway_6 w x (nI at') (lN g) (iL (scC (ctt (rg_A M r) (rg_A M rx) at' nb g) 0 nb)) (nI nb) (cr M r (fb_put (rg_A M r) (fun j => nI (scO (ctt (rg_A M r) (rg_A M rx) at' nb g) 0 j)) at' nb)) := by
  obtain ⟨a1, a2, a3, a4, a5, a6⟩ := hN
  obtain ⟨b1, b2, b3, b4, b5, b6⟩ := hX
  have hT : ∀ k, k < nb → (-2147483647) * 2147483647 ≤ ctt (rg_A M r) (rg_A M rx) at' nb g k ∧ ctt (rg_A M r) (rg_A M rx) at' nb g k ≤ 0 * 2147483647 + 2147483647 := by
    intro k hk
    have p1 : rm_u (rg_A M r (at' + k)) < 2147483648 := a6 _ (by omega)
    have p2 : rm_u (rg_A M rx k) < 2147483648 := b6 k hk
    have p3 : g * rm_u (rg_A M rx k) ≤ 2147483647 * 2147483647 := Nat.mul_le_mul hg (by omega)
    unfold ctt
    rw [if_pos hk, ← Int.natCast_mul]
    omega
  obtain ⟨t, ht⟩ : ∃ t, t = ctt (rg_A M r) (rg_A M rx) at' nb g := ⟨_, rfl⟩
  rw [← ht] at hT ⊢
  intro d
  induction d with
  | zero => intro i hd hi; rw [show i = nb by omega]
  | succ d ih =>
    intro i hd hi
    have hi2 : i < nb := by omega
    have p : ¬ nI nb ≤ nI i := by rw [nI_leI (by omega) (by omega)]; omega
    have k1 := nI_clamp (n := i) (by omega)
    have k2 := rm_i0 (a := i) (by omega)
    have k3 : i < rg_L M rx := by omega
    have j1 := nI_clamp (n := at' + i) (by omega)
    have j2 := rm_i0 (a := at' + i) (by omega)
    have j3 : at' + i < rg_L M r := by omega
    have hr := sc_rng (t := t) (c := 0) (lo := -2147483647) (hi := 0) (by omega) (by omega) (n := i) (fun k hk => hT k (by omega))
    have hti := hT i hi2
    have e := fb_put_succ (rg_A M r) (fun j => nI (scO t 0 j)) at' i
    have gi : fb_put (rg_A M r) (fun j => nI (scO t 0 j)) at' i (at' + i) = rg_A M r (at' + i) := fb_put_out (Or.inr (by omega))
    have eti : (rm_u (rg_A M r (at' + i)) : Int) - (g : Int) * (rm_u (rg_A M rx i) : Int) = t i := by rw [ht]; unfold ctt; rw [if_pos hi2]
    rw [← ih (i + 1) (by omega) (by omega), rK_takeAway_6_e]
    simp only [cr_K, cr_R, cr_L, cr_I, a1, a2, a3, b1, b2, b3, b5, Option.bind_some, if_true, p, if_false, nI_add, k1, k2, k3, j1, j2, j3, and_self, cr_w, cr_A, cr_An hxr, gi, iL_u (a6 (at' + i) (by omega)), iL_u (b6 i hi2), iL_n, iL_mul, iL_sub, iL_add, eti, nI_1]
    rw [iL_shr (by omega) (by omega), iL_and, ← e]
    rfl
theorem cw_take {w x r rx n nb at' g m : Nat} (hN : cwN M w r n) (hX : cwN M x rx nb) (hn : n ≤ 1300) (ha : at' + nb ≤ n) (hxr : rx ≠ r) (hg : g ≤ 2147483647) (hm : m = if at' + nb < n then nb + 1 else nb) : rK_takeAway w x (nI at') (lN g) M = some (if 0 ≤ scC (ctt (rg_A M r) (rg_A M rx) at' nb g) 0 m then 0 else 1, cr M r (fb_put (rg_A M r) (fun j => nI (scO (ctt (rg_A M r) (rg_A M rx) at' nb g) 0 j)) at' m)) ∧ -2147483647 ≤ scC (ctt (rg_A M r) (rg_A M rx) at' nb g) 0 m ∧ scC (ctt (rg_A M r) (rg_A M rx) at' nb g) 0 m ≤ 0 := by
  have h6 := cw_take6 hN hX hn ha hxr hg nb 0 rfl (Nat.zero_le _)
  obtain ⟨a1, a2, a3, a4, a5, a6⟩ := hN
  obtain ⟨b1, b2, b3, b4, b5, b6⟩ := hX
  rw [fb_put_0, cr_id] at h6
  have h6 : rK_takeAway_6 w x (nI at') (lN g) 0 0 M = _ := h6
  rw [rK_takeAway_u, rK_takeAway_e, h6]
  have hT : ∀ k, k < m → (-2147483647) * 2147483647 ≤ ctt (rg_A M r) (rg_A M rx) at' nb g k ∧ ctt (rg_A M r) (rg_A M rx) at' nb g k ≤ 0 * 2147483647 + 2147483647 := by
    intro k hk
    have p1 : rm_u (rg_A M r (at' + k)) < 2147483648 := a6 _ (by split at hm <;> omega)
    unfold ctt
    by_cases c : k < nb
    · have p2 : rm_u (rg_A M rx k) < 2147483648 := b6 k c
      have p3 : g * rm_u (rg_A M rx k) ≤ 2147483647 * 2147483647 := Nat.mul_le_mul hg (by omega)
      rw [if_pos c, ← Int.natCast_mul]
      omega
    · rw [if_neg c]; omega
  obtain ⟨t, ht⟩ : ∃ t, t = ctt (rg_A M r) (rg_A M rx) at' nb g := ⟨_, rfl⟩
  rw [← ht] at hT ⊢
  have hrm := sc_rng (t := t) (c := 0) (lo := -2147483647) (hi := 0) (by omega) (by omega) (n := m) hT
  refine ⟨?_, hrm⟩
  have fin : ∀ (c : Int) (M' : rg_M), -2147483647 ≤ c → c ≤ 0 → rg_ui (rK_takeAway_121 (iL c) M') = some (if 0 ≤ c then 0 else 1, M') := by
    intro c M' h1 h2
    rw [rK_takeAway_121_e, iL_0]
    by_cases q : 0 ≤ c
    · rw [if_pos (by rw [iL_le (by omega) (by omega) (by omega) (by omega)]; exact q), if_pos q, rK_takeAway_133_e]; rfl
    · rw [if_neg (by rw [iL_le (by omega) (by omega) (by omega) (by omega)]; exact q), if_neg q, rK_takeAway_133_e]; rfl
  rw [rK_takeAway_6_e]
  simp only [cr_K, cr_R, cr_L, cr_I, a1, a2, a3, a5, b1, b5, Option.bind_some, if_true, Int32.le_refl, nI_add]
  by_cases c : at' + nb < n
  · have hm1 : m = nb + 1 := by rw [hm, if_pos c]
    have j1 := nI_clamp (n := at' + nb) (by omega)
    have j2 := rm_i0 (a := at' + nb) (by omega)
    have j3 : at' + nb < rg_L M r := by omega
    have hr := sc_rng (t := t) (c := 0) (lo := -2147483647) (hi := 0) (by omega) (by omega) (n := nb) (fun k hk => hT k (by omega))
    have hti := hT nb (by omega)
    have e := fb_put_succ (rg_A M r) (fun j => nI (scO t 0 j)) at' nb
    have gi : fb_put (rg_A M r) (fun j => nI (scO t 0 j)) at' nb (at' + nb) = rg_A M r (at' + nb) := fb_put_out (Or.inr (by omega))
    have eti : (rm_u (rg_A M r (at' + nb)) : Int) = t nb := by rw [ht]; unfold ctt; rw [if_neg (Nat.lt_irrefl _)]; omega
    rw [if_neg (by rw [nI_leI (by omega) (by omega)]; omega)]
    simp only [j1, j2, j3, and_self, if_true, cr_w, cr_A, gi, iL_u (a6 (at' + nb) c), iL_add, eti]
    rw [iL_shr (by omega) (by omega), iL_and, hm1, ← e]
    rw [hm1] at hrm
    exact fin _ _ hrm.1 hrm.2
  · have hm1 : m = nb := by rw [hm, if_neg c]
    rw [if_pos (by rw [nI_leI (by omega) (by omega)]; omega), hm1]
    rw [hm1] at hrm
    exact fin _ _ hrm.1 hrm.2
/-- what is put back -/
def cpt (f fx : Nat → Int32) (at' nb : Nat) (i : Nat) : Int := (rm_u (f (at' + i)) : Int) + (if i < nb then (rm_u (fx i) : Int) else 0)
theorem cw_put5 {w x r rx n nb at' : Nat} (hN : cwN M w r n) (hX : cwN M x rx nb) (hn : n ≤ 1300) (ha : at' + nb ≤ n) (hxr : rx ≠ r) : ∀ d i : Nat, nb - i = d → i ≤ nb → rK_putBack_5 w x (nI at') (iL (scC (cpt (rg_A M r) (rg_A M rx) at' nb) 0 i)) (nI i) (cr M r (fb_put (rg_A M r) (fun j => nI (scO (cpt (rg_A M r) (rg_A M rx) at' nb) 0 j)) at' i)) = rK_putBack_5 w x (nI at') (iL (scC (cpt (rg_A M r) (rg_A M rx) at' nb) 0 nb)) (nI nb) (cr M r (fb_put (rg_A M r) (fun j => nI (scO (cpt (rg_A M r) (rg_A M rx) at' nb) 0 j)) at' nb)) := by
  obtain ⟨a1, a2, a3, a4, a5, a6⟩ := hN
  obtain ⟨b1, b2, b3, b4, b5, b6⟩ := hX
  have hT : ∀ k, k < nb → 0 * 2147483647 ≤ cpt (rg_A M r) (rg_A M rx) at' nb k ∧ cpt (rg_A M r) (rg_A M rx) at' nb k ≤ 1 * 2147483647 + 2147483647 := by
    intro k hk
    have p1 : rm_u (rg_A M r (at' + k)) < 2147483648 := a6 _ (by omega)
    have p2 : rm_u (rg_A M rx k) < 2147483648 := b6 k hk
    unfold cpt
    rw [if_pos hk]
    omega
  obtain ⟨t, ht⟩ : ∃ t, t = cpt (rg_A M r) (rg_A M rx) at' nb := ⟨_, rfl⟩
  rw [← ht] at hT ⊢
  intro d
  induction d with
  | zero => intro i hd hi; rw [show i = nb by omega]
  | succ d ih =>
    intro i hd hi
    have hi2 : i < nb := by omega
    have p : ¬ nI nb ≤ nI i := by rw [nI_leI (by omega) (by omega)]; omega
    have k1 := nI_clamp (n := i) (by omega)
    have k2 := rm_i0 (a := i) (by omega)
    have k3 : i < rg_L M rx := by omega
    have j1 := nI_clamp (n := at' + i) (by omega)
    have j2 := rm_i0 (a := at' + i) (by omega)
    have j3 : at' + i < rg_L M r := by omega
    have hr := sc_rng (t := t) (c := 0) (lo := 0) (hi := 1) (by omega) (by omega) (n := i) (fun k hk => hT k (by omega))
    have hti := hT i hi2
    have e := fb_put_succ (rg_A M r) (fun j => nI (scO t 0 j)) at' i
    have gi : fb_put (rg_A M r) (fun j => nI (scO t 0 j)) at' i (at' + i) = rg_A M r (at' + i) := fb_put_out (Or.inr (by omega))
    have eti : (rm_u (rg_A M r (at' + i)) : Int) + (rm_u (rg_A M rx i) : Int) = t i := by rw [ht]; unfold cpt; rw [if_pos hi2]
    rw [← ih (i + 1) (by omega) (by omega), rK_putBack_5_e]
    simp only [cr_K, cr_R, cr_L, cr_I, a1, a2, a3, b1, b2, b3, b5, Option.bind_some, if_true, p, if_false, nI_add, k1, k2, k3, j1, j2, j3, and_self, cr_w, cr_A, cr_An hxr, gi, iL_u (a6 (at' + i) (by omega)), iL_u (b6 i hi2), iL_add, eti, nI_1]
    rw [iL_shr (by omega) (by omega), iL_and, ← e]
    rfl
theorem cw_put {w x r rx n nb at' m : Nat} (hN : cwN M w r n) (hX : cwN M x rx nb) (hn : n ≤ 1300) (ha : at' + nb ≤ n) (hxr : rx ≠ r) (hm : m = if at' + nb < n then nb + 1 else nb) : rK_putBack w x (nI at') M = some (cr M r (fb_put (rg_A M r) (fun j => nI (scO (cpt (rg_A M r) (rg_A M rx) at' nb) 0 j)) at' m)) := by
  have h6 := cw_put5 hN hX hn ha hxr nb 0 rfl (Nat.zero_le _)
  obtain ⟨a1, a2, a3, a4, a5, a6⟩ := hN
  obtain ⟨b1, b2, b3, b4, b5, b6⟩ := hX
  rw [fb_put_0, cr_id] at h6
  have h6 : rK_putBack_5 w x (nI at') 0 0 M = _ := h6
  rw [rK_putBack_u, rK_putBack_e, h6]
  obtain ⟨t, ht⟩ : ∃ t, t = cpt (rg_A M r) (rg_A M rx) at' nb := ⟨_, rfl⟩
  rw [← ht]
  rw [rK_putBack_5_e]
  simp only [cr_K, cr_R, cr_L, cr_I, a1, a2, a3, a5, b1, b5, Option.bind_some, if_true, Int32.le_refl, nI_add]
  by_cases c : at' + nb < n
  · have hm1 : m = nb + 1 := by rw [hm, if_pos c]
    have j1 := nI_clamp (n := at' + nb) (by omega)
    have j2 := rm_i0 (a := at' + nb) (by omega)
    have j3 : at' + nb < rg_L M r := by omega
    have e := fb_put_succ (rg_A M r) (fun j => nI (scO t 0 j)) at' nb
    have gi : fb_put (rg_A M r) (fun j => nI (scO t 0 j)) at' nb (at' + nb) = rg_A M r (at' + nb) := fb_put_out (Or.inr (by omega))
    have eti : (rm_u (rg_A M r (at' + nb)) : Int) = t nb := by rw [ht]; unfold cpt; rw [if_neg (Nat.lt_irrefl _)]; omega
    rw [if_neg (by rw [nI_leI (by omega) (by omega)]; omega)]
    simp only [j1, j2, j3, and_self, if_true, cr_w, cr_A, gi, iL_u (a6 (at' + nb) c), iL_add, eti]
    rw [iL_and, Int.add_comm, hm1, ← e, rK_putBack_101_e]
    rfl
  · have hm1 : m = nb := by rw [hm, if_neg c]
    rw [if_pos (by rw [nI_leI (by omega) (by omega)]; omega), hm1, rK_putBack_101_e]
    rfl
end

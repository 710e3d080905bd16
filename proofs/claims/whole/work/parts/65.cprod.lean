/-! product and increase -/
theorem lN_shr31 {v : Nat} (h : v < 9223372036854775808) : lN v >>> ((31 : Int32).toInt64 &&& 63) = lN (v / 2147483648) := by
  rw [iL_n, iL_shr (by omega) (by omega), iL_n]
  congr 1
theorem lN_and31 {v : Nat} (h : v < 18446744073709551616) : (lN v &&& (2147483647 : Int64)).toInt32 = nI (v % 2147483648) := by
  have := wb_mask (n := v) (k := 31) h (by decide)
  rw [show (2147483647 : Int64) = lN (2 ^ 31 - 1) from rfl, this, lN_i]
theorem lN_u {x : Int32} (h : rm_u x < 2147483648) : x.toInt64 = lN (rm_u x) := by rw [iL_u h, iL_n]
theorem cV_upd (f : Nat → Int32) {n j : Nat} (hj : j < n) (v : Int32) : cV (upd f j v) n + rm_u (f j) * wB ^ j = cV f n + rm_u v * wB ^ j := by
  have := ds_upd (B := wB) (f := fun k => rm_u (f k)) hj (rm_u v)
  have e : cV (upd f j v) n = ds wB (fun k => if k = j then rm_u v else rm_u (f k)) n := by
    refine ds_cong (fun k _ => ?_)
    by_cases e : k = j
    · subst e; rw [pk_us, if_pos rfl]
    · rw [pk_un e, if_neg e]
  rw [e]; exact this
section
variable {u z : Nat} {M : rg_M} {V : Nat → Int} {w : Nat}
theorem cw_pr18 {a b r n : Nat} (hw : rg_K M w = 6) (hr : rg_R M 80 w = some r) (hR : rg_K M r = 9) (hn : n ≤ rg_L M r) (hn2 : n < 2 ^ 31) (f : Nat → Int32) : ∀ d k : Nat, n - k = d → k ≤ n → rW_product_18 w a b (nI n) (nI k) (cr M r (fb_put f (fun _ => 0) 0 k)) = rW_product_41 w a b (nI n) 0 (cr M r (fb_put f (fun _ => 0) 0 n)) := by
  intro d
  induction d with
  | zero =>
    intro k hd hk
    have e : k = n := by omega
    subst e
    rw [rW_product_18_e, if_pos (Int32.le_refl _)]
  | succ d ih =>
    intro k hd hk
    have p : ¬ nI n ≤ nI k := by rw [nI_leI (by omega) (by omega)]; omega
    have c1 := nI_clamp (n := k) (by omega)
    have c2 := rm_i0 (a := k) (by omega)
    have c3 : k < rg_L M r := by omega
    have e := fb_put_succ f (fun _ => 0) 0 k
    rw [Nat.zero_add] at e
    rw [rW_product_18_e]
    simp only [cr_K, cr_R, cr_L, hw, hr, hR, Option.bind_some, if_true, p, if_false, c1, c2, c3, and_self, cr_w, e, nI_1]
    exact ih (k + 1) (by omega) (by omega)
def cpi (fa fb g : Nat → Int32) (na nb i : Nat) : Prop := (∀ k, i + nb ≤ k → k < na + nb → g k = 0) ∧ (∀ k, k < na + nb → rm_u (g k) < wB) ∧ cV g (na + nb) = cV fa i * cV fb nb
theorem cw_pr66 {a b r ra rb na nb i : Nat} {va vb : Int} (hw : rg_K M w = 6) (hr : rg_R M 80 w = some r) (hR : rg_K M r = 9) (hn : na + nb ≤ rg_L M r) (hn2 : na + nb < 2 ^ 30) (hA : cwW M a ra na va) (hB : cwW M b rb nb vb) (hrb : rb ≠ r) (hi : i < na) : ∀ d j : Nat, nb - j = d → j ≤ nb → ∀ (g : Nat → Int32) (cy : Nat), cy < wB → (∀ k, i + nb ≤ k → k < na + nb → g k = 0) → (∀ k, k < na + nb → rm_u (g k) < wB) → cV g (na + nb) + cy * wB ^ (i + j) = cV (rg_A M ra) i * cV (rg_A M rb) nb + rm_u (rg_A M ra i) * cV (rg_A M rb) j * wB ^ i →
    ∃ g2, rW_product_66 w a b (nI (na + nb)) (nI i) (lN (rm_u (rg_A M ra i))) (lN cy) (nI j) (cr M r g) = rW_product_41 w a b (nI (na + nb)) (nI (i + 1)) (cr M r g2) ∧ cpi (rg_A M ra) (rg_A M rb) g2 na nb (i + 1) := by
  have a7 := hA.2.2.2.2.2.2.1
  obtain ⟨b1, b2, b3, b4, b5, b6, b7, b8, b9⟩ := hB
  intro d
  induction d with
  | zero =>
    intro j hd hj g cy hcy s1 s2 s3
    have e : j = nb := by omega
    subst e
    have p : nI j ≤ nI j := Int32.le_refl _
    have j1 := nI_clamp (n := i + j) (by omega)
    have j2 := rm_i0 (a := i + j) (by omega)
    have j3 : i + j < rg_L M r := by omega
    have hcy' : cy < 2147483648 := hcy
    rw [rW_product_66_e]
    simp only [cr_K, cr_R, cr_L, cr_I, b1, b5, hw, hr, hR, Option.bind_some, if_true, p, nI_add, j1, j2, j3, and_self, cr_w, lN_i, nI_1]
    refine ⟨_, rfl, fun k h1 h2 => ?_, fun k hk => ?_, ?_⟩
    · rw [pk_un (by omega)]; exact s1 k (by omega) h2
    · by_cases e : k = i + j
      · rw [e, pk_us, rm_u_nI]; show _ < 2147483648; omega
      · rw [pk_un e]; exact s2 k hk
    · have := cV_upd g (n := na + j) (j := i + j) (by omega) (nI cy)
      rw [s1 (i + j) (Nat.le_refl _) (by omega), rm_u_zero, Nat.zero_mul, Nat.add_zero, rm_u_nI, Nat.mod_eq_of_lt (by omega)] at this
      rw [this, s3]
      show _ = (cV (rg_A M ra) i + rm_u (rg_A M ra i) * wB ^ i) * _
      rw [Nat.add_mul, Nat.mul_assoc, Nat.mul_assoc, Nat.mul_comm (wB ^ i)]
  | succ d ih =>
    intro j hd hj g cy hcy s1 s2 s3
    have p : ¬ nI nb ≤ nI j := by rw [nI_leI (by omega) (by omega)]; omega
    have j1 := nI_clamp (n := i + j) (by omega)
    have j2 := rm_i0 (a := i + j) (by omega)
    have j3 : i + j < rg_L M r := by omega
    have k1 := nI_clamp (n := j) (by omega)
    have k2 := rm_i0 (a := j) (by omega)
    have k3 : j < rg_L M rb := by omega
    have l1 : rm_u (rg_A M ra i) < 2147483648 := a7 i hi
    have l2 : rm_u (rg_A M rb j) < 2147483648 := b7 j (by omega)
    have l3 : rm_u (g (i + j)) < 2147483648 := s2 (i + j) (by omega)
    have hcy' : cy < 2147483648 := hcy
    have hm : rm_u (rg_A M ra i) * rm_u (rg_A M rb j) ≤ 2147483647 * 2147483647 := Nat.mul_le_mul (by omega) (by omega)
    rw [rW_product_66_e]
    simp only [cr_K, cr_R, cr_L, cr_I, b1, b2, b3, b5, hw, hr, hR, Option.bind_some, if_true, p, if_false, nI_add, j1, j2, j3, k1, k2, k3, and_self, cr_w, cr_A, cr_An hrb, lN_u l2, lN_u l3, lN_mul, lN_add, nI_1]
    obtain ⟨v, hv⟩ : ∃ v, v = cy + (rm_u (rg_A M ra i) * rm_u (rg_A M rb j) + rm_u (g (i + j))) := ⟨_, rfl⟩
    rw [← hv, lN_shr31 (by omega), lN_and31 (by omega)]
    refine ih (j + 1) (by omega) (by omega) _ (v / 2147483648) (by show _ < 2147483648; omega) (fun k h1 h2 => ?_) (fun k hk => ?_) ?_
    · rw [pk_un (by omega)]; exact s1 k (by omega) h2
    · by_cases e : k = i + j
      · rw [e, pk_us, rm_u_nI]; show _ < 2147483648; omega
      · rw [pk_un e]; exact s2 k hk
    · have := cV_upd g (n := na + nb) (j := i + j) (by omega) (nI (v % 2147483648))
      rw [rm_u_nI, show v % 2147483648 % 4294967296 = v % 2147483648 by omega] at this
      have e1 : v % 2147483648 + v / 2147483648 * wB = v := by rw [Nat.mul_comm]; exact Nat.mod_add_div v 2147483648
      have e2 : v % 2147483648 * wB ^ (i + j) + v / 2147483648 * wB ^ (i + (j + 1)) = v * wB ^ (i + j) := by
        rw [← Nat.add_assoc i j 1, Nat.pow_succ, Nat.mul_comm (wB ^ (i + j)) wB, ← Nat.mul_assoc, ← Nat.add_mul, e1]
      have e3 : v * wB ^ (i + j) = cy * wB ^ (i + j) + (rm_u (rg_A M ra i) * rm_u (rg_A M rb j) * wB ^ (i + j) + rm_u (g (i + j)) * wB ^ (i + j)) := by rw [hv, Nat.add_mul, Nat.add_mul]
      have e4 : rm_u (rg_A M ra i) * cV (rg_A M rb) (j + 1) * wB ^ i = rm_u (rg_A M ra i) * cV (rg_A M rb) j * wB ^ i + rm_u (rg_A M ra i) * rm_u (rg_A M rb j) * wB ^ (i + j) := by
        show _ * (cV (rg_A M rb) j + rm_u (rg_A M rb j) * wB ^ j) * _ = _
        rw [Nat.mul_add, Nat.add_mul, Nat.pow_add, Nat.mul_comm (wB ^ i) (wB ^ j)]
        congr 1
        simp only [Nat.mul_assoc]
      omega
theorem cw_pr41 {a b r ra rb na nb : Nat} {va vb : Int} (hw : rg_K M w = 6) (hr : rg_R M 80 w = some r) (hR : rg_K M r = 9) (hLr : rg_L M r < 2 ^ 31) (hn : na + nb ≤ rg_L M r) (hn2 : na + nb < 2 ^ 30) (hA : cwW M a ra na va) (hB : cwW M b rb nb vb) (hra : ra ≠ r) (hrb : rb ≠ r) : ∀ d i : Nat, na - i = d → i ≤ na → ∀ g : Nat → Int32, cpi (rg_A M ra) (rg_A M rb) g na nb i →
    ∃ M', rW_product_41 w a b (nI (na + nb)) (nI i) (cr M r g) = some (none, M') ∧ cU (fun x => x = w) M M' ∧ ∃ n, cwW M' w r n (va * vb) := by
  intro d
  induction d with
  | zero =>
    intro i hd hi g hg
    have e : i = na := by omega
    subst e
    obtain ⟨a1, a2, a3, a4, a5, a6, a7, a8, a9⟩ := hA
    obtain ⟨b1, b2, b3, b4, b5, b6, b7, b8, b9⟩ := hB
    have fin : ∀ s0 : Int32, s0 = 0 ∨ s0 = 1 → (va * vb ≠ 0 → s0 = if va * vb < 0 then 1 else 0) → ∃ M', rW_product_171 w (nI (i + nb)) s0 w (cr M r g) = some (none, M') ∧ cU (fun x => x = w) M M' ∧ ∃ n, cwW M' w r n (va * vb) := by
      intro s0 h0 h1
      have hU : cU (fun x => x = w) M (rg_wI (cr M r g) 82 w s0) := (cU_cr g hr).tr (cU_wI _ w 82 _ (Or.inr rfl))
      have hAr : rg_A (rg_wI (cr M r g) 82 w s0) r = g := cr_A _ _ _
      obtain ⟨M2, s1, s2, -, n, s3, s4⟩ := cw_settle (M := rg_wI (cr M r g) 82 w s0) (w := w) (b := r) (k := i + nb) (v := va * vb) hw hr hR hLr hn (by rw [hAr]; exact hg.2.1) (by rw [hAr, hg.2.2, Int.natAbs_mul, a9, b9]) (fun h => by rw [cw_II]; exact h1 h)
      rw [rW_product_171_e, cr_K, if_pos ⟨hw, h0⟩, if_pos hw, s1]
      exact ⟨M2, rfl, hU.tr s2, n, s4⟩
    rw [rW_product_41_e]
    have a5' : rg_I (cr M r g) 81 a = nI i := a5
    simp only [cr_K, a1, a5', b1, if_true, Int32.le_refl]
    have hne : va * vb ≠ 0 → va ≠ 0 ∧ vb ≠ 0 := fun h => ⟨fun e => h (by rw [e, Int.zero_mul]), fun e => h (by rw [e, Int.mul_zero])⟩
    have hsg : va * vb ≠ 0 → ((va * vb < 0) ↔ ¬ (va < 0 ↔ vb < 0)) := by
      intro h
      obtain ⟨h1, h2⟩ := hne h
      rcases (show va < 0 ∨ 0 < va by omega) with p | p <;> rcases (show vb < 0 ∨ 0 < vb by omega) with q | q
      · have := Int.mul_pos_of_neg_of_neg p q; omega
      · have := Int.mul_neg_of_neg_of_pos p q; omega
      · have := Int.mul_neg_of_pos_of_neg p q; omega
      · have := Int.mul_pos p q; omega
    by_cases c : rg_I (cr M r g) 82 a = rg_I (cr M r g) 82 b
    · rw [if_pos c]
      have c : rg_I M 82 a = rg_I M 82 b := c
      exact fin 0 (Or.inl rfl) (fun h => by
        obtain ⟨h1, h2⟩ := hne h
        rw [a6.2 h1, b6.2 h2] at c
        rw [if_neg]
        rw [hsg h]
        by_cases p : va < 0 <;> by_cases q : vb < 0
        · omega
        · rw [if_pos p, if_neg q] at c; exact absurd c (by decide)
        · rw [if_neg p, if_pos q] at c; exact absurd c (by decide)
        · omega)
    · rw [if_neg c]
      have c : ¬ rg_I M 82 a = rg_I M 82 b := c
      exact fin 1 (Or.inr rfl) (fun h => by
        obtain ⟨h1, h2⟩ := hne h
        rw [a6.2 h1, b6.2 h2] at c
        rw [if_pos]
        rw [hsg h]
        intro e
        exact c (rg_ip e))
  | succ d ih =>
    intro i hd hi g hg
    have hA0 := hA
    obtain ⟨a1, a2, a3, a4, a5, a6, a7, a8, a9⟩ := hA
    have p : ¬ nI na ≤ nI i := by rw [nI_leI (by omega) (by omega)]; omega
    have k1 := nI_clamp (n := i) (by omega)
    have k2 := rm_i0 (a := i) (by omega)
    have k3 : i < rg_L M ra := by omega
    obtain ⟨g2, t1, t2⟩ := cw_pr66 hw hr hR hn hn2 hA0 hB hrb (show i < na by omega) nb 0 rfl (Nat.zero_le _) g 0 (by decide) hg.1 hg.2.1 (by rw [hg.2.2]; simp [cV, ds])
    have t1 : rW_product_66 w a b (nI (na + nb)) (nI i) (lN (rm_u (rg_A M ra i))) 0 0 (cr M r g) = _ := t1
    rw [rW_product_41_e]
    simp only [cr_K, cr_R, cr_L, cr_I, a1, a2, a3, a5, Option.bind_some, if_true, p, if_false, k1, k2, k3, and_self, cr_An hra, lN_u (a7 i (by omega)), t1]
    exact ih (i + 1) (by omega) (by omega) g2 t2
theorem cw_product (hH : cH u z M) (hV : cvV M V) (hw : rg_K M w = 6) {a b ka kb : Nat} (ha : rg_K M a = 6) (hb : rg_K M b = 6) (haw : a ≠ w) (hbw : b ≠ w) (hka : cL (V a) ka) (hkb : cL (V b) kb) (hk : ka + kb ≤ 866) : ∃ M', rW_product w a b M = some M' ∧ cP u z M (va_up V w (V a * V b)) M' := by
  obtain ⟨ra, na, hA⟩ := hV a ha
  obtain ⟨rb, nb, hB⟩ := hV b hb
  have hna := hA.len hka
  have hnb := hB.len hkb
  obtain ⟨M1, t1, t2, t3, t4, ⟨c, t5, t6⟩, t7⟩ := cw_room hH hw (k := na + nb) (by omega)
  obtain ⟨ra', hA1⟩ := t7 a ra na _ hA
  obtain ⟨rb', hB1⟩ := t7 b rb nb _ hB
  have hw1 := (t3.K6 w).mpr hw
  have hac : ra' ≠ c := fun e => haw (t2.2.1 a w c hA1.1 hw1 (by rw [← e]; exact hA1.2.1) t5)
  have hbc : rb' ≠ c := fun e => hbw (t2.2.1 b w c hB1.1 hw1 (by rw [← e]; exact hB1.2.1) t5)
  have hC := t2.L hw1 t5
  have z0 := cw_pr18 (M := M1) (a := a) (b := b) hw1 t5 hC.2.1 t6 (by omega) (rg_A M1 c) _ 0 rfl (Nat.zero_le _)
  rw [fb_put_0, cr_id] at z0
  have z0 : rW_product_18 w a b (nI (na + nb)) 0 M1 = _ := z0
  have gz : ∀ k, k < na + nb → fb_put (rg_A M1 c) (fun _ => (0 : Int32)) 0 (na + nb) k = 0 := fun k hk => fb_put_in (Nat.zero_le _) (by omega)
  obtain ⟨M2, u1, u2, n, u3⟩ := cw_pr41 (M := M1) hw1 t5 hC.2.1 (by omega) t6 (by omega) hA1 hB1 hac hbc na 0 rfl (Nat.zero_le _) (fb_put (rg_A M1 c) (fun _ => 0) 0 (na + nb)) ⟨fun k _ h => gz k h, fun k hk => by rw [gz k hk]; decide, by
    rw [show cV (rg_A M1 ra') 0 = 0 from rfl, Nat.zero_mul]
    exact ds_zero (fun k hk => by rw [gz k hk]; rfl)⟩
  have u1 : rW_product_41 w a b (nI (na + nb)) 0 (cr M1 c _) = _ := u1
  have ia : rg_I M 81 a = nI na := hA.2.2.2.2.1
  have ib : rg_I M 81 b = nI nb := hB.2.2.2.2.1
  rw [rW_product_u, rW_product_e]
  simp only [ha, hb, hw, if_true, ia, ib, nI_add, t1, Option.bind_some, z0, u1]
  refine ⟨M2, rfl, cP.of2 t2 t3 (fun y hy => ?_) u2 hw1 ⟨c, n, u3⟩⟩
  obtain ⟨q1, q2, q3⟩ := hV y ((t3.K6 y).mp hy)
  obtain ⟨q4, q5⟩ := t7 y q1 q2 _ q3
  exact ⟨q4, q2, q5⟩
end

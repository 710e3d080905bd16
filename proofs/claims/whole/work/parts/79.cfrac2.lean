/-! fractions: turning over, comparing, lengths -/
theorem rwR_eq (M : rg_M) (f a v g x : Nat) : rg_R (rg_wR M f a v) g x = if g = f ∧ x = a then some v else rg_R M g x := by
  show rg_u2 (rg_R M) f a (some v) g x = _
  unfold rg_u2
  by_cases p : g = f
  · by_cases r : x = a
    · rw [if_pos p, if_pos r, if_pos ⟨p, r⟩]
    · rw [if_pos p, if_neg r, if_neg (fun h => r h.2)]
  · rw [if_neg p, if_neg (fun h => p h.1)]
section
variable {u z rk jf : Nat} {c : Nat → Nat} {M : rg_M} {q : Nat → Rat} {V : Nat → Int}
theorem q_pos_num {x : Rat} : 0 < x ↔ 0 < x.num := by
  rw [Rat.lt_iff]
  simp
theorem q_inv {x : Rat} (h : 0 < x) : (x⁻¹).num = (x.den : Int) ∧ ((x⁻¹).den : Int) = x.num := by
  have h1 := q_pos_num.mp h
  refine ⟨?_, ?_⟩
  · rw [Rat.num_inv, Int.sign_eq_one_of_pos h1, Int.one_mul]
  · rw [Rat.den_inv, if_neg (by omega)]; omega
theorem cS_turnOver (hS : cS u z rk c jf M q) {f : Nat} (hf : rg_K M f = 2) (hp : 0 < q f) : ∃ M', rF_turnOver f M = some M' ∧ cS u z rk c jf M' (va_up q f (q f)⁻¹) ∧ cG M M' := by
  obtain ⟨hH, hR, hFr, V, hV, hQ⟩ := hS
  obtain ⟨t, b, X, p1, D⟩ := hFr.get hf
  have hXa := X.all
  obtain ⟨M', hM'⟩ : ∃ M', M' = rg_wR (rg_wR M 17 f t) 16 f b := ⟨_, rfl⟩
  have fR : ∀ g x, g ≠ 16 → g ≠ 17 → rg_R M' g x = rg_R M g x := fun g x h1 h2 => by
    rw [hM', rwR_eq, if_neg (fun h => h1 h.1), rwR_eq, if_neg (fun h => h2 h.1)]
  have r16 : ∀ x, rg_R M' 16 x = if x = f then some b else rg_R M 16 x := fun x => by
    rw [hM', rwR_eq, rwR_eq, if_neg (c := 16 = 17 ∧ _) (fun h => absurd h.1 (by decide))]
    by_cases e : x = f
    · rw [if_pos ⟨rfl, e⟩, if_pos e]
    · rw [if_neg (fun h => e h.2), if_neg e]
  have r17 : ∀ x, rg_R M' 17 x = if x = f then some t else rg_R M 17 x := fun x => by
    rw [hM', rwR_eq, if_neg (c := 17 = 16 ∧ _) (fun h => absurd h.1 (by decide)), rwR_eq]
    by_cases e : x = f
    · rw [if_pos ⟨rfl, e⟩, if_pos e]
    · rw [if_neg (fun h => e h.2), if_neg e]
  have fK : rg_K M' = rg_K M := by rw [hM']; rfl
  have fI : rg_I M' = rg_I M := by rw [hM']; rfl
  have fL : rg_L M' = rg_L M := by rw [hM']; rfl
  have fA : rg_A M' = rg_A M := by rw [hM']; rfl
  have fQ : rg_Q M' = rg_Q M := by rw [hM']; rfl
  have fs : rg_sz M' = rg_sz M := by rw [hM']; rfl
  have fu : rg_us M' = rg_us M := by rw [hM']; rfl
  have f80 : ∀ x, rg_R M' 80 x = rg_R M 80 x := fun x => fR 80 x (by decide) (by decide)
  have fc : cwc M' = cwc M := by funext x; unfold cwc; rw [fK, f80, fL]
  have hH' : cH u z M' := by
    obtain ⟨a1, a2, a3, a4⟩ := hH
    refine ⟨fun w hw => ?_, fun w w' x hw hw' h1 h2 => ?_, by rw [fc, fs, fu]; exact a3, by rw [fc, fs]; exact a4⟩
    · rw [fK] at hw; rw [f80, fs, fK, fL]; exact a1 w hw
    · rw [fK] at hw hw'; rw [f80] at h1 h2; exact a2 w w' x hw hw' h1 h2
  have hO : ∀ x, cO M' x ↔ cO M x := fun x => by unfold cO; simp only [fK, f80]
  refine ⟨M', ?_, ⟨hH', ?_, ?_, V, ?_, ?_⟩, ⟨by rw [fs]; exact Nat.le_refl _, fun a => Or.inl (by rw [fK]), fun a _ => by rw [fL], fun g a _ _ => by rw [fI], fun g a _ h1 h2 => fR g a h1 h2, fun x i _ => by rw [fQ], fun x _ hx => ⟨by rw [fA], fun h => hx ((hO x).mp h)⟩⟩⟩
  · rw [rF_turnOver_u, rF_turnOver_e]
    simp only [hXa, if_true, Option.bind_some]
    rw [hM']; rfl
  · obtain ⟨b1, b2, b3, b4, b5, b6, b7, b8⟩ := hR
    exact ⟨by rw [fs]; exact b1, by rw [fK]; exact b2, fun i hi => ⟨by rw [fR _ _ (by omega) (by omega)]; exact (b3 i hi).1, by rw [fK]; exact (b3 i hi).2⟩, b4, by rw [fR _ _ (by decide) (by decide)]; exact b5, by rw [fs]; exact b6, by rw [fK]; exact b7, by rw [fL]; exact b8⟩
  · have swap : ∀ x i w, (i = 16 ∨ i = 17) → rg_R M' i x = some w → ∃ j, (j = 16 ∨ j = 17) ∧ rg_R M j x = some w := by
      intro x i w hi h
      rcases hi with e | e
      · rw [e, r16] at h
        by_cases ex : x = f
        · rw [if_pos ex] at h; cases h; exact ⟨17, Or.inr rfl, by rw [ex]; exact hXa.2.2.1⟩
        · rw [if_neg ex] at h; exact ⟨16, Or.inl rfl, h⟩
      · rw [e, r17] at h
        by_cases ex : x = f
        · rw [if_pos ex] at h; cases h; exact ⟨16, Or.inl rfl, by rw [ex]; exact hXa.2.1⟩
        · rw [if_neg ex] at h; exact ⟨17, Or.inr rfl, h⟩
    refine ⟨fun x hx => ?_, fun x x' i j w hx hx' hi hj h1 h2 => ?_⟩
    · rw [fK] at hx
      rw [fs, fK]
      by_cases ex : x = f
      · rw [ex, r16, r17, if_pos rfl, if_pos rfl]
        exact ⟨X.1, b, t, rfl, rfl, hXa.2.2.2.2, hXa.2.2.2.1, Ne.symm p1, fun i hi => ⟨(D i hi).2, (D i hi).1⟩⟩
      · rw [r16, r17, if_neg ex, if_neg ex]; exact hFr.1 x hx
    · rw [fK] at hx hx'
      obtain ⟨i', hi', h1'⟩ := swap x i w hi h1
      obtain ⟨j', hj', h2'⟩ := swap x' j w hj h2
      exact hFr.2 x x' i' j' w hx hx' hi' hj' h1' h2'
  · intro w hw
    rw [fK] at hw
    obtain ⟨r, n, hr⟩ := hV w hw
    refine ⟨r, n, ?_⟩
    unfold cwW
    rw [fK, f80, fL, fI, fA]
    exact hr
  · intro x t' b' hx h1 h2
    rw [fK] at hx
    by_cases ex : x = f
    · subst ex
      rw [r16, if_pos rfl] at h1
      rw [r17, if_pos rfl] at h2
      cases h1; cases h2
      obtain ⟨v1, v2⟩ := hQ x t b hx hXa.2.1 hXa.2.2.1
      obtain ⟨k1, k2⟩ := q_inv hp
      rw [rg_up_eq, k1, k2, v1, v2]
      exact ⟨rfl, rfl⟩
    · rw [r16, if_neg ex] at h1
      rw [r17, if_neg ex] at h2
      rw [rg_up_ne ex]
      exact hQ x t' b' hx h1 h2
/-- the sign of a Fraction's top -/
theorem cS_sign (hS : cS u z rk c jf M q) {f t : Nat} (hf : rg_K M f = 2) (ht : rg_R M 16 f = some t) : rg_K M t = 6 ∧ rW_sign t M = some (rm_sg (q f).num, M) := by
  obtain ⟨hH, hR, hFr, V, hV, hQ⟩ := hS
  obtain ⟨t', b, X, p1, D⟩ := hFr.get hf
  have e : t = t' := by have := X.2.2.1; rw [ht] at this; cases this; rfl
  subst e
  obtain ⟨v1, v2⟩ := hQ f t b hf X.2.2.1 X.2.2.2.1
  obtain ⟨r, n, hW⟩ := hV t X.2.2.2.2.1
  rw [v1] at hW
  have := (hH.L hW.1 hW.2.1).2.2.2
  have := hW.2.2.2.1
  exact ⟨hW.1, cw_sign hW (by omega)⟩
def qB (x : Rat) : Nat := max (rm_bits x.num.natAbs) (rm_bits x.den)
theorem rm_bits_cap {v : Int} {n : Nat} (h : cL v n) (hn : n ≤ 1300) : rm_bits v.natAbs ≤ 40300 := by
  unfold cL at h
  rw [show wB = 2 ^ 31 from rfl, ← Nat.pow_mul] at h
  have := rm_bits_mono h
  omega
theorem cS_parts (hS : cS u z rk c jf M q) {f : Nat} (hf : rg_K M f = 2) : ∃ t b, cXf f t b M ∧ rW_lengthInBits t M = some (nI (rm_bits (q f).num.natAbs), M) ∧ rW_lengthInBits b M = some (nI (rm_bits (q f).den), M) ∧ rm_bits (q f).num.natAbs ≤ 40300 ∧ rm_bits (q f).den ≤ 40300 ∧ rW_sign t M = some (rm_sg (q f).num, M) ∧ (∀ x : Int32, rW_bitsAt t x M = some (if x < 0 then 0 else nI ((q f).num.natAbs / 2 ^ (32 * x.toNatClampNeg) % 4294967296), M)) ∧ ∀ x : Int32, rW_bitsAt b x M = some (if x < 0 then 0 else nI ((q f).den / 2 ^ (32 * x.toNatClampNeg) % 4294967296), M) := by
  obtain ⟨hH, hR, hFr, V, hV, hQ⟩ := hS
  obtain ⟨t, b, X, p1, D⟩ := hFr.get hf
  obtain ⟨v1, v2⟩ := hQ f t b hf X.2.2.1 X.2.2.2.1
  obtain ⟨r, n, hW⟩ := hV t X.2.2.2.2.1
  obtain ⟨r', n', hW'⟩ := hV b X.2.2.2.2.2
  rw [v1] at hW
  rw [v2] at hW'
  have h1 := (hH.L hW.1 hW.2.1).2.2.2
  have h2 := hW.2.2.2.1
  have h3 := (hH.L hW'.1 hW'.2.1).2.2.2
  have h4 := hW'.2.2.2.1
  have c1 := cw_bits hW (by omega)
  have c2 := cw_bits hW' (by omega)
  exact ⟨t, b, X, c1, c2, rm_bits_cap (cwW_cl hW) (by omega), rm_bits_cap (cwW_cl hW') (by omega), cw_sign hW (by omega), cw_bitsAt hW (by omega), cw_bitsAt hW' (by omega)⟩
theorem cS_longest (hS : cS u z rk c jf M q) {f : Nat} (hf : rg_K M f = 2) : rF_longest f M = some (nI (qB (q f)), M) ∧ qB (q f) ≤ 40300 := by
  obtain ⟨t, b, X, c1, c2, c3, c4, -⟩ := cS_parts hS hf
  refine ⟨?_, by unfold qB; omega⟩
  rw [rF_longest_u, rF_longest_e]
  simp only [X.all, if_true, Option.bind_some, c1, c2]
  unfold qB
  by_cases h : rm_bits (q f).num.natAbs < rm_bits (q f).den
  · rw [if_pos (by rw [nI_ltI (by omega) (by omega)]; exact h), Nat.max_eq_right (by omega)]; rfl
  · rw [if_neg (by rw [nI_ltI (by omega) (by omega)]; exact h), Nat.max_eq_left (by omega)]; rfl
/-- keepGreater -/
theorem cS_keepGreater (hS : cS u z rk c jf M q) {of ot k : Nat} (h1 : rg_K M of = 2) (h2 : rg_K M ot = 2) (hne : of ≠ ot) (hk : k ≤ 425) (l1 : qL (q of) k) (l2 : qL (q ot) k) : ∃ M', rK_keepGreater rk of ot M = some M' ∧ cS u z rk c jf M' (va_up q of (if q of < q ot then q ot else q of)) ∧ cG M M' := by
  have hS0 := hS
  obtain ⟨hH, hR, hFr, V, hV, hQ⟩ := hS
  obtain ⟨t1, b1, X1, p1, D1⟩ := hFr.get h1
  obtain ⟨t2, b2, X2, p2, D2⟩ := hFr.get h2
  obtain ⟨v1, v2⟩ := hQ of t1 b1 h1 X1.2.2.1 X1.2.2.2.1
  obtain ⟨v3, v4⟩ := hQ ot t2 b2 h2 X2.2.2.1 X2.2.2.2.1
  have kk : k + k ≤ 866 := by omega
  have n89 : c 8 ≠ c 9 := fun e => absurd (hR.2.2.2.1 8 9 (by decide) (by decide) e) (by decide)
  have R0 := hR.all
  obtain ⟨M1, r1, P1⟩ := cw_product hH hV (w := c 8) (a := t1) (b := b2) (ka := k) (kb := k) (hR.2.2.1 8 (by decide)).2 X1.2.2.2.2.1 X2.2.2.2.2.2 (D1 8 (by decide)).1 (D2 8 (by decide)).2 (by rw [v1]; exact l1.1) (by rw [v4]; exact l2.2) kk
  have hR1 := hR.F P1.2.1
  have X11 := X1.F P1.2.1
  have X21 := X2.F P1.2.1
  have R1 := hR1.all
  have et2 : va_up V (c 8) (V t1 * V b2) t2 = V t2 := rg_up_ne (D2 8 (by decide)).1
  have eb1 : va_up V (c 8) (V t1 * V b2) b1 = V b1 := rg_up_ne (D1 8 (by decide)).2
  obtain ⟨M2, r2, P2⟩ := cw_product P1.1 P1.2.2 (w := c 9) (a := t2) (b := b1) (ka := k) (kb := k) (hR1.2.2.1 9 (by decide)).2 X21.2.2.2.2.1 X11.2.2.2.2.2 (D2 9 (by decide)).1 (D1 9 (by decide)).2 (by rw [et2, v3]; exact l2.1) (by rw [eb1, v2]; exact l1.2) kk
  rw [et2, eb1] at P2
  have hR2 := hR1.F P2.2.1
  have X12 := X11.F P2.2.1
  have X22 := X21.F P2.2.1
  have R2 := hR2.all
  obtain ⟨V2, hV2⟩ : ∃ V2, V2 = va_up (va_up V (c 8) (V t1 * V b2)) (c 9) (V t2 * V b1) := ⟨_, rfl⟩
  rw [← hV2] at P2
  have e9 : V2 (c 9) = V t2 * V b1 := by rw [hV2, rg_up_eq]
  have e8 : V2 (c 8) = V t1 * V b2 := by rw [hV2, rg_up_ne n89, rg_up_eq]
  have k9 := (hR2.2.2.1 9 (by decide)).2
  obtain ⟨r9, n9, hW9⟩ := P2.2.2 (c 9) k9
  -- the sign turned
  obtain ⟨s0, hs0⟩ : ∃ s0 : Int32, s0 = if rg_I M2 82 (c 9) = 0 then 1 else 0 := ⟨_, rfl⟩
  have hs01 : s0 = 0 ∨ s0 = 1 := by rw [hs0]; split; exact Or.inr rfl; exact Or.inl rfl
  have P3 := cP.of P2.1 P2.2.2 (cU_wI M2 (c 9) 82 s0 (Or.inr rfl)) k9 (v := -(V2 (c 9))) ⟨r9, n9, hW9.1, hW9.2.1, hW9.2.2.1, hW9.2.2.2.1, by rw [cw_IIn (Or.inl (by decide))]; exact hW9.2.2.2.2.1, by
    rw [cw_II]
    refine ⟨hs01, fun h => ?_⟩
    have h' : V2 (c 9) ≠ 0 := by omega
    rw [hs0, hW9.2.2.2.2.2.1.2 h']
    by_cases cc : V2 (c 9) < 0
    · rw [if_pos cc, if_neg (by decide), if_neg (by omega)]
    · rw [if_neg cc, if_pos rfl, if_pos (by omega)], hW9.2.2.2.2.2.2.1, hW9.2.2.2.2.2.2.2.1, by rw [Int.natAbs_neg]; exact hW9.2.2.2.2.2.2.2.2⟩
  obtain ⟨M3, hM3⟩ : ∃ M3, M3 = rg_wI M2 82 (c 9) s0 := ⟨_, rfl⟩
  rw [← hM3] at P3
  have hR3 := hR2.F P3.2.1
  have X13 := X12.F P3.2.1
  have X23 := X22.F P3.2.1
  obtain ⟨V3, hV3⟩ : ∃ V3, V3 = va_up V2 (c 9) (-(V2 (c 9))) := ⟨_, rfl⟩
  rw [← hV3] at P3
  have f8 : V3 (c 8) = V t1 * V b2 := by rw [hV3, rg_up_ne n89, e8]
  have f9 : V3 (c 9) = -(V t2 * V b1) := by rw [hV3, rg_up_eq, e9]
  have lA : cL (V t1 * V b2) (k + k) := by rw [v1, v4]; exact l1.1.mul l2.2
  have lB : cL (V t2 * V b1) (k + k) := by rw [v3, v2]; exact l2.1.mul l1.2
  obtain ⟨M4, r4, P4⟩ := cw_increase P3.1 P3.2.2 (w := c 8) (x := c 9) (k := k + k) (hR3.2.2.1 8 (by decide)).2 (hR3.2.2.1 9 (by decide)).2 (Ne.symm n89) (by rw [f8]; exact lA) (by rw [f9]; exact lB.neg) (by omega)
  rw [f8, f9] at P4
  have hR4 := hR3.F P4.2.1
  have R4 := hR4.all
  have k84 := (hR4.2.2.1 8 (by decide)).2
  obtain ⟨r8, n8, hW8⟩ := P4.2.2 (c 8) k84
  rw [rg_up_eq] at hW8
  have hn8 : n8 < 2 ^ 31 := by
    have := (P4.1.L hW8.1 hW8.2.1).2.2.2
    have := hW8.2.2.2.1
    omega
  have hsg := cw_sign hW8 hn8
  have F4 : cF M M4 := P1.2.1.tr (P2.2.1.tr (P3.2.1.tr P4.2.1))
  have hS4 := cS_keep (u := u) (z := z) (V' := va_up V3 (c 8) (V t1 * V b2 + -(V t2 * V b1))) hR hFr hQ ⟨P4.1, F4, P4.2.2⟩ (fun y hy => by rw [rg_up_ne (hy 8 (by decide)), hV3, rg_up_ne (hy 9 (by decide)), hV2, rg_up_ne (hy 9 (by decide)), rg_up_ne (hy 8 (by decide))])
  have hlt : V t1 * V b2 + -(V t2 * V b1) < 0 ↔ q of < q ot := by
    rw [Rat.lt_iff, v1, v2, v3, v4]; omega
  have tail : ∃ M', rK_keepGreater_49 rk of ot s0 (c 9) M2 = some (none, M') ∧ cS u z rk c jf M' (va_up q of (if q of < q ot then q ot else q of)) ∧ cG M M' := by
    rw [rK_keepGreater_49_e, if_pos ⟨k9, hs01⟩]
    have X14 := X13.F P4.2.1
    have X24 := X23.F P4.2.1
    rw [hM3] at r4
    simp only [R2, if_true, Option.bind_some, r4, R4, hsg]
    by_cases cc : q of < q ot
    · have hneg := hlt.mpr cc
      rw [rm_sg_n hneg, if_neg (by decide), if_pos X14.2.1, if_pos cc]
      obtain ⟨M5, r5, S5, G5⟩ := cS_copy hS4.1 (f := of) (g := ot) (k := k) X14.2.1 X24.2.1 hne (by omega) l2
      rw [r5]
      simp only [Option.bind_some]
      rw [rK_keepGreater_78_e]
      exact ⟨M5, rfl, S5, hS4.2.tr G5⟩
    · have hge : 0 ≤ V t1 * V b2 + -(V t2 * V b1) := Int.not_lt.mp (fun h => cc (hlt.mp h))
      have : (0 : Int32) ≤ rm_sg (V t1 * V b2 + -(V t2 * V b1)) := by
        rcases (show V t1 * V b2 + -(V t2 * V b1) = 0 ∨ 0 < V t1 * V b2 + -(V t2 * V b1) by omega) with e | e
        · rw [e]; decide
        · rw [rm_sg_p e]; decide
      rw [if_pos this, rK_keepGreater_78_e, if_neg cc]
      exact ⟨M4, rfl, cS_same hS4.1 rfl, hS4.2⟩
  obtain ⟨M', t1', t2', t3'⟩ := tail
  refine ⟨M', ?_, t2', t3'⟩
  rw [rK_keepGreater_u, rK_keepGreater_e]
  simp only [R0, X1.all, X2.all, if_true, Option.bind_some, r1, R1, X11.all, X21.all, r2, R2]
  by_cases cc : rg_I M2 82 (c 9) = 0
  · rw [if_pos cc]
    rw [if_pos cc] at hs0
    rw [hs0] at t1'
    rw [t1']; rfl
  · rw [if_neg cc]
    rw [if_neg cc] at hs0
    rw [hs0] at t1'
    rw [t1']; rfl
end

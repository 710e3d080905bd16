/-! THE LAW'S LOOP -/
section
variable {u z rk jf ln ng cg tb rn m aS aL aG aN aB b Lb : Nat} {c ro fx g : Nat → Nat} {xs : Nat → Int32}
theorem law_stop {Lb j : Nat} (hL : Lb ≤ 2048) (hj : j ≤ 512) : (nI Lb - (4 : Int32) < nI (4 * j)) ↔ Lb < 4 * j + 4 := by
  by_cases h4 : Lb < 4
  · have h0 : nI Lb - (4 : Int32) < 0 := by
      rcases (show Lb = 0 ∨ Lb = 1 ∨ Lb = 2 ∨ Lb = 3 by omega) with e | e | e | e <;> subst e <;> decide
    exact ⟨fun _ => by omega, fun _ => Int32.lt_of_lt_of_le h0 (nI_pos' (by omega))⟩
  · have e : nI Lb - (4 : Int32) = nI (Lb - 4) := by
      have : nI Lb = nI (Lb - 4) + (4 : Int32) := by rw [show (4 : Int32) = nI 4 from rfl, nI_add, show Lb - 4 + 4 = Lb by omega]
      rw [this, Int32.add_sub_cancel]
    rw [e, nI_ltI (by omega) (by omega)]
    omega
theorem law_loop (hL : Lb ≤ 2048) : ∀ d j : Nat, 512 - j = d → j ≤ 512 → ∀ (s : sS) (M : rg_M), jI u z rk c jf ln ng cg tb rn ro fx b Lb xs m aS aL aG aN aB g j s M → ∃ M' n' s', rZ_law_18 b tb m (nI (4 * j)) M = some (some (.int 1), M') ∧ jI u z rk c jf ln ng cg tb rn ro fx b Lb xs m aS aL aG aN aB g n' s' M' := by
  intro d
  induction d with
  | zero =>
    intro j hd hj s M h
    have e : j = 512 := by omega
    have kb := h.2.2.2.2.2.1.1
    have lb := h.2.2.2.2.2.1.2.1
    rw [rZ_law_18_e, if_pos kb, lb, if_pos ((law_stop hL hj).mpr (by omega))]
    exact ⟨M, j, s, rfl, h⟩
  | succ d ih =>
    intro j hd hj s M h
    have kb := h.2.2.2.2.2.1.1
    have lb := h.2.2.2.2.2.1.2.1
    have ab := h.2.2.2.2.2.1.2.2
    have kt : rg_K M tb = 7 := by
      obtain ⟨y, r, hE, -⟩ := h.1
      exact hE.1.2.1.2.2.2.1
    rw [rZ_law_18_e, if_pos kb, lb]
    by_cases st : Lb < 4 * j + 4
    · rw [if_pos ((law_stop hL hj).mpr st)]
      exact ⟨M, j, s, rfl, h⟩
    · rw [if_neg (fun q => st ((law_stop hL hj).mp q))]
      have e1 : nI (4 * j) + (1 : Int32) = nI (4 * j + 1) := by rw [show (1 : Int32) = nI 1 from rfl, nI_add]
      have e2 : nI (4 * j) + (2 : Int32) = nI (4 * j + 2) := by rw [show (2 : Int32) = nI 2 from rfl, nI_add]
      have e3 : nI (4 * j) + (3 : Int32) = nI (4 * j + 3) := by rw [show (3 : Int32) = nI 3 from rfl, nI_add]
      have e4 : nI (4 * j) + (4 : Int32) = nI (4 * (j + 1)) := by rw [show (4 : Int32) = nI 4 from rfl, nI_add, show 4 * (j + 1) = 4 * j + 4 by omega]
      have k0 := nI_clamp (n := 4 * j) (by omega)
      have k1 := nI_clamp (n := 4 * j + 1) (by omega)
      have k2 := nI_clamp (n := 4 * j + 2) (by omega)
      have k3 := nI_clamp (n := 4 * j + 3) (by omega)
      have p0 := rm_i0 (a := 4 * j) (by omega)
      have p1 := rm_i0 (a := 4 * j + 1) (by omega)
      have p2 := rm_i0 (a := 4 * j + 2) (by omega)
      have p3 := rm_i0 (a := 4 * j + 3) (by omega)
      have q0 : 4 * j < Lb := by omega
      have q1 : 4 * j + 1 < Lb := by omega
      have q2 : 4 * j + 2 < Lb := by omega
      have q3 : 4 * j + 3 < Lb := by omega
      have go : ∀ (M2 : rg_M) (s' : sS), jI u z rk c jf ln ng cg tb rn ro fx b Lb xs m aS aL aG aN aB g (j + 1) s' M2 → ∃ M' n' s', rZ_law_423 b tb m (nI (4 * j)) M2 = some (some (.int 1), M') ∧ jI u z rk c jf ln ng cg tb rn ro fx b Lb xs m aS aL aG aN aB g n' s' M' := fun M2 s' hh => by
        rw [rZ_law_423_e, e4]
        exact ih (j + 1) (by omega) (by omega) s' M2 hh
      simp only [kb, lb, ab, kt, if_true, e1, e2, e3, k0, k1, k2, k3, p0, p1, p2, p3, q0, q1, q2, q3, and_self]
      by_cases o0 : xs (4 * j) &&& (15 : Int32) = 0
      · rw [if_pos o0]
        obtain ⟨M1, M2, t1, t2, t3, t4, t5, t6, t7⟩ := jS (s' := (ts_table s (xs (4 * j + 1)) (xs (4 * j + 2))).2) (r := (ts_table s (xs (4 * j + 1)) (xs (4 * j + 2))).1) (n' := j + 1) (T := fun M => rT_table tb (xs (4 * j + 1)) (xs (4 * j + 2)) M) (R := fun M => rM_table m (xs (4 * j + 1)) (xs (4 * j + 2)) M) h (cT_table h.1 (xs (4 * j + 1)) (xs (4 * j + 2))) (fun M1 q => mM_table q (xs (4 * j + 1)) (xs (4 * j + 2))) (ts_ok_table h.2.2.1 (xs (4 * j + 1)) (xs (4 * j + 2)))
        have t1 : rT_table tb (xs (4 * j + 1)) (xs (4 * j + 2)) M = _ := t1
        have t2 : rM_table m (xs (4 * j + 1)) (xs (4 * j + 2)) M1 = _ := t2
        simp only [t1, t2, t4, t5, t6, t7, Option.bind_some, if_true, k1, k2, k3, p1, p2, p3, q1, q2, q3, and_self]
        exact go M2 _ t3
      rw [if_neg o0]
      by_cases o1 : xs (4 * j) &&& (15 : Int32) = 1
      · rw [if_pos o1]
        obtain ⟨M1, M2, t1, t2, t3, t4, t5, t6, t7⟩ := jS (s' := (ts_set s (xs (4 * j + 1)) (xs (4 * j + 2)) (xs (4 * j + 3))).2) (r := (ts_set s (xs (4 * j + 1)) (xs (4 * j + 2)) (xs (4 * j + 3))).1) (n' := j + 1) (T := fun M => rT_set tb (xs (4 * j + 1)) (xs (4 * j + 2)) (xs (4 * j + 3)) M) (R := fun M => rM_set m (xs (4 * j + 1)) (xs (4 * j + 2)) (xs (4 * j + 3)) M) h (cT_set h.1 h.2.2.1 (by omega) (xs (4 * j + 1)) (xs (4 * j + 2)) (xs (4 * j + 3))) (fun M1 q => mM_set q h.2.2.1 (by omega) (xs (4 * j + 1)) (xs (4 * j + 2)) (xs (4 * j + 3))) (ts_ok_set h.2.2.1 (xs (4 * j + 1)) (xs (4 * j + 2)) (xs (4 * j + 3)))
        have t1 : rT_set tb (xs (4 * j + 1)) (xs (4 * j + 2)) (xs (4 * j + 3)) M = _ := t1
        have t2 : rM_set m (xs (4 * j + 1)) (xs (4 * j + 2)) (xs (4 * j + 3)) M1 = _ := t2
        simp only [t1, t2, t4, t5, t6, t7, Option.bind_some, if_true, k1, k2, k3, p1, p2, p3, q1, q2, q3, and_self]
        exact go M2 _ t3
      rw [if_neg o1]
      by_cases o2 : xs (4 * j) &&& (15 : Int32) = 2
      · rw [if_pos o2]
        obtain ⟨M1, M2, t1, t2, t3, t4, t5, t6, t7⟩ := jS (s' := (ts_cards s (xs (4 * j + 1))).2) (r := (ts_cards s (xs (4 * j + 1))).1) (n' := j + 1) (T := fun M => rT_cards tb (xs (4 * j + 1)) M) (R := fun M => rM_cards m (xs (4 * j + 1)) M) h (cT_cards h.1 (xs (4 * j + 1))) (fun M1 q => mM_cards q (xs (4 * j + 1))) (ts_ok_cards h.2.2.1 (xs (4 * j + 1)))
        have t1 : rT_cards tb (xs (4 * j + 1)) M = _ := t1
        have t2 : rM_cards m (xs (4 * j + 1)) M1 = _ := t2
        simp only [t1, t2, t4, t5, t6, t7, Option.bind_some, if_true, k1, k2, k3, p1, p2, p3, q1, q2, q3, and_self]
        exact go M2 _ t3
      rw [if_neg o2]
      by_cases o3 : xs (4 * j) &&& (15 : Int32) = 3
      · rw [if_pos o3]
        obtain ⟨M1, M2, t1, t2, t3, t4, t5, t6, t7⟩ := jS (s' := (ts_play s 0 (xs (4 * j + 1))).2) (r := (ts_play s 0 (xs (4 * j + 1))).1) (n' := j + 1) (T := fun M => rT_column tb (xs (4 * j + 1)) M) (R := fun M => rM_column m (xs (4 * j + 1)) M) h (cT_column h.1 h.2.2.1 (by omega) (xs (4 * j + 1))) (fun M1 q => mM_column q h.2.2.1 (xs (4 * j + 1))) (ts_ok_play h.2.2.1 0 (xs (4 * j + 1)))
        have t1 : rT_column tb (xs (4 * j + 1)) M = _ := t1
        have t2 : rM_column m (xs (4 * j + 1)) M1 = _ := t2
        simp only [t1, t2, t4, t5, t6, t7, Option.bind_some, if_true, k1, k2, k3, p1, p2, p3, q1, q2, q3, and_self]
        exact go M2 _ t3
      rw [if_neg o3]
      by_cases o4 : xs (4 * j) &&& (15 : Int32) = 4
      · rw [if_pos o4]
        obtain ⟨M1, M2, t1, t2, t3, t4, t5, t6, t7⟩ := jS (s' := (ts_play s 1 (xs (4 * j + 1))).2) (r := (ts_play s 1 (xs (4 * j + 1))).1) (n' := j + 1) (T := fun M => rT_row tb (xs (4 * j + 1)) M) (R := fun M => rM_row m (xs (4 * j + 1)) M) h (cT_row h.1 h.2.2.1 (by omega) (xs (4 * j + 1))) (fun M1 q => mM_row q h.2.2.1 (xs (4 * j + 1))) (ts_ok_play h.2.2.1 1 (xs (4 * j + 1)))
        have t1 : rT_row tb (xs (4 * j + 1)) M = _ := t1
        have t2 : rM_row m (xs (4 * j + 1)) M1 = _ := t2
        simp only [t1, t2, t4, t5, t6, t7, Option.bind_some, if_true, k1, k2, k3, p1, p2, p3, q1, q2, q3, and_self]
        exact go M2 _ t3
      rw [if_neg o4]
      by_cases o5 : xs (4 * j) &&& (15 : Int32) = 5
      · rw [if_pos o5]
        obtain ⟨M1, M2, t1, t2, t3, t4, t5, t6, t7⟩ := jS (s' := (ts_round s).2) (r := (ts_round s).1) (n' := j + 1) (T := fun M => rT_round tb M) (R := fun M => rM_round m M) h (cT_round h.1 h.2.2.1) (fun M1 q => mM_round q h.2.2.1) (ts_ok_round h.2.2.1)
        have t1 : rT_round tb M = _ := t1
        have t2 : rM_round m M1 = _ := t2
        simp only [t1, t2, t4, t5, t6, t7, Option.bind_some, if_true, k1, k2, k3, p1, p2, p3, q1, q2, q3, and_self]
        exact go M2 _ t3
      rw [if_neg o5]
      by_cases o6 : xs (4 * j) &&& (15 : Int32) = 6
      · rw [if_pos o6]
        obtain ⟨V1, v1, v2, v3, v4⟩ := cT_view h.1 h.2.2.1 (xs (4 * j + 1)) (xs (4 * j + 2)) (xs (4 * j + 3))
        obtain ⟨M1, M2, t1, t2, t3, t4, t5, t6, t7⟩ := jS (s' := (ts_view s (xs (4 * j + 1)) (xs (4 * j + 2)) (xs (4 * j + 3))).2) (r := (ts_view s (xs (4 * j + 1)) (xs (4 * j + 2)) (xs (4 * j + 3))).1) (n' := j + 1) (T := fun M => rT_view tb (xs (4 * j + 1)) (xs (4 * j + 2)) (xs (4 * j + 3)) M) (R := fun M => rM_view m (xs (4 * j + 1)) (xs (4 * j + 2)) (xs (4 * j + 3)) M) h (⟨V1, v1, v2, v3⟩) (fun M1 q => mM_view q h.2.2.1 (xs (4 * j + 1)) (xs (4 * j + 2)) (xs (4 * j + 3))) (v4.mono (by omega))
        have t1 : rT_view tb (xs (4 * j + 1)) (xs (4 * j + 2)) (xs (4 * j + 3)) M = _ := t1
        have t2 : rM_view m (xs (4 * j + 1)) (xs (4 * j + 2)) (xs (4 * j + 3)) M1 = _ := t2
        simp only [t1, t2, t4, t5, t6, t7, Option.bind_some, if_true, k1, k2, k3, p1, p2, p3, q1, q2, q3, and_self]
        exact go M2 _ t3
      rw [if_neg o6]
      by_cases o7 : xs (4 * j) &&& (15 : Int32) = 7
      · rw [if_pos o7]
        obtain ⟨M1, M2, t1, t2, t3, t4, t5, t6, t7⟩ := jS (s' := s) (r := (ts_size s (xs (4 * j + 1)))) (n' := j + 1) (T := fun M => rT_size tb (xs (4 * j + 1)) M) (R := fun M => rM_size m (xs (4 * j + 1)) M) h (⟨M, cT_size h.1 (xs (4 * j + 1)), h.1, cW.rf _ _⟩) (fun M1 q => ⟨M1, mM_size q (xs (4 * j + 1)), q, mX.rf M1⟩) (h.2.2.1.mono (by omega))
        have t1 : rT_size tb (xs (4 * j + 1)) M = _ := t1
        have t2 : rM_size m (xs (4 * j + 1)) M1 = _ := t2
        simp only [t1, t2, t4, t5, t6, t7, Option.bind_some, if_true, k1, k2, k3, p1, p2, p3, q1, q2, q3, and_self]
        exact go M2 _ t3
      rw [if_neg o7]
      by_cases o8 : xs (4 * j) &&& (15 : Int32) = 8
      · rw [if_pos o8]
        obtain ⟨M1, M2, t1, t2, t3, t4, t5, t6, t7⟩ := jS (s' := s) (r := (ts_bits s (xs (4 * j + 1)) (xs (4 * j + 2)))) (n' := j + 1) (T := fun M => rT_bits tb (xs (4 * j + 1)) (xs (4 * j + 2)) M) (R := fun M => rM_bits m (xs (4 * j + 1)) (xs (4 * j + 2)) M) h (⟨M, cT_bits h.1 (xs (4 * j + 1)) (xs (4 * j + 2)), h.1, cW.rf _ _⟩) (fun M1 q => ⟨M1, mM_bits q h.2.2.1 (xs (4 * j + 1)) (xs (4 * j + 2)), q, mX.rf M1⟩) (h.2.2.1.mono (by omega))
        have t1 : rT_bits tb (xs (4 * j + 1)) (xs (4 * j + 2)) M = _ := t1
        have t2 : rM_bits m (xs (4 * j + 1)) (xs (4 * j + 2)) M1 = _ := t2
        simp only [t1, t2, t4, t5, t6, t7, Option.bind_some, if_true, k1, k2, k3, p1, p2, p3, q1, q2, q3, and_self]
        exact go M2 _ t3
      rw [if_neg o8]
      by_cases o9 : xs (4 * j) &&& (15 : Int32) = 9
      · rw [if_pos o9]
        obtain ⟨M1, M2, t1, t2, t3, t4, t5, t6, t7⟩ := jS (s' := s) (r := (ts_times s (xs (4 * j + 1)))) (n' := j + 1) (T := fun M => rT_times tb (xs (4 * j + 1)) M) (R := fun M => rM_times m (xs (4 * j + 1)) M) h (cT_times h.1 h.2.2.1 (xs (4 * j + 1))) (fun M1 q => mM_times q h.2.2.1 (xs (4 * j + 1))) (h.2.2.1.mono (by omega))
        have t1 : rT_times tb (xs (4 * j + 1)) M = _ := t1
        have t2 : rM_times m (xs (4 * j + 1)) M1 = _ := t2
        simp only [t1, t2, t4, t5, t6, t7, Option.bind_some, if_true, k1, k2, k3, p1, p2, p3, q1, q2, q3, and_self]
        exact go M2 _ t3
      rw [if_neg o9]
      by_cases o10 : xs (4 * j) &&& (15 : Int32) = 10
      · rw [if_pos o10]
        obtain ⟨M1, M2, t1, t2, t3, t4, t5, t6, t7⟩ := jS (s' := s) (r := (ts_bound s (xs (4 * j + 1)))) (n' := j + 1) (T := fun M => rT_bound tb (xs (4 * j + 1)) M) (R := fun M => rM_bound m (xs (4 * j + 1)) M) h (cT_bound h.1 h.2.2.1 (by omega) (xs (4 * j + 1))) (fun M1 q => mM_bound q h.2.2.1 (by omega) (xs (4 * j + 1))) (h.2.2.1.mono (by omega))
        have t1 : rT_bound tb (xs (4 * j + 1)) M = _ := t1
        have t2 : rM_bound m (xs (4 * j + 1)) M1 = _ := t2
        simp only [t1, t2, t4, t5, t6, t7, Option.bind_some, if_true, k1, k2, k3, p1, p2, p3, q1, q2, q3, and_self]
        exact go M2 _ t3
      rw [if_neg o10]
      by_cases o11 : xs (4 * j) &&& (15 : Int32) = 11
      · rw [if_pos o11]
        obtain ⟨M1, M2, t1, t2, t3, t4, t5, t6, t7⟩ := jS (s' := s) (r := (ts_about s (xs (4 * j + 1)))) (n' := j + 1) (T := fun M => rT_about tb (xs (4 * j + 1)) M) (R := fun M => rM_about m (xs (4 * j + 1)) M) h (⟨M, cT_about h.1 h.2.2.1 (xs (4 * j + 1)), h.1, cW.rf _ _⟩) (fun M1 q => ⟨M1, mM_about q h.2.2.1 (xs (4 * j + 1)), q, mX.rf M1⟩) (h.2.2.1.mono (by omega))
        have t1 : rT_about tb (xs (4 * j + 1)) M = _ := t1
        have t2 : rM_about m (xs (4 * j + 1)) M1 = _ := t2
        simp only [t1, t2, t4, t5, t6, t7, Option.bind_some, if_true, k1, k2, k3, p1, p2, p3, q1, q2, q3, and_self]
        exact go M2 _ t3
      rw [if_neg o11]
      exact go M s ⟨h.1, h.2.1, h.2.2.1.mono (by omega), h.2.2.2⟩
end

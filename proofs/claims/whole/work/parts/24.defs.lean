/-! what the methods do, as functions -/
def rg_uv (o : Option rg_U) : Option rg_M := o.bind fun r => match r.1 with | none => some r.2 | _ => none
def rg_ui (o : Option rg_U) : Option (Int32 × rg_M) := o.bind fun r => match r.1 with | some (.int x) => some (x, r.2) | _ => none
def rg_ul (o : Option rg_U) : Option (Int64 × rg_M) := o.bind fun r => match r.1 with | some (.long x) => some (x, r.2) | _ => none
def rg_ur (o : Option rg_U) : Option (Nat × rg_M) := o.bind fun r => match r.1 with | some (.ref x) => some (x, r.2) | _ => none
theorem rg_ic {α : Type} {P : Prop} {_ : Decidable P} {a a' b b' : α} (h1 : a = a') (h2 : b = b') : (if P then a else b) = (if P then a' else b') := by rw [h1, h2]
theorem rg_ip {α : Type} {P P' : Prop} {_ : Decidable P} {_ : Decidable P'} {a b : α} (h : P ↔ P') : (if P then a else b) = (if P' then a else b) := by
  by_cases q : P
  · rw [if_pos q, if_pos (h.mp q)]
  · rw [if_neg q, if_neg (fun z => q (h.mpr z))]
theorem rg_bc {α β : Type} {o : Option α} {f g : α → Option β} (h : ∀ b, f b = g b) : o.bind f = o.bind g := by
  cases o with
  | none => rfl
  | some b => exact h b
theorem rg_E_sw {k : Nat} {x : Int32} {ts : List Nat} {t d : Nat} {r : rg_Lc × List Value × rg_M} (lo : Nat) (v : Int32) (hv : nI lo = v) : rg_E rg_cod k (rg_sw x (nI lo) (t :: ts) d, r) = if x = v then rg_E rg_cod k (t, r) else rg_E rg_cod k (rg_sw x (nI (lo + 1)) ts d, r) := by
  subst hv
  rw [rg_sw]
  by_cases h : x = nI lo
  · rw [if_pos h, if_pos h]
  · rw [if_neg h, if_neg h, nI_1]
theorem rg_lc_ge (x y : Int64) : 0 ≤ lg_cmp x y ↔ y ≤ x := lg_cmp_ge x y
theorem rg_lc_lt (x y : Int64) : lg_cmp x y < 0 ↔ x < y := by
  rw [← Int32.not_le, rg_lc_ge, Int64.not_le]
theorem rg_lc_eq (x y : Int64) : lg_cmp x y = 0 ↔ x = y := by
  unfold lg_cmp
  by_cases h1 : x > y
  · rw [if_pos h1]
    refine ⟨fun h => absurd h (by decide), fun h => ?_⟩
    subst h; exact absurd h1 (Int64.lt_irrefl)
  · rw [if_neg h1]
    by_cases h2 : x = y
    · rw [if_pos h2]; exact ⟨fun _ => h2, fun _ => rfl⟩
    · rw [if_neg h2]; exact ⟨fun h => absurd h (by decide), fun h => absurd h h2⟩
theorem rg_lc_gt (x y : Int64) : 0 < lg_cmp x y ↔ y < x := by
  unfold lg_cmp
  by_cases h1 : x > y
  · rw [if_pos h1]; exact ⟨fun _ => h1, fun _ => by decide⟩
  · rw [if_neg h1]
    refine ⟨fun h => ?_, fun h => absurd h h1⟩
    by_cases h2 : x = y
    · rw [if_pos h2] at h; exact absurd h (by decide)
    · rw [if_neg h2] at h; exact absurd h (by decide)
theorem rg_lc_le (x y : Int64) : lg_cmp x y ≤ 0 ↔ x ≤ y := by
  rw [← Int32.not_lt, rg_lc_gt, Int64.not_lt]
noncomputable def rW_init (a0 : Nat) (M : rg_M) : Option (rg_M) := rg_vo rg_cod 0 [.ref a0] M
noncomputable def rW_init_b (a0 : Nat) (M : rg_M) : Option rg_U := rg_E rg_cod 0 (0, [some (.ref a0)], [], M)
theorem rW_init_u (a0 : Nat) (M : rg_M) : rW_init a0 M = rg_uv (rW_init_b a0 M) := rfl
noncomputable def rK_init (a0 : Nat) (M : rg_M) : Option (rg_M) := rg_vo rg_cod 1 [.ref a0] M
noncomputable def rK_init_b (a0 : Nat) (M : rg_M) : Option rg_U := rg_E rg_cod 1 (0, [some (.ref a0)], [], M)
theorem rK_init_u (a0 : Nat) (M : rg_M) : rK_init a0 M = rg_uv (rK_init_b a0 M) := rfl
noncomputable def rW_settle (a0 : Nat) (a1 : Int32) (M : rg_M) : Option (rg_M) := rg_vo rg_cod 2 [.ref a0, .int a1] M
noncomputable def rW_settle_b (a0 : Nat) (a1 : Int32) (M : rg_M) : Option rg_U := rg_E rg_cod 2 (0, [some (.ref a0), some (.int a1), none], [], M)
theorem rW_settle_u (a0 : Nat) (a1 : Int32) (M : rg_M) : rW_settle a0 a1 M = rg_uv (rW_settle_b a0 a1 M) := rfl
noncomputable def rW_settle_2 (v0 : Nat) (v2 : Int32) (M : rg_M) : Option rg_U := rg_E rg_cod 2 (2, [some (.ref v0), none, some (.int v2)], [], M)
noncomputable def rW_settle_23 (v0 : Nat) (v2 : Int32) (M : rg_M) : Option rg_U := rg_E rg_cod 2 (23, [some (.ref v0), none, some (.int v2)], [], M)
noncomputable def rW_settle_37  (M : rg_M) : Option rg_U := rg_E rg_cod 2 (37, [none, none, none], [], M)
noncomputable def rW_become (a0 : Nat) (a1 : Int64) (M : rg_M) : Option (rg_M) := rg_vo rg_cod 3 [.ref a0, .long a1] M
noncomputable def rW_become_b (a0 : Nat) (a1 : Int64) (M : rg_M) : Option rg_U := rg_E rg_cod 3 (0, [some (.ref a0), some (.long a1), none, none, none, none], [], M)
theorem rW_become_u (a0 : Nat) (a1 : Int64) (M : rg_M) : rW_become a0 a1 M = rg_uv (rW_become_b a0 a1 M) := rfl
noncomputable def rW_become_12 (v0 : Nat) (v1 : Int64) (s0 : Int64) (M : rg_M) : Option rg_U := rg_E rg_cod 3 (12, [some (.ref v0), some (.long v1), none, none, none, none], [.long s0], M)
noncomputable def rW_become_16 (v0 : Nat) (v1 : Int64) (v3 : Int64) (v5 : Int32) (M : rg_M) : Option rg_U := rg_E rg_cod 3 (16, [some (.ref v0), some (.long v1), none, some (.long v3), none, some (.int v5)], [], M)
noncomputable def rW_become_58 (v0 : Nat) (s0 : Int32) (s1 : Nat) (M : rg_M) : Option rg_U := rg_E rg_cod 3 (58, [some (.ref v0), none, none, none, none, none], [.int s0, .ref s1], M)
noncomputable def rF_init (a0 : Nat) (M : rg_M) : Option (rg_M) := rg_vo rg_cod 4 [.ref a0] M
noncomputable def rF_init_b (a0 : Nat) (M : rg_M) : Option rg_U := rg_E rg_cod 4 (0, [some (.ref a0)], [], M)
theorem rF_init_u (a0 : Nat) (M : rg_M) : rF_init a0 M = rg_uv (rF_init_b a0 M) := rfl
noncomputable def rL_init (a0 : Nat) (a1 : Nat) (M : rg_M) : Option (rg_M) := rg_vo rg_cod 5 [.ref a0, .ref a1] M
noncomputable def rL_init_b (a0 : Nat) (a1 : Nat) (M : rg_M) : Option rg_U := rg_E rg_cod 5 (0, [some (.ref a0), some (.ref a1), none], [], M)
theorem rL_init_u (a0 : Nat) (a1 : Nat) (M : rg_M) : rL_init a0 a1 M = rg_uv (rL_init_b a0 a1 M) := rfl
noncomputable def rL_init_98 (v0 : Nat) (v2 : Int32) (M : rg_M) : Option rg_U := rg_E rg_cod 5 (98, [some (.ref v0), none, some (.int v2)], [], M)
noncomputable def rN_init (a0 : Nat) (a1 : Nat) (a2 : Nat) (M : rg_M) : Option (rg_M) := rg_vo rg_cod 6 [.ref a0, .ref a1, .ref a2] M
noncomputable def rN_init_b (a0 : Nat) (a1 : Nat) (a2 : Nat) (M : rg_M) : Option rg_U := rg_E rg_cod 6 (0, [some (.ref a0), some (.ref a1), some (.ref a2)], [], M)
theorem rN_init_u (a0 : Nat) (a1 : Nat) (a2 : Nat) (M : rg_M) : rN_init a0 a1 a2 M = rg_uv (rN_init_b a0 a1 a2 M) := rfl
noncomputable def rC_init (a0 : Nat) (a1 : Nat) (a2 : Nat) (M : rg_M) : Option (rg_M) := rg_vo rg_cod 7 [.ref a0, .ref a1, .ref a2] M
noncomputable def rC_init_b (a0 : Nat) (a1 : Nat) (a2 : Nat) (M : rg_M) : Option rg_U := rg_E rg_cod 7 (0, [some (.ref a0), some (.ref a1), some (.ref a2), none], [], M)
theorem rC_init_u (a0 : Nat) (a1 : Nat) (a2 : Nat) (M : rg_M) : rC_init a0 a1 a2 M = rg_uv (rC_init_b a0 a1 a2 M) := rfl
noncomputable def rC_init_58 (v0 : Nat) (v2 : Nat) (v3 : Int32) (M : rg_M) : Option rg_U := rg_E rg_cod 7 (58, [some (.ref v0), none, some (.ref v2), some (.int v3)], [], M)
noncomputable def rC_init_94 (v0 : Nat) (v2 : Nat) (v3 : Int32) (s0 : Nat) (s1 : Int32) (s2 : Nat) (M : rg_M) : Option rg_U := rg_E rg_cod 7 (94, [some (.ref v0), none, some (.ref v2), some (.int v3)], [.ref s0, .int s1, .ref s2], M)
noncomputable def rT_init (a0 : Nat) (M : rg_M) : Option (rg_M) := rg_vo rg_cod 8 [.ref a0] M
noncomputable def rT_init_b (a0 : Nat) (M : rg_M) : Option rg_U := rg_E rg_cod 8 (0, [some (.ref a0)], [], M)
theorem rT_init_u (a0 : Nat) (M : rg_M) : rT_init a0 M = rg_uv (rT_init_b a0 M) := rfl
noncomputable def rM_at (a0 : Int32) (M : rg_M) : Option (Int32 × rg_M) := rg_io rg_cod 9 [.int a0] M
noncomputable def rM_at_b (a0 : Int32) (M : rg_M) : Option rg_U := rg_E rg_cod 9 (0, [some (.int a0)], [], M)
theorem rM_at_u (a0 : Int32) (M : rg_M) : rM_at a0 M = rg_ui (rM_at_b a0 M) := rfl
noncomputable def rM_at_27 (s0 : Int32) (M : rg_M) : Option rg_U := rg_E rg_cod 9 (27, [none], [.int s0], M)
noncomputable def rM_trim (a0 : Nat) (a1 : Int32) (M : rg_M) : Option (rg_M) := rg_vo rg_cod 10 [.ref a0, .int a1] M
noncomputable def rM_trim_b (a0 : Nat) (a1 : Int32) (M : rg_M) : Option rg_U := rg_E rg_cod 10 (0, [some (.ref a0), some (.int a1)], [], M)
theorem rM_trim_u (a0 : Nat) (a1 : Int32) (M : rg_M) : rM_trim a0 a1 M = rg_uv (rM_trim_b a0 a1 M) := rfl
noncomputable def rM_trim_0 (v0 : Nat) (v1 : Int32) (M : rg_M) : Option rg_U := rg_E rg_cod 10 (0, [some (.ref v0), some (.int v1)], [], M)
noncomputable def rM_trim_43 (v0 : Nat) (v1 : Int32) (M : rg_M) : Option rg_U := rg_E rg_cod 10 (43, [some (.ref v0), some (.int v1)], [], M)
noncomputable def rM_trim_59  (M : rg_M) : Option rg_U := rg_E rg_cod 10 (59, [none, none], [], M)
noncomputable def rM_is (a0 : Nat) (a1 : Int32) (a2 : Int64) (M : rg_M) : Option (rg_M) := rg_vo rg_cod 11 [.ref a0, .int a1, .long a2] M
noncomputable def rM_is_b (a0 : Nat) (a1 : Int32) (a2 : Int64) (M : rg_M) : Option rg_U := rg_E rg_cod 11 (0, [some (.ref a0), some (.int a1), some (.long a2), none, none, none], [], M)
theorem rM_is_u (a0 : Nat) (a1 : Int32) (a2 : Int64) (M : rg_M) : rM_is a0 a1 a2 M = rg_uv (rM_is_b a0 a1 a2 M) := rfl
noncomputable def rM_is_12 (v0 : Nat) (v1 : Int32) (v2 : Int64) (s0 : Int64) (M : rg_M) : Option rg_U := rg_E rg_cod 11 (12, [some (.ref v0), some (.int v1), some (.long v2), none, none, none], [.long s0], M)
noncomputable def rM_is_66 (v0 : Nat) (v1 : Int32) (s0 : Int32) (s1 : Int32) (s2 : Nat) (M : rg_M) : Option rg_U := rg_E rg_cod 11 (66, [some (.ref v0), some (.int v1), none, none, none, none], [.int s0, .int s1, .ref s2], M)
noncomputable def rM_init (a0 : Nat) (M : rg_M) : Option (rg_M) := rg_vo rg_cod 12 [.ref a0] M
noncomputable def rM_init_b (a0 : Nat) (M : rg_M) : Option rg_U := rg_E rg_cod 12 (0, [some (.ref a0)], [], M)
theorem rM_init_u (a0 : Nat) (M : rg_M) : rM_init a0 M = rg_uv (rM_init_b a0 M) := rfl
noncomputable def rT_isWithin (a0 : Int32) (a1 : Int32) (a2 : Int32) (M : rg_M) : Option (Int32 × rg_M) := rg_io rg_cod 13 [.int a0, .int a1, .int a2] M
noncomputable def rT_isWithin_b (a0 : Int32) (a1 : Int32) (a2 : Int32) (M : rg_M) : Option rg_U := rg_E rg_cod 13 (0, [some (.int a0), some (.int a1), some (.int a2)], [], M)
theorem rT_isWithin_u (a0 : Int32) (a1 : Int32) (a2 : Int32) (M : rg_M) : rT_isWithin a0 a1 a2 M = rg_ui (rT_isWithin_b a0 a1 a2 M) := rfl
noncomputable def rT_isWithin_14  (M : rg_M) : Option rg_U := rg_E rg_cod 13 (14, [none, none, none], [], M)
noncomputable def rT_isWithin_15 (s0 : Int32) (M : rg_M) : Option rg_U := rg_E rg_cod 13 (15, [none, none, none], [.int s0], M)
noncomputable def rF_become (a0 : Nat) (a1 : Int32) (a2 : Int32) (M : rg_M) : Option (rg_M) := rg_vo rg_cod 14 [.ref a0, .int a1, .int a2] M
noncomputable def rF_become_b (a0 : Nat) (a1 : Int32) (a2 : Int32) (M : rg_M) : Option rg_U := rg_E rg_cod 14 (0, [some (.ref a0), some (.int a1), some (.int a2)], [], M)
theorem rF_become_u (a0 : Nat) (a1 : Int32) (a2 : Int32) (M : rg_M) : rF_become a0 a1 a2 M = rg_uv (rF_become_b a0 a1 a2 M) := rfl
noncomputable def rL_begin (a0 : Nat) (a1 : Int32) (a2 : Int32) (a3 : Int32) (a4 : Int32) (M : rg_M) : Option (rg_M) := rg_vo rg_cod 15 [.ref a0, .int a1, .int a2, .int a3, .int a4] M
noncomputable def rL_begin_b (a0 : Nat) (a1 : Int32) (a2 : Int32) (a3 : Int32) (a4 : Int32) (M : rg_M) : Option rg_U := rg_E rg_cod 15 (0, [some (.ref a0), some (.int a1), some (.int a2), some (.int a3), some (.int a4), none], [], M)
theorem rL_begin_u (a0 : Nat) (a1 : Int32) (a2 : Int32) (a3 : Int32) (a4 : Int32) (M : rg_M) : rL_begin a0 a1 a2 a3 a4 M = rg_uv (rL_begin_b a0 a1 a2 a3 a4 M) := rfl
noncomputable def rL_begin_24 (v0 : Nat) (v5 : Int32) (M : rg_M) : Option rg_U := rg_E rg_cod 15 (24, [some (.ref v0), none, none, none, none, some (.int v5)], [], M)
noncomputable def rN_begin (a0 : Nat) (a1 : Int32) (a2 : Int32) (M : rg_M) : Option (rg_M) := rg_vo rg_cod 16 [.ref a0, .int a1, .int a2] M
noncomputable def rN_begin_b (a0 : Nat) (a1 : Int32) (a2 : Int32) (M : rg_M) : Option rg_U := rg_E rg_cod 16 (0, [some (.ref a0), some (.int a1), some (.int a2), none], [], M)
theorem rN_begin_u (a0 : Nat) (a1 : Int32) (a2 : Int32) (M : rg_M) : rN_begin a0 a1 a2 M = rg_uv (rN_begin_b a0 a1 a2 M) := rfl
noncomputable def rN_begin_2 (v0 : Nat) (v1 : Int32) (v2 : Int32) (v3 : Int32) (M : rg_M) : Option rg_U := rg_E rg_cod 16 (2, [some (.ref v0), some (.int v1), some (.int v2), some (.int v3)], [], M)
noncomputable def rT_begin (a0 : Nat) (a1 : Int32) (M : rg_M) : Option (rg_M) := rg_vo rg_cod 17 [.ref a0, .int a1] M
noncomputable def rT_begin_b (a0 : Nat) (a1 : Int32) (M : rg_M) : Option rg_U := rg_E rg_cod 17 (0, [some (.ref a0), some (.int a1)], [], M)
theorem rT_begin_u (a0 : Nat) (a1 : Int32) (M : rg_M) : rT_begin a0 a1 M = rg_uv (rT_begin_b a0 a1 M) := rfl
noncomputable def rT_table (a0 : Nat) (a1 : Int32) (a2 : Int32) (M : rg_M) : Option (Int32 × rg_M) := rg_io rg_cod 18 [.ref a0, .int a1, .int a2] M
noncomputable def rT_table_b (a0 : Nat) (a1 : Int32) (a2 : Int32) (M : rg_M) : Option rg_U := rg_E rg_cod 18 (0, [some (.ref a0), some (.int a1), some (.int a2)], [], M)
theorem rT_table_u (a0 : Nat) (a1 : Int32) (a2 : Int32) (M : rg_M) : rT_table a0 a1 a2 M = rg_ui (rT_table_b a0 a1 a2 M) := rfl
noncomputable def rT_table_18  (M : rg_M) : Option rg_U := rg_E rg_cod 18 (18, [none, none, none], [], M)
noncomputable def rM_changed (a0 : Nat) (M : rg_M) : Option (rg_M) := rg_vo rg_cod 19 [.ref a0] M
noncomputable def rM_changed_b (a0 : Nat) (M : rg_M) : Option rg_U := rg_E rg_cod 19 (0, [some (.ref a0), none], [], M)
theorem rM_changed_u (a0 : Nat) (M : rg_M) : rM_changed a0 M = rg_uv (rM_changed_b a0 M) := rfl
noncomputable def rM_changed_2 (v0 : Nat) (v1 : Int32) (M : rg_M) : Option rg_U := rg_E rg_cod 19 (2, [some (.ref v0), some (.int v1)], [], M)
noncomputable def rM_begin (a0 : Nat) (a1 : Int32) (M : rg_M) : Option (rg_M) := rg_vo rg_cod 20 [.ref a0, .int a1] M
noncomputable def rM_begin_b (a0 : Nat) (a1 : Int32) (M : rg_M) : Option rg_U := rg_E rg_cod 20 (0, [some (.ref a0), some (.int a1), none], [], M)
theorem rM_begin_u (a0 : Nat) (a1 : Int32) (M : rg_M) : rM_begin a0 a1 M = rg_uv (rM_begin_b a0 a1 M) := rfl
noncomputable def rM_begin_22 (v0 : Nat) (v2 : Int32) (M : rg_M) : Option rg_U := rg_E rg_cod 20 (22, [some (.ref v0), none, some (.int v2)], [], M)
noncomputable def rM_table (a0 : Nat) (a1 : Int32) (a2 : Int32) (M : rg_M) : Option (Int32 × rg_M) := rg_io rg_cod 21 [.ref a0, .int a1, .int a2] M
noncomputable def rM_table_b (a0 : Nat) (a1 : Int32) (a2 : Int32) (M : rg_M) : Option rg_U := rg_E rg_cod 21 (0, [some (.ref a0), some (.int a1), some (.int a2), none], [], M)
theorem rM_table_u (a0 : Nat) (a1 : Int32) (a2 : Int32) (M : rg_M) : rM_table a0 a1 a2 M = rg_ui (rM_table_b a0 a1 a2 M) := rfl
noncomputable def rM_table_20  (M : rg_M) : Option rg_U := rg_E rg_cod 21 (20, [none, none, none, none], [], M)
noncomputable def rM_table_39 (v0 : Nat) (v3 : Int32) (M : rg_M) : Option rg_U := rg_E rg_cod 21 (39, [some (.ref v0), none, none, some (.int v3)], [], M)
noncomputable def rL_ways (a0 : Nat) (a1 : Int32) (M : rg_M) : Option (Int32 × rg_M) := rg_io rg_cod 22 [.ref a0, .int a1] M
noncomputable def rL_ways_b (a0 : Nat) (a1 : Int32) (M : rg_M) : Option rg_U := rg_E rg_cod 22 (0, [some (.ref a0), some (.int a1)], [], M)
theorem rL_ways_u (a0 : Nat) (a1 : Int32) (M : rg_M) : rL_ways a0 a1 M = rg_ui (rL_ways_b a0 a1 M) := rfl
noncomputable def rL_ways_15 (s0 : Int32) (M : rg_M) : Option rg_U := rg_E rg_cod 22 (15, [none, none], [.int s0], M)
noncomputable def rL_has (a0 : Nat) (a1 : Int32) (a2 : Int32) (M : rg_M) : Option (Int32 × rg_M) := rg_io rg_cod 23 [.ref a0, .int a1, .int a2] M
noncomputable def rL_has_b (a0 : Nat) (a1 : Int32) (a2 : Int32) (M : rg_M) : Option rg_U := rg_E rg_cod 23 (0, [some (.ref a0), some (.int a1), some (.int a2)], [], M)
theorem rL_has_u (a0 : Nat) (a1 : Int32) (a2 : Int32) (M : rg_M) : rL_has a0 a1 a2 M = rg_ui (rL_has_b a0 a1 a2 M) := rfl
noncomputable def rL_has_33  (M : rg_M) : Option rg_U := rg_E rg_cod 23 (33, [none, none, none], [], M)
noncomputable def rL_has_34 (s0 : Int32) (M : rg_M) : Option rg_U := rg_E rg_cod 23 (34, [none, none, none], [.int s0], M)
noncomputable def rT_set (a0 : Nat) (a1 : Int32) (a2 : Int32) (a3 : Int32) (M : rg_M) : Option (Int32 × rg_M) := rg_io rg_cod 24 [.ref a0, .int a1, .int a2, .int a3] M
noncomputable def rT_set_b (a0 : Nat) (a1 : Int32) (a2 : Int32) (a3 : Int32) (M : rg_M) : Option rg_U := rg_E rg_cod 24 (0, [some (.ref a0), some (.int a1), some (.int a2), some (.int a3)], [], M)
theorem rT_set_u (a0 : Nat) (a1 : Int32) (a2 : Int32) (a3 : Int32) (M : rg_M) : rT_set a0 a1 a2 a3 M = rg_ui (rT_set_b a0 a1 a2 a3 M) := rfl
noncomputable def rT_set_15  (M : rg_M) : Option rg_U := rg_E rg_cod 24 (15, [none, none, none, none], [], M)
noncomputable def rT_set_54  (M : rg_M) : Option rg_U := rg_E rg_cod 24 (54, [none, none, none, none], [], M)
noncomputable def rM_set (a0 : Nat) (a1 : Int32) (a2 : Int32) (a3 : Int32) (M : rg_M) : Option (Int32 × rg_M) := rg_io rg_cod 25 [.ref a0, .int a1, .int a2, .int a3] M
noncomputable def rM_set_b (a0 : Nat) (a1 : Int32) (a2 : Int32) (a3 : Int32) (M : rg_M) : Option rg_U := rg_E rg_cod 25 (0, [some (.ref a0), some (.int a1), some (.int a2), some (.int a3)], [], M)
theorem rM_set_u (a0 : Nat) (a1 : Int32) (a2 : Int32) (a3 : Int32) (M : rg_M) : rM_set a0 a1 a2 a3 M = rg_ui (rM_set_b a0 a1 a2 a3 M) := rfl
noncomputable def rM_set_53  (M : rg_M) : Option rg_U := rg_E rg_cod 25 (53, [none, none, none, none], [], M)
noncomputable def rC_begin (a0 : Nat) (a1 : Int32) (M : rg_M) : Option (rg_M) := rg_vo rg_cod 26 [.ref a0, .int a1] M
noncomputable def rC_begin_b (a0 : Nat) (a1 : Int32) (M : rg_M) : Option rg_U := rg_E rg_cod 26 (0, [some (.ref a0), some (.int a1)], [], M)
theorem rC_begin_u (a0 : Nat) (a1 : Int32) (M : rg_M) : rC_begin a0 a1 M = rg_uv (rC_begin_b a0 a1 M) := rfl
noncomputable def rT_cards (a0 : Nat) (a1 : Int32) (M : rg_M) : Option (Int32 × rg_M) := rg_io rg_cod 27 [.ref a0, .int a1] M
noncomputable def rT_cards_b (a0 : Nat) (a1 : Int32) (M : rg_M) : Option rg_U := rg_E rg_cod 27 (0, [some (.ref a0), some (.int a1)], [], M)
theorem rT_cards_u (a0 : Nat) (a1 : Int32) (M : rg_M) : rT_cards a0 a1 M = rg_ui (rT_cards_b a0 a1 M) := rfl
noncomputable def rM_cards (a0 : Nat) (a1 : Int32) (M : rg_M) : Option (Int32 × rg_M) := rg_io rg_cod 28 [.ref a0, .int a1] M
noncomputable def rM_cards_b (a0 : Nat) (a1 : Int32) (M : rg_M) : Option rg_U := rg_E rg_cod 28 (0, [some (.ref a0), some (.int a1)], [], M)
theorem rM_cards_u (a0 : Nat) (a1 : Int32) (M : rg_M) : rM_cards a0 a1 M = rg_ui (rM_cards_b a0 a1 M) := rfl
noncomputable def rM_cards_10  (M : rg_M) : Option rg_U := rg_E rg_cod 28 (10, [none, none], [], M)
noncomputable def rL_slot (a0 : Nat) (a1 : Int32) (a2 : Int32) (M : rg_M) : Option (Int32 × rg_M) := rg_io rg_cod 29 [.ref a0, .int a1, .int a2] M
noncomputable def rL_slot_b (a0 : Nat) (a1 : Int32) (a2 : Int32) (M : rg_M) : Option rg_U := rg_E rg_cod 29 (0, [some (.ref a0), some (.int a1), some (.int a2)], [], M)
theorem rL_slot_u (a0 : Nat) (a1 : Int32) (a2 : Int32) (M : rg_M) : rL_slot a0 a1 a2 M = rg_ui (rL_slot_b a0 a1 a2 M) := rfl
noncomputable def rW_sign (a0 : Nat) (M : rg_M) : Option (Int32 × rg_M) := rg_io rg_cod 30 [.ref a0] M
noncomputable def rW_sign_b (a0 : Nat) (M : rg_M) : Option rg_U := rg_E rg_cod 30 (0, [some (.ref a0)], [], M)
theorem rW_sign_u (a0 : Nat) (M : rg_M) : rW_sign a0 M = rg_ui (rW_sign_b a0 M) := rfl
noncomputable def rW_sign_21 (s0 : Int32) (M : rg_M) : Option rg_U := rg_E rg_cod 30 (21, [none], [.int s0], M)
noncomputable def rW_isOneWithoutSign (a0 : Nat) (M : rg_M) : Option (Int32 × rg_M) := rg_io rg_cod 31 [.ref a0] M
noncomputable def rW_isOneWithoutSign_b (a0 : Nat) (M : rg_M) : Option rg_U := rg_E rg_cod 31 (0, [some (.ref a0)], [], M)
theorem rW_isOneWithoutSign_u (a0 : Nat) (M : rg_M) : rW_isOneWithoutSign a0 M = rg_ui (rW_isOneWithoutSign_b a0 M) := rfl
noncomputable def rW_isOneWithoutSign_22  (M : rg_M) : Option rg_U := rg_E rg_cod 31 (22, [none], [], M)
noncomputable def rW_isOneWithoutSign_23 (s0 : Int32) (M : rg_M) : Option rg_U := rg_E rg_cod 31 (23, [none], [.int s0], M)
noncomputable def rW_lowest (a0 : Nat) (M : rg_M) : Option (Int64 × rg_M) := rg_lg rg_cod 32 [.ref a0] M
noncomputable def rW_lowest_b (a0 : Nat) (M : rg_M) : Option rg_U := rg_E rg_cod 32 (0, [some (.ref a0), none, none, none, none], [], M)
theorem rW_lowest_u (a0 : Nat) (M : rg_M) : rW_lowest a0 M = rg_ul (rW_lowest_b a0 M) := rfl
noncomputable def rW_lowest_18 (v0 : Nat) (s0 : Int64) (M : rg_M) : Option rg_U := rg_E rg_cod 32 (18, [some (.ref v0), none, none, none, none], [.long s0], M)
noncomputable def rW_lowest_38 (v1 : Int64) (s0 : Int64) (M : rg_M) : Option rg_U := rg_E rg_cod 32 (38, [none, some (.long v1), none, none, none], [.long s0], M)
noncomputable def rK_commonOf (a0 : Int64) (a1 : Int64) (M : rg_M) : Option (Int64 × rg_M) := rg_lg rg_cod 33 [.long a0, .long a1] M
noncomputable def rK_commonOf_b (a0 : Int64) (a1 : Int64) (M : rg_M) : Option rg_U := rg_E rg_cod 33 (0, [some (.long a0), none, some (.long a1), none, none, none, none, none, none, none, none], [], M)
theorem rK_commonOf_u (a0 : Int64) (a1 : Int64) (M : rg_M) : rK_commonOf a0 a1 M = rg_ul (rK_commonOf_b a0 a1 M) := rfl
noncomputable def rK_commonOf_9 (v4 : Int64) (v6 : Int64) (v8 : Int32) (M : rg_M) : Option rg_U := rg_E rg_cod 33 (9, [none, none, none, none, some (.long v4), none, some (.long v6), none, some (.int v8), none, none], [], M)
noncomputable def rK_commonOf_44 (v4 : Int64) (M : rg_M) : Option rg_U := rg_E rg_cod 33 (44, [none, none, none, none, some (.long v4), none, none, none, none, none, none], [], M)
noncomputable def rW_compareSize (a0 : Nat) (a1 : Nat) (M : rg_M) : Option (Int32 × rg_M) := rg_io rg_cod 34 [.ref a0, .ref a1] M
noncomputable def rW_compareSize_b (a0 : Nat) (a1 : Nat) (M : rg_M) : Option rg_U := rg_E rg_cod 34 (0, [some (.ref a0), some (.ref a1), none], [], M)
theorem rW_compareSize_u (a0 : Nat) (a1 : Nat) (M : rg_M) : rW_compareSize a0 a1 M = rg_ui (rW_compareSize_b a0 a1 M) := rfl
noncomputable def rW_compareSize_27 (s0 : Int32) (M : rg_M) : Option rg_U := rg_E rg_cod 34 (27, [none, none, none], [.int s0], M)
noncomputable def rW_compareSize_35 (v0 : Nat) (v1 : Nat) (v2 : Int32) (M : rg_M) : Option rg_U := rg_E rg_cod 34 (35, [some (.ref v0), some (.ref v1), some (.int v2)], [], M)
noncomputable def rW_compareSize_74 (s0 : Int32) (M : rg_M) : Option rg_U := rg_E rg_cod 34 (74, [none, none, none], [.int s0], M)
noncomputable def rW_room (a0 : Nat) (a1 : Int32) (M : rg_M) : Option (rg_M) := rg_vo rg_cod 35 [.ref a0, .int a1] M
noncomputable def rW_room_b (a0 : Nat) (a1 : Int32) (M : rg_M) : Option rg_U := rg_E rg_cod 35 (0, [some (.ref a0), some (.int a1), none, none], [], M)
theorem rW_room_u (a0 : Nat) (a1 : Int32) (M : rg_M) : rW_room a0 a1 M = rg_uv (rW_room_b a0 a1 M) := rfl
noncomputable def rW_room_20 (v0 : Nat) (v2 : Nat) (v3 : Int32) (M : rg_M) : Option rg_U := rg_E rg_cod 35 (20, [some (.ref v0), none, some (.ref v2), some (.int v3)], [], M)
noncomputable def rW_copy (a0 : Nat) (a1 : Nat) (M : rg_M) : Option (rg_M) := rg_vo rg_cod 36 [.ref a0, .ref a1] M
noncomputable def rW_copy_b (a0 : Nat) (a1 : Nat) (M : rg_M) : Option rg_U := rg_E rg_cod 36 (0, [some (.ref a0), some (.ref a1), none], [], M)
theorem rW_copy_u (a0 : Nat) (a1 : Nat) (M : rg_M) : rW_copy a0 a1 M = rg_uv (rW_copy_b a0 a1 M) := rfl
noncomputable def rW_copy_10 (v0 : Nat) (v1 : Nat) (v2 : Int32) (M : rg_M) : Option rg_U := rg_E rg_cod 36 (10, [some (.ref v0), some (.ref v1), some (.int v2)], [], M)
noncomputable def rJ_numberOfLeadingZeros (a0 : Int32) (M : rg_M) : Option (Int32 × rg_M) := rg_io rg_cod 37 [.int a0] M
noncomputable def rJ_numberOfLeadingZeros_b (a0 : Int32) (M : rg_M) : Option rg_U := rg_E rg_cod 37 (0, [some (.int a0), none], [], M)
theorem rJ_numberOfLeadingZeros_u (a0 : Int32) (M : rg_M) : rJ_numberOfLeadingZeros a0 M = rg_ui (rJ_numberOfLeadingZeros_b a0 M) := rfl
noncomputable def rJ_numberOfLeadingZeros_14 (s0 : Int32) (M : rg_M) : Option rg_U := rg_E rg_cod 37 (14, [none, none], [.int s0], M)
noncomputable def rJ_numberOfLeadingZeros_33 (v0 : Int32) (v1 : Int32) (M : rg_M) : Option rg_U := rg_E rg_cod 37 (33, [some (.int v0), some (.int v1)], [], M)
noncomputable def rJ_numberOfLeadingZeros_48 (v0 : Int32) (v1 : Int32) (M : rg_M) : Option rg_U := rg_E rg_cod 37 (48, [some (.int v0), some (.int v1)], [], M)
noncomputable def rJ_numberOfLeadingZeros_61 (v0 : Int32) (v1 : Int32) (M : rg_M) : Option rg_U := rg_E rg_cod 37 (61, [some (.int v0), some (.int v1)], [], M)
noncomputable def rJ_numberOfLeadingZeros_73 (v0 : Int32) (v1 : Int32) (M : rg_M) : Option rg_U := rg_E rg_cod 37 (73, [some (.int v0), some (.int v1)], [], M)
noncomputable def rK_leading (a0 : Nat) (a1 : Int32) (a2 : Int32) (M : rg_M) : Option (Int64 × rg_M) := rg_lg rg_cod 38 [.ref a0, .int a1, .int a2] M
noncomputable def rK_leading_b (a0 : Nat) (a1 : Int32) (a2 : Int32) (M : rg_M) : Option rg_U := rg_E rg_cod 38 (0, [some (.ref a0), some (.int a1), some (.int a2), none, none, none, none, none, none, none, none], [], M)
theorem rK_leading_u (a0 : Nat) (a1 : Int32) (a2 : Int32) (M : rg_M) : rK_leading a0 a1 a2 M = rg_ul (rK_leading_b a0 a1 a2 M) := rfl
noncomputable def rK_leading_25 (v0 : Nat) (v1 : Int32) (v2 : Int32) (M : rg_M) : Option rg_U := rg_E rg_cod 38 (25, [some (.ref v0), some (.int v1), some (.int v2), none, none, none, none, none, none, none, none], [], M)
noncomputable def rK_leading_26 (v0 : Nat) (v1 : Int32) (v2 : Int32) (s0 : Int64) (M : rg_M) : Option rg_U := rg_E rg_cod 38 (26, [some (.ref v0), some (.int v1), some (.int v2), none, none, none, none, none, none, none, none], [.long s0], M)
noncomputable def rK_leading_54 (v0 : Nat) (v1 : Int32) (v2 : Int32) (v3 : Int64) (M : rg_M) : Option rg_U := rg_E rg_cod 38 (54, [some (.ref v0), some (.int v1), some (.int v2), some (.long v3), none, none, none, none, none, none, none], [], M)
noncomputable def rK_leading_55 (v0 : Nat) (v1 : Int32) (v2 : Int32) (v3 : Int64) (s0 : Int64) (M : rg_M) : Option rg_U := rg_E rg_cod 38 (55, [some (.ref v0), some (.int v1), some (.int v2), some (.long v3), none, none, none, none, none, none, none], [.long s0], M)
noncomputable def rK_leading_84 (v2 : Int32) (v3 : Int64) (v5 : Int64) (M : rg_M) : Option rg_U := rg_E rg_cod 38 (84, [none, none, some (.int v2), some (.long v3), none, some (.long v5), none, none, none, none, none], [], M)
noncomputable def rK_leading_85 (v2 : Int32) (v3 : Int64) (v5 : Int64) (s0 : Int64) (M : rg_M) : Option rg_U := rg_E rg_cod 38 (85, [none, none, some (.int v2), some (.long v3), none, some (.long v5), none, none, none, none, none], [.long s0], M)
noncomputable def rJ_abs (a0 : Int64) (M : rg_M) : Option (Int64 × rg_M) := rg_lg rg_cod 39 [.long a0] M
noncomputable def rJ_abs_b (a0 : Int64) (M : rg_M) : Option rg_U := rg_E rg_cod 39 (0, [some (.long a0), none], [], M)
theorem rJ_abs_u (a0 : Int64) (M : rg_M) : rJ_abs a0 M = rg_ul (rJ_abs_b a0 M) := rfl
noncomputable def rJ_abs_12 (s0 : Int64) (M : rg_M) : Option rg_U := rg_E rg_cod 39 (12, [none, none], [.long s0], M)
noncomputable def rK_findFactors (a0 : Nat) (a1 : Nat) (a2 : Nat) (M : rg_M) : Option (Int32 × rg_M) := rg_io rg_cod 40 [.ref a0, .ref a1, .ref a2] M
noncomputable def rK_findFactors_b (a0 : Nat) (a1 : Nat) (a2 : Nat) (M : rg_M) : Option rg_U := rg_E rg_cod 40 (0, [some (.ref a0), some (.ref a1), some (.ref a2), none, none, none, none, none, none, none, none, none, none, none, none, none, none, none, none, none, none, none, none, none, none, none], [], M)
theorem rK_findFactors_u (a0 : Nat) (a1 : Nat) (a2 : Nat) (M : rg_M) : rK_findFactors a0 a1 a2 M = rg_ui (rK_findFactors_b a0 a1 a2 M) := rfl
noncomputable def rK_findFactors_59 (v0 : Nat) (v5 : Int64) (v7 : Int64) (v9 : Int64) (v11 : Int64) (v13 : Int64) (v15 : Int64) (v17 : Int32) (M : rg_M) : Option rg_U := rg_E rg_cod 40 (59, [some (.ref v0), none, none, none, none, some (.long v5), none, some (.long v7), none, some (.long v9), none, some (.long v11), none, some (.long v13), none, some (.long v15), none, some (.int v17), none, none, none, none, none, none, none, none], [], M)
noncomputable def rK_findFactors_215 (v0 : Nat) (v9 : Int64) (v11 : Int64) (v13 : Int64) (v15 : Int64) (M : rg_M) : Option rg_U := rg_E rg_cod 40 (215, [some (.ref v0), none, none, none, none, none, none, none, none, some (.long v9), none, some (.long v11), none, some (.long v13), none, some (.long v15), none, none, none, none, none, none, none, none, none, none], [], M)
noncomputable def rK_findFactors_259 (s0 : Int32) (M : rg_M) : Option rg_U := rg_E rg_cod 40 (259, [none, none, none, none, none, none, none, none, none, none, none, none, none, none, none, none, none, none, none, none, none, none, none, none, none, none], [.int s0], M)
noncomputable def rK_combine (a0 : Nat) (a1 : Nat) (a2 : Nat) (M : rg_M) : Option (rg_M) := rg_vo rg_cod 41 [.ref a0, .ref a1, .ref a2] M
noncomputable def rK_combine_b (a0 : Nat) (a1 : Nat) (a2 : Nat) (M : rg_M) : Option rg_U := rg_E rg_cod 41 (0, [some (.ref a0), some (.ref a1), some (.ref a2), none, none, none, none, none, none, none, none, none, none, none, none, none, none, none, none, none, none], [], M)
theorem rK_combine_u (a0 : Nat) (a1 : Nat) (a2 : Nat) (M : rg_M) : rK_combine a0 a1 a2 M = rg_uv (rK_combine_b a0 a1 a2 M) := rfl
noncomputable def rK_combine_52 (v1 : Nat) (v2 : Nat) (v3 : Int64) (v5 : Int64) (v7 : Int64) (v9 : Int64) (v11 : Int32) (v12 : Int64) (v14 : Int64) (v16 : Int32) (M : rg_M) : Option rg_U := rg_E rg_cod 41 (52, [none, some (.ref v1), some (.ref v2), some (.long v3), none, some (.long v5), none, some (.long v7), none, some (.long v9), none, some (.int v11), some (.long v12), none, some (.long v14), none, some (.int v16), none, none, none, none], [], M)
noncomputable def rK_combine_90 (v1 : Nat) (v2 : Nat) (v3 : Int64) (v5 : Int64) (v7 : Int64) (v9 : Int64) (v11 : Int32) (v12 : Int64) (v14 : Int64) (v16 : Int32) (v17 : Int64) (s0 : Int64) (M : rg_M) : Option rg_U := rg_E rg_cod 41 (90, [none, some (.ref v1), some (.ref v2), some (.long v3), none, some (.long v5), none, some (.long v7), none, some (.long v9), none, some (.int v11), some (.long v12), none, some (.long v14), none, some (.int v16), some (.long v17), none, none, none], [.long s0], M)
noncomputable def rW_clear (a0 : Nat) (M : rg_M) : Option (rg_M) := rg_vo rg_cod 42 [.ref a0] M
noncomputable def rW_clear_b (a0 : Nat) (M : rg_M) : Option rg_U := rg_E rg_cod 42 (0, [some (.ref a0)], [], M)
theorem rW_clear_u (a0 : Nat) (M : rg_M) : rW_clear a0 M = rg_uv (rW_clear_b a0 M) := rfl
noncomputable def rK_guessWord (a0 : Nat) (a1 : Int32) (a2 : Int32) (a3 : Int64) (M : rg_M) : Option (Int64 × rg_M) := rg_lg rg_cod 43 [.ref a0, .int a1, .int a2, .long a3] M
noncomputable def rK_guessWord_b (a0 : Nat) (a1 : Int32) (a2 : Int32) (a3 : Int64) (M : rg_M) : Option rg_U := rg_E rg_cod 43 (0, [some (.ref a0), some (.int a1), some (.int a2), some (.long a3), none, none, none, none, none, none, none, none, none, none, none, none, none, none, none, none, none, none, none, none, none, none, none], [], M)
theorem rK_guessWord_u (a0 : Nat) (a1 : Int32) (a2 : Int32) (a3 : Int64) (M : rg_M) : rK_guessWord a0 a1 a2 a3 M = rg_ul (rK_guessWord_b a0 a1 a2 a3 M) := rfl
noncomputable def rK_guessWord_25 (v0 : Nat) (v1 : Int32) (v2 : Int32) (v3 : Int64) (v5 : Int32) (s0 : Int64) (M : rg_M) : Option rg_U := rg_E rg_cod 43 (25, [some (.ref v0), some (.int v1), some (.int v2), some (.long v3), none, some (.int v5), none, none, none, none, none, none, none, none, none, none, none, none, none, none, none, none, none, none, none, none, none], [.long s0], M)
noncomputable def rK_guessWord_45 (v0 : Nat) (v1 : Int32) (v2 : Int32) (v3 : Int64) (v5 : Int32) (v6 : Int64) (s0 : Int64) (M : rg_M) : Option rg_U := rg_E rg_cod 43 (45, [some (.ref v0), some (.int v1), some (.int v2), some (.long v3), none, some (.int v5), some (.long v6), none, none, none, none, none, none, none, none, none, none, none, none, none, none, none, none, none, none, none, none], [.long s0], M)
noncomputable def rK_guessWord_65 (v0 : Nat) (v1 : Int32) (v2 : Int32) (v3 : Int64) (v5 : Int32) (v6 : Int64) (v8 : Int64) (s0 : Int64) (M : rg_M) : Option rg_U := rg_E rg_cod 43 (65, [some (.ref v0), some (.int v1), some (.int v2), some (.long v3), none, some (.int v5), some (.long v6), none, some (.long v8), none, none, none, none, none, none, none, none, none, none, none, none, none, none, none, none, none, none], [.long s0], M)
noncomputable def rK_guessWord_85 (v2 : Int32) (v3 : Int64) (v5 : Int32) (v6 : Int64) (v8 : Int64) (v10 : Int64) (s0 : Int64) (M : rg_M) : Option rg_U := rg_E rg_cod 43 (85, [none, none, some (.int v2), some (.long v3), none, some (.int v5), some (.long v6), none, some (.long v8), none, some (.long v10), none, none, none, none, none, none, none, none, none, none, none, none, none, none, none, none], [.long s0], M)
noncomputable def rK_guessWord_164 (v14 : Int64) (v16 : Int64) (v18 : Int64) (v20 : Int64) (v22 : Int64) (M : rg_M) : Option rg_U := rg_E rg_cod 43 (164, [none, none, none, none, none, none, none, none, none, none, none, none, none, none, some (.long v14), none, some (.long v16), none, some (.long v18), none, some (.long v20), none, some (.long v22), none, none, none, none], [], M)
noncomputable def rK_guessWord_177 (v16 : Int64) (v18 : Int64) (v20 : Int64) (v22 : Int64) (v24 : Int64) (v26 : Int32) (M : rg_M) : Option rg_U := rg_E rg_cod 43 (177, [none, none, none, none, none, none, none, none, none, none, none, none, none, none, none, none, some (.long v16), none, some (.long v18), none, some (.long v20), none, some (.long v22), none, some (.long v24), none, some (.int v26)], [], M)
noncomputable def rK_guessWord_228 (v22 : Int64) (M : rg_M) : Option rg_U := rg_E rg_cod 43 (228, [none, none, none, none, none, none, none, none, none, none, none, none, none, none, none, none, none, none, none, none, none, none, some (.long v22), none, none, none, none], [], M)
noncomputable def rK_takeAway (a0 : Nat) (a1 : Nat) (a2 : Int32) (a3 : Int64) (M : rg_M) : Option (Int32 × rg_M) := rg_io rg_cod 44 [.ref a0, .ref a1, .int a2, .long a3] M
noncomputable def rK_takeAway_b (a0 : Nat) (a1 : Nat) (a2 : Int32) (a3 : Int64) (M : rg_M) : Option rg_U := rg_E rg_cod 44 (0, [some (.ref a0), some (.ref a1), some (.int a2), some (.long a3), none, none, none, none], [], M)
theorem rK_takeAway_u (a0 : Nat) (a1 : Nat) (a2 : Int32) (a3 : Int64) (M : rg_M) : rK_takeAway a0 a1 a2 a3 M = rg_ui (rK_takeAway_b a0 a1 a2 a3 M) := rfl
noncomputable def rK_takeAway_6 (v0 : Nat) (v1 : Nat) (v2 : Int32) (v3 : Int64) (v5 : Int64) (v7 : Int32) (M : rg_M) : Option rg_U := rg_E rg_cod 44 (6, [some (.ref v0), some (.ref v1), some (.int v2), some (.long v3), none, some (.long v5), none, some (.int v7)], [], M)
noncomputable def rK_takeAway_121 (v5 : Int64) (M : rg_M) : Option rg_U := rg_E rg_cod 44 (121, [none, none, none, none, none, some (.long v5), none, none], [], M)
noncomputable def rK_takeAway_133 (s0 : Int32) (M : rg_M) : Option rg_U := rg_E rg_cod 44 (133, [none, none, none, none, none, none, none, none], [.int s0], M)
noncomputable def rK_putBack (a0 : Nat) (a1 : Nat) (a2 : Int32) (M : rg_M) : Option (rg_M) := rg_vo rg_cod 45 [.ref a0, .ref a1, .int a2] M
noncomputable def rK_putBack_b (a0 : Nat) (a1 : Nat) (a2 : Int32) (M : rg_M) : Option rg_U := rg_E rg_cod 45 (0, [some (.ref a0), some (.ref a1), some (.int a2), none, none, none], [], M)
theorem rK_putBack_u (a0 : Nat) (a1 : Nat) (a2 : Int32) (M : rg_M) : rK_putBack a0 a1 a2 M = rg_uv (rK_putBack_b a0 a1 a2 M) := rfl
noncomputable def rK_putBack_5 (v0 : Nat) (v1 : Nat) (v2 : Int32) (v3 : Int64) (v5 : Int32) (M : rg_M) : Option rg_U := rg_E rg_cod 45 (5, [some (.ref v0), some (.ref v1), some (.int v2), some (.long v3), none, some (.int v5)], [], M)
noncomputable def rK_putBack_101  (M : rg_M) : Option rg_U := rg_E rg_cod 45 (101, [none, none, none, none, none, none], [], M)
noncomputable def rK_divide (a0 : Nat) (a1 : Nat) (a2 : Nat) (M : rg_M) : Option (rg_M) := rg_vo rg_cod 46 [.ref a0, .ref a1, .ref a2] M
noncomputable def rK_divide_b (a0 : Nat) (a1 : Nat) (a2 : Nat) (M : rg_M) : Option rg_U := rg_E rg_cod 46 (0, [some (.ref a0), some (.ref a1), some (.ref a2), none, none, none, none, none, none, none, none], [], M)
theorem rK_divide_u (a0 : Nat) (a1 : Nat) (a2 : Nat) (M : rg_M) : rK_divide a0 a1 a2 M = rg_uv (rK_divide_b a0 a1 a2 M) := rfl
noncomputable def rK_divide_24 (v0 : Nat) (M : rg_M) : Option rg_U := rg_E rg_cod 46 (24, [some (.ref v0), none, none, none, none, none, none, none, none, none, none], [], M)
noncomputable def rK_divide_71 (v0 : Nat) (v1 : Nat) (v2 : Nat) (v3 : Int32) (v4 : Int32) (v5 : Int32) (v6 : Int64) (v8 : Int32) (M : rg_M) : Option rg_U := rg_E rg_cod 46 (71, [some (.ref v0), some (.ref v1), some (.ref v2), some (.int v3), some (.int v4), some (.int v5), some (.long v6), none, some (.int v8), none, none], [], M)
noncomputable def rK_divide_122 (v0 : Nat) (v1 : Nat) (v2 : Nat) (v3 : Int32) (v4 : Int32) (v5 : Int32) (v6 : Int64) (v8 : Int32) (v9 : Int64) (M : rg_M) : Option rg_U := rg_E rg_cod 46 (122, [some (.ref v0), some (.ref v1), some (.ref v2), some (.int v3), some (.int v4), some (.int v5), some (.long v6), none, some (.int v8), some (.long v9), none], [], M)
noncomputable def rK_findCommon (a0 : Nat) (a1 : Nat) (a2 : Nat) (M : rg_M) : Option (rg_M) := rg_vo rg_cod 47 [.ref a0, .ref a1, .ref a2] M
noncomputable def rK_findCommon_b (a0 : Nat) (a1 : Nat) (a2 : Nat) (M : rg_M) : Option rg_U := rg_E rg_cod 47 (0, [some (.ref a0), some (.ref a1), some (.ref a2), none, none, none, none, none], [], M)
theorem rK_findCommon_u (a0 : Nat) (a1 : Nat) (a2 : Nat) (M : rg_M) : rK_findCommon a0 a1 a2 M = rg_uv (rK_findCommon_b a0 a1 a2 M) := rfl
noncomputable def rK_findCommon_14 (v0 : Nat) (M : rg_M) : Option rg_U := rg_E rg_cod 47 (14, [some (.ref v0), none, none, none, none, none, none, none], [], M)
noncomputable def rK_findCommon_58 (v0 : Nat) (v1 : Nat) (v2 : Nat) (M : rg_M) : Option rg_U := rg_E rg_cod 47 (58, [some (.ref v0), some (.ref v1), some (.ref v2), none, none, none, none, none], [], M)
noncomputable def rK_findCommon_71 (v0 : Nat) (v1 : Nat) (v2 : Nat) (s0 : Int32) (M : rg_M) : Option rg_U := rg_E rg_cod 47 (71, [some (.ref v0), some (.ref v1), some (.ref v2), none, none, none, none, none], [.int s0], M)
noncomputable def rK_findCommon_95 (v0 : Nat) (v1 : Nat) (v2 : Nat) (v3 : Int32) (v4 : Nat) (v5 : Nat) (s0 : Nat) (s1 : Nat) (M : rg_M) : Option rg_U := rg_E rg_cod 47 (95, [some (.ref v0), some (.ref v1), some (.ref v2), some (.int v3), some (.ref v4), some (.ref v5), none, none], [.ref s0, .ref s1], M)
noncomputable def rK_findCommon_109 (v0 : Nat) (v4 : Nat) (v5 : Nat) (s0 : Nat) (s1 : Nat) (M : rg_M) : Option rg_U := rg_E rg_cod 47 (109, [some (.ref v0), none, none, none, some (.ref v4), some (.ref v5), none, none], [.ref s0, .ref s1], M)
noncomputable def rK_findCommon_115 (v0 : Nat) (v4 : Nat) (v5 : Nat) (v6 : Int32) (M : rg_M) : Option rg_U := rg_E rg_cod 47 (115, [some (.ref v0), none, none, none, some (.ref v4), some (.ref v5), some (.int v6), none], [], M)
noncomputable def rK_findCommon_173 (v0 : Nat) (v4 : Nat) (v5 : Nat) (v6 : Int32) (M : rg_M) : Option rg_U := rg_E rg_cod 47 (173, [some (.ref v0), none, none, none, some (.ref v4), some (.ref v5), some (.int v6), none], [], M)
noncomputable def rK_findCommon_179 (v0 : Nat) (v4 : Nat) (v5 : Nat) (M : rg_M) : Option rg_U := rg_E rg_cod 47 (179, [some (.ref v0), none, none, none, some (.ref v4), some (.ref v5), none, none], [], M)
noncomputable def rK_divideOut (a0 : Nat) (a1 : Nat) (a2 : Nat) (a3 : Nat) (M : rg_M) : Option (rg_M) := rg_vo rg_cod 48 [.ref a0, .ref a1, .ref a2, .ref a3] M
noncomputable def rK_divideOut_b (a0 : Nat) (a1 : Nat) (a2 : Nat) (a3 : Nat) (M : rg_M) : Option rg_U := rg_E rg_cod 48 (0, [some (.ref a0), some (.ref a1), some (.ref a2), some (.ref a3), none], [], M)
theorem rK_divideOut_u (a0 : Nat) (a1 : Nat) (a2 : Nat) (a3 : Nat) (M : rg_M) : rK_divideOut a0 a1 a2 a3 M = rg_uv (rK_divideOut_b a0 a1 a2 a3 M) := rfl
noncomputable def rW_product (a0 : Nat) (a1 : Nat) (a2 : Nat) (M : rg_M) : Option (rg_M) := rg_vo rg_cod 49 [.ref a0, .ref a1, .ref a2] M
noncomputable def rW_product_b (a0 : Nat) (a1 : Nat) (a2 : Nat) (M : rg_M) : Option rg_U := rg_E rg_cod 49 (0, [some (.ref a0), some (.ref a1), some (.ref a2), none, none, none, none, none, none, none], [], M)
theorem rW_product_u (a0 : Nat) (a1 : Nat) (a2 : Nat) (M : rg_M) : rW_product a0 a1 a2 M = rg_uv (rW_product_b a0 a1 a2 M) := rfl
noncomputable def rW_product_18 (v0 : Nat) (v1 : Nat) (v2 : Nat) (v3 : Int32) (v4 : Int32) (M : rg_M) : Option rg_U := rg_E rg_cod 49 (18, [some (.ref v0), some (.ref v1), some (.ref v2), some (.int v3), some (.int v4), none, none, none, none, none], [], M)
noncomputable def rW_product_41 (v0 : Nat) (v1 : Nat) (v2 : Nat) (v3 : Int32) (v4 : Int32) (M : rg_M) : Option rg_U := rg_E rg_cod 49 (41, [some (.ref v0), some (.ref v1), some (.ref v2), some (.int v3), some (.int v4), none, none, none, none, none], [], M)
noncomputable def rW_product_66 (v0 : Nat) (v1 : Nat) (v2 : Nat) (v3 : Int32) (v4 : Int32) (v5 : Int64) (v7 : Int64) (v9 : Int32) (M : rg_M) : Option rg_U := rg_E rg_cod 49 (66, [some (.ref v0), some (.ref v1), some (.ref v2), some (.int v3), some (.int v4), some (.long v5), none, some (.long v7), none, some (.int v9)], [], M)
noncomputable def rW_product_171 (v0 : Nat) (v3 : Int32) (s0 : Int32) (s1 : Nat) (M : rg_M) : Option rg_U := rg_E rg_cod 49 (171, [some (.ref v0), none, none, some (.int v3), none, none, none, none, none, none], [.int s0, .ref s1], M)
noncomputable def rW_increase (a0 : Nat) (a1 : Nat) (M : rg_M) : Option (rg_M) := rg_vo rg_cod 50 [.ref a0, .ref a1] M
noncomputable def rW_increase_b (a0 : Nat) (a1 : Nat) (M : rg_M) : Option rg_U := rg_E rg_cod 50 (0, [some (.ref a0), some (.ref a1), none, none, none, none, none, none, none, none, none, none, none, none, none, none], [], M)
theorem rW_increase_u (a0 : Nat) (a1 : Nat) (M : rg_M) : rW_increase a0 a1 M = rg_uv (rW_increase_b a0 a1 M) := rfl
noncomputable def rW_increase_22 (v0 : Nat) (v1 : Nat) (s0 : Int32) (M : rg_M) : Option rg_U := rg_E rg_cod 50 (22, [some (.ref v0), some (.ref v1), none, none, none, none, none, none, none, none, none, none, none, none, none, none], [.int s0], M)
noncomputable def rW_increase_46 (v0 : Nat) (v1 : Nat) (v2 : Int32) (s0 : Int32) (M : rg_M) : Option rg_U := rg_E rg_cod 50 (46, [some (.ref v0), some (.ref v1), some (.int v2), none, none, none, none, none, none, none, none, none, none, none, none, none], [.int s0], M)
noncomputable def rW_increase_60 (v0 : Nat) (v1 : Nat) (v2 : Int32) (v3 : Int32) (s0 : Int32) (M : rg_M) : Option rg_U := rg_E rg_cod 50 (60, [some (.ref v0), some (.ref v1), some (.int v2), some (.int v3), none, none, none, none, none, none, none, none, none, none, none, none], [.int s0], M)
noncomputable def rW_increase_71 (v0 : Nat) (v1 : Nat) (v2 : Int32) (v3 : Int32) (v4 : Int32) (M : rg_M) : Option rg_U := rg_E rg_cod 50 (71, [some (.ref v0), some (.ref v1), some (.int v2), some (.int v3), some (.int v4), none, none, none, none, none, none, none, none, none, none, none], [], M)
noncomputable def rW_increase_78 (v0 : Nat) (v1 : Nat) (v2 : Int32) (v3 : Int32) (v4 : Int32) (s0 : Int64) (M : rg_M) : Option rg_U := rg_E rg_cod 50 (78, [some (.ref v0), some (.ref v1), some (.int v2), some (.int v3), some (.int v4), none, none, none, none, none, none, none, none, none, none, none], [.long s0], M)
noncomputable def rW_increase_89 (v0 : Nat) (v1 : Nat) (v2 : Int32) (v4 : Int32) (v5 : Int64) (M : rg_M) : Option rg_U := rg_E rg_cod 50 (89, [some (.ref v0), some (.ref v1), some (.int v2), none, some (.int v4), some (.long v5), none, none, none, none, none, none, none, none, none, none], [], M)
noncomputable def rW_increase_96 (v0 : Nat) (v1 : Nat) (v2 : Int32) (v4 : Int32) (v5 : Int64) (s0 : Int64) (M : rg_M) : Option rg_U := rg_E rg_cod 50 (96, [some (.ref v0), some (.ref v1), some (.int v2), none, some (.int v4), some (.long v5), none, none, none, none, none, none, none, none, none, none], [.long s0], M)
noncomputable def rW_increase_104 (v0 : Nat) (v1 : Nat) (v2 : Int32) (v4 : Int32) (v5 : Int64) (v7 : Int64) (v9 : Int64) (v11 : Int32) (M : rg_M) : Option rg_U := rg_E rg_cod 50 (104, [some (.ref v0), some (.ref v1), some (.int v2), none, some (.int v4), some (.long v5), none, some (.long v7), none, some (.long v9), none, some (.int v11), none, none, none, none], [], M)
noncomputable def rW_increase_131 (v0 : Nat) (v1 : Nat) (v2 : Int32) (v4 : Int32) (v5 : Int64) (v7 : Int64) (v9 : Int64) (v11 : Int32) (s0 : Int64) (M : rg_M) : Option rg_U := rg_E rg_cod 50 (131, [some (.ref v0), some (.ref v1), some (.int v2), none, some (.int v4), some (.long v5), none, some (.long v7), none, some (.long v9), none, some (.int v11), none, none, none, none], [.long s0], M)
noncomputable def rW_increase_154 (v0 : Nat) (v1 : Nat) (v2 : Int32) (v4 : Int32) (v5 : Int64) (v7 : Int64) (v9 : Int64) (v11 : Int32) (v12 : Int64) (s0 : Int64) (M : rg_M) : Option rg_U := rg_E rg_cod 50 (154, [some (.ref v0), some (.ref v1), some (.int v2), none, some (.int v4), some (.long v5), none, some (.long v7), none, some (.long v9), none, some (.int v11), some (.long v12), none, none, none], [.long s0], M)
noncomputable def rW_increase_212 (v0 : Nat) (v2 : Int32) (M : rg_M) : Option rg_U := rg_E rg_cod 50 (212, [some (.ref v0), none, some (.int v2), none, none, none, none, none, none, none, none, none, none, none, none, none], [], M)
noncomputable def rK_addTimes (a0 : Nat) (a1 : Nat) (a2 : Nat) (a3 : Int32) (M : rg_M) : Option (rg_M) := rg_vo rg_cod 51 [.ref a0, .ref a1, .ref a2, .int a3] M
noncomputable def rK_addTimes_b (a0 : Nat) (a1 : Nat) (a2 : Nat) (a3 : Int32) (M : rg_M) : Option rg_U := rg_E rg_cod 51 (0, [some (.ref a0), some (.ref a1), some (.ref a2), some (.int a3)], [], M)
theorem rK_addTimes_u (a0 : Nat) (a1 : Nat) (a2 : Nat) (a3 : Int32) (M : rg_M) : rK_addTimes a0 a1 a2 a3 M = rg_uv (rK_addTimes_b a0 a1 a2 a3 M) := rfl
noncomputable def rK_addTimes_14  (M : rg_M) : Option rg_U := rg_E rg_cod 51 (14, [none, none, none, none], [], M)
noncomputable def rF_turnOver (a0 : Nat) (M : rg_M) : Option (rg_M) := rg_vo rg_cod 52 [.ref a0] M
noncomputable def rF_turnOver_b (a0 : Nat) (M : rg_M) : Option rg_U := rg_E rg_cod 52 (0, [some (.ref a0), none], [], M)
theorem rF_turnOver_u (a0 : Nat) (M : rg_M) : rF_turnOver a0 M = rg_uv (rF_turnOver_b a0 M) := rfl
noncomputable def rF_copy (a0 : Nat) (a1 : Nat) (M : rg_M) : Option (rg_M) := rg_vo rg_cod 53 [.ref a0, .ref a1] M
noncomputable def rF_copy_b (a0 : Nat) (a1 : Nat) (M : rg_M) : Option rg_U := rg_E rg_cod 53 (0, [some (.ref a0), some (.ref a1)], [], M)
theorem rF_copy_u (a0 : Nat) (a1 : Nat) (M : rg_M) : rF_copy a0 a1 M = rg_uv (rF_copy_b a0 a1 M) := rfl
noncomputable def rK_multiply (a0 : Nat) (a1 : Nat) (a2 : Nat) (M : rg_M) : Option (rg_M) := rg_vo rg_cod 54 [.ref a0, .ref a1, .ref a2] M
noncomputable def rK_multiply_b (a0 : Nat) (a1 : Nat) (a2 : Nat) (M : rg_M) : Option rg_U := rg_E rg_cod 54 (0, [some (.ref a0), some (.ref a1), some (.ref a2)], [], M)
theorem rK_multiply_u (a0 : Nat) (a1 : Nat) (a2 : Nat) (M : rg_M) : rK_multiply a0 a1 a2 M = rg_uv (rK_multiply_b a0 a1 a2 M) := rfl
noncomputable def rL_findParts (a0 : Nat) (a1 : Int32) (a2 : Nat) (M : rg_M) : Option (rg_M) := rg_vo rg_cod 55 [.ref a0, .int a1, .ref a2] M
noncomputable def rL_findParts_b (a0 : Nat) (a1 : Int32) (a2 : Nat) (M : rg_M) : Option rg_U := rg_E rg_cod 55 (0, [some (.ref a0), some (.int a1), some (.ref a2), none, none, none, none], [], M)
theorem rL_findParts_u (a0 : Nat) (a1 : Int32) (a2 : Nat) (M : rg_M) : rL_findParts a0 a1 a2 M = rg_uv (rL_findParts_b a0 a1 a2 M) := rfl
noncomputable def rL_findParts_26 (v0 : Nat) (v2 : Nat) (v3 : Int32) (v4 : Int32) (v5 : Int32) (M : rg_M) : Option rg_U := rg_E rg_cod 55 (26, [some (.ref v0), none, some (.ref v2), some (.int v3), some (.int v4), some (.int v5), none], [], M)
noncomputable def rL_findParts_64 (v0 : Nat) (v2 : Nat) (v3 : Int32) (v4 : Int32) (v5 : Int32) (M : rg_M) : Option rg_U := rg_E rg_cod 55 (64, [some (.ref v0), none, some (.ref v2), some (.int v3), some (.int v4), some (.int v5), none], [], M)
noncomputable def rL_findParts_88 (v0 : Nat) (v2 : Nat) (v3 : Int32) (v4 : Int32) (s0 : Int32) (M : rg_M) : Option rg_U := rg_E rg_cod 55 (88, [some (.ref v0), none, some (.ref v2), some (.int v3), some (.int v4), none, none], [.int s0], M)
noncomputable def rL_findParts_102 (v0 : Nat) (v2 : Nat) (v3 : Int32) (v4 : Int32) (v5 : Int32) (M : rg_M) : Option rg_U := rg_E rg_cod 55 (102, [some (.ref v0), none, some (.ref v2), some (.int v3), some (.int v4), some (.int v5), none], [], M)
noncomputable def rL_findParts_105 (v0 : Nat) (v2 : Nat) (v3 : Int32) (v4 : Int32) (v5 : Int32) (v6 : Int32) (M : rg_M) : Option rg_U := rg_E rg_cod 55 (105, [some (.ref v0), none, some (.ref v2), some (.int v3), some (.int v4), some (.int v5), some (.int v6)], [], M)
noncomputable def rL_findParts_195 (v0 : Nat) (v2 : Nat) (v3 : Int32) (v4 : Int32) (v5 : Int32) (v6 : Int32) (M : rg_M) : Option rg_U := rg_E rg_cod 55 (195, [some (.ref v0), none, some (.ref v2), some (.int v3), some (.int v4), some (.int v5), some (.int v6)], [], M)
noncomputable def rL_setCertain (a0 : Nat) (a1 : Int32) (a2 : Int32) (M : rg_M) : Option (rg_M) := rg_vo rg_cod 56 [.ref a0, .int a1, .int a2] M
noncomputable def rL_setCertain_b (a0 : Nat) (a1 : Int32) (a2 : Int32) (M : rg_M) : Option rg_U := rg_E rg_cod 56 (0, [some (.ref a0), some (.int a1), some (.int a2), none], [], M)
theorem rL_setCertain_u (a0 : Nat) (a1 : Int32) (a2 : Int32) (M : rg_M) : rL_setCertain a0 a1 a2 M = rg_uv (rL_setCertain_b a0 a1 a2 M) := rfl
noncomputable def rL_setCertain_2 (v0 : Nat) (v1 : Int32) (v2 : Int32) (v3 : Int32) (M : rg_M) : Option rg_U := rg_E rg_cod 56 (2, [some (.ref v0), some (.int v1), some (.int v2), some (.int v3)], [], M)
noncomputable def rL_setCertain_32 (v0 : Nat) (v1 : Int32) (v2 : Int32) (v3 : Int32) (s0 : Int32) (s1 : Nat) (M : rg_M) : Option rg_U := rg_E rg_cod 56 (32, [some (.ref v0), some (.int v1), some (.int v2), some (.int v3)], [.int s0, .ref s1], M)
noncomputable def rN_gain (a0 : Nat) (a1 : Int32) (a2 : Int32) (a3 : Int32) (M : rg_M) : Option (Int32 × rg_M) := rg_io rg_cod 57 [.ref a0, .int a1, .int a2, .int a3] M
noncomputable def rN_gain_b (a0 : Nat) (a1 : Int32) (a2 : Int32) (a3 : Int32) (M : rg_M) : Option rg_U := rg_E rg_cod 57 (0, [some (.ref a0), some (.int a1), some (.int a2), some (.int a3)], [], M)
theorem rN_gain_u (a0 : Nat) (a1 : Int32) (a2 : Int32) (a3 : Int32) (M : rg_M) : rN_gain a0 a1 a2 a3 M = rg_ui (rN_gain_b a0 a1 a2 a3 M) := rfl
noncomputable def rN_gain_28 (s0 : Int32) (M : rg_M) : Option rg_U := rg_E rg_cod 57 (28, [none, none, none, none], [.int s0], M)
noncomputable def rN_reckonWorths (a0 : Nat) (a1 : Int32) (M : rg_M) : Option (rg_M) := rg_vo rg_cod 58 [.ref a0, .int a1] M
noncomputable def rN_reckonWorths_b (a0 : Nat) (a1 : Int32) (M : rg_M) : Option rg_U := rg_E rg_cod 58 (0, [some (.ref a0), some (.int a1), none, none, none, none, none], [], M)
theorem rN_reckonWorths_u (a0 : Nat) (a1 : Int32) (M : rg_M) : rN_reckonWorths a0 a1 M = rg_uv (rN_reckonWorths_b a0 a1 M) := rfl
noncomputable def rN_reckonWorths_6 (v0 : Nat) (v1 : Int32) (v2 : Int32) (v3 : Int32) (M : rg_M) : Option rg_U := rg_E rg_cod 58 (6, [some (.ref v0), some (.int v1), some (.int v2), some (.int v3), none, none, none], [], M)
noncomputable def rN_reckonWorths_47 (v0 : Nat) (v1 : Int32) (v2 : Int32) (v3 : Int32) (v4 : Nat) (v5 : Int32) (M : rg_M) : Option rg_U := rg_E rg_cod 58 (47, [some (.ref v0), some (.int v1), some (.int v2), some (.int v3), some (.ref v4), some (.int v5), none], [], M)
noncomputable def rW_lengthInBits (a0 : Nat) (M : rg_M) : Option (Int32 × rg_M) := rg_io rg_cod 59 [.ref a0] M
noncomputable def rW_lengthInBits_b (a0 : Nat) (M : rg_M) : Option rg_U := rg_E rg_cod 59 (0, [some (.ref a0)], [], M)
theorem rW_lengthInBits_u (a0 : Nat) (M : rg_M) : rW_lengthInBits a0 M = rg_ui (rW_lengthInBits_b a0 M) := rfl
noncomputable def rJ_max (a0 : Int32) (a1 : Int32) (M : rg_M) : Option (Int32 × rg_M) := rg_io rg_cod 60 [.int a0, .int a1] M
noncomputable def rJ_max_b (a0 : Int32) (a1 : Int32) (M : rg_M) : Option rg_U := rg_E rg_cod 60 (0, [some (.int a0), some (.int a1)], [], M)
theorem rJ_max_u (a0 : Int32) (a1 : Int32) (M : rg_M) : rJ_max a0 a1 M = rg_ui (rJ_max_b a0 a1 M) := rfl
noncomputable def rJ_max_10 (s0 : Int32) (M : rg_M) : Option rg_U := rg_E rg_cod 60 (10, [none, none], [.int s0], M)
noncomputable def rF_longest (a0 : Nat) (M : rg_M) : Option (Int32 × rg_M) := rg_io rg_cod 61 [.ref a0] M
noncomputable def rF_longest_b (a0 : Nat) (M : rg_M) : Option rg_U := rg_E rg_cod 61 (0, [some (.ref a0)], [], M)
theorem rF_longest_u (a0 : Nat) (M : rg_M) : rF_longest a0 M = rg_ui (rF_longest_b a0 M) := rfl
noncomputable def rL_learnAt (a0 : Nat) (a1 : Int32) (a2 : Nat) (M : rg_M) : Option (Int32 × rg_M) := rg_io rg_cod 62 [.ref a0, .int a1, .ref a2] M
noncomputable def rL_learnAt_b (a0 : Nat) (a1 : Int32) (a2 : Nat) (M : rg_M) : Option rg_U := rg_E rg_cod 62 (0, [some (.ref a0), some (.int a1), some (.ref a2), none, none, none], [], M)
theorem rL_learnAt_u (a0 : Nat) (a1 : Int32) (a2 : Nat) (M : rg_M) : rL_learnAt a0 a1 a2 M = rg_ui (rL_learnAt_b a0 a1 a2 M) := rfl
noncomputable def rL_learnAt_28 (v0 : Nat) (v2 : Nat) (v3 : Int32) (v4 : Int32) (v5 : Int32) (M : rg_M) : Option rg_U := rg_E rg_cod 62 (28, [some (.ref v0), none, some (.ref v2), some (.int v3), some (.int v4), some (.int v5)], [], M)
noncomputable def rL_learnAt_92 (v0 : Nat) (v2 : Nat) (v4 : Int32) (v5 : Int32) (M : rg_M) : Option rg_U := rg_E rg_cod 62 (92, [some (.ref v0), none, some (.ref v2), none, some (.int v4), some (.int v5)], [], M)
noncomputable def rL_learnAt_233  (M : rg_M) : Option rg_U := rg_E rg_cod 62 (233, [none, none, none, none, none, none], [], M)
noncomputable def rN_learnAgainst (a0 : Nat) (a1 : Int32) (a2 : Int32) (M : rg_M) : Option (Int32 × rg_M) := rg_io rg_cod 63 [.ref a0, .int a1, .int a2] M
noncomputable def rN_learnAgainst_b (a0 : Nat) (a1 : Int32) (a2 : Int32) (M : rg_M) : Option rg_U := rg_E rg_cod 63 (0, [some (.ref a0), some (.int a1), some (.int a2)], [], M)
theorem rN_learnAgainst_u (a0 : Nat) (a1 : Int32) (a2 : Int32) (M : rg_M) : rN_learnAgainst a0 a1 a2 M = rg_ui (rN_learnAgainst_b a0 a1 a2 M) := rfl
noncomputable def rL_adopt (a0 : Nat) (a1 : Int32) (M : rg_M) : Option (rg_M) := rg_vo rg_cod 64 [.ref a0, .int a1] M
noncomputable def rL_adopt_b (a0 : Nat) (a1 : Int32) (M : rg_M) : Option rg_U := rg_E rg_cod 64 (0, [some (.ref a0), some (.int a1), none, none], [], M)
theorem rL_adopt_u (a0 : Nat) (a1 : Int32) (M : rg_M) : rL_adopt a0 a1 M = rg_uv (rL_adopt_b a0 a1 M) := rfl
noncomputable def rL_adopt_2 (v0 : Nat) (v1 : Int32) (v2 : Int32) (M : rg_M) : Option rg_U := rg_E rg_cod 64 (2, [some (.ref v0), some (.int v1), some (.int v2), none], [], M)
noncomputable def rT_playAgainst (a0 : Nat) (a1 : Int32) (a2 : Int32) (M : rg_M) : Option (Int32 × rg_M) := rg_io rg_cod 65 [.ref a0, .int a1, .int a2] M
noncomputable def rT_playAgainst_b (a0 : Nat) (a1 : Int32) (a2 : Int32) (M : rg_M) : Option rg_U := rg_E rg_cod 65 (0, [some (.ref a0), some (.int a1), some (.int a2)], [], M)
theorem rT_playAgainst_u (a0 : Nat) (a1 : Int32) (a2 : Int32) (M : rg_M) : rT_playAgainst a0 a1 a2 M = rg_ui (rT_playAgainst_b a0 a1 a2 M) := rfl
noncomputable def rT_playAgainst_22  (M : rg_M) : Option rg_U := rg_E rg_cod 65 (22, [none, none, none], [], M)
noncomputable def rT_column (a0 : Nat) (a1 : Int32) (M : rg_M) : Option (Int32 × rg_M) := rg_io rg_cod 66 [.ref a0, .int a1] M
noncomputable def rT_column_b (a0 : Nat) (a1 : Int32) (M : rg_M) : Option rg_U := rg_E rg_cod 66 (0, [some (.ref a0), some (.int a1)], [], M)
theorem rT_column_u (a0 : Nat) (a1 : Int32) (M : rg_M) : rT_column a0 a1 M = rg_ui (rT_column_b a0 a1 M) := rfl
noncomputable def rM_ways (a0 : Nat) (a1 : Int32) (M : rg_M) : Option (Int32 × rg_M) := rg_io rg_cod 67 [.ref a0, .int a1] M
noncomputable def rM_ways_b (a0 : Nat) (a1 : Int32) (M : rg_M) : Option rg_U := rg_E rg_cod 67 (0, [some (.ref a0), some (.int a1)], [], M)
theorem rM_ways_u (a0 : Nat) (a1 : Int32) (M : rg_M) : rM_ways a0 a1 M = rg_ui (rM_ways_b a0 a1 M) := rfl
noncomputable def rM_ways_27 (s0 : Int32) (M : rg_M) : Option rg_U := rg_E rg_cod 67 (27, [none, none], [.int s0], M)
noncomputable def rM_slot (a0 : Nat) (a1 : Int32) (a2 : Int32) (M : rg_M) : Option (Int32 × rg_M) := rg_io rg_cod 68 [.ref a0, .int a1, .int a2] M
noncomputable def rM_slot_b (a0 : Nat) (a1 : Int32) (a2 : Int32) (M : rg_M) : Option rg_U := rg_E rg_cod 68 (0, [some (.ref a0), some (.int a1), some (.int a2)], [], M)
theorem rM_slot_u (a0 : Nat) (a1 : Int32) (a2 : Int32) (M : rg_M) : rM_slot a0 a1 a2 M = rg_ui (rM_slot_b a0 a1 a2 M) := rfl
noncomputable def rM_slot_21 (s0 : Int32) (M : rg_M) : Option rg_U := rg_E rg_cod 68 (21, [none, none, none], [.int s0], M)
noncomputable def rM_copy (a0 : Nat) (a1 : Int32) (a2 : Int32) (M : rg_M) : Option (rg_M) := rg_vo rg_cod 69 [.ref a0, .int a1, .int a2] M
noncomputable def rM_copy_b (a0 : Nat) (a1 : Int32) (a2 : Int32) (M : rg_M) : Option rg_U := rg_E rg_cod 69 (0, [some (.ref a0), some (.int a1), some (.int a2), none], [], M)
theorem rM_copy_u (a0 : Nat) (a1 : Int32) (a2 : Int32) (M : rg_M) : rM_copy a0 a1 a2 M = rg_uv (rM_copy_b a0 a1 a2 M) := rfl
noncomputable def rM_copy_8 (v0 : Nat) (v1 : Int32) (v2 : Int32) (v3 : Int32) (M : rg_M) : Option rg_U := rg_E rg_cod 69 (8, [some (.ref v0), some (.int v1), some (.int v2), some (.int v3)], [], M)
noncomputable def rM_limb (a0 : Nat) (a1 : Int32) (a2 : Int32) (M : rg_M) : Option (Int64 × rg_M) := rg_lg rg_cod 70 [.ref a0, .int a1, .int a2] M
noncomputable def rM_limb_b (a0 : Nat) (a1 : Int32) (a2 : Int32) (M : rg_M) : Option rg_U := rg_E rg_cod 70 (0, [some (.ref a0), some (.int a1), some (.int a2)], [], M)
theorem rM_limb_u (a0 : Nat) (a1 : Int32) (a2 : Int32) (M : rg_M) : rM_limb a0 a1 a2 M = rg_ul (rM_limb_b a0 a1 a2 M) := rfl
noncomputable def rM_limb_30 (s0 : Int64) (M : rg_M) : Option rg_U := rg_E rg_cod 70 (30, [none, none, none], [.long s0], M)
noncomputable def rM_multiply (a0 : Nat) (a1 : Int32) (a2 : Int32) (a3 : Int32) (M : rg_M) : Option (rg_M) := rg_vo rg_cod 71 [.ref a0, .int a1, .int a2, .int a3] M
noncomputable def rM_multiply_b (a0 : Nat) (a1 : Int32) (a2 : Int32) (a3 : Int32) (M : rg_M) : Option rg_U := rg_E rg_cod 71 (0, [some (.ref a0), some (.int a1), some (.int a2), some (.int a3), none, none, none, none, none, none, none, none, none, none], [], M)
theorem rM_multiply_u (a0 : Nat) (a1 : Int32) (a2 : Int32) (a3 : Int32) (M : rg_M) : rM_multiply a0 a1 a2 a3 M = rg_uv (rM_multiply_b a0 a1 a2 a3 M) := rfl
noncomputable def rM_multiply_18 (v0 : Nat) (v1 : Int32) (v2 : Int32) (v3 : Int32) (v4 : Int32) (v5 : Int32) (M : rg_M) : Option rg_U := rg_E rg_cod 71 (18, [some (.ref v0), some (.int v1), some (.int v2), some (.int v3), some (.int v4), some (.int v5), none, none, none, none, none, none, none, none], [], M)
noncomputable def rM_multiply_47 (v0 : Nat) (v1 : Int32) (v2 : Int32) (v3 : Int32) (v4 : Int32) (v5 : Int32) (M : rg_M) : Option rg_U := rg_E rg_cod 71 (47, [some (.ref v0), some (.int v1), some (.int v2), some (.int v3), some (.int v4), some (.int v5), none, none, none, none, none, none, none, none], [], M)
noncomputable def rM_multiply_82 (v0 : Nat) (v1 : Int32) (v2 : Int32) (v3 : Int32) (v4 : Int32) (v5 : Int32) (v6 : Int64) (v8 : Int64) (v10 : Int32) (v11 : Int32) (M : rg_M) : Option rg_U := rg_E rg_cod 71 (82, [some (.ref v0), some (.int v1), some (.int v2), some (.int v3), some (.int v4), some (.int v5), some (.long v6), none, some (.long v8), none, some (.int v10), some (.int v11), none, none], [], M)
noncomputable def rM_zeros (a0 : Nat) (a1 : Int32) (M : rg_M) : Option (Int32 × rg_M) := rg_io rg_cod 72 [.ref a0, .int a1] M
noncomputable def rM_zeros_b (a0 : Nat) (a1 : Int32) (M : rg_M) : Option rg_U := rg_E rg_cod 72 (0, [some (.ref a0), some (.int a1), none], [], M)
theorem rM_zeros_u (a0 : Nat) (a1 : Int32) (M : rg_M) : rM_zeros a0 a1 M = rg_ui (rM_zeros_b a0 a1 M) := rfl
noncomputable def rM_zeros_2 (v0 : Nat) (v1 : Int32) (v2 : Int32) (M : rg_M) : Option rg_U := rg_E rg_cod 72 (2, [some (.ref v0), some (.int v1), some (.int v2)], [], M)
noncomputable def rM_zeros_22 (v0 : Nat) (v1 : Int32) (v2 : Int32) (M : rg_M) : Option rg_U := rg_E rg_cod 72 (22, [some (.ref v0), some (.int v1), some (.int v2)], [], M)
noncomputable def rM_right (a0 : Nat) (a1 : Int32) (a2 : Int32) (M : rg_M) : Option (rg_M) := rg_vo rg_cod 73 [.ref a0, .int a1, .int a2] M
noncomputable def rM_right_b (a0 : Nat) (a1 : Int32) (a2 : Int32) (M : rg_M) : Option rg_U := rg_E rg_cod 73 (0, [some (.ref a0), some (.int a1), some (.int a2), none, none, none, none, none, none, none, none], [], M)
theorem rM_right_u (a0 : Nat) (a1 : Int32) (a2 : Int32) (M : rg_M) : rM_right a0 a1 a2 M = rg_uv (rM_right_b a0 a1 a2 M) := rfl
noncomputable def rM_right_24 (v0 : Nat) (v1 : Int32) (v3 : Int32) (v4 : Int32) (v5 : Int32) (v6 : Int32) (M : rg_M) : Option rg_U := rg_E rg_cod 73 (24, [some (.ref v0), some (.int v1), none, some (.int v3), some (.int v4), some (.int v5), some (.int v6), none, none, none, none], [], M)
noncomputable def rM_right_92 (v0 : Nat) (v1 : Int32) (v3 : Int32) (v4 : Int32) (v5 : Int32) (v6 : Int32) (v7 : Int64) (s0 : Int64) (M : rg_M) : Option rg_U := rg_E rg_cod 73 (92, [some (.ref v0), some (.int v1), none, some (.int v3), some (.int v4), some (.int v5), some (.int v6), some (.long v7), none, none, none], [.long s0], M)
noncomputable def rM_compare (a0 : Nat) (a1 : Int32) (a2 : Int32) (M : rg_M) : Option (Int32 × rg_M) := rg_io rg_cod 74 [.ref a0, .int a1, .int a2] M
noncomputable def rM_compare_b (a0 : Nat) (a1 : Int32) (a2 : Int32) (M : rg_M) : Option rg_U := rg_E rg_cod 74 (0, [some (.ref a0), some (.int a1), some (.int a2), none], [], M)
theorem rM_compare_u (a0 : Nat) (a1 : Int32) (a2 : Int32) (M : rg_M) : rM_compare a0 a1 a2 M = rg_ui (rM_compare_b a0 a1 a2 M) := rfl
noncomputable def rM_compare_35 (s0 : Int32) (M : rg_M) : Option rg_U := rg_E rg_cod 74 (35, [none, none, none, none], [.int s0], M)
noncomputable def rM_compare_45 (v0 : Nat) (v1 : Int32) (v2 : Int32) (v3 : Int32) (M : rg_M) : Option rg_U := rg_E rg_cod 74 (45, [some (.ref v0), some (.int v1), some (.int v2), some (.int v3)], [], M)
noncomputable def rM_compare_86 (s0 : Int32) (M : rg_M) : Option rg_U := rg_E rg_cod 74 (86, [none, none, none, none], [.int s0], M)
noncomputable def rM_apart (a0 : Nat) (a1 : Int32) (a2 : Int32) (a3 : Int32) (M : rg_M) : Option (rg_M) := rg_vo rg_cod 75 [.ref a0, .int a1, .int a2, .int a3] M
noncomputable def rM_apart_b (a0 : Nat) (a1 : Int32) (a2 : Int32) (a3 : Int32) (M : rg_M) : Option rg_U := rg_E rg_cod 75 (0, [some (.ref a0), some (.int a1), some (.int a2), some (.int a3), none, none, none, none, none, none, none], [], M)
theorem rM_apart_u (a0 : Nat) (a1 : Int32) (a2 : Int32) (a3 : Int32) (M : rg_M) : rM_apart a0 a1 a2 a3 M = rg_uv (rM_apart_b a0 a1 a2 a3 M) := rfl
noncomputable def rM_apart_22 (v0 : Nat) (v1 : Int32) (v2 : Int32) (v3 : Int32) (v4 : Int32) (v5 : Int32) (v6 : Int64) (v8 : Int32) (M : rg_M) : Option rg_U := rg_E rg_cod 75 (22, [some (.ref v0), some (.int v1), some (.int v2), some (.int v3), some (.int v4), some (.int v5), some (.long v6), none, some (.int v8), none, none], [], M)
noncomputable def rM_apart_74 (v0 : Nat) (v1 : Int32) (v2 : Int32) (v3 : Int32) (v4 : Int32) (v5 : Int32) (v6 : Int64) (v8 : Int32) (s0 : Int64) (s1 : Int64) (M : rg_M) : Option rg_U := rg_E rg_cod 75 (74, [some (.ref v0), some (.int v1), some (.int v2), some (.int v3), some (.int v4), some (.int v5), some (.long v6), none, some (.int v8), none, none], [.long s0, .long s1], M)
noncomputable def rM_apart_107 (v0 : Nat) (v1 : Int32) (v2 : Int32) (v3 : Int32) (v4 : Int32) (v5 : Int32) (v8 : Int32) (s0 : Int64) (M : rg_M) : Option rg_U := rg_E rg_cod 75 (107, [some (.ref v0), some (.int v1), some (.int v2), some (.int v3), some (.int v4), some (.int v5), none, none, some (.int v8), none, none], [.long s0], M)
noncomputable def rM_divisor (a0 : Nat) (a1 : Int32) (a2 : Int32) (M : rg_M) : Option (Int32 × rg_M) := rg_io rg_cod 76 [.ref a0, .int a1, .int a2] M
noncomputable def rM_divisor_b (a0 : Nat) (a1 : Int32) (a2 : Int32) (M : rg_M) : Option rg_U := rg_E rg_cod 76 (0, [some (.ref a0), some (.int a1), some (.int a2), none, none, none, none, none, none], [], M)
theorem rM_divisor_u (a0 : Nat) (a1 : Int32) (a2 : Int32) (M : rg_M) : rM_divisor a0 a1 a2 M = rg_ui (rM_divisor_b a0 a1 a2 M) := rfl
noncomputable def rM_divisor_88 (v0 : Nat) (v3 : Int32) (v4 : Int32) (v5 : Int32) (v6 : Int32) (v7 : Int32) (M : rg_M) : Option rg_U := rg_E rg_cod 76 (88, [some (.ref v0), none, none, some (.int v3), some (.int v4), some (.int v5), some (.int v6), some (.int v7), none], [], M)
noncomputable def rM_divisor_110 (v0 : Nat) (v3 : Int32) (v4 : Int32) (v5 : Int32) (v6 : Int32) (M : rg_M) : Option rg_U := rg_E rg_cod 76 (110, [some (.ref v0), none, none, some (.int v3), some (.int v4), some (.int v5), some (.int v6), none, none], [], M)
noncomputable def rM_divisor_172 (s0 : Int32) (M : rg_M) : Option rg_U := rg_E rg_cod 76 (172, [none, none, none, none, none, none, none, none, none], [.int s0], M)
noncomputable def rM_together (a0 : Nat) (a1 : Int32) (a2 : Int32) (a3 : Int32) (M : rg_M) : Option (rg_M) := rg_vo rg_cod 77 [.ref a0, .int a1, .int a2, .int a3] M
noncomputable def rM_together_b (a0 : Nat) (a1 : Int32) (a2 : Int32) (a3 : Int32) (M : rg_M) : Option rg_U := rg_E rg_cod 77 (0, [some (.ref a0), some (.int a1), some (.int a2), some (.int a3), none, none, none, none, none, none, none, none], [], M)
theorem rM_together_u (a0 : Nat) (a1 : Int32) (a2 : Int32) (a3 : Int32) (M : rg_M) : rM_together a0 a1 a2 a3 M = rg_uv (rM_together_b a0 a1 a2 a3 M) := rfl
noncomputable def rM_together_30 (v0 : Nat) (v1 : Int32) (v2 : Int32) (v3 : Int32) (s0 : Int32) (M : rg_M) : Option rg_U := rg_E rg_cod 77 (30, [some (.ref v0), some (.int v1), some (.int v2), some (.int v3), none, none, none, none, none, none, none, none], [.int s0], M)
noncomputable def rM_together_54 (v0 : Nat) (v1 : Int32) (v2 : Int32) (v3 : Int32) (v4 : Int32) (v5 : Int64) (v7 : Int32) (v8 : Int32) (v9 : Int32) (M : rg_M) : Option rg_U := rg_E rg_cod 77 (54, [some (.ref v0), some (.int v1), some (.int v2), some (.int v3), some (.int v4), some (.long v5), none, some (.int v7), some (.int v8), some (.int v9), none, none], [], M)
noncomputable def rM_together_91 (v0 : Nat) (v1 : Int32) (v2 : Int32) (v3 : Int32) (v4 : Int32) (v7 : Int32) (v8 : Int32) (v9 : Int32) (s0 : Int64) (s1 : Int64) (M : rg_M) : Option rg_U := rg_E rg_cod 77 (91, [some (.ref v0), some (.int v1), some (.int v2), some (.int v3), some (.int v4), none, none, some (.int v7), some (.int v8), some (.int v9), none, none], [.long s0, .long s1], M)
noncomputable def rM_together_120 (v0 : Nat) (v1 : Int32) (v2 : Int32) (v3 : Int32) (v4 : Int32) (v7 : Int32) (v8 : Int32) (v9 : Int32) (s0 : Int64) (s1 : Int64) (M : rg_M) : Option rg_U := rg_E rg_cod 77 (120, [some (.ref v0), some (.int v1), some (.int v2), some (.int v3), some (.int v4), none, none, some (.int v7), some (.int v8), some (.int v9), none, none], [.long s0, .long s1], M)
noncomputable def rM_plus (a0 : Nat) (a1 : Int32) (a2 : Int32) (a3 : Int32) (M : rg_M) : Option (rg_M) := rg_vo rg_cod 78 [.ref a0, .int a1, .int a2, .int a3] M
noncomputable def rM_plus_b (a0 : Nat) (a1 : Int32) (a2 : Int32) (a3 : Int32) (M : rg_M) : Option rg_U := rg_E rg_cod 78 (0, [some (.ref a0), some (.int a1), some (.int a2), some (.int a3), none, none, none], [], M)
theorem rM_plus_u (a0 : Nat) (a1 : Int32) (a2 : Int32) (a3 : Int32) (M : rg_M) : rM_plus a0 a1 a2 a3 M = rg_uv (rM_plus_b a0 a1 a2 a3 M) := rfl
noncomputable def rM_plus_26 (v0 : Nat) (v1 : Int32) (v2 : Int32) (v3 : Int32) (v4 : Int32) (M : rg_M) : Option rg_U := rg_E rg_cod 78 (26, [some (.ref v0), some (.int v1), some (.int v2), some (.int v3), some (.int v4), none, none], [], M)
noncomputable def rM_plus_37 (v3 : Int32) (s0 : Int32) (s1 : Nat) (M : rg_M) : Option rg_U := rg_E rg_cod 78 (37, [none, none, none, some (.int v3), none, none, none], [.int s0, .ref s1], M)
noncomputable def rM_plus_81 (v0 : Nat) (v1 : Int32) (v2 : Int32) (v3 : Int32) (v4 : Int32) (v5 : Int32) (s0 : Int32) (M : rg_M) : Option rg_U := rg_E rg_cod 78 (81, [some (.ref v0), some (.int v1), some (.int v2), some (.int v3), some (.int v4), some (.int v5), none], [.int s0], M)
noncomputable def rM_plus_105 (v0 : Nat) (v3 : Int32) (v4 : Int32) (v5 : Int32) (v6 : Int32) (M : rg_M) : Option rg_U := rg_E rg_cod 78 (105, [some (.ref v0), none, none, some (.int v3), some (.int v4), some (.int v5), some (.int v6)], [], M)
noncomputable def rM_plus_122 (v0 : Nat) (v3 : Int32) (s0 : Int32) (s1 : Int32) (s2 : Nat) (M : rg_M) : Option rg_U := rg_E rg_cod 78 (122, [some (.ref v0), none, none, some (.int v3), none, none, none], [.int s0, .int s1, .ref s2], M)
noncomputable def rM_plus_123 (v0 : Nat) (v3 : Int32) (M : rg_M) : Option rg_U := rg_E rg_cod 78 (123, [some (.ref v0), none, none, some (.int v3), none, none, none], [], M)
noncomputable def rM_without (a0 : Nat) (a1 : Int32) (a2 : Int32) (M : rg_M) : Option (rg_M) := rg_vo rg_cod 79 [.ref a0, .int a1, .int a2] M
noncomputable def rM_without_b (a0 : Nat) (a1 : Int32) (a2 : Int32) (M : rg_M) : Option rg_U := rg_E rg_cod 79 (0, [some (.ref a0), some (.int a1), some (.int a2), none, none, none, none, none, none, none, none, none, none, none, none, none, none, none, none, none, none], [], M)
theorem rM_without_u (a0 : Nat) (a1 : Int32) (a2 : Int32) (M : rg_M) : rM_without a0 a1 a2 M = rg_uv (rM_without_b a0 a1 a2 M) := rfl
noncomputable def rM_without_58 (v0 : Nat) (v1 : Int32) (v3 : Int32) (M : rg_M) : Option rg_U := rg_E rg_cod 79 (58, [some (.ref v0), some (.int v1), none, some (.int v3), none, none, none, none, none, none, none, none, none, none, none, none, none, none, none, none, none], [], M)
noncomputable def rM_without_78 (v0 : Nat) (v1 : Int32) (v3 : Int32) (v4 : Int32) (v5 : Int32) (v6 : Int32) (M : rg_M) : Option rg_U := rg_E rg_cod 79 (78, [some (.ref v0), some (.int v1), none, some (.int v3), some (.int v4), some (.int v5), some (.int v6), none, none, none, none, none, none, none, none, none, none, none, none, none, none], [], M)
noncomputable def rM_without_134 (v0 : Nat) (v1 : Int32) (v3 : Int32) (v5 : Int32) (v6 : Int32) (v7 : Int32) (v8 : Int32) (M : rg_M) : Option rg_U := rg_E rg_cod 79 (134, [some (.ref v0), some (.int v1), none, some (.int v3), none, some (.int v5), some (.int v6), some (.int v7), some (.int v8), none, none, none, none, none, none, none, none, none, none, none, none], [], M)
noncomputable def rM_without_176 (v0 : Nat) (v1 : Int32) (v3 : Int32) (v5 : Int32) (v6 : Int32) (v7 : Int32) (v8 : Int32) (v9 : Int32) (v10 : Int64) (v12 : Int64) (v14 : Int64) (v16 : Int32) (M : rg_M) : Option rg_U := rg_E rg_cod 79 (176, [some (.ref v0), some (.int v1), none, some (.int v3), none, some (.int v5), some (.int v6), some (.int v7), some (.int v8), some (.int v9), some (.long v10), none, some (.long v12), none, some (.long v14), none, some (.int v16), none, none, none, none], [], M)
noncomputable def rM_without_207 (v0 : Nat) (v1 : Int32) (v3 : Int32) (v5 : Int32) (v6 : Int32) (v7 : Int32) (v8 : Int32) (v9 : Int32) (v10 : Int64) (v12 : Int64) (v14 : Int64) (v16 : Int32) (M : rg_M) : Option rg_U := rg_E rg_cod 79 (207, [some (.ref v0), some (.int v1), none, some (.int v3), none, some (.int v5), some (.int v6), some (.int v7), some (.int v8), some (.int v9), some (.long v10), none, some (.long v12), none, some (.long v14), none, some (.int v16), none, none, none, none], [], M)
noncomputable def rM_without_242 (v0 : Nat) (v1 : Int32) (v3 : Int32) (v5 : Int32) (v6 : Int32) (v7 : Int32) (v8 : Int32) (v9 : Int32) (v10 : Int64) (v14 : Int64) (v16 : Int32) (s0 : Int64) (s1 : Int64) (M : rg_M) : Option rg_U := rg_E rg_cod 79 (242, [some (.ref v0), some (.int v1), none, some (.int v3), none, some (.int v5), some (.int v6), some (.int v7), some (.int v8), some (.int v9), some (.long v10), none, none, none, some (.long v14), none, some (.int v16), none, none, none, none], [.long s0, .long s1], M)
noncomputable def rM_without_314 (v0 : Nat) (v1 : Int32) (v3 : Int32) (v5 : Int32) (v6 : Int32) (v7 : Int32) (v8 : Int32) (v9 : Int32) (v10 : Int64) (v12 : Int64) (v16 : Int32) (s0 : Int64) (M : rg_M) : Option rg_U := rg_E rg_cod 79 (314, [some (.ref v0), some (.int v1), none, some (.int v3), none, some (.int v5), some (.int v6), some (.int v7), some (.int v8), some (.int v9), some (.long v10), none, some (.long v12), none, none, none, some (.int v16), none, none, none, none], [.long s0], M)
noncomputable def rM_without_322 (v0 : Nat) (v1 : Int32) (v3 : Int32) (v5 : Int32) (v6 : Int32) (v7 : Int32) (v8 : Int32) (v9 : Int32) (M : rg_M) : Option rg_U := rg_E rg_cod 79 (322, [some (.ref v0), some (.int v1), none, some (.int v3), none, some (.int v5), some (.int v6), some (.int v7), some (.int v8), some (.int v9), none, none, none, none, none, none, none, none, none, none, none], [], M)
noncomputable def rM_coprime (a0 : Nat) (a1 : Int32) (M : rg_M) : Option (rg_M) := rg_vo rg_cod 80 [.ref a0, .int a1] M
noncomputable def rM_coprime_b (a0 : Nat) (a1 : Int32) (M : rg_M) : Option rg_U := rg_E rg_cod 80 (0, [some (.ref a0), some (.int a1), none, none, none, none, none], [], M)
theorem rM_coprime_u (a0 : Nat) (a1 : Int32) (M : rg_M) : rM_coprime a0 a1 M = rg_uv (rM_coprime_b a0 a1 M) := rfl
noncomputable def rM_coprime_11 (v0 : Nat) (v1 : Int32) (v2 : Int32) (v3 : Int32) (v4 : Int32) (M : rg_M) : Option rg_U := rg_E rg_cod 80 (11, [some (.ref v0), some (.int v1), some (.int v2), some (.int v3), some (.int v4), none, none], [], M)
noncomputable def rM_coprime_80 (v0 : Nat) (v1 : Int32) (v2 : Int32) (v4 : Int32) (v6 : Int32) (M : rg_M) : Option rg_U := rg_E rg_cod 80 (80, [some (.ref v0), some (.int v1), some (.int v2), none, some (.int v4), none, some (.int v6)], [], M)
noncomputable def rM_coprime_104 (v0 : Nat) (v1 : Int32) (v2 : Int32) (v4 : Int32) (M : rg_M) : Option rg_U := rg_E rg_cod 80 (104, [some (.ref v0), some (.int v1), some (.int v2), none, some (.int v4), none, none], [], M)
noncomputable def rM_coprime_106 (v0 : Nat) (v1 : Int32) (v2 : Int32) (v3 : Int32) (v4 : Int32) (M : rg_M) : Option rg_U := rg_E rg_cod 80 (106, [some (.ref v0), some (.int v1), some (.int v2), some (.int v3), some (.int v4), none, none], [], M)
noncomputable def rM_coprime_143 (v0 : Nat) (v1 : Int32) (v2 : Int32) (v4 : Int32) (v5 : Int32) (M : rg_M) : Option rg_U := rg_E rg_cod 80 (143, [some (.ref v0), some (.int v1), some (.int v2), none, some (.int v4), some (.int v5), none], [], M)
noncomputable def rM_weigh (a0 : Nat) (a1 : Int32) (a2 : Int32) (M : rg_M) : Option (rg_M) := rg_vo rg_cod 81 [.ref a0, .int a1, .int a2] M
noncomputable def rM_weigh_b (a0 : Nat) (a1 : Int32) (a2 : Int32) (M : rg_M) : Option rg_U := rg_E rg_cod 81 (0, [some (.ref a0), some (.int a1), some (.int a2), none, none, none, none, none], [], M)
theorem rM_weigh_u (a0 : Nat) (a1 : Int32) (a2 : Int32) (M : rg_M) : rM_weigh a0 a1 a2 M = rg_uv (rM_weigh_b a0 a1 a2 M) := rfl
noncomputable def rM_weigh_12 (v0 : Nat) (v1 : Int32) (v2 : Int32) (v3 : Int32) (v4 : Int32) (v5 : Int32) (M : rg_M) : Option rg_U := rg_E rg_cod 81 (12, [some (.ref v0), some (.int v1), some (.int v2), some (.int v3), some (.int v4), some (.int v5), none, none], [], M)
noncomputable def rM_weigh_40 (v0 : Nat) (v1 : Int32) (v2 : Int32) (v3 : Int32) (v5 : Int32) (M : rg_M) : Option rg_U := rg_E rg_cod 81 (40, [some (.ref v0), some (.int v1), some (.int v2), some (.int v3), none, some (.int v5), none, none], [], M)
noncomputable def rM_weigh_45 (v0 : Nat) (v1 : Int32) (v2 : Int32) (v3 : Int32) (v5 : Int32) (s0 : Int32) (M : rg_M) : Option rg_U := rg_E rg_cod 81 (45, [some (.ref v0), some (.int v1), some (.int v2), some (.int v3), none, some (.int v5), none, none], [.int s0], M)
noncomputable def rM_weigh_56 (v0 : Nat) (v1 : Int32) (v2 : Int32) (v3 : Int32) (v4 : Int32) (v5 : Int32) (M : rg_M) : Option rg_U := rg_E rg_cod 81 (56, [some (.ref v0), some (.int v1), some (.int v2), some (.int v3), some (.int v4), some (.int v5), none, none], [], M)
noncomputable def rM_weigh_88 (v0 : Nat) (v1 : Int32) (v2 : Int32) (v3 : Int32) (v4 : Int32) (v5 : Int32) (v6 : Int32) (s0 : Int64) (s1 : Int32) (s2 : Nat) (M : rg_M) : Option rg_U := rg_E rg_cod 81 (88, [some (.ref v0), some (.int v1), some (.int v2), some (.int v3), some (.int v4), some (.int v5), some (.int v6), none], [.long s0, .int s1, .ref s2], M)
noncomputable def rM_weigh_125 (v0 : Nat) (v1 : Int32) (v2 : Int32) (v3 : Int32) (v4 : Int32) (v5 : Int32) (v6 : Int32) (v7 : Int32) (M : rg_M) : Option rg_U := rg_E rg_cod 81 (125, [some (.ref v0), some (.int v1), some (.int v2), some (.int v3), some (.int v4), some (.int v5), some (.int v6), some (.int v7)], [], M)
noncomputable def rM_weigh_190 (v0 : Nat) (v1 : Int32) (v2 : Int32) (v3 : Int32) (v4 : Int32) (v5 : Int32) (v6 : Int32) (v7 : Int32) (M : rg_M) : Option rg_U := rg_E rg_cod 81 (190, [some (.ref v0), some (.int v1), some (.int v2), some (.int v3), some (.int v4), some (.int v5), some (.int v6), some (.int v7)], [], M)
noncomputable def rM_weigh_209 (v0 : Nat) (v1 : Int32) (v2 : Int32) (v3 : Int32) (v4 : Int32) (v5 : Int32) (M : rg_M) : Option rg_U := rg_E rg_cod 81 (209, [some (.ref v0), some (.int v1), some (.int v2), some (.int v3), some (.int v4), some (.int v5), none, none], [], M)
noncomputable def rM_weigh_225 (v0 : Nat) (v1 : Int32) (v3 : Int32) (M : rg_M) : Option rg_U := rg_E rg_cod 81 (225, [some (.ref v0), some (.int v1), none, some (.int v3), none, none, none, none], [], M)
noncomputable def rM_weigh_238 (v0 : Nat) (v1 : Int32) (v3 : Int32) (v5 : Int32) (M : rg_M) : Option rg_U := rg_E rg_cod 81 (238, [some (.ref v0), some (.int v1), none, some (.int v3), none, some (.int v5), none, none], [], M)
noncomputable def rM_gets (a0 : Nat) (a1 : Int32) (a2 : Int32) (a3 : Int32) (M : rg_M) : Option (Int32 × rg_M) := rg_io rg_cod 82 [.ref a0, .int a1, .int a2, .int a3] M
noncomputable def rM_gets_b (a0 : Nat) (a1 : Int32) (a2 : Int32) (a3 : Int32) (M : rg_M) : Option rg_U := rg_E rg_cod 82 (0, [some (.ref a0), some (.int a1), some (.int a2), some (.int a3)], [], M)
theorem rM_gets_u (a0 : Nat) (a1 : Int32) (a2 : Int32) (a3 : Int32) (M : rg_M) : rM_gets a0 a1 a2 a3 M = rg_ui (rM_gets_b a0 a1 a2 a3 M) := rfl
noncomputable def rM_gets_28 (s0 : Int32) (M : rg_M) : Option rg_U := rg_E rg_cod 82 (28, [none, none, none, none], [.int s0], M)
noncomputable def rM_scale (a0 : Nat) (a1 : Int32) (a2 : Int64) (M : rg_M) : Option (rg_M) := rg_vo rg_cod 83 [.ref a0, .int a1, .long a2] M
noncomputable def rM_scale_b (a0 : Nat) (a1 : Int32) (a2 : Int64) (M : rg_M) : Option rg_U := rg_E rg_cod 83 (0, [some (.ref a0), some (.int a1), some (.long a2), none], [], M)
theorem rM_scale_u (a0 : Nat) (a1 : Int32) (a2 : Int64) (M : rg_M) : rM_scale a0 a1 a2 M = rg_uv (rM_scale_b a0 a1 a2 M) := rfl
noncomputable def rM_minus (a0 : Nat) (a1 : Int32) (a2 : Int32) (a3 : Int32) (M : rg_M) : Option (rg_M) := rg_vo rg_cod 84 [.ref a0, .int a1, .int a2, .int a3] M
noncomputable def rM_minus_b (a0 : Nat) (a1 : Int32) (a2 : Int32) (a3 : Int32) (M : rg_M) : Option rg_U := rg_E rg_cod 84 (0, [some (.ref a0), some (.int a1), some (.int a2), some (.int a3), none], [], M)
theorem rM_minus_u (a0 : Nat) (a1 : Int32) (a2 : Int32) (a3 : Int32) (M : rg_M) : rM_minus a0 a1 a2 a3 M = rg_uv (rM_minus_b a0 a1 a2 a3 M) := rfl
noncomputable def rM_minus_23 (v0 : Nat) (v1 : Int32) (v2 : Int32) (v3 : Int32) (s0 : Int32) (M : rg_M) : Option rg_U := rg_E rg_cod 84 (23, [some (.ref v0), some (.int v1), some (.int v2), some (.int v3), none], [.int s0], M)
noncomputable def rM_minus_43 (v0 : Nat) (v2 : Int32) (v3 : Int32) (M : rg_M) : Option rg_U := rg_E rg_cod 84 (43, [some (.ref v0), none, some (.int v2), some (.int v3), none], [], M)
noncomputable def rM_minus_61  (M : rg_M) : Option rg_U := rg_E rg_cod 84 (61, [none, none, none, none, none], [], M)
noncomputable def rM_lower (a0 : Nat) (a1 : Int32) (a2 : Int32) (M : rg_M) : Option (rg_M) := rg_vo rg_cod 85 [.ref a0, .int a1, .int a2] M
noncomputable def rM_lower_b (a0 : Nat) (a1 : Int32) (a2 : Int32) (M : rg_M) : Option rg_U := rg_E rg_cod 85 (0, [some (.ref a0), some (.int a1), some (.int a2), none], [], M)
theorem rM_lower_u (a0 : Nat) (a1 : Int32) (a2 : Int32) (M : rg_M) : rM_lower a0 a1 a2 M = rg_uv (rM_lower_b a0 a1 a2 M) := rfl
noncomputable def rM_bitsOf (a0 : Nat) (a1 : Int32) (M : rg_M) : Option (Int32 × rg_M) := rg_io rg_cod 86 [.ref a0, .int a1] M
noncomputable def rM_bitsOf_b (a0 : Nat) (a1 : Int32) (M : rg_M) : Option rg_U := rg_E rg_cod 86 (0, [some (.ref a0), some (.int a1), none, none, none], [], M)
theorem rM_bitsOf_u (a0 : Nat) (a1 : Int32) (M : rg_M) : rM_bitsOf a0 a1 M = rg_ui (rM_bitsOf_b a0 a1 M) := rfl
noncomputable def rM_bitsOf_37 (v2 : Int32) (v3 : Int64) (M : rg_M) : Option rg_U := rg_E rg_cod 86 (37, [none, none, some (.int v2), some (.long v3), none], [], M)
noncomputable def rM_adds (a0 : Nat) (a1 : Int32) (a2 : Int32) (M : rg_M) : Option (Int32 × rg_M) := rg_io rg_cod 87 [.ref a0, .int a1, .int a2] M
noncomputable def rM_adds_b (a0 : Nat) (a1 : Int32) (a2 : Int32) (M : rg_M) : Option rg_U := rg_E rg_cod 87 (0, [some (.ref a0), some (.int a1), some (.int a2)], [], M)
theorem rM_adds_u (a0 : Nat) (a1 : Int32) (a2 : Int32) (M : rg_M) : rM_adds a0 a1 a2 M = rg_ui (rM_adds_b a0 a1 a2 M) := rfl
noncomputable def rM_adds_94  (M : rg_M) : Option rg_U := rg_E rg_cod 87 (94, [none, none, none], [], M)
noncomputable def rM_sums (a0 : Nat) (a1 : Int32) (M : rg_M) : Option (Int32 × rg_M) := rg_io rg_cod 88 [.ref a0, .int a1] M
noncomputable def rM_sums_b (a0 : Nat) (a1 : Int32) (M : rg_M) : Option rg_U := rg_E rg_cod 88 (0, [some (.ref a0), some (.int a1), none, none], [], M)
theorem rM_sums_u (a0 : Nat) (a1 : Int32) (M : rg_M) : rM_sums a0 a1 M = rg_ui (rM_sums_b a0 a1 M) := rfl
noncomputable def rM_sums_4 (v0 : Nat) (v1 : Int32) (v2 : Int32) (v3 : Int32) (M : rg_M) : Option rg_U := rg_E rg_cod 88 (4, [some (.ref v0), some (.int v1), some (.int v2), some (.int v3)], [], M)
noncomputable def rM_sums_71 (v2 : Int32) (M : rg_M) : Option rg_U := rg_E rg_cod 88 (71, [none, none, some (.int v2), none], [], M)
noncomputable def rM_against (a0 : Nat) (a1 : Int32) (a2 : Int32) (M : rg_M) : Option (Int32 × rg_M) := rg_io rg_cod 89 [.ref a0, .int a1, .int a2] M
noncomputable def rM_against_b (a0 : Nat) (a1 : Int32) (a2 : Int32) (M : rg_M) : Option rg_U := rg_E rg_cod 89 (0, [some (.ref a0), some (.int a1), some (.int a2), none, none], [], M)
theorem rM_against_u (a0 : Nat) (a1 : Int32) (a2 : Int32) (M : rg_M) : rM_against a0 a1 a2 M = rg_ui (rM_against_b a0 a1 a2 M) := rfl
noncomputable def rM_against_16 (v0 : Nat) (v1 : Int32) (v2 : Int32) (v3 : Int32) (M : rg_M) : Option rg_U := rg_E rg_cod 89 (16, [some (.ref v0), some (.int v1), some (.int v2), some (.int v3), none], [], M)
noncomputable def rM_against_81 (v0 : Nat) (v1 : Int32) (v2 : Int32) (v3 : Int32) (v4 : Int32) (M : rg_M) : Option rg_U := rg_E rg_cod 89 (81, [some (.ref v0), some (.int v1), some (.int v2), some (.int v3), some (.int v4)], [], M)
noncomputable def rM_against_167 (v0 : Nat) (v1 : Int32) (v3 : Int32) (M : rg_M) : Option rg_U := rg_E rg_cod 89 (167, [some (.ref v0), some (.int v1), none, some (.int v3), none], [], M)
noncomputable def rM_against_199  (M : rg_M) : Option rg_U := rg_E rg_cod 89 (199, [none, none, none, none, none], [], M)
noncomputable def rM_against_200 (s0 : Int32) (M : rg_M) : Option rg_U := rg_E rg_cod 89 (200, [none, none, none, none, none], [.int s0], M)
noncomputable def rM_stands (a0 : Nat) (a1 : Int32) (M : rg_M) : Option (rg_M) := rg_vo rg_cod 90 [.ref a0, .int a1] M
noncomputable def rM_stands_b (a0 : Nat) (a1 : Int32) (M : rg_M) : Option rg_U := rg_E rg_cod 90 (0, [some (.ref a0), some (.int a1), none, none], [], M)
theorem rM_stands_u (a0 : Nat) (a1 : Int32) (M : rg_M) : rM_stands a0 a1 M = rg_uv (rM_stands_b a0 a1 M) := rfl
noncomputable def rM_stands_2 (v0 : Nat) (v1 : Int32) (v2 : Int32) (M : rg_M) : Option rg_U := rg_E rg_cod 90 (2, [some (.ref v0), some (.int v1), some (.int v2), none], [], M)
noncomputable def rM_alone (a0 : Nat) (a1 : Int32) (a2 : Int32) (a3 : Int32) (M : rg_M) : Option (Int32 × rg_M) := rg_io rg_cod 91 [.ref a0, .int a1, .int a2, .int a3] M
noncomputable def rM_alone_b (a0 : Nat) (a1 : Int32) (a2 : Int32) (a3 : Int32) (M : rg_M) : Option rg_U := rg_E rg_cod 91 (0, [some (.ref a0), some (.int a1), some (.int a2), some (.int a3)], [], M)
theorem rM_alone_u (a0 : Nat) (a1 : Int32) (a2 : Int32) (a3 : Int32) (M : rg_M) : rM_alone a0 a1 a2 a3 M = rg_ui (rM_alone_b a0 a1 a2 a3 M) := rfl
noncomputable def rM_column (a0 : Nat) (a1 : Int32) (M : rg_M) : Option (Int32 × rg_M) := rg_io rg_cod 92 [.ref a0, .int a1] M
noncomputable def rM_column_b (a0 : Nat) (a1 : Int32) (M : rg_M) : Option rg_U := rg_E rg_cod 92 (0, [some (.ref a0), some (.int a1)], [], M)
theorem rM_column_u (a0 : Nat) (a1 : Int32) (M : rg_M) : rM_column a0 a1 M = rg_ui (rM_column_b a0 a1 M) := rfl
noncomputable def rM_column_30  (M : rg_M) : Option rg_U := rg_E rg_cod 92 (30, [none, none], [], M)
noncomputable def rT_row (a0 : Nat) (a1 : Int32) (M : rg_M) : Option (Int32 × rg_M) := rg_io rg_cod 93 [.ref a0, .int a1] M
noncomputable def rT_row_b (a0 : Nat) (a1 : Int32) (M : rg_M) : Option rg_U := rg_E rg_cod 93 (0, [some (.ref a0), some (.int a1)], [], M)
theorem rT_row_u (a0 : Nat) (a1 : Int32) (M : rg_M) : rT_row a0 a1 M = rg_ui (rT_row_b a0 a1 M) := rfl
noncomputable def rM_row (a0 : Nat) (a1 : Int32) (M : rg_M) : Option (Int32 × rg_M) := rg_io rg_cod 94 [.ref a0, .int a1] M
noncomputable def rM_row_b (a0 : Nat) (a1 : Int32) (M : rg_M) : Option rg_U := rg_E rg_cod 94 (0, [some (.ref a0), some (.int a1)], [], M)
theorem rM_row_u (a0 : Nat) (a1 : Int32) (M : rg_M) : rM_row a0 a1 M = rg_ui (rM_row_b a0 a1 M) := rfl
noncomputable def rM_row_32  (M : rg_M) : Option rg_U := rg_E rg_cod 94 (32, [none, none], [], M)
noncomputable def rL_findAllParts (a0 : Nat) (a1 : Nat) (M : rg_M) : Option (rg_M) := rg_vo rg_cod 95 [.ref a0, .ref a1] M
noncomputable def rL_findAllParts_b (a0 : Nat) (a1 : Nat) (M : rg_M) : Option rg_U := rg_E rg_cod 95 (0, [some (.ref a0), some (.ref a1), none], [], M)
theorem rL_findAllParts_u (a0 : Nat) (a1 : Nat) (M : rg_M) : rL_findAllParts a0 a1 M = rg_uv (rL_findAllParts_b a0 a1 M) := rfl
noncomputable def rL_findAllParts_2 (v0 : Nat) (v1 : Nat) (v2 : Int32) (M : rg_M) : Option rg_U := rg_E rg_cod 95 (2, [some (.ref v0), some (.ref v1), some (.int v2)], [], M)
noncomputable def rC_findPlayed (a0 : Nat) (M : rg_M) : Option (rg_M) := rg_vo rg_cod 96 [.ref a0] M
noncomputable def rC_findPlayed_b (a0 : Nat) (M : rg_M) : Option rg_U := rg_E rg_cod 96 (0, [some (.ref a0), none, none, none], [], M)
theorem rC_findPlayed_u (a0 : Nat) (M : rg_M) : rC_findPlayed a0 M = rg_uv (rC_findPlayed_b a0 M) := rfl
noncomputable def rC_findPlayed_2 (v0 : Nat) (v1 : Int32) (M : rg_M) : Option rg_U := rg_E rg_cod 96 (2, [some (.ref v0), some (.int v1), none, none], [], M)
noncomputable def rC_findPlayed_20 (v0 : Nat) (v1 : Int32) (v2 : Int32) (v3 : Int32) (M : rg_M) : Option rg_U := rg_E rg_cod 96 (20, [some (.ref v0), some (.int v1), some (.int v2), some (.int v3)], [], M)
noncomputable def rL_clearWorths (a0 : Nat) (M : rg_M) : Option (rg_M) := rg_vo rg_cod 97 [.ref a0] M
noncomputable def rL_clearWorths_b (a0 : Nat) (M : rg_M) : Option rg_U := rg_E rg_cod 97 (0, [some (.ref a0), none], [], M)
theorem rL_clearWorths_u (a0 : Nat) (M : rg_M) : rL_clearWorths a0 M = rg_uv (rL_clearWorths_b a0 M) := rfl
noncomputable def rL_clearWorths_2 (v0 : Nat) (v1 : Int32) (M : rg_M) : Option rg_U := rg_E rg_cod 97 (2, [some (.ref v0), some (.int v1)], [], M)
noncomputable def rC_addWorth (a0 : Nat) (a1 : Int32) (a2 : Int32) (a3 : Int32) (a4 : Int32) (a5 : Int32) (M : rg_M) : Option (rg_M) := rg_vo rg_cod 98 [.ref a0, .int a1, .int a2, .int a3, .int a4, .int a5] M
noncomputable def rC_addWorth_b (a0 : Nat) (a1 : Int32) (a2 : Int32) (a3 : Int32) (a4 : Int32) (a5 : Int32) (M : rg_M) : Option rg_U := rg_E rg_cod 98 (0, [some (.ref a0), some (.int a1), some (.int a2), some (.int a3), some (.int a4), some (.int a5), none, none, none], [], M)
theorem rC_addWorth_u (a0 : Nat) (a1 : Int32) (a2 : Int32) (a3 : Int32) (a4 : Int32) (a5 : Int32) (M : rg_M) : rC_addWorth a0 a1 a2 a3 a4 a5 M = rg_uv (rC_addWorth_b a0 a1 a2 a3 a4 a5 M) := rfl
noncomputable def rC_addWorth_19 (v0 : Nat) (v1 : Int32) (v3 : Int32) (v4 : Int32) (v5 : Int32) (v6 : Nat) (v7 : Int32) (M : rg_M) : Option rg_U := rg_E rg_cod 98 (19, [some (.ref v0), some (.int v1), none, some (.int v3), some (.int v4), some (.int v5), some (.ref v6), some (.int v7), none], [], M)
noncomputable def rC_addWorth_69 (v0 : Nat) (v1 : Int32) (v3 : Int32) (v4 : Int32) (v5 : Int32) (v6 : Nat) (v7 : Int32) (s0 : Int32) (s1 : Nat) (s2 : Nat) (s3 : Nat) (M : rg_M) : Option rg_U := rg_E rg_cod 98 (69, [some (.ref v0), some (.int v1), none, some (.int v3), some (.int v4), some (.int v5), some (.ref v6), some (.int v7), none], [.int s0, .ref s1, .ref s2, .ref s3], M)
noncomputable def rC_addWorth_72 (v0 : Nat) (v1 : Int32) (v3 : Int32) (v4 : Int32) (v5 : Int32) (v6 : Nat) (v7 : Int32) (M : rg_M) : Option rg_U := rg_E rg_cod 98 (72, [some (.ref v0), some (.int v1), none, some (.int v3), some (.int v4), some (.int v5), some (.ref v6), some (.int v7), none], [], M)
noncomputable def rC_reckonWorthsOfA (a0 : Nat) (M : rg_M) : Option (rg_M) := rg_vo rg_cod 99 [.ref a0] M
noncomputable def rC_reckonWorthsOfA_b (a0 : Nat) (M : rg_M) : Option rg_U := rg_E rg_cod 99 (0, [some (.ref a0), none], [], M)
theorem rC_reckonWorthsOfA_u (a0 : Nat) (M : rg_M) : rC_reckonWorthsOfA a0 M = rg_uv (rC_reckonWorthsOfA_b a0 M) := rfl
noncomputable def rC_reckonWorthsOfA_2 (v0 : Nat) (v1 : Int32) (M : rg_M) : Option rg_U := rg_E rg_cod 99 (2, [some (.ref v0), some (.int v1)], [], M)
noncomputable def rC_reckonWorthsOfB (a0 : Nat) (M : rg_M) : Option (rg_M) := rg_vo rg_cod 100 [.ref a0] M
noncomputable def rC_reckonWorthsOfB_b (a0 : Nat) (M : rg_M) : Option rg_U := rg_E rg_cod 100 (0, [some (.ref a0), none], [], M)
theorem rC_reckonWorthsOfB_u (a0 : Nat) (M : rg_M) : rC_reckonWorthsOfB a0 M = rg_uv (rC_reckonWorthsOfB_b a0 M) := rfl
noncomputable def rC_reckonWorthsOfB_2 (v0 : Nat) (v1 : Int32) (M : rg_M) : Option rg_U := rg_E rg_cod 100 (2, [some (.ref v0), some (.int v1)], [], M)
noncomputable def rC_goOnByParts (a0 : Nat) (M : rg_M) : Option (rg_M) := rg_vo rg_cod 101 [.ref a0] M
noncomputable def rC_goOnByParts_b (a0 : Nat) (M : rg_M) : Option rg_U := rg_E rg_cod 101 (0, [some (.ref a0), none, none, none], [], M)
theorem rC_goOnByParts_u (a0 : Nat) (M : rg_M) : rC_goOnByParts a0 M = rg_uv (rC_goOnByParts_b a0 M) := rfl
noncomputable def rC_goOnByParts_2 (v0 : Nat) (v1 : Int32) (M : rg_M) : Option rg_U := rg_E rg_cod 101 (2, [some (.ref v0), some (.int v1), none, none], [], M)
noncomputable def rC_goOnByParts_20 (v0 : Nat) (v1 : Int32) (v2 : Int32) (v3 : Int32) (M : rg_M) : Option rg_U := rg_E rg_cod 101 (20, [some (.ref v0), some (.int v1), some (.int v2), some (.int v3)], [], M)
noncomputable def rC_learn (a0 : Nat) (M : rg_M) : Option (Int32 × rg_M) := rg_io rg_cod 102 [.ref a0] M
noncomputable def rC_learn_b (a0 : Nat) (M : rg_M) : Option rg_U := rg_E rg_cod 102 (0, [some (.ref a0), none], [], M)
theorem rC_learn_u (a0 : Nat) (M : rg_M) : rC_learn a0 M = rg_ui (rC_learn_b a0 M) := rfl
noncomputable def rC_learn_39 (v0 : Nat) (v1 : Int32) (M : rg_M) : Option rg_U := rg_E rg_cod 102 (39, [some (.ref v0), some (.int v1)], [], M)
noncomputable def rC_learn_78 (v0 : Nat) (v1 : Int32) (M : rg_M) : Option rg_U := rg_E rg_cod 102 (78, [some (.ref v0), some (.int v1)], [], M)
noncomputable def rN_learn (a0 : Nat) (M : rg_M) : Option (Int32 × rg_M) := rg_io rg_cod 103 [.ref a0] M
noncomputable def rN_learn_b (a0 : Nat) (M : rg_M) : Option rg_U := rg_E rg_cod 103 (0, [some (.ref a0)], [], M)
theorem rN_learn_u (a0 : Nat) (M : rg_M) : rN_learn a0 M = rg_ui (rN_learn_b a0 M) := rfl
noncomputable def rN_learn_64  (M : rg_M) : Option rg_U := rg_E rg_cod 103 (64, [none], [], M)
noncomputable def rN_learn_65 (s0 : Int32) (M : rg_M) : Option rg_U := rg_E rg_cod 103 (65, [none], [.int s0], M)
noncomputable def rT_round (a0 : Nat) (M : rg_M) : Option (Int32 × rg_M) := rg_io rg_cod 104 [.ref a0] M
noncomputable def rT_round_b (a0 : Nat) (M : rg_M) : Option rg_U := rg_E rg_cod 104 (0, [some (.ref a0), none, none], [], M)
theorem rT_round_u (a0 : Nat) (M : rg_M) : rT_round a0 M = rg_ui (rT_round_b a0 M) := rfl
noncomputable def rT_round_14  (M : rg_M) : Option rg_U := rg_E rg_cod 104 (14, [none, none, none], [], M)
noncomputable def rT_round_41 (v0 : Nat) (s0 : Int32) (M : rg_M) : Option rg_U := rg_E rg_cod 104 (41, [some (.ref v0), none, none], [.int s0], M)
noncomputable def rT_round_55 (v0 : Nat) (v2 : Int32) (M : rg_M) : Option rg_U := rg_E rg_cod 104 (55, [some (.ref v0), none, some (.int v2)], [], M)
noncomputable def rM_sumsOf (a0 : Nat) (a1 : Int32) (a2 : Int32) (M : rg_M) : Option (rg_M) := rg_vo rg_cod 105 [.ref a0, .int a1, .int a2] M
noncomputable def rM_sumsOf_b (a0 : Nat) (a1 : Int32) (a2 : Int32) (M : rg_M) : Option rg_U := rg_E rg_cod 105 (0, [some (.ref a0), some (.int a1), some (.int a2), none, none, none], [], M)
theorem rM_sumsOf_u (a0 : Nat) (a1 : Int32) (a2 : Int32) (M : rg_M) : rM_sumsOf a0 a1 a2 M = rg_uv (rM_sumsOf_b a0 a1 a2 M) := rfl
noncomputable def rM_sumsOf_7 (v0 : Nat) (v1 : Int32) (v2 : Int32) (v3 : Int32) (v4 : Int32) (M : rg_M) : Option rg_U := rg_E rg_cod 105 (7, [some (.ref v0), some (.int v1), some (.int v2), some (.int v3), some (.int v4), none], [], M)
noncomputable def rM_sumsOf_29 (v0 : Nat) (v1 : Int32) (v2 : Int32) (v3 : Int32) (v4 : Int32) (v5 : Int32) (M : rg_M) : Option rg_U := rg_E rg_cod 105 (29, [some (.ref v0), some (.int v1), some (.int v2), some (.int v3), some (.int v4), some (.int v5)], [], M)
noncomputable def rM_bothOfTable (a0 : Nat) (M : rg_M) : Option (Int32 × rg_M) := rg_io rg_cod 106 [.ref a0] M
noncomputable def rM_bothOfTable_b (a0 : Nat) (M : rg_M) : Option rg_U := rg_E rg_cod 106 (0, [some (.ref a0), none, none, none, none], [], M)
theorem rM_bothOfTable_u (a0 : Nat) (M : rg_M) : rM_bothOfTable a0 M = rg_ui (rM_bothOfTable_b a0 M) := rfl
noncomputable def rM_bothOfTable_32 (v0 : Nat) (v1 : Int32) (v2 : Int32) (M : rg_M) : Option rg_U := rg_E rg_cod 106 (32, [some (.ref v0), some (.int v1), some (.int v2), none, none], [], M)
noncomputable def rM_bothOfTable_54 (v0 : Nat) (v1 : Int32) (v2 : Int32) (s0 : Int32) (M : rg_M) : Option rg_U := rg_E rg_cod 106 (54, [some (.ref v0), some (.int v1), some (.int v2), none, none], [.int s0], M)
noncomputable def rM_bothOfTable_66 (v0 : Nat) (v1 : Int32) (v2 : Int32) (v3 : Int32) (v4 : Int32) (M : rg_M) : Option rg_U := rg_E rg_cod 106 (66, [some (.ref v0), some (.int v1), some (.int v2), some (.int v3), some (.int v4)], [], M)
noncomputable def rM_bothOfTable_133 (v0 : Nat) (v1 : Int32) (v2 : Int32) (v3 : Int32) (v4 : Int32) (M : rg_M) : Option rg_U := rg_E rg_cod 106 (133, [some (.ref v0), some (.int v1), some (.int v2), some (.int v3), some (.int v4)], [], M)
noncomputable def rM_bothOfTable_205 (v0 : Nat) (v1 : Int32) (v2 : Int32) (M : rg_M) : Option rg_U := rg_E rg_cod 106 (205, [some (.ref v0), some (.int v1), some (.int v2), none, none], [], M)
noncomputable def rM_bothOfTable_237 (v0 : Nat) (v2 : Int32) (M : rg_M) : Option rg_U := rg_E rg_cod 106 (237, [some (.ref v0), none, some (.int v2), none, none], [], M)
noncomputable def rM_bothOfTable_238 (v0 : Nat) (v2 : Int32) (s0 : Int32) (M : rg_M) : Option rg_U := rg_E rg_cod 106 (238, [some (.ref v0), none, some (.int v2), none, none], [.int s0], M)
noncomputable def rM_bothOfTable_245 (v1 : Int32) (M : rg_M) : Option rg_U := rg_E rg_cod 106 (245, [none, some (.int v1), none, none, none], [], M)
noncomputable def rM_sum0 (a0 : Nat) (a1 : Int32) (a2 : Int32) (M : rg_M) : Option (rg_M) := rg_vo rg_cod 107 [.ref a0, .int a1, .int a2] M
noncomputable def rM_sum0_b (a0 : Nat) (a1 : Int32) (a2 : Int32) (M : rg_M) : Option rg_U := rg_E rg_cod 107 (0, [some (.ref a0), some (.int a1), some (.int a2)], [], M)
theorem rM_sum0_u (a0 : Nat) (a1 : Int32) (a2 : Int32) (M : rg_M) : rM_sum0 a0 a1 a2 M = rg_uv (rM_sum0_b a0 a1 a2 M) := rfl
noncomputable def rM_beats (a0 : Int32) (a1 : Int32) (M : rg_M) : Option (Int32 × rg_M) := rg_io rg_cod 108 [.int a0, .int a1] M
noncomputable def rM_beats_b (a0 : Int32) (a1 : Int32) (M : rg_M) : Option rg_U := rg_E rg_cod 108 (0, [some (.int a0), some (.int a1)], [], M)
theorem rM_beats_u (a0 : Int32) (a1 : Int32) (M : rg_M) : rM_beats a0 a1 M = rg_ui (rM_beats_b a0 a1 M) := rfl
noncomputable def rM_beats_10 (s0 : Int32) (M : rg_M) : Option rg_U := rg_E rg_cod 108 (10, [none, none], [.int s0], M)
noncomputable def rM_behind (a0 : Int32) (M : rg_M) : Option (Int32 × rg_M) := rg_io rg_cod 109 [.int a0] M
noncomputable def rM_behind_b (a0 : Int32) (M : rg_M) : Option rg_U := rg_E rg_cod 109 (0, [some (.int a0)], [], M)
theorem rM_behind_u (a0 : Int32) (M : rg_M) : rM_behind a0 M = rg_ui (rM_behind_b a0 M) := rfl
noncomputable def rM_weight (a0 : Nat) (a1 : Int32) (a2 : Int32) (M : rg_M) : Option (Int32 × rg_M) := rg_io rg_cod 110 [.ref a0, .int a1, .int a2] M
noncomputable def rM_weight_b (a0 : Nat) (a1 : Int32) (a2 : Int32) (M : rg_M) : Option rg_U := rg_E rg_cod 110 (0, [some (.ref a0), some (.int a1), some (.int a2)], [], M)
theorem rM_weight_u (a0 : Nat) (a1 : Int32) (a2 : Int32) (M : rg_M) : rM_weight a0 a1 a2 M = rg_ui (rM_weight_b a0 a1 a2 M) := rfl
noncomputable def rM_sum (a0 : Nat) (a1 : Int32) (a2 : Int32) (M : rg_M) : Option (rg_M) := rg_vo rg_cod 111 [.ref a0, .int a1, .int a2] M
noncomputable def rM_sum_b (a0 : Nat) (a1 : Int32) (a2 : Int32) (M : rg_M) : Option rg_U := rg_E rg_cod 111 (0, [some (.ref a0), some (.int a1), some (.int a2)], [], M)
theorem rM_sum_u (a0 : Nat) (a1 : Int32) (a2 : Int32) (M : rg_M) : rM_sum a0 a1 a2 M = rg_uv (rM_sum_b a0 a1 a2 M) := rfl
noncomputable def rM_moreFirst (a0 : Nat) (a1 : Int32) (a2 : Int32) (a3 : Int32) (M : rg_M) : Option (rg_M) := rg_vo rg_cod 112 [.ref a0, .int a1, .int a2, .int a3] M
noncomputable def rM_moreFirst_b (a0 : Nat) (a1 : Int32) (a2 : Int32) (a3 : Int32) (M : rg_M) : Option rg_U := rg_E rg_cod 112 (0, [some (.ref a0), some (.int a1), some (.int a2), some (.int a3), none], [], M)
theorem rM_moreFirst_u (a0 : Nat) (a1 : Int32) (a2 : Int32) (a3 : Int32) (M : rg_M) : rM_moreFirst a0 a1 a2 a3 M = rg_uv (rM_moreFirst_b a0 a1 a2 a3 M) := rfl
noncomputable def rM_first (a0 : Int32) (M : rg_M) : Option (Int32 × rg_M) := rg_io rg_cod 113 [.int a0] M
noncomputable def rM_first_b (a0 : Int32) (M : rg_M) : Option rg_U := rg_E rg_cod 113 (0, [some (.int a0)], [], M)
theorem rM_first_u (a0 : Int32) (M : rg_M) : rM_first a0 M = rg_ui (rM_first_b a0 M) := rfl
noncomputable def rM_moreBehindPass (a0 : Nat) (a1 : Int32) (a2 : Int32) (M : rg_M) : Option (rg_M) := rg_vo rg_cod 114 [.ref a0, .int a1, .int a2] M
noncomputable def rM_moreBehindPass_b (a0 : Nat) (a1 : Int32) (a2 : Int32) (M : rg_M) : Option rg_U := rg_E rg_cod 114 (0, [some (.ref a0), some (.int a1), some (.int a2)], [], M)
theorem rM_moreBehindPass_u (a0 : Nat) (a1 : Int32) (a2 : Int32) (M : rg_M) : rM_moreBehindPass a0 a1 a2 M = rg_uv (rM_moreBehindPass_b a0 a1 a2 M) := rfl
noncomputable def rM_more (a0 : Nat) (a1 : Int32) (M : rg_M) : Option (rg_M) := rg_vo rg_cod 115 [.ref a0, .int a1] M
noncomputable def rM_more_b (a0 : Nat) (a1 : Int32) (M : rg_M) : Option rg_U := rg_E rg_cod 115 (0, [some (.ref a0), some (.int a1), none, none, none], [], M)
theorem rM_more_u (a0 : Nat) (a1 : Int32) (M : rg_M) : rM_more a0 a1 M = rg_uv (rM_more_b a0 a1 M) := rfl
noncomputable def rM_more_26 (v0 : Nat) (v1 : Int32) (v2 : Int32) (v3 : Int32) (M : rg_M) : Option rg_U := rg_E rg_cod 115 (26, [some (.ref v0), some (.int v1), some (.int v2), some (.int v3), none], [], M)
noncomputable def rM_more_113 (v0 : Nat) (v1 : Int32) (v2 : Int32) (v3 : Int32) (v4 : Int32) (s0 : Int32) (s1 : Nat) (M : rg_M) : Option rg_U := rg_E rg_cod 115 (113, [some (.ref v0), some (.int v1), some (.int v2), some (.int v3), some (.int v4)], [.int s0, .ref s1], M)
noncomputable def rM_more_156 (v0 : Nat) (v1 : Int32) (v2 : Int32) (v3 : Int32) (s0 : Int32) (s1 : Int32) (s2 : Nat) (M : rg_M) : Option rg_U := rg_E rg_cod 115 (156, [some (.ref v0), some (.int v1), some (.int v2), some (.int v3), none], [.int s0, .int s1, .ref s2], M)
noncomputable def rM_more_173 (v0 : Nat) (v1 : Int32) (v2 : Int32) (v3 : Int32) (M : rg_M) : Option rg_U := rg_E rg_cod 115 (173, [some (.ref v0), some (.int v1), some (.int v2), some (.int v3), none], [], M)
noncomputable def rM_more_260 (v0 : Nat) (M : rg_M) : Option rg_U := rg_E rg_cod 115 (260, [some (.ref v0), none, none, none, none], [], M)
noncomputable def rM_allOfCards (a0 : Nat) (M : rg_M) : Option (Int32 × rg_M) := rg_io rg_cod 116 [.ref a0] M
noncomputable def rM_allOfCards_b (a0 : Nat) (M : rg_M) : Option rg_U := rg_E rg_cod 116 (0, [some (.ref a0), none, none, none], [], M)
theorem rM_allOfCards_u (a0 : Nat) (M : rg_M) : rM_allOfCards a0 M = rg_ui (rM_allOfCards_b a0 M) := rfl
noncomputable def rM_allOfCards_2 (v0 : Nat) (v1 : Int32) (M : rg_M) : Option rg_U := rg_E rg_cod 116 (2, [some (.ref v0), some (.int v1), none, none], [], M)
noncomputable def rM_allOfCards_28 (v0 : Nat) (v1 : Int32) (v2 : Int32) (M : rg_M) : Option rg_U := rg_E rg_cod 116 (28, [some (.ref v0), some (.int v1), some (.int v2), none], [], M)
noncomputable def rM_allOfCards_49 (v0 : Nat) (v1 : Int32) (v2 : Int32) (v3 : Int32) (M : rg_M) : Option rg_U := rg_E rg_cod 116 (49, [some (.ref v0), some (.int v1), some (.int v2), some (.int v3)], [], M)
noncomputable def rM_allOfCards_98 (v0 : Nat) (v2 : Int32) (v3 : Int32) (M : rg_M) : Option rg_U := rg_E rg_cod 116 (98, [some (.ref v0), none, some (.int v2), some (.int v3)], [], M)
noncomputable def rM_allOfCards_130 (v0 : Nat) (v1 : Int32) (v2 : Int32) (M : rg_M) : Option rg_U := rg_E rg_cod 116 (130, [some (.ref v0), some (.int v1), some (.int v2), none], [], M)
noncomputable def rM_allOfCards_142 (v0 : Nat) (v1 : Int32) (v2 : Int32) (s0 : Int32) (M : rg_M) : Option rg_U := rg_E rg_cod 116 (142, [some (.ref v0), some (.int v1), some (.int v2), none], [.int s0], M)
noncomputable def rM_allOfCards_173 (v0 : Nat) (v1 : Int32) (v2 : Int32) (v3 : Int32) (M : rg_M) : Option rg_U := rg_E rg_cod 116 (173, [some (.ref v0), some (.int v1), some (.int v2), some (.int v3)], [], M)
noncomputable def rM_allOfCards_202 (v0 : Nat) (v1 : Int32) (v2 : Int32) (M : rg_M) : Option rg_U := rg_E rg_cod 116 (202, [some (.ref v0), some (.int v1), some (.int v2), none], [], M)
noncomputable def rM_allOfCards_218 (v0 : Nat) (v2 : Int32) (M : rg_M) : Option rg_U := rg_E rg_cod 116 (218, [some (.ref v0), none, some (.int v2), none], [], M)
noncomputable def rM_allOfCards_219 (v0 : Nat) (v2 : Int32) (s0 : Int32) (M : rg_M) : Option rg_U := rg_E rg_cod 116 (219, [some (.ref v0), none, some (.int v2), none], [.int s0], M)
noncomputable def rM_allOfCards_226 (v1 : Int32) (M : rg_M) : Option rg_U := rg_E rg_cod 116 (226, [none, some (.int v1), none, none], [], M)
noncomputable def rM_places (a0 : Nat) (M : rg_M) : Option (Int32 × rg_M) := rg_io rg_cod 117 [.ref a0] M
noncomputable def rM_places_b (a0 : Nat) (M : rg_M) : Option rg_U := rg_E rg_cod 117 (0, [some (.ref a0)], [], M)
theorem rM_places_u (a0 : Nat) (M : rg_M) : rM_places a0 M = rg_ui (rM_places_b a0 M) := rfl
noncomputable def rM_places_30 (s0 : Int32) (M : rg_M) : Option rg_U := rg_E rg_cod 117 (30, [none], [.int s0], M)
noncomputable def rM_round (a0 : Nat) (M : rg_M) : Option (Int32 × rg_M) := rg_io rg_cod 118 [.ref a0] M
noncomputable def rM_round_b (a0 : Nat) (M : rg_M) : Option rg_U := rg_E rg_cod 118 (0, [some (.ref a0), none], [], M)
theorem rM_round_u (a0 : Nat) (M : rg_M) : rM_round a0 M = rg_ui (rM_round_b a0 M) := rfl
noncomputable def rM_round_17  (M : rg_M) : Option rg_U := rg_E rg_cod 118 (17, [none, none], [], M)
noncomputable def rM_round_44 (v0 : Nat) (M : rg_M) : Option rg_U := rg_E rg_cod 118 (44, [some (.ref v0), none], [], M)
noncomputable def rM_round_54 (v0 : Nat) (M : rg_M) : Option rg_U := rg_E rg_cod 118 (54, [some (.ref v0), none], [], M)
noncomputable def rM_round_56 (v0 : Nat) (v1 : Int32) (M : rg_M) : Option rg_U := rg_E rg_cod 118 (56, [some (.ref v0), some (.int v1)], [], M)
noncomputable def rT_viewWay (a0 : Nat) (a1 : Int32) (a2 : Int32) (a3 : Int32) (M : rg_M) : Option (Int32 × rg_M) := rg_io rg_cod 119 [.ref a0, .int a1, .int a2, .int a3] M
noncomputable def rT_viewWay_b (a0 : Nat) (a1 : Int32) (a2 : Int32) (a3 : Int32) (M : rg_M) : Option rg_U := rg_E rg_cod 119 (0, [some (.ref a0), some (.int a1), some (.int a2), some (.int a3), none, none], [], M)
theorem rT_viewWay_u (a0 : Nat) (a1 : Int32) (a2 : Int32) (a3 : Int32) (M : rg_M) : rT_viewWay a0 a1 a2 a3 M = rg_ui (rT_viewWay_b a0 a1 a2 a3 M) := rfl
noncomputable def rT_viewWay_19  (M : rg_M) : Option rg_U := rg_E rg_cod 119 (19, [none, none, none, none, none, none], [], M)
noncomputable def rT_viewWay_41 (v0 : Nat) (v1 : Int32) (v2 : Int32) (v4 : Int32) (M : rg_M) : Option rg_U := rg_E rg_cod 119 (41, [some (.ref v0), some (.int v1), some (.int v2), none, some (.int v4), none], [], M)
noncomputable def rT_viewWay_58 (v0 : Nat) (v1 : Int32) (v2 : Int32) (v4 : Int32) (s0 : Nat) (M : rg_M) : Option rg_U := rg_E rg_cod 119 (58, [some (.ref v0), some (.int v1), some (.int v2), none, some (.int v4), none], [.ref s0], M)
noncomputable def rT_viewWay_107  (M : rg_M) : Option rg_U := rg_E rg_cod 119 (107, [none, none, none, none, none, none], [], M)
noncomputable def rK_keepGreater (a0 : Nat) (a1 : Nat) (a2 : Nat) (M : rg_M) : Option (rg_M) := rg_vo rg_cod 120 [.ref a0, .ref a1, .ref a2] M
noncomputable def rK_keepGreater_b (a0 : Nat) (a1 : Nat) (a2 : Nat) (M : rg_M) : Option rg_U := rg_E rg_cod 120 (0, [some (.ref a0), some (.ref a1), some (.ref a2)], [], M)
theorem rK_keepGreater_u (a0 : Nat) (a1 : Nat) (a2 : Nat) (M : rg_M) : rK_keepGreater a0 a1 a2 M = rg_uv (rK_keepGreater_b a0 a1 a2 M) := rfl
noncomputable def rK_keepGreater_49 (v0 : Nat) (v1 : Nat) (v2 : Nat) (s0 : Int32) (s1 : Nat) (M : rg_M) : Option rg_U := rg_E rg_cod 120 (49, [some (.ref v0), some (.ref v1), some (.ref v2)], [.int s0, .ref s1], M)
noncomputable def rK_keepGreater_78  (M : rg_M) : Option rg_U := rg_E rg_cod 120 (78, [none, none, none], [], M)
noncomputable def rC_findGreater (a0 : Nat) (a1 : Int32) (M : rg_M) : Option (rg_M) := rg_vo rg_cod 121 [.ref a0, .int a1] M
noncomputable def rC_findGreater_b (a0 : Nat) (a1 : Int32) (M : rg_M) : Option rg_U := rg_E rg_cod 121 (0, [some (.ref a0), some (.int a1)], [], M)
theorem rC_findGreater_u (a0 : Nat) (a1 : Int32) (M : rg_M) : rC_findGreater a0 a1 M = rg_uv (rC_findGreater_b a0 a1 M) := rfl
noncomputable def rC_addBestOfA (a0 : Nat) (a1 : Nat) (M : rg_M) : Option (rg_M) := rg_vo rg_cod 122 [.ref a0, .ref a1] M
noncomputable def rC_addBestOfA_b (a0 : Nat) (a1 : Nat) (M : rg_M) : Option rg_U := rg_E rg_cod 122 (0, [some (.ref a0), some (.ref a1), none, none], [], M)
theorem rC_addBestOfA_u (a0 : Nat) (a1 : Nat) (M : rg_M) : rC_addBestOfA a0 a1 M = rg_uv (rC_addBestOfA_b a0 a1 M) := rfl
noncomputable def rC_addBestOfA_2 (v0 : Nat) (v1 : Nat) (v2 : Int32) (M : rg_M) : Option rg_U := rg_E rg_cod 122 (2, [some (.ref v0), some (.ref v1), some (.int v2), none], [], M)
noncomputable def rC_addBestOfB (a0 : Nat) (a1 : Nat) (M : rg_M) : Option (rg_M) := rg_vo rg_cod 123 [.ref a0, .ref a1] M
noncomputable def rC_addBestOfB_b (a0 : Nat) (a1 : Nat) (M : rg_M) : Option rg_U := rg_E rg_cod 123 (0, [some (.ref a0), some (.ref a1), none, none], [], M)
theorem rC_addBestOfB_u (a0 : Nat) (a1 : Nat) (M : rg_M) : rC_addBestOfB a0 a1 M = rg_uv (rC_addBestOfB_b a0 a1 M) := rfl
noncomputable def rC_addBestOfB_2 (v0 : Nat) (v1 : Nat) (v2 : Int32) (M : rg_M) : Option rg_U := rg_E rg_cod 123 (2, [some (.ref v0), some (.ref v1), some (.int v2), none], [], M)
noncomputable def rC_findBest (a0 : Nat) (a1 : Nat) (a2 : Int32) (M : rg_M) : Option (rg_M) := rg_vo rg_cod 124 [.ref a0, .ref a1, .int a2] M
noncomputable def rC_findBest_b (a0 : Nat) (a1 : Nat) (a2 : Int32) (M : rg_M) : Option rg_U := rg_E rg_cod 124 (0, [some (.ref a0), some (.ref a1), some (.int a2)], [], M)
theorem rC_findBest_u (a0 : Nat) (a1 : Nat) (a2 : Int32) (M : rg_M) : rC_findBest a0 a1 a2 M = rg_uv (rC_findBest_b a0 a1 a2 M) := rfl
noncomputable def rC_findBest_45 (v0 : Nat) (v1 : Nat) (v2 : Int32) (M : rg_M) : Option rg_U := rg_E rg_cod 124 (45, [some (.ref v0), some (.ref v1), some (.int v2)], [], M)
noncomputable def rC_findBest_58 (v0 : Nat) (v1 : Nat) (M : rg_M) : Option rg_U := rg_E rg_cod 124 (58, [some (.ref v0), some (.ref v1), none], [], M)
noncomputable def rN_findBest (a0 : Nat) (a1 : Nat) (a2 : Int32) (M : rg_M) : Option (rg_M) := rg_vo rg_cod 125 [.ref a0, .ref a1, .int a2] M
noncomputable def rN_findBest_b (a0 : Nat) (a1 : Nat) (a2 : Int32) (M : rg_M) : Option rg_U := rg_E rg_cod 125 (0, [some (.ref a0), some (.ref a1), some (.int a2), none, none], [], M)
theorem rN_findBest_u (a0 : Nat) (a1 : Nat) (a2 : Int32) (M : rg_M) : rN_findBest a0 a1 a2 M = rg_uv (rN_findBest_b a0 a1 a2 M) := rfl
noncomputable def rN_findBest_22 (v0 : Nat) (v1 : Nat) (v2 : Int32) (v3 : Int32) (M : rg_M) : Option rg_U := rg_E rg_cod 125 (22, [some (.ref v0), some (.ref v1), some (.int v2), some (.int v3), none], [], M)
noncomputable def rN_findBest_37 (v0 : Nat) (v1 : Nat) (v2 : Int32) (v3 : Int32) (M : rg_M) : Option rg_U := rg_E rg_cod 125 (37, [some (.ref v0), some (.ref v1), some (.int v2), some (.int v3), none], [], M)
noncomputable def rN_findBest_69 (v0 : Nat) (v1 : Nat) (v2 : Int32) (v3 : Int32) (v4 : Int32) (M : rg_M) : Option rg_U := rg_E rg_cod 125 (69, [some (.ref v0), some (.ref v1), some (.int v2), some (.int v3), some (.int v4)], [], M)
noncomputable def rN_findBest_130 (v0 : Nat) (v1 : Nat) (v2 : Int32) (v3 : Int32) (M : rg_M) : Option rg_U := rg_E rg_cod 125 (130, [some (.ref v0), some (.ref v1), some (.int v2), some (.int v3), none], [], M)
noncomputable def rT_view (a0 : Nat) (a1 : Int32) (a2 : Int32) (a3 : Int32) (M : rg_M) : Option (Int32 × rg_M) := rg_io rg_cod 126 [.ref a0, .int a1, .int a2, .int a3] M
noncomputable def rT_view_b (a0 : Nat) (a1 : Int32) (a2 : Int32) (a3 : Int32) (M : rg_M) : Option rg_U := rg_E rg_cod 126 (0, [some (.ref a0), some (.int a1), some (.int a2), some (.int a3), none, none, none], [], M)
theorem rT_view_u (a0 : Nat) (a1 : Int32) (a2 : Int32) (a3 : Int32) (M : rg_M) : rT_view a0 a1 a2 a3 M = rg_ui (rT_view_b a0 a1 a2 a3 M) := rfl
noncomputable def rT_view_35 (v0 : Nat) (v1 : Int32) (v2 : Int32) (v3 : Int32) (M : rg_M) : Option rg_U := rg_E rg_cod 126 (35, [some (.ref v0), some (.int v1), some (.int v2), some (.int v3), none, none, none], [], M)
noncomputable def rT_view_36 (v0 : Nat) (v1 : Int32) (v2 : Int32) (v3 : Int32) (s0 : Int32) (M : rg_M) : Option rg_U := rg_E rg_cod 126 (36, [some (.ref v0), some (.int v1), some (.int v2), some (.int v3), none, none, none], [.int s0], M)
noncomputable def rT_view_51 (v0 : Nat) (v2 : Int32) (v3 : Int32) (v4 : Int32) (M : rg_M) : Option rg_U := rg_E rg_cod 126 (51, [some (.ref v0), none, some (.int v2), some (.int v3), some (.int v4), none, none], [], M)
noncomputable def rT_view_52 (v0 : Nat) (v2 : Int32) (v3 : Int32) (v4 : Int32) (s0 : Int32) (M : rg_M) : Option rg_U := rg_E rg_cod 126 (52, [some (.ref v0), none, some (.int v2), some (.int v3), some (.int v4), none, none], [.int s0], M)
noncomputable def rT_view_75  (M : rg_M) : Option rg_U := rg_E rg_cod 126 (75, [none, none, none, none, none, none, none], [], M)
noncomputable def rT_view_77 (v0 : Nat) (v2 : Int32) (v5 : Int32) (M : rg_M) : Option rg_U := rg_E rg_cod 126 (77, [some (.ref v0), none, some (.int v2), none, none, some (.int v5), none], [], M)
noncomputable def rT_view_87 (v0 : Nat) (s0 : Int32) (M : rg_M) : Option rg_U := rg_E rg_cod 126 (87, [some (.ref v0), none, none, none, none, none, none], [.int s0], M)
noncomputable def rT_view_126  (M : rg_M) : Option rg_U := rg_E rg_cod 126 (126, [none, none, none, none, none, none, none], [], M)
noncomputable def rM_isMore (a0 : Nat) (a1 : Int32) (a2 : Int32) (a3 : Int32) (a4 : Int32) (M : rg_M) : Option (Int32 × rg_M) := rg_io rg_cod 127 [.ref a0, .int a1, .int a2, .int a3, .int a4] M
noncomputable def rM_isMore_b (a0 : Nat) (a1 : Int32) (a2 : Int32) (a3 : Int32) (a4 : Int32) (M : rg_M) : Option rg_U := rg_E rg_cod 127 (0, [some (.ref a0), some (.int a1), some (.int a2), some (.int a3), some (.int a4)], [], M)
theorem rM_isMore_u (a0 : Nat) (a1 : Int32) (a2 : Int32) (a3 : Int32) (a4 : Int32) (M : rg_M) : rM_isMore a0 a1 a2 a3 a4 M = rg_ui (rM_isMore_b a0 a1 a2 a3 a4 M) := rfl
noncomputable def rM_isMore_48 (s0 : Int32) (M : rg_M) : Option rg_U := rg_E rg_cod 127 (48, [none, none, none, none, none], [.int s0], M)
noncomputable def rM_bestBehind (a0 : Nat) (a1 : Int32) (a2 : Int32) (M : rg_M) : Option (rg_M) := rg_vo rg_cod 128 [.ref a0, .int a1, .int a2] M
noncomputable def rM_bestBehind_b (a0 : Nat) (a1 : Int32) (a2 : Int32) (M : rg_M) : Option rg_U := rg_E rg_cod 128 (0, [some (.ref a0), some (.int a1), some (.int a2), none, none], [], M)
theorem rM_bestBehind_u (a0 : Nat) (a1 : Int32) (a2 : Int32) (M : rg_M) : rM_bestBehind a0 a1 a2 M = rg_uv (rM_bestBehind_b a0 a1 a2 M) := rfl
noncomputable def rM_bestBehind_22 (v0 : Nat) (v1 : Int32) (v2 : Int32) (v3 : Int32) (M : rg_M) : Option rg_U := rg_E rg_cod 128 (22, [some (.ref v0), some (.int v1), some (.int v2), some (.int v3), none], [], M)
noncomputable def rM_bestBehind_54 (v0 : Nat) (v1 : Int32) (v2 : Int32) (v3 : Int32) (s0 : Int32) (M : rg_M) : Option rg_U := rg_E rg_cod 128 (54, [some (.ref v0), some (.int v1), some (.int v2), some (.int v3), none], [.int s0], M)
noncomputable def rM_bestBehind_149 (v0 : Nat) (v1 : Int32) (v2 : Int32) (v3 : Int32) (M : rg_M) : Option rg_U := rg_E rg_cod 128 (149, [some (.ref v0), some (.int v1), some (.int v2), some (.int v3), none], [], M)
noncomputable def rM_into (a0 : Nat) (M : rg_M) : Option (rg_M) := rg_vo rg_cod 129 [.ref a0] M
noncomputable def rM_into_b (a0 : Nat) (M : rg_M) : Option rg_U := rg_E rg_cod 129 (0, [some (.ref a0)], [], M)
theorem rM_into_u (a0 : Nat) (M : rg_M) : rM_into a0 M = rg_uv (rM_into_b a0 M) := rfl
noncomputable def rM_bestOfA (a0 : Nat) (a1 : Int32) (M : rg_M) : Option (rg_M) := rg_vo rg_cod 130 [.ref a0, .int a1] M
noncomputable def rM_bestOfA_b (a0 : Nat) (a1 : Int32) (M : rg_M) : Option rg_U := rg_E rg_cod 130 (0, [some (.ref a0), some (.int a1), none, none], [], M)
theorem rM_bestOfA_u (a0 : Nat) (a1 : Int32) (M : rg_M) : rM_bestOfA a0 a1 M = rg_uv (rM_bestOfA_b a0 a1 M) := rfl
noncomputable def rM_bestOfA_38 (v0 : Nat) (v1 : Int32) (v2 : Int32) (M : rg_M) : Option rg_U := rg_E rg_cod 130 (38, [some (.ref v0), some (.int v1), some (.int v2), none], [], M)
noncomputable def rM_bestOfA_186 (v0 : Nat) (v1 : Int32) (v2 : Int32) (M : rg_M) : Option rg_U := rg_E rg_cod 130 (186, [some (.ref v0), some (.int v1), some (.int v2), none], [], M)
noncomputable def rM_bestOfA_261 (v0 : Nat) (M : rg_M) : Option rg_U := rg_E rg_cod 130 (261, [some (.ref v0), none, none, none], [], M)
noncomputable def rM_bestOfB (a0 : Nat) (a1 : Int32) (M : rg_M) : Option (rg_M) := rg_vo rg_cod 131 [.ref a0, .int a1] M
noncomputable def rM_bestOfB_b (a0 : Nat) (a1 : Int32) (M : rg_M) : Option rg_U := rg_E rg_cod 131 (0, [some (.ref a0), some (.int a1), none, none], [], M)
theorem rM_bestOfB_u (a0 : Nat) (a1 : Int32) (M : rg_M) : rM_bestOfB a0 a1 M = rg_uv (rM_bestOfB_b a0 a1 M) := rfl
noncomputable def rM_bestOfB_52 (v0 : Nat) (v1 : Int32) (v2 : Int32) (M : rg_M) : Option rg_U := rg_E rg_cod 131 (52, [some (.ref v0), some (.int v1), some (.int v2), none], [], M)
noncomputable def rM_bestOfB_222 (v0 : Nat) (v1 : Int32) (v2 : Int32) (M : rg_M) : Option rg_U := rg_E rg_cod 131 (222, [some (.ref v0), some (.int v1), some (.int v2), none], [], M)
noncomputable def rM_bestOfB_267 (v0 : Nat) (M : rg_M) : Option rg_U := rg_E rg_cod 131 (267, [some (.ref v0), none, none, none], [], M)
noncomputable def rM_best (a0 : Nat) (a1 : Int32) (M : rg_M) : Option (rg_M) := rg_vo rg_cod 132 [.ref a0, .int a1] M
noncomputable def rM_best_b (a0 : Nat) (a1 : Int32) (M : rg_M) : Option rg_U := rg_E rg_cod 132 (0, [some (.ref a0), some (.int a1), none], [], M)
theorem rM_best_u (a0 : Nat) (a1 : Int32) (M : rg_M) : rM_best a0 a1 M = rg_uv (rM_best_b a0 a1 M) := rfl
noncomputable def rM_best_10 (v0 : Nat) (v1 : Int32) (v2 : Int32) (M : rg_M) : Option rg_U := rg_E rg_cod 132 (10, [some (.ref v0), some (.int v1), some (.int v2)], [], M)
noncomputable def rM_best_45 (v0 : Nat) (v1 : Int32) (v2 : Int32) (M : rg_M) : Option rg_U := rg_E rg_cod 132 (45, [some (.ref v0), some (.int v1), some (.int v2)], [], M)
noncomputable def rM_best_70 (v0 : Nat) (v1 : Int32) (v2 : Int32) (M : rg_M) : Option rg_U := rg_E rg_cod 132 (70, [some (.ref v0), some (.int v1), some (.int v2)], [], M)
noncomputable def rM_best_141 (v0 : Nat) (v1 : Int32) (v2 : Int32) (M : rg_M) : Option rg_U := rg_E rg_cod 132 (141, [some (.ref v0), some (.int v1), some (.int v2)], [], M)
noncomputable def rM_best_183 (v0 : Nat) (v1 : Int32) (v2 : Int32) (M : rg_M) : Option rg_U := rg_E rg_cod 132 (183, [some (.ref v0), some (.int v1), some (.int v2)], [], M)
noncomputable def rM_gap (a0 : Nat) (M : rg_M) : Option (rg_M) := rg_vo rg_cod 133 [.ref a0] M
noncomputable def rM_gap_b (a0 : Nat) (M : rg_M) : Option rg_U := rg_E rg_cod 133 (0, [some (.ref a0)], [], M)
theorem rM_gap_u (a0 : Nat) (M : rg_M) : rM_gap a0 M = rg_uv (rM_gap_b a0 M) := rfl
noncomputable def rM_view (a0 : Nat) (a1 : Int32) (a2 : Int32) (a3 : Int32) (M : rg_M) : Option (Int32 × rg_M) := rg_io rg_cod 134 [.ref a0, .int a1, .int a2, .int a3] M
noncomputable def rM_view_b (a0 : Nat) (a1 : Int32) (a2 : Int32) (a3 : Int32) (M : rg_M) : Option rg_U := rg_E rg_cod 134 (0, [some (.ref a0), some (.int a1), some (.int a2), some (.int a3), none, none], [], M)
theorem rM_view_u (a0 : Nat) (a1 : Int32) (a2 : Int32) (a3 : Int32) (M : rg_M) : rM_view a0 a1 a2 a3 M = rg_ui (rM_view_b a0 a1 a2 a3 M) := rfl
noncomputable def rM_view_20  (M : rg_M) : Option rg_U := rg_E rg_cod 134 (20, [none, none, none, none, none, none], [], M)
noncomputable def rM_view_52 (v0 : Nat) (v1 : Int32) (v2 : Int32) (v3 : Int32) (M : rg_M) : Option rg_U := rg_E rg_cod 134 (52, [some (.ref v0), some (.int v1), some (.int v2), some (.int v3), none, none], [], M)
noncomputable def rM_view_74 (v0 : Nat) (v1 : Int32) (v2 : Int32) (v3 : Int32) (M : rg_M) : Option rg_U := rg_E rg_cod 134 (74, [some (.ref v0), some (.int v1), some (.int v2), some (.int v3), none, none], [], M)
noncomputable def rM_view_78 (v0 : Nat) (v1 : Int32) (v2 : Int32) (v3 : Int32) (M : rg_M) : Option rg_U := rg_E rg_cod 134 (78, [some (.ref v0), some (.int v1), some (.int v2), some (.int v3), none, none], [], M)
noncomputable def rM_view_79 (v0 : Nat) (v1 : Int32) (v2 : Int32) (v3 : Int32) (s0 : Int32) (M : rg_M) : Option rg_U := rg_E rg_cod 134 (79, [some (.ref v0), some (.int v1), some (.int v2), some (.int v3), none, none], [.int s0], M)
noncomputable def rM_view_103 (v0 : Nat) (v2 : Int32) (v3 : Int32) (s0 : Int32) (M : rg_M) : Option rg_U := rg_E rg_cod 134 (103, [some (.ref v0), none, some (.int v2), some (.int v3), none, none], [.int s0], M)
noncomputable def rM_view_153 (v0 : Nat) (v2 : Int32) (v3 : Int32) (s0 : Int32) (s1 : Int32) (s2 : Nat) (M : rg_M) : Option rg_U := rg_E rg_cod 134 (153, [some (.ref v0), none, some (.int v2), some (.int v3), none, none], [.int s0, .int s1, .ref s2], M)
noncomputable def rM_view_214 (v0 : Nat) (M : rg_M) : Option rg_U := rg_E rg_cod 134 (214, [some (.ref v0), none, none, none, none, none], [], M)
noncomputable def rT_size (a0 : Nat) (a1 : Int32) (M : rg_M) : Option (Int32 × rg_M) := rg_io rg_cod 135 [.ref a0, .int a1] M
noncomputable def rT_size_b (a0 : Nat) (a1 : Int32) (M : rg_M) : Option rg_U := rg_E rg_cod 135 (0, [some (.ref a0), some (.int a1)], [], M)
theorem rT_size_u (a0 : Nat) (a1 : Int32) (M : rg_M) : rT_size a0 a1 M = rg_ui (rT_size_b a0 a1 M) := rfl
noncomputable def rM_size (a0 : Nat) (a1 : Int32) (M : rg_M) : Option (Int32 × rg_M) := rg_io rg_cod 136 [.ref a0, .int a1] M
noncomputable def rM_size_b (a0 : Nat) (a1 : Int32) (M : rg_M) : Option rg_U := rg_E rg_cod 136 (0, [some (.ref a0), some (.int a1)], [], M)
theorem rM_size_u (a0 : Nat) (a1 : Int32) (M : rg_M) : rM_size a0 a1 M = rg_ui (rM_size_b a0 a1 M) := rfl
noncomputable def rM_size_47 (s0 : Int32) (M : rg_M) : Option rg_U := rg_E rg_cod 136 (47, [none, none], [.int s0], M)
noncomputable def rW_bitsAt (a0 : Nat) (a1 : Int32) (M : rg_M) : Option (Int32 × rg_M) := rg_io rg_cod 137 [.ref a0, .int a1] M
noncomputable def rW_bitsAt_b (a0 : Nat) (a1 : Int32) (M : rg_M) : Option rg_U := rg_E rg_cod 137 (0, [some (.ref a0), some (.int a1), none, none, none, none, none, none], [], M)
theorem rW_bitsAt_u (a0 : Nat) (a1 : Int32) (M : rg_M) : rW_bitsAt a0 a1 M = rg_ui (rW_bitsAt_b a0 a1 M) := rfl
noncomputable def rW_bitsAt_25  (M : rg_M) : Option rg_U := rg_E rg_cod 137 (25, [none, none, none, none, none, none, none, none], [], M)
noncomputable def rW_bitsAt_68 (v0 : Nat) (v4 : Int32) (v5 : Int32) (s0 : Int64) (M : rg_M) : Option rg_U := rg_E rg_cod 137 (68, [some (.ref v0), none, none, none, some (.int v4), some (.int v5), none, none], [.long s0], M)
noncomputable def rT_bits (a0 : Nat) (a1 : Int32) (a2 : Int32) (M : rg_M) : Option (Int32 × rg_M) := rg_io rg_cod 138 [.ref a0, .int a1, .int a2] M
noncomputable def rT_bits_b (a0 : Nat) (a1 : Int32) (a2 : Int32) (M : rg_M) : Option rg_U := rg_E rg_cod 138 (0, [some (.ref a0), some (.int a1), some (.int a2)], [], M)
theorem rT_bits_u (a0 : Nat) (a1 : Int32) (a2 : Int32) (M : rg_M) : rT_bits a0 a1 a2 M = rg_ui (rT_bits_b a0 a1 a2 M) := rfl
noncomputable def rT_bits_36 (s0 : Int32) (M : rg_M) : Option rg_U := rg_E rg_cod 138 (36, [none, none, none], [.int s0], M)
noncomputable def rM_bits (a0 : Nat) (a1 : Int32) (a2 : Int32) (M : rg_M) : Option (Int32 × rg_M) := rg_io rg_cod 139 [.ref a0, .int a1, .int a2] M
noncomputable def rM_bits_b (a0 : Nat) (a1 : Int32) (a2 : Int32) (M : rg_M) : Option rg_U := rg_E rg_cod 139 (0, [some (.ref a0), some (.int a1), some (.int a2)], [], M)
theorem rM_bits_u (a0 : Nat) (a1 : Int32) (a2 : Int32) (M : rg_M) : rM_bits a0 a1 a2 M = rg_ui (rM_bits_b a0 a1 a2 M) := rfl
noncomputable def rM_bits_20  (M : rg_M) : Option rg_U := rg_E rg_cod 139 (20, [none, none, none], [], M)
noncomputable def rM_bits_38 (v2 : Int32) (s0 : Int32) (s1 : Nat) (M : rg_M) : Option rg_U := rg_E rg_cod 139 (38, [none, none, some (.int v2)], [.int s0, .ref s1], M)
noncomputable def rM_bits_43 (s0 : Int32) (M : rg_M) : Option rg_U := rg_E rg_cod 139 (43, [none, none, none], [.int s0], M)
noncomputable def rK_cutTimes (a0 : Nat) (a1 : Nat) (a2 : Int32) (M : rg_M) : Option (Int64 × rg_M) := rg_lg rg_cod 140 [.ref a0, .ref a1, .int a2] M
noncomputable def rK_cutTimes_b (a0 : Nat) (a1 : Nat) (a2 : Int32) (M : rg_M) : Option rg_U := rg_E rg_cod 140 (0, [some (.ref a0), some (.ref a1), some (.int a2), none, none, none, none], [], M)
theorem rK_cutTimes_u (a0 : Nat) (a1 : Nat) (a2 : Int32) (M : rg_M) : rK_cutTimes a0 a1 a2 M = rg_ul (rK_cutTimes_b a0 a1 a2 M) := rfl
noncomputable def rK_cutTimes_77 (v0 : Nat) (v1 : Nat) (s0 : Int64) (M : rg_M) : Option rg_U := rg_E rg_cod 140 (77, [some (.ref v0), some (.ref v1), none, none, none, none, none], [.long s0], M)
noncomputable def rK_cutTimes_110 (s0 : Int64) (M : rg_M) : Option rg_U := rg_E rg_cod 140 (110, [none, none, none, none, none, none, none], [.long s0], M)
noncomputable def rT_times (a0 : Nat) (a1 : Int32) (M : rg_M) : Option (Int64 × rg_M) := rg_lg rg_cod 141 [.ref a0, .int a1] M
noncomputable def rT_times_b (a0 : Nat) (a1 : Int32) (M : rg_M) : Option rg_U := rg_E rg_cod 141 (0, [some (.ref a0), some (.int a1)], [], M)
theorem rT_times_u (a0 : Nat) (a1 : Int32) (M : rg_M) : rT_times a0 a1 M = rg_ul (rT_times_b a0 a1 M) := rfl
noncomputable def rT_times_28 (s0 : Int64) (M : rg_M) : Option rg_U := rg_E rg_cod 141 (28, [none, none], [.long s0], M)
noncomputable def rM_times (a0 : Nat) (a1 : Int32) (M : rg_M) : Option (Int64 × rg_M) := rg_lg rg_cod 142 [.ref a0, .int a1] M
noncomputable def rM_times_b (a0 : Nat) (a1 : Int32) (M : rg_M) : Option rg_U := rg_E rg_cod 142 (0, [some (.ref a0), some (.int a1), none, none, none, none], [], M)
theorem rM_times_u (a0 : Nat) (a1 : Int32) (M : rg_M) : rM_times a0 a1 M = rg_ul (rM_times_b a0 a1 M) := rfl
noncomputable def rM_times_11  (M : rg_M) : Option rg_U := rg_E rg_cod 142 (11, [none, none, none, none, none, none], [], M)
noncomputable def rM_times_117 (v0 : Nat) (v2 : Int32) (v3 : Int64) (v5 : Int32) (M : rg_M) : Option rg_U := rg_E rg_cod 142 (117, [some (.ref v0), none, some (.int v2), some (.long v3), none, some (.int v5)], [], M)
noncomputable def rM_times_168 (v0 : Nat) (v2 : Int32) (v3 : Int64) (v5 : Int32) (M : rg_M) : Option rg_U := rg_E rg_cod 142 (168, [some (.ref v0), none, some (.int v2), some (.long v3), none, some (.int v5)], [], M)
noncomputable def rM_times_184 (s0 : Int64) (M : rg_M) : Option rg_U := rg_E rg_cod 142 (184, [none, none, none, none, none, none], [.long s0], M)
noncomputable def rJ_min (a0 : Int32) (a1 : Int32) (M : rg_M) : Option (Int32 × rg_M) := rg_io rg_cod 143 [.int a0, .int a1] M
noncomputable def rJ_min_b (a0 : Int32) (a1 : Int32) (M : rg_M) : Option rg_U := rg_E rg_cod 143 (0, [some (.int a0), some (.int a1)], [], M)
theorem rJ_min_u (a0 : Int32) (a1 : Int32) (M : rg_M) : rJ_min a0 a1 M = rg_ui (rJ_min_b a0 a1 M) := rfl
noncomputable def rJ_min_10 (s0 : Int32) (M : rg_M) : Option rg_U := rg_E rg_cod 143 (10, [none, none], [.int s0], M)
noncomputable def rN_span (a0 : Nat) (M : rg_M) : Option (Int32 × rg_M) := rg_io rg_cod 144 [.ref a0] M
noncomputable def rN_span_b (a0 : Nat) (M : rg_M) : Option rg_U := rg_E rg_cod 144 (0, [some (.ref a0), none, none, none, none, none], [], M)
theorem rN_span_u (a0 : Nat) (M : rg_M) : rN_span a0 M = rg_ui (rN_span_b a0 M) := rfl
noncomputable def rN_span_10 (v0 : Nat) (v1 : Int32) (v2 : Int32) (v3 : Int32) (M : rg_M) : Option rg_U := rg_E rg_cod 144 (10, [some (.ref v0), some (.int v1), some (.int v2), some (.int v3), none, none], [], M)
noncomputable def rN_span_25 (v0 : Nat) (v1 : Int32) (v2 : Int32) (v3 : Int32) (v4 : Int32) (M : rg_M) : Option rg_U := rg_E rg_cod 144 (25, [some (.ref v0), some (.int v1), some (.int v2), some (.int v3), some (.int v4), none], [], M)
noncomputable def rL_greatestRegret (a0 : Nat) (a1 : Int32) (M : rg_M) : Option (Nat × rg_M) := rg_rf rg_cod 145 [.ref a0, .int a1] M
noncomputable def rL_greatestRegret_b (a0 : Nat) (a1 : Int32) (M : rg_M) : Option rg_U := rg_E rg_cod 145 (0, [some (.ref a0), some (.int a1), none], [], M)
theorem rL_greatestRegret_u (a0 : Nat) (a1 : Int32) (M : rg_M) : rL_greatestRegret a0 a1 M = rg_ur (rL_greatestRegret_b a0 a1 M) := rfl
noncomputable def rL_greatestRegret_20 (v0 : Nat) (v1 : Int32) (v2 : Int32) (M : rg_M) : Option rg_U := rg_E rg_cod 145 (20, [some (.ref v0), some (.int v1), some (.int v2)], [], M)
noncomputable def rK_isSquareWithin (a0 : Nat) (a1 : Nat) (a2 : Int64) (a3 : Int64) (M : rg_M) : Option (Int32 × rg_M) := rg_io rg_cod 146 [.ref a0, .ref a1, .long a2, .long a3] M
noncomputable def rK_isSquareWithin_b (a0 : Nat) (a1 : Nat) (a2 : Int64) (a3 : Int64) (M : rg_M) : Option rg_U := rg_E rg_cod 146 (0, [some (.ref a0), some (.ref a1), some (.long a2), none, some (.long a3), none], [], M)
theorem rK_isSquareWithin_u (a0 : Nat) (a1 : Nat) (a2 : Int64) (a3 : Int64) (M : rg_M) : rK_isSquareWithin a0 a1 a2 a3 M = rg_ui (rK_isSquareWithin_b a0 a1 a2 a3 M) := rfl
noncomputable def rK_isSquareWithin_96 (s0 : Int32) (M : rg_M) : Option rg_U := rg_E rg_cod 146 (96, [none, none, none, none, none, none], [.int s0], M)
noncomputable def rT_boundOfRegret (a0 : Nat) (a1 : Int32) (a2 : Int32) (M : rg_M) : Option (Int32 × rg_M) := rg_io rg_cod 147 [.ref a0, .int a1, .int a2] M
noncomputable def rT_boundOfRegret_b (a0 : Nat) (a1 : Int32) (a2 : Int32) (M : rg_M) : Option rg_U := rg_E rg_cod 147 (0, [some (.ref a0), some (.int a1), some (.int a2), none, none, none, none, none], [], M)
theorem rT_boundOfRegret_u (a0 : Nat) (a1 : Int32) (a2 : Int32) (M : rg_M) : rT_boundOfRegret a0 a1 a2 M = rg_ui (rT_boundOfRegret_b a0 a1 a2 M) := rfl
noncomputable def rT_boundOfRegret_16  (M : rg_M) : Option rg_U := rg_E rg_cod 147 (16, [none, none, none, none, none, none, none, none], [], M)
noncomputable def rT_boundOfRegret_84  (M : rg_M) : Option rg_U := rg_E rg_cod 147 (84, [none, none, none, none, none, none, none, none], [], M)
noncomputable def rT_boundOfRegret_89 (s0 : Int32) (M : rg_M) : Option rg_U := rg_E rg_cod 147 (89, [none, none, none, none, none, none, none, none], [.int s0], M)
noncomputable def rT_bound (a0 : Nat) (a1 : Int32) (M : rg_M) : Option (Int32 × rg_M) := rg_io rg_cod 148 [.ref a0, .int a1] M
noncomputable def rT_bound_b (a0 : Nat) (a1 : Int32) (M : rg_M) : Option rg_U := rg_E rg_cod 148 (0, [some (.ref a0), some (.int a1)], [], M)
theorem rT_bound_u (a0 : Nat) (a1 : Int32) (M : rg_M) : rT_bound a0 a1 M = rg_ui (rT_bound_b a0 a1 M) := rfl
noncomputable def rT_bound_67  (M : rg_M) : Option rg_U := rg_E rg_cod 148 (67, [none, none], [], M)
noncomputable def rT_bound_108 (s0 : Int32) (M : rg_M) : Option rg_U := rg_E rg_cod 148 (108, [none, none], [.int s0], M)
noncomputable def rM_span (a0 : Nat) (M : rg_M) : Option (Int32 × rg_M) := rg_io rg_cod 149 [.ref a0] M
noncomputable def rM_span_b (a0 : Nat) (M : rg_M) : Option rg_U := rg_E rg_cod 149 (0, [some (.ref a0), none, none, none, none, none], [], M)
theorem rM_span_u (a0 : Nat) (M : rg_M) : rM_span a0 M = rg_ui (rM_span_b a0 M) := rfl
noncomputable def rM_span_20 (v0 : Nat) (v1 : Int32) (v2 : Int32) (v3 : Int32) (M : rg_M) : Option rg_U := rg_E rg_cod 149 (20, [some (.ref v0), some (.int v1), some (.int v2), some (.int v3), none, none], [], M)
noncomputable def rM_span_31 (v0 : Nat) (v1 : Int32) (v2 : Int32) (v3 : Int32) (v4 : Int32) (M : rg_M) : Option rg_U := rg_E rg_cod 149 (31, [some (.ref v0), some (.int v1), some (.int v2), some (.int v3), some (.int v4), none], [], M)
noncomputable def rM_span_65 (v0 : Nat) (v2 : Int32) (v3 : Int32) (v4 : Int32) (v5 : Int32) (s0 : Int32) (M : rg_M) : Option rg_U := rg_E rg_cod 149 (65, [some (.ref v0), none, some (.int v2), some (.int v3), some (.int v4), some (.int v5)], [.int s0], M)
noncomputable def rM_span_78 (v0 : Nat) (v1 : Int32) (v3 : Int32) (v4 : Int32) (s0 : Int32) (M : rg_M) : Option rg_U := rg_E rg_cod 149 (78, [some (.ref v0), some (.int v1), none, some (.int v3), some (.int v4), none], [.int s0], M)
noncomputable def rM_isSquareWithin (a0 : Nat) (a1 : Int32) (a2 : Int32) (a3 : Int64) (M : rg_M) : Option (Int32 × rg_M) := rg_io rg_cod 150 [.ref a0, .int a1, .int a2, .long a3] M
noncomputable def rM_isSquareWithin_b (a0 : Nat) (a1 : Int32) (a2 : Int32) (a3 : Int64) (M : rg_M) : Option rg_U := rg_E rg_cod 150 (0, [some (.ref a0), some (.int a1), some (.int a2), some (.long a3), none], [], M)
theorem rM_isSquareWithin_u (a0 : Nat) (a1 : Int32) (a2 : Int32) (a3 : Int64) (M : rg_M) : rM_isSquareWithin a0 a1 a2 a3 M = rg_ui (rM_isSquareWithin_b a0 a1 a2 a3 M) := rfl
noncomputable def rM_isSquareWithin_55 (s0 : Int32) (M : rg_M) : Option rg_U := rg_E rg_cod 150 (55, [none, none, none, none, none], [.int s0], M)
noncomputable def rM_bound (a0 : Nat) (a1 : Int32) (M : rg_M) : Option (Int32 × rg_M) := rg_io rg_cod 151 [.ref a0, .int a1] M
noncomputable def rM_bound_b (a0 : Nat) (a1 : Int32) (M : rg_M) : Option rg_U := rg_E rg_cod 151 (0, [some (.ref a0), some (.int a1), none, none, none], [], M)
theorem rM_bound_u (a0 : Nat) (a1 : Int32) (M : rg_M) : rM_bound a0 a1 M = rg_ui (rM_bound_b a0 a1 M) := rfl
noncomputable def rM_bound_21  (M : rg_M) : Option rg_U := rg_E rg_cod 151 (21, [none, none, none, none, none], [], M)
noncomputable def rM_bound_108  (M : rg_M) : Option rg_U := rg_E rg_cod 151 (108, [none, none, none, none, none], [], M)
noncomputable def rM_bound_113 (s0 : Int32) (M : rg_M) : Option rg_U := rg_E rg_cod 151 (113, [none, none, none, none, none], [.int s0], M)
noncomputable def rM_bound_123 (v0 : Nat) (v1 : Int32) (M : rg_M) : Option rg_U := rg_E rg_cod 151 (123, [some (.ref v0), some (.int v1), none, none, none], [], M)
noncomputable def rM_bound_146 (v0 : Nat) (v1 : Int32) (s0 : Int32) (M : rg_M) : Option rg_U := rg_E rg_cod 151 (146, [some (.ref v0), some (.int v1), none, none, none], [.int s0], M)
noncomputable def rM_bound_153  (M : rg_M) : Option rg_U := rg_E rg_cod 151 (153, [none, none, none, none, none], [], M)
noncomputable def rM_bound_183 (v0 : Nat) (v1 : Int32) (v2 : Int64) (v4 : Int32) (M : rg_M) : Option rg_U := rg_E rg_cod 151 (183, [some (.ref v0), some (.int v1), some (.long v2), none, some (.int v4)], [], M)
noncomputable def rL_longest (a0 : Nat) (M : rg_M) : Option (Int32 × rg_M) := rg_io rg_cod 152 [.ref a0] M
noncomputable def rL_longest_b (a0 : Nat) (M : rg_M) : Option rg_U := rg_E rg_cod 152 (0, [some (.ref a0), none, none, none, none], [], M)
theorem rL_longest_u (a0 : Nat) (M : rg_M) : rL_longest a0 M = rg_ui (rL_longest_b a0 M) := rfl
noncomputable def rL_longest_4 (v0 : Nat) (v1 : Int32) (v2 : Int32) (M : rg_M) : Option rg_U := rg_E rg_cod 152 (4, [some (.ref v0), some (.int v1), some (.int v2), none, none], [], M)
noncomputable def rL_longest_14 (v0 : Nat) (v1 : Int32) (v2 : Int32) (v3 : Int32) (M : rg_M) : Option rg_U := rg_E rg_cod 152 (14, [some (.ref v0), some (.int v1), some (.int v2), some (.int v3), none], [], M)
noncomputable def rT_about (a0 : Nat) (a1 : Int32) (M : rg_M) : Option (Int32 × rg_M) := rg_io rg_cod 153 [.ref a0, .int a1] M
noncomputable def rT_about_b (a0 : Nat) (a1 : Int32) (M : rg_M) : Option rg_U := rg_E rg_cod 153 (0, [some (.ref a0), some (.int a1)], [], M)
theorem rT_about_u (a0 : Nat) (a1 : Int32) (M : rg_M) : rT_about a0 a1 M = rg_ui (rT_about_b a0 a1 M) := rfl
noncomputable def rT_about_69 (s0 : Int32) (M : rg_M) : Option rg_U := rg_E rg_cod 153 (69, [none, none], [.int s0], M)
noncomputable def rT_about_90 (s0 : Int32) (M : rg_M) : Option rg_U := rg_E rg_cod 153 (90, [none, none], [.int s0], M)
noncomputable def rT_about_110 (s0 : Int32) (M : rg_M) : Option rg_U := rg_E rg_cod 153 (110, [none, none], [.int s0], M)
noncomputable def rT_about_135 (s0 : Int32) (M : rg_M) : Option rg_U := rg_E rg_cod 153 (135, [none, none], [.int s0], M)
noncomputable def rT_about_154 (s0 : Int32) (M : rg_M) : Option rg_U := rg_E rg_cod 153 (154, [none, none], [.int s0], M)
noncomputable def rM_greatest (a0 : Nat) (M : rg_M) : Option (Int32 × rg_M) := rg_io rg_cod 154 [.ref a0] M
noncomputable def rM_greatest_b (a0 : Nat) (M : rg_M) : Option rg_U := rg_E rg_cod 154 (0, [some (.ref a0), none, none, none, none, none], [], M)
theorem rM_greatest_u (a0 : Nat) (M : rg_M) : rM_greatest a0 M = rg_ui (rM_greatest_b a0 M) := rfl
noncomputable def rM_greatest_4 (v0 : Nat) (v1 : Int32) (v2 : Int32) (M : rg_M) : Option rg_U := rg_E rg_cod 154 (4, [some (.ref v0), some (.int v1), some (.int v2), none, none, none], [], M)
noncomputable def rM_greatest_14 (v0 : Nat) (v1 : Int32) (v2 : Int32) (v3 : Int32) (M : rg_M) : Option rg_U := rg_E rg_cod 154 (14, [some (.ref v0), some (.int v1), some (.int v2), some (.int v3), none, none], [], M)
noncomputable def rM_greatest_26 (v0 : Nat) (v1 : Int32) (v2 : Int32) (v3 : Int32) (v4 : Int32) (M : rg_M) : Option rg_U := rg_E rg_cod 154 (26, [some (.ref v0), some (.int v1), some (.int v2), some (.int v3), some (.int v4), none], [], M)
noncomputable def rM_greatest_62 (v0 : Nat) (v2 : Int32) (v3 : Int32) (v4 : Int32) (s0 : Int32) (M : rg_M) : Option rg_U := rg_E rg_cod 154 (62, [some (.ref v0), none, some (.int v2), some (.int v3), some (.int v4), none], [.int s0], M)
noncomputable def rM_about (a0 : Nat) (a1 : Int32) (M : rg_M) : Option (Int32 × rg_M) := rg_io rg_cod 155 [.ref a0, .int a1] M
noncomputable def rM_about_b (a0 : Nat) (a1 : Int32) (M : rg_M) : Option rg_U := rg_E rg_cod 155 (0, [some (.ref a0), some (.int a1)], [], M)
theorem rM_about_u (a0 : Nat) (a1 : Int32) (M : rg_M) : rM_about a0 a1 M = rg_ui (rM_about_b a0 a1 M) := rfl
noncomputable def rZ_law (a0 : Nat) (M : rg_M) : Option (Int32 × rg_M) := rg_io rg_cod 156 [.ref a0] M
noncomputable def rZ_law_b (a0 : Nat) (M : rg_M) : Option rg_U := rg_E rg_cod 156 (0, [some (.ref a0), none, none, none], [], M)
theorem rZ_law_u (a0 : Nat) (M : rg_M) : rZ_law a0 M = rg_ui (rZ_law_b a0 M) := rfl
noncomputable def rZ_law_18 (v0 : Nat) (v1 : Nat) (v2 : Nat) (v3 : Int32) (M : rg_M) : Option rg_U := rg_E rg_cod 156 (18, [some (.ref v0), some (.ref v1), some (.ref v2), some (.int v3)], [], M)
noncomputable def rZ_law_423 (v0 : Nat) (v1 : Nat) (v2 : Nat) (v3 : Int32) (M : rg_M) : Option rg_U := rg_E rg_cod 156 (423, [some (.ref v0), some (.ref v1), some (.ref v2), some (.int v3)], [], M)

set_option maxHeartbeats 8000000 in
theorem rJ_numberOfLeadingZeros_e (a0 : Int32) (M : rg_M) : rJ_numberOfLeadingZeros_b a0 M = if 0 < a0 then (if a0 < (65536 : Int32) then (rJ_numberOfLeadingZeros_33 a0 31 M) else (rJ_numberOfLeadingZeros_33 ((a0.toUInt32 >>> ((16 : Int32).toUInt32 &&& Int32.toUInt32 31)).toInt32) ((31 : Int32) + (-16)) M)) else (if a0 = 0 then (rJ_numberOfLeadingZeros_14 32 M) else (rJ_numberOfLeadingZeros_14 0 M)) := by
  show rg_E rg_cod 37 (0, [some (.int a0), none], [], M) = _
  refine (rg_E_pu rg_cod (k := 37) 1 (c := (0, [some (.int a0), none], [], M)) (c' := (1, [some (.int a0), none], [.int a0], M)) rfl).trans ?_
  refine (rg_E_if rg_cod (k := 37) (c := (1, [some (.int a0), none], [.int a0], M)) (c1 := (15, [some (.int a0), none], [], M)) (c2 := (4, [some (.int a0), none], [], M)) (P := 0 < a0) rfl rfl).trans (rg_ic ?_ ?_)
  · refine (rg_E_pu rg_cod (k := 37) 4 (c := (15, [some (.int a0), none], [], M)) (c' := (22, [some (.int a0), some (.int 31)], [.int 65536, .int a0], M)) rfl).trans ?_
    refine (rg_E_if rg_cod (k := 37) (c := (22, [some (.int a0), some (.int 31)], [.int 65536, .int a0], M)) (c1 := (33, [some (.int a0), some (.int 31)], [], M)) (c2 := (25, [some (.int a0), some (.int 31)], [], M)) (P := a0 < (65536 : Int32)) rfl rfl).trans (rg_ic ?_ ?_)
    · rfl
    · refine (rg_E_pu rg_cod (k := 37) 5 (c := (25, [some (.int a0), some (.int 31)], [], M)) (c' := (33, [some (.int ((a0.toUInt32 >>> ((16 : Int32).toUInt32 &&& Int32.toUInt32 31)).toInt32)), some (.int ((31 : Int32) + (-16)))], [], M)) rfl).trans ?_
      rfl
  · refine (rg_E_pu rg_cod (k := 37) 1 (c := (4, [some (.int a0), none], [], M)) (c' := (5, [some (.int a0), none], [.int a0], M)) rfl).trans ?_
    refine (rg_E_if rg_cod (k := 37) (c := (5, [some (.int a0), none], [.int a0], M)) (c1 := (8, [some (.int a0), none], [], M)) (c2 := (13, [some (.int a0), none], [], M)) (P := a0 = 0) rfl rfl).trans (rg_ic ?_ ?_)
    · refine (rg_E_pu rg_cod (k := 37) 2 (c := (8, [some (.int a0), none], [], M)) (c' := (14, [some (.int a0), none], [.int 32], M)) rfl).trans ?_
      exact rg_E_eq rg_cod (k := 37) (c := (14, [some (.int a0), none], [.int 32], M)) (c2 := (14, [none, none], [.int 32], M)) rfl rfl rfl
    · refine (rg_E_pu rg_cod (k := 37) 1 (c := (13, [some (.int a0), none], [], M)) (c' := (14, [some (.int a0), none], [.int 0], M)) rfl).trans ?_
      exact rg_E_eq rg_cod (k := 37) (c := (14, [some (.int a0), none], [.int 0], M)) (c2 := (14, [none, none], [.int 0], M)) rfl rfl rfl
set_option maxHeartbeats 8000000 in
theorem rJ_numberOfLeadingZeros_14_e (s0 : Int32) (M : rg_M) : rJ_numberOfLeadingZeros_14 s0 M = some (some (.int s0), M) := by
  show rg_E rg_cod 37 (14, [none, none], [.int s0], M) = _
  exact rg_E_rt rg_cod (k := 37) (c := (14, [none, none], [.int s0], M)) rfl rfl
set_option maxHeartbeats 8000000 in
theorem rJ_numberOfLeadingZeros_33_e (v0 : Int32) (v1 : Int32) (M : rg_M) : rJ_numberOfLeadingZeros_33 v0 v1 M = if v0 < (256 : Int32) then (rJ_numberOfLeadingZeros_48 v0 v1 M) else (rJ_numberOfLeadingZeros_48 ((v0.toUInt32 >>> ((8 : Int32).toUInt32 &&& Int32.toUInt32 31)).toInt32) (v1 + (-8)) M) := by
  show rg_E rg_cod 37 (33, [some (.int v0), some (.int v1)], [], M) = _
  refine (rg_E_pu rg_cod (k := 37) 2 (c := (33, [some (.int v0), some (.int v1)], [], M)) (c' := (37, [some (.int v0), some (.int v1)], [.int 256, .int v0], M)) rfl).trans ?_
  refine (rg_E_if rg_cod (k := 37) (c := (37, [some (.int v0), some (.int v1)], [.int 256, .int v0], M)) (c1 := (48, [some (.int v0), some (.int v1)], [], M)) (c2 := (40, [some (.int v0), some (.int v1)], [], M)) (P := v0 < (256 : Int32)) rfl rfl).trans (rg_ic ?_ ?_)
  · rfl
  · refine (rg_E_pu rg_cod (k := 37) 5 (c := (40, [some (.int v0), some (.int v1)], [], M)) (c' := (48, [some (.int ((v0.toUInt32 >>> ((8 : Int32).toUInt32 &&& Int32.toUInt32 31)).toInt32)), some (.int (v1 + (-8)))], [], M)) rfl).trans ?_
    rfl
set_option maxHeartbeats 8000000 in
theorem rJ_numberOfLeadingZeros_48_e (v0 : Int32) (v1 : Int32) (M : rg_M) : rJ_numberOfLeadingZeros_48 v0 v1 M = if v0 < (16 : Int32) then (rJ_numberOfLeadingZeros_61 v0 v1 M) else (rJ_numberOfLeadingZeros_61 ((v0.toUInt32 >>> ((4 : Int32).toUInt32 &&& Int32.toUInt32 31)).toInt32) (v1 + (-4)) M) := by
  show rg_E rg_cod 37 (48, [some (.int v0), some (.int v1)], [], M) = _
  refine (rg_E_pu rg_cod (k := 37) 2 (c := (48, [some (.int v0), some (.int v1)], [], M)) (c' := (51, [some (.int v0), some (.int v1)], [.int 16, .int v0], M)) rfl).trans ?_
  refine (rg_E_if rg_cod (k := 37) (c := (51, [some (.int v0), some (.int v1)], [.int 16, .int v0], M)) (c1 := (61, [some (.int v0), some (.int v1)], [], M)) (c2 := (54, [some (.int v0), some (.int v1)], [], M)) (P := v0 < (16 : Int32)) rfl rfl).trans (rg_ic ?_ ?_)
  · rfl
  · refine (rg_E_pu rg_cod (k := 37) 5 (c := (54, [some (.int v0), some (.int v1)], [], M)) (c' := (61, [some (.int ((v0.toUInt32 >>> ((4 : Int32).toUInt32 &&& Int32.toUInt32 31)).toInt32)), some (.int (v1 + (-4)))], [], M)) rfl).trans ?_
    rfl
set_option maxHeartbeats 8000000 in
theorem rJ_numberOfLeadingZeros_61_e (v0 : Int32) (v1 : Int32) (M : rg_M) : rJ_numberOfLeadingZeros_61 v0 v1 M = if v0 < (4 : Int32) then (rJ_numberOfLeadingZeros_73 v0 v1 M) else (rJ_numberOfLeadingZeros_73 ((v0.toUInt32 >>> ((2 : Int32).toUInt32 &&& Int32.toUInt32 31)).toInt32) (v1 + (-2)) M) := by
  show rg_E rg_cod 37 (61, [some (.int v0), some (.int v1)], [], M) = _
  refine (rg_E_pu rg_cod (k := 37) 2 (c := (61, [some (.int v0), some (.int v1)], [], M)) (c' := (63, [some (.int v0), some (.int v1)], [.int 4, .int v0], M)) rfl).trans ?_
  refine (rg_E_if rg_cod (k := 37) (c := (63, [some (.int v0), some (.int v1)], [.int 4, .int v0], M)) (c1 := (73, [some (.int v0), some (.int v1)], [], M)) (c2 := (66, [some (.int v0), some (.int v1)], [], M)) (P := v0 < (4 : Int32)) rfl rfl).trans (rg_ic ?_ ?_)
  · rfl
  · refine (rg_E_pu rg_cod (k := 37) 5 (c := (66, [some (.int v0), some (.int v1)], [], M)) (c' := (73, [some (.int ((v0.toUInt32 >>> ((2 : Int32).toUInt32 &&& Int32.toUInt32 31)).toInt32)), some (.int (v1 + (-2)))], [], M)) rfl).trans ?_
    rfl
set_option maxHeartbeats 8000000 in
theorem rJ_numberOfLeadingZeros_73_e (v0 : Int32) (v1 : Int32) (M : rg_M) : rJ_numberOfLeadingZeros_73 v0 v1 M = some (some (.int (v1 - ((v0.toUInt32 >>> ((1 : Int32).toUInt32 &&& Int32.toUInt32 31)).toInt32))), M) := by
  show rg_E rg_cod 37 (73, [some (.int v0), some (.int v1)], [], M) = _
  refine (rg_E_pu rg_cod (k := 37) 5 (c := (73, [some (.int v0), some (.int v1)], [], M)) (c' := (78, [some (.int v0), some (.int v1)], [.int (v1 - ((v0.toUInt32 >>> ((1 : Int32).toUInt32 &&& Int32.toUInt32 31)).toInt32))], M)) rfl).trans ?_
  exact rg_E_rt rg_cod (k := 37) (c := (78, [some (.int v0), some (.int v1)], [.int (v1 - ((v0.toUInt32 >>> ((1 : Int32).toUInt32 &&& Int32.toUInt32 31)).toInt32))], M)) rfl rfl

def rg_c9_0 : List (Nat × rg_S) := [(0, rg_sil 0 1), (1, rg_sic 380 3), (4, rg_skge 15), (7, rg_sic 260 3), (10, rg_sil 0 1), (11, rg_s2i (fun x y => x * y)), (12, rg_sgo 27), (15, rg_sic 98800 2), (17, rg_sic 4200 3), (20, rg_sil 0 1), (21, rg_sic 380 3), (24, rg_s2i (fun x y => x - y)), (25, rg_s2i (fun x y => x * y)), (26, rg_s2i (fun x y => x + y)), (27, rg_sK [false] (rg_ri))]
theorem rg_o9_0 : ∀ q ∈ rg_c9_0, rg_Ok 9 q.1 q.2 :=
  rg_fc (rg_ok_iload_n (j := 0) (by decide +kernel) rfl) <|
  rg_fc (rg_ok_sipush (n := 380) (by decide +kernel) (by decide +kernel)) <|
  rg_fc (rg_ok_icmp_ge (off := 11) (by decide +kernel) (by decide +kernel)) <|
  rg_fc (rg_ok_sipush (n := 260) (by decide +kernel) (by decide +kernel)) <|
  rg_fc (rg_ok_iload_n (j := 0) (by decide +kernel) rfl) <|
  rg_fc (rg_ok_imul (by decide +kernel)) <|
  rg_fc (rg_ok_goto (off := 15) (by decide +kernel) (by decide +kernel)) <|
  rg_fc (rg_ok_ldc (n := 31) (by decide +kernel) rg_wc_M_31) <|
  rg_fc (rg_ok_sipush (n := 4200) (by decide +kernel) (by decide +kernel)) <|
  rg_fc (rg_ok_iload_n (j := 0) (by decide +kernel) rfl) <|
  rg_fc (rg_ok_sipush (n := 380) (by decide +kernel) (by decide +kernel)) <|
  rg_fc (rg_ok_isub (by decide +kernel)) <|
  rg_fc (rg_ok_imul (by decide +kernel)) <|
  rg_fc (rg_ok_iadd (by decide +kernel)) <|
  rg_fc (rg_okK _ (rg_ok_ireturn (by decide +kernel) rfl)) <|
  fun _ h => absurd h List.not_mem_nil
def rg_kd9 : List (List (Nat × rg_S)) := [rg_c9_0]
theorem rg_o9 : ∀ pc f, rg_lk2 rg_kd9 pc = some f → rg_Ok 9 pc f := rg_lk2_ok (rg_fd rg_o9_0 (fun _ h => absurd h List.not_mem_nil))
def rg_c10_0 : List (Nat × rg_S) := [(0, rg_sK [true, true] (rg_sal 0 1)), (1, rg_sgr 7 1), (4, rg_sil 1 1), (5, rg_sai), (6, rg_sjle 43), (9, rg_sal 0 1), (10, rg_sgr 7 0), (13, rg_sil 1 1), (14, rg_scS 9 1 1), (17, rg_sal 0 1), (18, rg_sgr 7 1), (21, rg_sil 1 1), (22, rg_sai), (23, rg_s2i (fun x y => x + y)), (24, rg_sic 1 1), (25, rg_s2i (fun x y => x - y)), (26, rg_sai), (27, rg_sjne 43), (30, rg_sal 0 1), (31, rg_sgr 7 1), (34, rg_sil 1 1), (35, rg_sd2), (36, rg_sai), (37, rg_sic 1 1), (38, rg_s2i (fun x y => x - y))]
theorem rg_o10_0 : ∀ q ∈ rg_c10_0, rg_Ok 10 q.1 q.2 :=
  rg_fc (rg_okK _ (rg_ok_aload_n (j := 0) (by decide +kernel) rfl)) <|
  rg_fc (rg_ok_getr (idx := 14) rg_cok7 (by decide +kernel) rfl (by decide +kernel) rg_wf_M_14) <|
  rg_fc (rg_ok_iload_n (j := 1) (by decide +kernel) rfl) <|
  rg_fc (rg_ok_iaload (by decide +kernel)) <|
  rg_fc (rg_ok_if_le (off := 37) (by decide +kernel) (by decide +kernel)) <|
  rg_fc (rg_ok_aload_n (j := 0) (by decide +kernel) rfl) <|
  rg_fc (rg_ok_getr (idx := 8) rg_cok7 (by decide +kernel) rfl (by decide +kernel) rg_wf_M_8) <|
  rg_fc (rg_ok_iload_n (j := 1) (by decide +kernel) rfl) <|
  rg_fc (rg_ok_callS (idx := 32) (by decide +kernel) (by decide +kernel) rg_wm_M_32 rg_wt_9 rg_wy_9 rg_wd_9 ⟨by decide +kernel, by decide +kernel, by decide +kernel⟩ (by decide +kernel) (by decide +kernel)) <|
  rg_fc (rg_ok_aload_n (j := 0) (by decide +kernel) rfl) <|
  rg_fc (rg_ok_getr (idx := 14) rg_cok7 (by decide +kernel) rfl (by decide +kernel) rg_wf_M_14) <|
  rg_fc (rg_ok_iload_n (j := 1) (by decide +kernel) rfl) <|
  rg_fc (rg_ok_iaload (by decide +kernel)) <|
  rg_fc (rg_ok_iadd (by decide +kernel)) <|
  rg_fc (rg_ok_iconst (n := 1) (by decide +kernel) (by decide +kernel)) <|
  rg_fc (rg_ok_isub (by decide +kernel)) <|
  rg_fc (rg_ok_iaload (by decide +kernel)) <|
  rg_fc (rg_ok_if_ne (off := 16) (by decide +kernel) (by decide +kernel)) <|
  rg_fc (rg_ok_aload_n (j := 0) (by decide +kernel) rfl) <|
  rg_fc (rg_ok_getr (idx := 14) rg_cok7 (by decide +kernel) rfl (by decide +kernel) rg_wf_M_14) <|
  rg_fc (rg_ok_iload_n (j := 1) (by decide +kernel) rfl) <|
  rg_fc (rg_ok_dup2 (by decide +kernel)) <|
  rg_fc (rg_ok_iaload (by decide +kernel)) <|
  rg_fc (rg_ok_iconst (n := 1) (by decide +kernel) (by decide +kernel)) <|
  rg_fc (rg_ok_isub (by decide +kernel)) <|
  fun _ h => absurd h List.not_mem_nil
def rg_c10_1 : List (Nat × rg_S) := [(39, rg_swi), (40, rg_sgo 0), (43, rg_sK [true, true] (rg_sal 0 1)), (44, rg_sgr 7 1), (47, rg_sil 1 1), (48, rg_sai), (49, rg_sjne 59), (52, rg_sal 0 1), (53, rg_sgr 7 2), (56, rg_sil 1 1), (57, rg_sic 0 1), (58, rg_swi), (59, rg_sK [false, false] (rg_rv))]
theorem rg_o10_1 : ∀ q ∈ rg_c10_1, rg_Ok 10 q.1 q.2 :=
  rg_fc (rg_ok_iastore (by decide +kernel)) <|
  rg_fc (rg_ok_goto (off := (-40)) (by decide +kernel) (by decide +kernel)) <|
  rg_fc (rg_okK _ (rg_ok_aload_n (j := 0) (by decide +kernel) rfl)) <|
  rg_fc (rg_ok_getr (idx := 14) rg_cok7 (by decide +kernel) rfl (by decide +kernel) rg_wf_M_14) <|
  rg_fc (rg_ok_iload_n (j := 1) (by decide +kernel) rfl) <|
  rg_fc (rg_ok_iaload (by decide +kernel)) <|
  rg_fc (rg_ok_if_ne (off := 10) (by decide +kernel) (by decide +kernel)) <|
  rg_fc (rg_ok_aload_n (j := 0) (by decide +kernel) rfl) <|
  rg_fc (rg_ok_getr (idx := 17) rg_cok7 (by decide +kernel) rfl (by decide +kernel) rg_wf_M_17) <|
  rg_fc (rg_ok_iload_n (j := 1) (by decide +kernel) rfl) <|
  rg_fc (rg_ok_iconst (n := 0) (by decide +kernel) (by decide +kernel)) <|
  rg_fc (rg_ok_iastore (by decide +kernel)) <|
  rg_fc (rg_okK _ (rg_ok_return (by decide +kernel) rfl)) <|
  fun _ h => absurd h List.not_mem_nil
def rg_kd10 : List (List (Nat × rg_S)) := [rg_c10_0, rg_c10_1]
theorem rg_o10 : ∀ pc f, rg_lk2 rg_kd10 pc = some f → rg_Ok 10 pc f := rg_lk2_ok (rg_fd rg_o10_0 (rg_fd rg_o10_1 (fun _ h => absurd h List.not_mem_nil)))
def rg_c11_0 : List (Nat × rg_S) := [(0, rg_sll 2 1), (1, rg_slc 0 1), (2, rg_scm), (3, rg_sjge 11), (6, rg_sll 2 1), (7, rg_s1l (fun x => -x)), (8, rg_sgo 12), (11, rg_sll 2 1), (12, rg_sK [true, true, true, false, false, false] (rg_sls 4 2)), (14, rg_sal 0 1), (15, rg_sgr 7 0), (18, rg_sil 1 1), (19, rg_scS 9 1 1), (22, rg_sll 4 2), (24, rg_sl2i), (25, rg_swi), (26, rg_sal 0 1), (27, rg_sgr 7 0), (30, rg_sil 1 1), (31, rg_scS 9 1 1), (34, rg_sic 1 1), (35, rg_s2i (fun x y => x + y)), (36, rg_sll 4 2), (38, rg_sic 32 2), (40, rg_ssh (fun x y => (x.toUInt64 >>> (y.toInt64.toUInt64 &&& Int64.toUInt64 63)).toInt64))]
theorem rg_o11_0 : ∀ q ∈ rg_c11_0, rg_Ok 11 q.1 q.2 :=
  rg_fc (rg_ok_lload_n (j := 2) (by decide +kernel) rfl) <|
  rg_fc (rg_ok_lconst (n := 0) (by decide +kernel) (by decide +kernel)) <|
  rg_fc (rg_ok_lcmp (by decide +kernel)) <|
  rg_fc (rg_ok_if_ge (off := 8) (by decide +kernel) (by decide +kernel)) <|
  rg_fc (rg_ok_lload_n (j := 2) (by decide +kernel) rfl) <|
  rg_fc (rg_ok_lneg (by decide +kernel)) <|
  rg_fc (rg_ok_goto (off := 4) (by decide +kernel) (by decide +kernel)) <|
  rg_fc (rg_ok_lload_n (j := 2) (by decide +kernel) rfl) <|
  rg_fc (rg_okK _ (rg_ok_lstore (i := 4) (by decide +kernel) (by decide +kernel))) <|
  rg_fc (rg_ok_aload_n (j := 0) (by decide +kernel) rfl) <|
  rg_fc (rg_ok_getr (idx := 8) rg_cok7 (by decide +kernel) rfl (by decide +kernel) rg_wf_M_8) <|
  rg_fc (rg_ok_iload_n (j := 1) (by decide +kernel) rfl) <|
  rg_fc (rg_ok_callS (idx := 32) (by decide +kernel) (by decide +kernel) rg_wm_M_32 rg_wt_9 rg_wy_9 rg_wd_9 ⟨by decide +kernel, by decide +kernel, by decide +kernel⟩ (by decide +kernel) (by decide +kernel)) <|
  rg_fc (rg_ok_lload (i := 4) (by decide +kernel)) <|
  rg_fc (rg_ok_l2i (by decide +kernel)) <|
  rg_fc (rg_ok_iastore (by decide +kernel)) <|
  rg_fc (rg_ok_aload_n (j := 0) (by decide +kernel) rfl) <|
  rg_fc (rg_ok_getr (idx := 8) rg_cok7 (by decide +kernel) rfl (by decide +kernel) rg_wf_M_8) <|
  rg_fc (rg_ok_iload_n (j := 1) (by decide +kernel) rfl) <|
  rg_fc (rg_ok_callS (idx := 32) (by decide +kernel) (by decide +kernel) rg_wm_M_32 rg_wt_9 rg_wy_9 rg_wd_9 ⟨by decide +kernel, by decide +kernel, by decide +kernel⟩ (by decide +kernel) (by decide +kernel)) <|
  rg_fc (rg_ok_iconst (n := 1) (by decide +kernel) (by decide +kernel)) <|
  rg_fc (rg_ok_iadd (by decide +kernel)) <|
  rg_fc (rg_ok_lload (i := 4) (by decide +kernel)) <|
  rg_fc (rg_ok_bipush (n := 32) (by decide +kernel) (by decide +kernel)) <|
  rg_fc (rg_ok_lushr (by decide +kernel)) <|
  fun _ h => absurd h List.not_mem_nil
def rg_c11_1 : List (Nat × rg_S) := [(41, rg_sl2i), (42, rg_swi), (43, rg_sal 0 1), (44, rg_sgr 7 1), (47, rg_sil 1 1), (48, rg_sic 2 1), (49, rg_swi), (50, rg_sal 0 1), (51, rg_sgr 7 2), (54, rg_sil 1 1), (55, rg_sll 2 1), (56, rg_slc 0 1), (57, rg_scm), (58, rg_sjge 65), (61, rg_sic (-1) 1), (62, rg_sgo 66), (65, rg_sic 1 1), (66, rg_sK [true, true, false, false, false, false] (rg_swi)), (67, rg_sal 0 1), (68, rg_sil 1 1), (69, rg_scV 10 1 0 7), (72, rg_rv)]
theorem rg_o11_1 : ∀ q ∈ rg_c11_1, rg_Ok 11 q.1 q.2 :=
  rg_fc (rg_ok_l2i (by decide +kernel)) <|
  rg_fc (rg_ok_iastore (by decide +kernel)) <|
  rg_fc (rg_ok_aload_n (j := 0) (by decide +kernel) rfl) <|
  rg_fc (rg_ok_getr (idx := 14) rg_cok7 (by decide +kernel) rfl (by decide +kernel) rg_wf_M_14) <|
  rg_fc (rg_ok_iload_n (j := 1) (by decide +kernel) rfl) <|
  rg_fc (rg_ok_iconst (n := 2) (by decide +kernel) (by decide +kernel)) <|
  rg_fc (rg_ok_iastore (by decide +kernel)) <|
  rg_fc (rg_ok_aload_n (j := 0) (by decide +kernel) rfl) <|
  rg_fc (rg_ok_getr (idx := 17) rg_cok7 (by decide +kernel) rfl (by decide +kernel) rg_wf_M_17) <|
  rg_fc (rg_ok_iload_n (j := 1) (by decide +kernel) rfl) <|
  rg_fc (rg_ok_lload_n (j := 2) (by decide +kernel) rfl) <|
  rg_fc (rg_ok_lconst (n := 0) (by decide +kernel) (by decide +kernel)) <|
  rg_fc (rg_ok_lcmp (by decide +kernel)) <|
  rg_fc (rg_ok_if_ge (off := 7) (by decide +kernel) (by decide +kernel)) <|
  rg_fc (rg_ok_iconst (n := (-1)) (by decide +kernel) (by decide +kernel)) <|
  rg_fc (rg_ok_goto (off := 4) (by decide +kernel) (by decide +kernel)) <|
  rg_fc (rg_ok_iconst (n := 1) (by decide +kernel) (by decide +kernel)) <|
  rg_fc (rg_okK _ (rg_ok_iastore (by decide +kernel))) <|
  rg_fc (rg_ok_aload_n (j := 0) (by decide +kernel) rfl) <|
  rg_fc (rg_ok_iload_n (j := 1) (by decide +kernel) rfl) <|
  rg_fc (rg_ok_callV (idx := 38) rg_cok7 (by decide +kernel) (by decide +kernel) rg_wm_M_38 rg_wj_10 rg_ws_10 rg_wz_7 rg_wd_10 ⟨by decide +kernel, by decide +kernel, by decide +kernel, by decide +kernel⟩ (by decide +kernel) (by decide +kernel)) <|
  rg_fc (rg_ok_return (by decide +kernel) rfl) <|
  fun _ h => absurd h List.not_mem_nil
def rg_kd11 : List (List (Nat × rg_S)) := [rg_c11_0, rg_c11_1]
theorem rg_o11 : ∀ pc f, rg_lk2 rg_kd11 pc = some f → rg_Ok 11 pc f := rg_lk2_ok (rg_fd rg_o11_0 (rg_fd rg_o11_1 (fun _ h => absurd h List.not_mem_nil)))
def rg_c12_0 : List (Nat × rg_S) := [(0, rg_sal 0 1), (1, rg_sob), (4, rg_sal 0 1), (5, rg_sic 266800 2), (7, rg_sna 9 2), (9, rg_spr 7 0), (12, rg_sal 0 1), (13, rg_sic 420 3), (16, rg_sna 9 2), (18, rg_spr 7 1), (21, rg_sal 0 1), (22, rg_sic 420 3), (25, rg_sna 9 2), (27, rg_spr 7 2), (30, rg_sal 0 1), (31, rg_sic 25 2), (33, rg_sna 9 2), (35, rg_spr 7 10), (38, rg_sal 0 1), (39, rg_sic 11 2), (41, rg_sna 11 2), (43, rg_spr 7 11), (46, rg_sal 0 1), (47, rg_sic 413 3), (50, rg_slc 1 1)]
theorem rg_o12_0 : ∀ q ∈ rg_c12_0, rg_Ok 12 q.1 q.2 :=
  rg_fc (rg_ok_aload_n (j := 0) (by decide +kernel) rfl) <|
  rg_fc (rg_ok_objinit (idx := 1) (by decide +kernel) rg_wm_M_1 rg_wo_1 rg_wo_2 (by decide +kernel) (by decide +kernel)) <|
  rg_fc (rg_ok_aload_n (j := 0) (by decide +kernel) rfl) <|
  rg_fc (rg_ok_ldc (n := 7) (by decide +kernel) rg_wc_M_7) <|
  rg_fc (rg_ok_newa (at0 := .int) (t := 0) (by decide +kernel) rfl rg_wa_int (Or.inl ⟨rfl, rfl, rfl⟩)) <|
  rg_fc (rg_ok_putr (idx := 8) rg_cok7 (by decide +kernel) rfl (fun _ => ⟨rfl, rfl⟩) (Or.inr ⟨rfl, rfl, rfl⟩) (by decide +kernel) rg_wf_M_8) <|
  rg_fc (rg_ok_aload_n (j := 0) (by decide +kernel) rfl) <|
  rg_fc (rg_ok_sipush (n := 420) (by decide +kernel) (by decide +kernel)) <|
  rg_fc (rg_ok_newa (at0 := .int) (t := 0) (by decide +kernel) rfl rg_wa_int (Or.inl ⟨rfl, rfl, rfl⟩)) <|
  rg_fc (rg_ok_putr (idx := 14) rg_cok7 (by decide +kernel) rfl (fun _ => ⟨rfl, rfl⟩) (Or.inr ⟨rfl, rfl, rfl⟩) (by decide +kernel) rg_wf_M_14) <|
  rg_fc (rg_ok_aload_n (j := 0) (by decide +kernel) rfl) <|
  rg_fc (rg_ok_sipush (n := 420) (by decide +kernel) (by decide +kernel)) <|
  rg_fc (rg_ok_newa (at0 := .int) (t := 0) (by decide +kernel) rfl rg_wa_int (Or.inl ⟨rfl, rfl, rfl⟩)) <|
  rg_fc (rg_ok_putr (idx := 17) rg_cok7 (by decide +kernel) rfl (fun _ => ⟨rfl, rfl⟩) (Or.inr ⟨rfl, rfl, rfl⟩) (by decide +kernel) rg_wf_M_17) <|
  rg_fc (rg_ok_aload_n (j := 0) (by decide +kernel) rfl) <|
  rg_fc (rg_ok_bipush (n := 25) (by decide +kernel) (by decide +kernel)) <|
  rg_fc (rg_ok_newa (at0 := .int) (t := 0) (by decide +kernel) rfl rg_wa_int (Or.inl ⟨rfl, rfl, rfl⟩)) <|
  rg_fc (rg_ok_putr (idx := 20) rg_cok7 (by decide +kernel) rfl (fun _ => ⟨rfl, rfl⟩) (Or.inr ⟨rfl, rfl, rfl⟩) (by decide +kernel) rg_wf_M_20) <|
  rg_fc (rg_ok_aload_n (j := 0) (by decide +kernel) rfl) <|
  rg_fc (rg_ok_bipush (n := 11) (by decide +kernel) (by decide +kernel)) <|
  rg_fc (rg_ok_newa (at0 := .boolean) (t := 2) (by decide +kernel) rfl rg_wa_boolean (Or.inr (Or.inr ⟨rfl, rfl, rfl⟩))) <|
  rg_fc (rg_ok_putr (idx := 23) rg_cok7 (by decide +kernel) rfl (fun _ => ⟨rfl, rfl⟩) (Or.inr ⟨rfl, rfl, rfl⟩) (by decide +kernel) rg_wf_M_23) <|
  rg_fc (rg_ok_aload_n (j := 0) (by decide +kernel) rfl) <|
  rg_fc (rg_ok_sipush (n := 413) (by decide +kernel) (by decide +kernel)) <|
  rg_fc (rg_ok_lconst (n := 1) (by decide +kernel) (by decide +kernel)) <|
  fun _ h => absurd h List.not_mem_nil
def rg_c12_1 : List (Nat × rg_S) := [(51, rg_scV 11 2 0 7), (54, rg_sal 0 1), (55, rg_sic 380 3), (58, rg_slc 0 1), (59, rg_scV 11 2 0 7), (62, rg_sal 0 1), (63, rg_sic 381 3), (66, rg_slc 1 1), (67, rg_scV 11 2 0 7), (70, rg_rv)]
theorem rg_o12_1 : ∀ q ∈ rg_c12_1, rg_Ok 12 q.1 q.2 :=
  rg_fc (rg_ok_callV (idx := 27) rg_cok7 (by decide +kernel) (by decide +kernel) rg_wm_M_27 rg_wj_11 rg_ws_11 rg_wz_7 rg_wd_11 ⟨by decide +kernel, by decide +kernel, by decide +kernel, by decide +kernel⟩ (by decide +kernel) (by decide +kernel)) <|
  rg_fc (rg_ok_aload_n (j := 0) (by decide +kernel) rfl) <|
  rg_fc (rg_ok_sipush (n := 380) (by decide +kernel) (by decide +kernel)) <|
  rg_fc (rg_ok_lconst (n := 0) (by decide +kernel) (by decide +kernel)) <|
  rg_fc (rg_ok_callV (idx := 27) rg_cok7 (by decide +kernel) (by decide +kernel) rg_wm_M_27 rg_wj_11 rg_ws_11 rg_wz_7 rg_wd_11 ⟨by decide +kernel, by decide +kernel, by decide +kernel, by decide +kernel⟩ (by decide +kernel) (by decide +kernel)) <|
  rg_fc (rg_ok_aload_n (j := 0) (by decide +kernel) rfl) <|
  rg_fc (rg_ok_sipush (n := 381) (by decide +kernel) (by decide +kernel)) <|
  rg_fc (rg_ok_lconst (n := 1) (by decide +kernel) (by decide +kernel)) <|
  rg_fc (rg_ok_callV (idx := 27) rg_cok7 (by decide +kernel) (by decide +kernel) rg_wm_M_27 rg_wj_11 rg_ws_11 rg_wz_7 rg_wd_11 ⟨by decide +kernel, by decide +kernel, by decide +kernel, by decide +kernel⟩ (by decide +kernel) (by decide +kernel)) <|
  rg_fc (rg_ok_return (by decide +kernel) rfl) <|
  fun _ h => absurd h List.not_mem_nil
def rg_kd12 : List (List (Nat × rg_S)) := [rg_c12_0, rg_c12_1]
theorem rg_o12 : ∀ pc f, rg_lk2 rg_kd12 pc = some f → rg_Ok 12 pc f := rg_lk2_ok (rg_fd rg_o12_0 (rg_fd rg_o12_1 (fun _ h => absurd h List.not_mem_nil)))
def rg_c19_0 : List (Nat × rg_S) := [(0, rg_sic 0 1), (1, rg_sis 1 1), (2, rg_sK [true, true] (rg_sil 1 1)), (3, rg_sic 11 2), (5, rg_skge 21), (8, rg_sal 0 1), (9, rg_sgr 7 11), (12, rg_sil 1 1), (13, rg_sic 0 1), (14, rg_swz), (15, rg_sin 1 1), (18, rg_sgo 2), (21, rg_rv)]
theorem rg_o19_0 : ∀ q ∈ rg_c19_0, rg_Ok 19 q.1 q.2 :=
  rg_fc (rg_ok_iconst (n := 0) (by decide +kernel) (by decide +kernel)) <|
  rg_fc (rg_ok_istore_n (j := 1) (by decide +kernel) rfl (by decide +kernel)) <|
  rg_fc (rg_okK _ (rg_ok_iload_n (j := 1) (by decide +kernel) rfl)) <|
  rg_fc (rg_ok_bipush (n := 11) (by decide +kernel) (by decide +kernel)) <|
  rg_fc (rg_ok_icmp_ge (off := 16) (by decide +kernel) (by decide +kernel)) <|
  rg_fc (rg_ok_aload_n (j := 0) (by decide +kernel) rfl) <|
  rg_fc (rg_ok_getr (idx := 23) rg_cok7 (by decide +kernel) rfl (by decide +kernel) rg_wf_M_23) <|
  rg_fc (rg_ok_iload_n (j := 1) (by decide +kernel) rfl) <|
  rg_fc (rg_ok_iconst (n := 0) (by decide +kernel) (by decide +kernel)) <|
  rg_fc (rg_ok_bastore (by decide +kernel)) <|
  rg_fc (rg_ok_iinc (n := 1) (by decide +kernel) (by decide +kernel) (by decide +kernel)) <|
  rg_fc (rg_ok_goto (off := (-16)) (by decide +kernel) (by decide +kernel)) <|
  rg_fc (rg_ok_return (by decide +kernel) rfl) <|
  fun _ h => absurd h List.not_mem_nil
def rg_kd19 : List (List (Nat × rg_S)) := [rg_c19_0]
theorem rg_o19 : ∀ pc f, rg_lk2 rg_kd19 pc = some f → rg_Ok 19 pc f := rg_lk2_ok (rg_fd rg_o19_0 (fun _ h => absurd h List.not_mem_nil))
def rg_c20_0 : List (Nat × rg_S) := [(0, rg_sal 0 1), (1, rg_sil 1 1), (2, rg_spi 7 3), (5, rg_sal 0 1), (6, rg_sic 0 1), (7, rg_spi 7 7), (10, rg_sal 0 1), (11, rg_sic 0 1), (12, rg_spi 7 8), (15, rg_sal 0 1), (16, rg_sic 0 1), (17, rg_spi 7 9), (20, rg_sic 0 1), (21, rg_sis 2 1), (22, rg_sK [true, false, true] (rg_sil 2 1)), (23, rg_sic 40 2), (25, rg_skge 69), (28, rg_sal 0 1), (29, rg_sic 0 1), (30, rg_sil 2 1), (31, rg_s2i (fun x y => x + y)), (32, rg_slc 0 1), (33, rg_scV 11 2 0 7), (36, rg_sal 0 1), (37, rg_sic 40 2)]
theorem rg_o20_0 : ∀ q ∈ rg_c20_0, rg_Ok 20 q.1 q.2 :=
  rg_fc (rg_ok_aload_n (j := 0) (by decide +kernel) rfl) <|
  rg_fc (rg_ok_iload_n (j := 1) (by decide +kernel) rfl) <|
  rg_fc (rg_ok_puti (idx := 79) rg_cok7 (by decide +kernel) rfl rfl rfl (by decide +kernel) rg_wf_M_79) <|
  rg_fc (rg_ok_aload_n (j := 0) (by decide +kernel) rfl) <|
  rg_fc (rg_ok_iconst (n := 0) (by decide +kernel) (by decide +kernel)) <|
  rg_fc (rg_ok_puti (idx := 92) rg_cok7 (by decide +kernel) rfl rfl rfl (by decide +kernel) rg_wf_M_92) <|
  rg_fc (rg_ok_aload_n (j := 0) (by decide +kernel) rfl) <|
  rg_fc (rg_ok_iconst (n := 0) (by decide +kernel) (by decide +kernel)) <|
  rg_fc (rg_ok_puti (idx := 95) rg_cok7 (by decide +kernel) rfl rfl rfl (by decide +kernel) rg_wf_M_95) <|
  rg_fc (rg_ok_aload_n (j := 0) (by decide +kernel) rfl) <|
  rg_fc (rg_ok_iconst (n := 0) (by decide +kernel) (by decide +kernel)) <|
  rg_fc (rg_ok_puti (idx := 98) rg_cok7 (by decide +kernel) rfl rfl rfl (by decide +kernel) rg_wf_M_98) <|
  rg_fc (rg_ok_iconst (n := 0) (by decide +kernel) (by decide +kernel)) <|
  rg_fc (rg_ok_istore_n (j := 2) (by decide +kernel) rfl (by decide +kernel)) <|
  rg_fc (rg_okK _ (rg_ok_iload_n (j := 2) (by decide +kernel) rfl)) <|
  rg_fc (rg_ok_bipush (n := 40) (by decide +kernel) (by decide +kernel)) <|
  rg_fc (rg_ok_icmp_ge (off := 44) (by decide +kernel) (by decide +kernel)) <|
  rg_fc (rg_ok_aload_n (j := 0) (by decide +kernel) rfl) <|
  rg_fc (rg_ok_iconst (n := 0) (by decide +kernel) (by decide +kernel)) <|
  rg_fc (rg_ok_iload_n (j := 2) (by decide +kernel) rfl) <|
  rg_fc (rg_ok_iadd (by decide +kernel)) <|
  rg_fc (rg_ok_lconst (n := 0) (by decide +kernel) (by decide +kernel)) <|
  rg_fc (rg_ok_callV (idx := 27) rg_cok7 (by decide +kernel) (by decide +kernel) rg_wm_M_27 rg_wj_11 rg_ws_11 rg_wz_7 rg_wd_11 ⟨by decide +kernel, by decide +kernel, by decide +kernel, by decide +kernel⟩ (by decide +kernel) (by decide +kernel)) <|
  rg_fc (rg_ok_aload_n (j := 0) (by decide +kernel) rfl) <|
  rg_fc (rg_ok_bipush (n := 40) (by decide +kernel) (by decide +kernel)) <|
  fun _ h => absurd h List.not_mem_nil
def rg_c20_1 : List (Nat × rg_S) := [(39, rg_sil 2 1), (40, rg_s2i (fun x y => x + y)), (41, rg_slc 1 1), (42, rg_scV 11 2 0 7), (45, rg_sal 0 1), (46, rg_sic 80 2), (48, rg_sil 2 1), (49, rg_s2i (fun x y => x + y)), (50, rg_slc 0 1), (51, rg_scV 11 2 0 7), (54, rg_sal 0 1), (55, rg_sic 120 2), (57, rg_sil 2 1), (58, rg_s2i (fun x y => x + y)), (59, rg_slc 1 1), (60, rg_scV 11 2 0 7), (63, rg_sin 2 1), (66, rg_sgo 22), (69, rg_sal 0 1), (70, rg_scV 19 0 0 7), (73, rg_rv)]
theorem rg_o20_1 : ∀ q ∈ rg_c20_1, rg_Ok 20 q.1 q.2 :=
  rg_fc (rg_ok_iload_n (j := 2) (by decide +kernel) rfl) <|
  rg_fc (rg_ok_iadd (by decide +kernel)) <|
  rg_fc (rg_ok_lconst (n := 1) (by decide +kernel) (by decide +kernel)) <|
  rg_fc (rg_ok_callV (idx := 27) rg_cok7 (by decide +kernel) (by decide +kernel) rg_wm_M_27 rg_wj_11 rg_ws_11 rg_wz_7 rg_wd_11 ⟨by decide +kernel, by decide +kernel, by decide +kernel, by decide +kernel⟩ (by decide +kernel) (by decide +kernel)) <|
  rg_fc (rg_ok_aload_n (j := 0) (by decide +kernel) rfl) <|
  rg_fc (rg_ok_bipush (n := 80) (by decide +kernel) (by decide +kernel)) <|
  rg_fc (rg_ok_iload_n (j := 2) (by decide +kernel) rfl) <|
  rg_fc (rg_ok_iadd (by decide +kernel)) <|
  rg_fc (rg_ok_lconst (n := 0) (by decide +kernel) (by decide +kernel)) <|
  rg_fc (rg_ok_callV (idx := 27) rg_cok7 (by decide +kernel) (by decide +kernel) rg_wm_M_27 rg_wj_11 rg_ws_11 rg_wz_7 rg_wd_11 ⟨by decide +kernel, by decide +kernel, by decide +kernel, by decide +kernel⟩ (by decide +kernel) (by decide +kernel)) <|
  rg_fc (rg_ok_aload_n (j := 0) (by decide +kernel) rfl) <|
  rg_fc (rg_ok_bipush (n := 120) (by decide +kernel) (by decide +kernel)) <|
  rg_fc (rg_ok_iload_n (j := 2) (by decide +kernel) rfl) <|
  rg_fc (rg_ok_iadd (by decide +kernel)) <|
  rg_fc (rg_ok_lconst (n := 1) (by decide +kernel) (by decide +kernel)) <|
  rg_fc (rg_ok_callV (idx := 27) rg_cok7 (by decide +kernel) (by decide +kernel) rg_wm_M_27 rg_wj_11 rg_ws_11 rg_wz_7 rg_wd_11 ⟨by decide +kernel, by decide +kernel, by decide +kernel, by decide +kernel⟩ (by decide +kernel) (by decide +kernel)) <|
  rg_fc (rg_ok_iinc (n := 1) (by decide +kernel) (by decide +kernel) (by decide +kernel)) <|
  rg_fc (rg_ok_goto (off := (-44)) (by decide +kernel) (by decide +kernel)) <|
  rg_fc (rg_ok_aload_n (j := 0) (by decide +kernel) rfl) <|
  rg_fc (rg_ok_callV (idx := 101) rg_cok7 (by decide +kernel) (by decide +kernel) rg_wm_M_101 rg_wj_19 rg_ws_19 rg_wz_7 rg_wd_19 ⟨by decide +kernel, by decide +kernel, by decide +kernel, by decide +kernel⟩ (by decide +kernel) (by decide +kernel)) <|
  rg_fc (rg_ok_return (by decide +kernel) rfl) <|
  fun _ h => absurd h List.not_mem_nil
def rg_kd20 : List (List (Nat × rg_S)) := [rg_c20_0, rg_c20_1]
theorem rg_o20 : ∀ pc f, rg_lk2 rg_kd20 pc = some f → rg_Ok 20 pc f := rg_lk2_ok (rg_fd rg_o20_0 (rg_fd rg_o20_1 (fun _ h => absurd h List.not_mem_nil)))
def rg_c21_0 : List (Nat × rg_S) := [(0, rg_sil 1 1), (1, rg_sic 1 1), (2, rg_sklt 20), (5, rg_sil 1 1), (6, rg_sic 5 1), (7, rg_skgt 20), (10, rg_sil 2 1), (11, rg_sic 1 1), (12, rg_sklt 20), (15, rg_sil 2 1), (16, rg_sic 5 1), (17, rg_skle 22), (20, rg_sK [false, false, false, false] (rg_sic 0 1)), (21, rg_rz), (22, rg_sal 0 1), (23, rg_sil 1 1), (24, rg_spi 7 4), (27, rg_sal 0 1), (28, rg_sil 2 1), (29, rg_spi 7 5), (32, rg_sal 0 1), (33, rg_sic 0 1), (34, rg_spi 7 6), (37, rg_sic 0 1), (38, rg_sis 3 1)]
theorem rg_o21_0 : ∀ q ∈ rg_c21_0, rg_Ok 21 q.1 q.2 :=
  rg_fc (rg_ok_iload_n (j := 1) (by decide +kernel) rfl) <|
  rg_fc (rg_ok_iconst (n := 1) (by decide +kernel) (by decide +kernel)) <|
  rg_fc (rg_ok_icmp_lt (off := 18) (by decide +kernel) (by decide +kernel)) <|
  rg_fc (rg_ok_iload_n (j := 1) (by decide +kernel) rfl) <|
  rg_fc (rg_ok_iconst (n := 5) (by decide +kernel) (by decide +kernel)) <|
  rg_fc (rg_ok_icmp_gt (off := 13) (by decide +kernel) (by decide +kernel)) <|
  rg_fc (rg_ok_iload_n (j := 2) (by decide +kernel) rfl) <|
  rg_fc (rg_ok_iconst (n := 1) (by decide +kernel) (by decide +kernel)) <|
  rg_fc (rg_ok_icmp_lt (off := 8) (by decide +kernel) (by decide +kernel)) <|
  rg_fc (rg_ok_iload_n (j := 2) (by decide +kernel) rfl) <|
  rg_fc (rg_ok_iconst (n := 5) (by decide +kernel) (by decide +kernel)) <|
  rg_fc (rg_ok_icmp_le (off := 5) (by decide +kernel) (by decide +kernel)) <|
  rg_fc (rg_okK _ (rg_ok_iconst (n := 0) (by decide +kernel) (by decide +kernel))) <|
  rg_fc (rg_ok_zreturn (by decide +kernel) rfl) <|
  rg_fc (rg_ok_aload_n (j := 0) (by decide +kernel) rfl) <|
  rg_fc (rg_ok_iload_n (j := 1) (by decide +kernel) rfl) <|
  rg_fc (rg_ok_puti (idx := 86) rg_cok7 (by decide +kernel) rfl rfl rfl (by decide +kernel) rg_wf_M_86) <|
  rg_fc (rg_ok_aload_n (j := 0) (by decide +kernel) rfl) <|
  rg_fc (rg_ok_iload_n (j := 2) (by decide +kernel) rfl) <|
  rg_fc (rg_ok_puti (idx := 89) rg_cok7 (by decide +kernel) rfl rfl rfl (by decide +kernel) rg_wf_M_89) <|
  rg_fc (rg_ok_aload_n (j := 0) (by decide +kernel) rfl) <|
  rg_fc (rg_ok_iconst (n := 0) (by decide +kernel) (by decide +kernel)) <|
  rg_fc (rg_ok_puti (idx := 83) rg_cok7 (by decide +kernel) rfl rfl rfl (by decide +kernel) rg_wf_M_83) <|
  rg_fc (rg_ok_iconst (n := 0) (by decide +kernel) (by decide +kernel)) <|
  rg_fc (rg_ok_istore_n (j := 3) (by decide +kernel) rfl (by decide +kernel)) <|
  fun _ h => absurd h List.not_mem_nil
def rg_c21_1 : List (Nat × rg_S) := [(39, rg_sK [true, false, false, true] (rg_sil 3 1)), (40, rg_sic 25 2), (42, rg_skge 58), (45, rg_sal 0 1), (46, rg_sgr 7 10), (49, rg_sil 3 1), (50, rg_sic 0 1), (51, rg_swi), (52, rg_sin 3 1), (55, rg_sgo 39), (58, rg_sal 0 1), (59, rg_sic 1 1), (60, rg_scV 20 1 0 7), (63, rg_sic 1 1), (64, rg_rz)]
theorem rg_o21_1 : ∀ q ∈ rg_c21_1, rg_Ok 21 q.1 q.2 :=
  rg_fc (rg_okK _ (rg_ok_iload_n (j := 3) (by decide +kernel) rfl)) <|
  rg_fc (rg_ok_bipush (n := 25) (by decide +kernel) (by decide +kernel)) <|
  rg_fc (rg_ok_icmp_ge (off := 16) (by decide +kernel) (by decide +kernel)) <|
  rg_fc (rg_ok_aload_n (j := 0) (by decide +kernel) rfl) <|
  rg_fc (rg_ok_getr (idx := 20) rg_cok7 (by decide +kernel) rfl (by decide +kernel) rg_wf_M_20) <|
  rg_fc (rg_ok_iload_n (j := 3) (by decide +kernel) rfl) <|
  rg_fc (rg_ok_iconst (n := 0) (by decide +kernel) (by decide +kernel)) <|
  rg_fc (rg_ok_iastore (by decide +kernel)) <|
  rg_fc (rg_ok_iinc (n := 1) (by decide +kernel) (by decide +kernel) (by decide +kernel)) <|
  rg_fc (rg_ok_goto (off := (-16)) (by decide +kernel) (by decide +kernel)) <|
  rg_fc (rg_ok_aload_n (j := 0) (by decide +kernel) rfl) <|
  rg_fc (rg_ok_iconst (n := 1) (by decide +kernel) (by decide +kernel)) <|
  rg_fc (rg_ok_callV (idx := 104) rg_cok7 (by decide +kernel) (by decide +kernel) rg_wm_M_104 rg_wj_20 rg_ws_20 rg_wz_7 rg_wd_20 ⟨by decide +kernel, by decide +kernel, by decide +kernel, by decide +kernel⟩ (by decide +kernel) (by decide +kernel)) <|
  rg_fc (rg_ok_iconst (n := 1) (by decide +kernel) (by decide +kernel)) <|
  rg_fc (rg_ok_zreturn (by decide +kernel) rfl) <|
  fun _ h => absurd h List.not_mem_nil
def rg_kd21 : List (List (Nat × rg_S)) := [rg_c21_0, rg_c21_1]
theorem rg_o21 : ∀ pc f, rg_lk2 rg_kd21 pc = some f → rg_Ok 21 pc f := rg_lk2_ok (rg_fd rg_o21_0 (rg_fd rg_o21_1 (fun _ h => absurd h List.not_mem_nil)))
def rg_c25_0 : List (Nat × rg_S) := [(0, rg_sal 0 1), (1, rg_sgi 7 3), (4, rg_sic 1 1), (5, rg_skne 53), (8, rg_sal 0 1), (9, rg_sgi 7 7), (12, rg_sjgt 53), (15, rg_sil 1 1), (16, rg_sjlt 53), (19, rg_sil 1 1), (20, rg_sal 0 1), (21, rg_sgi 7 4), (24, rg_skge 53), (27, rg_sil 2 1), (28, rg_sjlt 53), (31, rg_sil 2 1), (32, rg_sal 0 1), (33, rg_sgi 7 5), (36, rg_skge 53), (39, rg_sil 3 1), (40, rg_sic (-1000) 3), (43, rg_sklt 53), (46, rg_sil 3 1), (47, rg_sic 1000 3), (50, rg_skle 55)]
theorem rg_o25_0 : ∀ q ∈ rg_c25_0, rg_Ok 25 q.1 q.2 :=
  rg_fc (rg_ok_aload_n (j := 0) (by decide +kernel) rfl) <|
  rg_fc (rg_ok_geti (idx := 79) rg_cok7 (by decide +kernel) rfl (by decide +kernel) rg_wf_M_79) <|
  rg_fc (rg_ok_iconst (n := 1) (by decide +kernel) (by decide +kernel)) <|
  rg_fc (rg_ok_icmp_ne (off := 48) (by decide +kernel) (by decide +kernel)) <|
  rg_fc (rg_ok_aload_n (j := 0) (by decide +kernel) rfl) <|
  rg_fc (rg_ok_geti (idx := 92) rg_cok7 (by decide +kernel) rfl (by decide +kernel) rg_wf_M_92) <|
  rg_fc (rg_ok_if_gt (off := 41) (by decide +kernel) (by decide +kernel)) <|
  rg_fc (rg_ok_iload_n (j := 1) (by decide +kernel) rfl) <|
  rg_fc (rg_ok_if_lt (off := 37) (by decide +kernel) (by decide +kernel)) <|
  rg_fc (rg_ok_iload_n (j := 1) (by decide +kernel) rfl) <|
  rg_fc (rg_ok_aload_n (j := 0) (by decide +kernel) rfl) <|
  rg_fc (rg_ok_geti (idx := 86) rg_cok7 (by decide +kernel) rfl (by decide +kernel) rg_wf_M_86) <|
  rg_fc (rg_ok_icmp_ge (off := 29) (by decide +kernel) (by decide +kernel)) <|
  rg_fc (rg_ok_iload_n (j := 2) (by decide +kernel) rfl) <|
  rg_fc (rg_ok_if_lt (off := 25) (by decide +kernel) (by decide +kernel)) <|
  rg_fc (rg_ok_iload_n (j := 2) (by decide +kernel) rfl) <|
  rg_fc (rg_ok_aload_n (j := 0) (by decide +kernel) rfl) <|
  rg_fc (rg_ok_geti (idx := 89) rg_cok7 (by decide +kernel) rfl (by decide +kernel) rg_wf_M_89) <|
  rg_fc (rg_ok_icmp_ge (off := 17) (by decide +kernel) (by decide +kernel)) <|
  rg_fc (rg_ok_iload_n (j := 3) (by decide +kernel) rfl) <|
  rg_fc (rg_ok_sipush (n := (-1000)) (by decide +kernel) (by decide +kernel)) <|
  rg_fc (rg_ok_icmp_lt (off := 10) (by decide +kernel) (by decide +kernel)) <|
  rg_fc (rg_ok_iload_n (j := 3) (by decide +kernel) rfl) <|
  rg_fc (rg_ok_sipush (n := 1000) (by decide +kernel) (by decide +kernel)) <|
  rg_fc (rg_ok_icmp_le (off := 5) (by decide +kernel) (by decide +kernel)) <|
  fun _ h => absurd h List.not_mem_nil
def rg_c25_1 : List (Nat × rg_S) := [(53, rg_sK [false, false, false, false] (rg_sic 0 1)), (54, rg_rz), (55, rg_sal 0 1), (56, rg_sgr 7 10), (59, rg_sic 5 1), (60, rg_sil 1 1), (61, rg_s2i (fun x y => x * y)), (62, rg_sil 2 1), (63, rg_s2i (fun x y => x + y)), (64, rg_sil 3 1), (65, rg_swi), (66, rg_sal 0 1), (67, rg_scV 19 0 0 7), (70, rg_sic 1 1), (71, rg_rz)]
theorem rg_o25_1 : ∀ q ∈ rg_c25_1, rg_Ok 25 q.1 q.2 :=
  rg_fc (rg_okK _ (rg_ok_iconst (n := 0) (by decide +kernel) (by decide +kernel))) <|
  rg_fc (rg_ok_zreturn (by decide +kernel) rfl) <|
  rg_fc (rg_ok_aload_n (j := 0) (by decide +kernel) rfl) <|
  rg_fc (rg_ok_getr (idx := 20) rg_cok7 (by decide +kernel) rfl (by decide +kernel) rg_wf_M_20) <|
  rg_fc (rg_ok_iconst (n := 5) (by decide +kernel) (by decide +kernel)) <|
  rg_fc (rg_ok_iload_n (j := 1) (by decide +kernel) rfl) <|
  rg_fc (rg_ok_imul (by decide +kernel)) <|
  rg_fc (rg_ok_iload_n (j := 2) (by decide +kernel) rfl) <|
  rg_fc (rg_ok_iadd (by decide +kernel)) <|
  rg_fc (rg_ok_iload_n (j := 3) (by decide +kernel) rfl) <|
  rg_fc (rg_ok_iastore (by decide +kernel)) <|
  rg_fc (rg_ok_aload_n (j := 0) (by decide +kernel) rfl) <|
  rg_fc (rg_ok_callV (idx := 101) rg_cok7 (by decide +kernel) (by decide +kernel) rg_wm_M_101 rg_wj_19 rg_ws_19 rg_wz_7 rg_wd_19 ⟨by decide +kernel, by decide +kernel, by decide +kernel, by decide +kernel⟩ (by decide +kernel) (by decide +kernel)) <|
  rg_fc (rg_ok_iconst (n := 1) (by decide +kernel) (by decide +kernel)) <|
  rg_fc (rg_ok_zreturn (by decide +kernel) rfl) <|
  fun _ h => absurd h List.not_mem_nil
def rg_kd25 : List (List (Nat × rg_S)) := [rg_c25_0, rg_c25_1]
theorem rg_o25 : ∀ pc f, rg_lk2 rg_kd25 pc = some f → rg_Ok 25 pc f := rg_lk2_ok (rg_fd rg_o25_0 (rg_fd rg_o25_1 (fun _ h => absurd h List.not_mem_nil)))
def rg_c28_0 : List (Nat × rg_S) := [(0, rg_sil 1 1), (1, rg_sic 3 1), (2, rg_sklt 10), (5, rg_sil 1 1), (6, rg_sic 5 1), (7, rg_skle 12), (10, rg_sK [false, false] (rg_sic 0 1)), (11, rg_rz), (12, rg_sal 0 1), (13, rg_sil 1 1), (14, rg_spi 7 6), (17, rg_sal 0 1), (18, rg_sic 0 1), (19, rg_spi 7 4), (22, rg_sal 0 1), (23, rg_sic 0 1), (24, rg_spi 7 5), (27, rg_sal 0 1), (28, rg_sic 2 1), (29, rg_scV 20 1 0 7), (32, rg_sic 1 1), (33, rg_rz)]
theorem rg_o28_0 : ∀ q ∈ rg_c28_0, rg_Ok 28 q.1 q.2 :=
  rg_fc (rg_ok_iload_n (j := 1) (by decide +kernel) rfl) <|
  rg_fc (rg_ok_iconst (n := 3) (by decide +kernel) (by decide +kernel)) <|
  rg_fc (rg_ok_icmp_lt (off := 8) (by decide +kernel) (by decide +kernel)) <|
  rg_fc (rg_ok_iload_n (j := 1) (by decide +kernel) rfl) <|
  rg_fc (rg_ok_iconst (n := 5) (by decide +kernel) (by decide +kernel)) <|
  rg_fc (rg_ok_icmp_le (off := 5) (by decide +kernel) (by decide +kernel)) <|
  rg_fc (rg_okK _ (rg_ok_iconst (n := 0) (by decide +kernel) (by decide +kernel))) <|
  rg_fc (rg_ok_zreturn (by decide +kernel) rfl) <|
  rg_fc (rg_ok_aload_n (j := 0) (by decide +kernel) rfl) <|
  rg_fc (rg_ok_iload_n (j := 1) (by decide +kernel) rfl) <|
  rg_fc (rg_ok_puti (idx := 83) rg_cok7 (by decide +kernel) rfl rfl rfl (by decide +kernel) rg_wf_M_83) <|
  rg_fc (rg_ok_aload_n (j := 0) (by decide +kernel) rfl) <|
  rg_fc (rg_ok_iconst (n := 0) (by decide +kernel) (by decide +kernel)) <|
  rg_fc (rg_ok_puti (idx := 86) rg_cok7 (by decide +kernel) rfl rfl rfl (by decide +kernel) rg_wf_M_86) <|
  rg_fc (rg_ok_aload_n (j := 0) (by decide +kernel) rfl) <|
  rg_fc (rg_ok_iconst (n := 0) (by decide +kernel) (by decide +kernel)) <|
  rg_fc (rg_ok_puti (idx := 89) rg_cok7 (by decide +kernel) rfl rfl rfl (by decide +kernel) rg_wf_M_89) <|
  rg_fc (rg_ok_aload_n (j := 0) (by decide +kernel) rfl) <|
  rg_fc (rg_ok_iconst (n := 2) (by decide +kernel) (by decide +kernel)) <|
  rg_fc (rg_ok_callV (idx := 104) rg_cok7 (by decide +kernel) (by decide +kernel) rg_wm_M_104 rg_wj_20 rg_ws_20 rg_wz_7 rg_wd_20 ⟨by decide +kernel, by decide +kernel, by decide +kernel, by decide +kernel⟩ (by decide +kernel) (by decide +kernel)) <|
  rg_fc (rg_ok_iconst (n := 1) (by decide +kernel) (by decide +kernel)) <|
  rg_fc (rg_ok_zreturn (by decide +kernel) rfl) <|
  fun _ h => absurd h List.not_mem_nil
def rg_kd28 : List (List (Nat × rg_S)) := [rg_c28_0]
theorem rg_o28 : ∀ pc f, rg_lk2 rg_kd28 pc = some f → rg_Ok 28 pc f := rg_lk2_ok (rg_fd rg_o28_0 (fun _ h => absurd h List.not_mem_nil))
def rg_c67_0 : List (Nat × rg_S) := [(0, rg_sal 0 1), (1, rg_sgi 7 3), (4, rg_sic 2 1), (5, rg_skne 12), (8, rg_sic 2 1), (9, rg_sgo 27), (12, rg_sil 1 1), (13, rg_sjne 23), (16, rg_sal 0 1), (17, rg_sgi 7 4), (20, rg_sgo 27), (23, rg_sal 0 1), (24, rg_sgi 7 5), (27, rg_sK [false, false] (rg_ri))]
theorem rg_o67_0 : ∀ q ∈ rg_c67_0, rg_Ok 67 q.1 q.2 :=
  rg_fc (rg_ok_aload_n (j := 0) (by decide +kernel) rfl) <|
  rg_fc (rg_ok_geti (idx := 79) rg_cok7 (by decide +kernel) rfl (by decide +kernel) rg_wf_M_79) <|
  rg_fc (rg_ok_iconst (n := 2) (by decide +kernel) (by decide +kernel)) <|
  rg_fc (rg_ok_icmp_ne (off := 7) (by decide +kernel) (by decide +kernel)) <|
  rg_fc (rg_ok_iconst (n := 2) (by decide +kernel) (by decide +kernel)) <|
  rg_fc (rg_ok_goto (off := 18) (by decide +kernel) (by decide +kernel)) <|
  rg_fc (rg_ok_iload_n (j := 1) (by decide +kernel) rfl) <|
  rg_fc (rg_ok_if_ne (off := 10) (by decide +kernel) (by decide +kernel)) <|
  rg_fc (rg_ok_aload_n (j := 0) (by decide +kernel) rfl) <|
  rg_fc (rg_ok_geti (idx := 86) rg_cok7 (by decide +kernel) rfl (by decide +kernel) rg_wf_M_86) <|
  rg_fc (rg_ok_goto (off := 7) (by decide +kernel) (by decide +kernel)) <|
  rg_fc (rg_ok_aload_n (j := 0) (by decide +kernel) rfl) <|
  rg_fc (rg_ok_geti (idx := 89) rg_cok7 (by decide +kernel) rfl (by decide +kernel) rg_wf_M_89) <|
  rg_fc (rg_okK _ (rg_ok_ireturn (by decide +kernel) rfl)) <|
  fun _ h => absurd h List.not_mem_nil
def rg_kd67 : List (List (Nat × rg_S)) := [rg_c67_0]
theorem rg_o67 : ∀ pc f, rg_lk2 rg_kd67 pc = some f → rg_Ok 67 pc f := rg_lk2_ok (rg_fd rg_o67_0 (fun _ h => absurd h List.not_mem_nil))
def rg_c68_0 : List (Nat × rg_S) := [(0, rg_sal 0 1), (1, rg_sgi 7 3), (4, rg_sic 2 1), (5, rg_skne 16), (8, rg_sic 2 1), (9, rg_sil 1 1), (10, rg_s2i (fun x y => x * y)), (11, rg_sil 2 1), (12, rg_s2i (fun x y => x + y)), (13, rg_sgo 21), (16, rg_sic 5 1), (17, rg_sil 1 1), (18, rg_s2i (fun x y => x * y)), (19, rg_sil 2 1), (20, rg_s2i (fun x y => x + y)), (21, rg_sK [false, false, false] (rg_ri))]
theorem rg_o68_0 : ∀ q ∈ rg_c68_0, rg_Ok 68 q.1 q.2 :=
  rg_fc (rg_ok_aload_n (j := 0) (by decide +kernel) rfl) <|
  rg_fc (rg_ok_geti (idx := 79) rg_cok7 (by decide +kernel) rfl (by decide +kernel) rg_wf_M_79) <|
  rg_fc (rg_ok_iconst (n := 2) (by decide +kernel) (by decide +kernel)) <|
  rg_fc (rg_ok_icmp_ne (off := 11) (by decide +kernel) (by decide +kernel)) <|
  rg_fc (rg_ok_iconst (n := 2) (by decide +kernel) (by decide +kernel)) <|
  rg_fc (rg_ok_iload_n (j := 1) (by decide +kernel) rfl) <|
  rg_fc (rg_ok_imul (by decide +kernel)) <|
  rg_fc (rg_ok_iload_n (j := 2) (by decide +kernel) rfl) <|
  rg_fc (rg_ok_iadd (by decide +kernel)) <|
  rg_fc (rg_ok_goto (off := 8) (by decide +kernel) (by decide +kernel)) <|
  rg_fc (rg_ok_iconst (n := 5) (by decide +kernel) (by decide +kernel)) <|
  rg_fc (rg_ok_iload_n (j := 1) (by decide +kernel) rfl) <|
  rg_fc (rg_ok_imul (by decide +kernel)) <|
  rg_fc (rg_ok_iload_n (j := 2) (by decide +kernel) rfl) <|
  rg_fc (rg_ok_iadd (by decide +kernel)) <|
  rg_fc (rg_okK _ (rg_ok_ireturn (by decide +kernel) rfl)) <|
  fun _ h => absurd h List.not_mem_nil
def rg_kd68 : List (List (Nat × rg_S)) := [rg_c68_0]
theorem rg_o68 : ∀ pc f, rg_lk2 rg_kd68 pc = some f → rg_Ok 68 pc f := rg_lk2_ok (rg_fd rg_o68_0 (fun _ h => absurd h List.not_mem_nil))
def rg_c69_0 : List (Nat × rg_S) := [(0, rg_sil 1 1), (1, rg_sil 2 1), (2, rg_skne 6), (5, rg_rv), (6, rg_sic 0 1), (7, rg_sis 3 1), (8, rg_sK [true, true, true, true] (rg_sil 3 1)), (9, rg_sal 0 1), (10, rg_sgr 7 1), (13, rg_sil 1 1), (14, rg_sai), (15, rg_skge 46), (18, rg_sal 0 1), (19, rg_sgr 7 0), (22, rg_sil 2 1), (23, rg_scS 9 1 1), (26, rg_sil 3 1), (27, rg_s2i (fun x y => x + y)), (28, rg_sal 0 1), (29, rg_sgr 7 0), (32, rg_sil 1 1), (33, rg_scS 9 1 1), (36, rg_sil 3 1), (37, rg_s2i (fun x y => x + y)), (38, rg_sai)]
theorem rg_o69_0 : ∀ q ∈ rg_c69_0, rg_Ok 69 q.1 q.2 :=
  rg_fc (rg_ok_iload_n (j := 1) (by decide +kernel) rfl) <|
  rg_fc (rg_ok_iload_n (j := 2) (by decide +kernel) rfl) <|
  rg_fc (rg_ok_icmp_ne (off := 4) (by decide +kernel) (by decide +kernel)) <|
  rg_fc (rg_ok_return (by decide +kernel) rfl) <|
  rg_fc (rg_ok_iconst (n := 0) (by decide +kernel) (by decide +kernel)) <|
  rg_fc (rg_ok_istore_n (j := 3) (by decide +kernel) rfl (by decide +kernel)) <|
  rg_fc (rg_okK _ (rg_ok_iload_n (j := 3) (by decide +kernel) rfl)) <|
  rg_fc (rg_ok_aload_n (j := 0) (by decide +kernel) rfl) <|
  rg_fc (rg_ok_getr (idx := 14) rg_cok7 (by decide +kernel) rfl (by decide +kernel) rg_wf_M_14) <|
  rg_fc (rg_ok_iload_n (j := 1) (by decide +kernel) rfl) <|
  rg_fc (rg_ok_iaload (by decide +kernel)) <|
  rg_fc (rg_ok_icmp_ge (off := 31) (by decide +kernel) (by decide +kernel)) <|
  rg_fc (rg_ok_aload_n (j := 0) (by decide +kernel) rfl) <|
  rg_fc (rg_ok_getr (idx := 8) rg_cok7 (by decide +kernel) rfl (by decide +kernel) rg_wf_M_8) <|
  rg_fc (rg_ok_iload_n (j := 2) (by decide +kernel) rfl) <|
  rg_fc (rg_ok_callS (idx := 32) (by decide +kernel) (by decide +kernel) rg_wm_M_32 rg_wt_9 rg_wy_9 rg_wd_9 ⟨by decide +kernel, by decide +kernel, by decide +kernel⟩ (by decide +kernel) (by decide +kernel)) <|
  rg_fc (rg_ok_iload_n (j := 3) (by decide +kernel) rfl) <|
  rg_fc (rg_ok_iadd (by decide +kernel)) <|
  rg_fc (rg_ok_aload_n (j := 0) (by decide +kernel) rfl) <|
  rg_fc (rg_ok_getr (idx := 8) rg_cok7 (by decide +kernel) rfl (by decide +kernel) rg_wf_M_8) <|
  rg_fc (rg_ok_iload_n (j := 1) (by decide +kernel) rfl) <|
  rg_fc (rg_ok_callS (idx := 32) (by decide +kernel) (by decide +kernel) rg_wm_M_32 rg_wt_9 rg_wy_9 rg_wd_9 ⟨by decide +kernel, by decide +kernel, by decide +kernel⟩ (by decide +kernel) (by decide +kernel)) <|
  rg_fc (rg_ok_iload_n (j := 3) (by decide +kernel) rfl) <|
  rg_fc (rg_ok_iadd (by decide +kernel)) <|
  rg_fc (rg_ok_iaload (by decide +kernel)) <|
  fun _ h => absurd h List.not_mem_nil
def rg_c69_1 : List (Nat × rg_S) := [(39, rg_swi), (40, rg_sin 3 1), (43, rg_sgo 8), (46, rg_sal 0 1), (47, rg_sgr 7 1), (50, rg_sil 2 1), (51, rg_sal 0 1), (52, rg_sgr 7 1), (55, rg_sil 1 1), (56, rg_sai), (57, rg_swi), (58, rg_sal 0 1), (59, rg_sgr 7 2), (62, rg_sil 2 1), (63, rg_sal 0 1), (64, rg_sgr 7 2), (67, rg_sil 1 1), (68, rg_sai), (69, rg_swi), (70, rg_rv)]
theorem rg_o69_1 : ∀ q ∈ rg_c69_1, rg_Ok 69 q.1 q.2 :=
  rg_fc (rg_ok_iastore (by decide +kernel)) <|
  rg_fc (rg_ok_iinc (n := 1) (by decide +kernel) (by decide +kernel) (by decide +kernel)) <|
  rg_fc (rg_ok_goto (off := (-35)) (by decide +kernel) (by decide +kernel)) <|
  rg_fc (rg_ok_aload_n (j := 0) (by decide +kernel) rfl) <|
  rg_fc (rg_ok_getr (idx := 14) rg_cok7 (by decide +kernel) rfl (by decide +kernel) rg_wf_M_14) <|
  rg_fc (rg_ok_iload_n (j := 2) (by decide +kernel) rfl) <|
  rg_fc (rg_ok_aload_n (j := 0) (by decide +kernel) rfl) <|
  rg_fc (rg_ok_getr (idx := 14) rg_cok7 (by decide +kernel) rfl (by decide +kernel) rg_wf_M_14) <|
  rg_fc (rg_ok_iload_n (j := 1) (by decide +kernel) rfl) <|
  rg_fc (rg_ok_iaload (by decide +kernel)) <|
  rg_fc (rg_ok_iastore (by decide +kernel)) <|
  rg_fc (rg_ok_aload_n (j := 0) (by decide +kernel) rfl) <|
  rg_fc (rg_ok_getr (idx := 17) rg_cok7 (by decide +kernel) rfl (by decide +kernel) rg_wf_M_17) <|
  rg_fc (rg_ok_iload_n (j := 2) (by decide +kernel) rfl) <|
  rg_fc (rg_ok_aload_n (j := 0) (by decide +kernel) rfl) <|
  rg_fc (rg_ok_getr (idx := 17) rg_cok7 (by decide +kernel) rfl (by decide +kernel) rg_wf_M_17) <|
  rg_fc (rg_ok_iload_n (j := 1) (by decide +kernel) rfl) <|
  rg_fc (rg_ok_iaload (by decide +kernel)) <|
  rg_fc (rg_ok_iastore (by decide +kernel)) <|
  rg_fc (rg_ok_return (by decide +kernel) rfl) <|
  fun _ h => absurd h List.not_mem_nil
def rg_kd69 : List (List (Nat × rg_S)) := [rg_c69_0, rg_c69_1]
theorem rg_o69 : ∀ pc f, rg_lk2 rg_kd69 pc = some f → rg_Ok 69 pc f := rg_lk2_ok (rg_fd rg_o69_0 (rg_fd rg_o69_1 (fun _ h => absurd h List.not_mem_nil)))
def rg_c70_0 : List (Nat × rg_S) := [(0, rg_sil 2 1), (1, rg_sal 0 1), (2, rg_sgr 7 1), (5, rg_sil 1 1), (6, rg_sai), (7, rg_skge 29), (10, rg_sal 0 1), (11, rg_sgr 7 0), (14, rg_sil 1 1), (15, rg_scS 9 1 1), (18, rg_sil 2 1), (19, rg_s2i (fun x y => x + y)), (20, rg_sai), (21, rg_si2l), (22, rg_slc 4294967295 3), (25, rg_s2l (fun x y => x &&& y)), (26, rg_sgo 30), (29, rg_slc 0 1), (30, rg_sK [false, false, false] (rg_rl))]
theorem rg_o70_0 : ∀ q ∈ rg_c70_0, rg_Ok 70 q.1 q.2 :=
  rg_fc (rg_ok_iload_n (j := 2) (by decide +kernel) rfl) <|
  rg_fc (rg_ok_aload_n (j := 0) (by decide +kernel) rfl) <|
  rg_fc (rg_ok_getr (idx := 14) rg_cok7 (by decide +kernel) rfl (by decide +kernel) rg_wf_M_14) <|
  rg_fc (rg_ok_iload_n (j := 1) (by decide +kernel) rfl) <|
  rg_fc (rg_ok_iaload (by decide +kernel)) <|
  rg_fc (rg_ok_icmp_ge (off := 22) (by decide +kernel) (by decide +kernel)) <|
  rg_fc (rg_ok_aload_n (j := 0) (by decide +kernel) rfl) <|
  rg_fc (rg_ok_getr (idx := 8) rg_cok7 (by decide +kernel) rfl (by decide +kernel) rg_wf_M_8) <|
  rg_fc (rg_ok_iload_n (j := 1) (by decide +kernel) rfl) <|
  rg_fc (rg_ok_callS (idx := 32) (by decide +kernel) (by decide +kernel) rg_wm_M_32 rg_wt_9 rg_wy_9 rg_wd_9 ⟨by decide +kernel, by decide +kernel, by decide +kernel⟩ (by decide +kernel) (by decide +kernel)) <|
  rg_fc (rg_ok_iload_n (j := 2) (by decide +kernel) rfl) <|
  rg_fc (rg_ok_iadd (by decide +kernel)) <|
  rg_fc (rg_ok_iaload (by decide +kernel)) <|
  rg_fc (rg_ok_i2l (by decide +kernel)) <|
  rg_fc (rg_ok_ldc2 (n := 36) (by decide +kernel) rg_wc_M_36) <|
  rg_fc (rg_ok_land (by decide +kernel)) <|
  rg_fc (rg_ok_goto (off := 4) (by decide +kernel) (by decide +kernel)) <|
  rg_fc (rg_ok_lconst (n := 0) (by decide +kernel) (by decide +kernel)) <|
  rg_fc (rg_okK _ (rg_ok_lreturn (by decide +kernel) rfl)) <|
  fun _ h => absurd h List.not_mem_nil
def rg_kd70 : List (List (Nat × rg_S)) := [rg_c70_0]
theorem rg_o70 : ∀ pc f, rg_lk2 rg_kd70 pc = some f → rg_Ok 70 pc f := rg_lk2_ok (rg_fd rg_o70_0 (fun _ h => absurd h List.not_mem_nil))
def rg_c71_0 : List (Nat × rg_S) := [(0, rg_sal 0 1), (1, rg_sgr 7 1), (4, rg_sil 1 1), (5, rg_sai), (6, rg_sal 0 1), (7, rg_sgr 7 1), (10, rg_sil 2 1), (11, rg_sai), (12, rg_s2i (fun x y => x + y)), (13, rg_sis 4 2), (15, rg_sic 0 1), (16, rg_sis 5 2), (18, rg_sK [true, true, true, true, true, true, false, false, false, false, false, false, false, false] (rg_sil 5 2)), (20, rg_sil 4 2), (22, rg_skge 44), (25, rg_sal 0 1), (26, rg_sgr 7 0), (29, rg_sil 3 1), (30, rg_scS 9 1 1), (33, rg_sil 5 2), (35, rg_s2i (fun x y => x + y)), (36, rg_sic 0 1), (37, rg_swi), (38, rg_sin 5 1), (41, rg_sgo 18)]
theorem rg_o71_0 : ∀ q ∈ rg_c71_0, rg_Ok 71 q.1 q.2 :=
  rg_fc (rg_ok_aload_n (j := 0) (by decide +kernel) rfl) <|
  rg_fc (rg_ok_getr (idx := 14) rg_cok7 (by decide +kernel) rfl (by decide +kernel) rg_wf_M_14) <|
  rg_fc (rg_ok_iload_n (j := 1) (by decide +kernel) rfl) <|
  rg_fc (rg_ok_iaload (by decide +kernel)) <|
  rg_fc (rg_ok_aload_n (j := 0) (by decide +kernel) rfl) <|
  rg_fc (rg_ok_getr (idx := 14) rg_cok7 (by decide +kernel) rfl (by decide +kernel) rg_wf_M_14) <|
  rg_fc (rg_ok_iload_n (j := 2) (by decide +kernel) rfl) <|
  rg_fc (rg_ok_iaload (by decide +kernel)) <|
  rg_fc (rg_ok_iadd (by decide +kernel)) <|
  rg_fc (rg_ok_istore (i := 4) (by decide +kernel) (by decide +kernel)) <|
  rg_fc (rg_ok_iconst (n := 0) (by decide +kernel) (by decide +kernel)) <|
  rg_fc (rg_ok_istore (i := 5) (by decide +kernel) (by decide +kernel)) <|
  rg_fc (rg_okK _ (rg_ok_iload (i := 5) (by decide +kernel))) <|
  rg_fc (rg_ok_iload (i := 4) (by decide +kernel)) <|
  rg_fc (rg_ok_icmp_ge (off := 22) (by decide +kernel) (by decide +kernel)) <|
  rg_fc (rg_ok_aload_n (j := 0) (by decide +kernel) rfl) <|
  rg_fc (rg_ok_getr (idx := 8) rg_cok7 (by decide +kernel) rfl (by decide +kernel) rg_wf_M_8) <|
  rg_fc (rg_ok_iload_n (j := 3) (by decide +kernel) rfl) <|
  rg_fc (rg_ok_callS (idx := 32) (by decide +kernel) (by decide +kernel) rg_wm_M_32 rg_wt_9 rg_wy_9 rg_wd_9 ⟨by decide +kernel, by decide +kernel, by decide +kernel⟩ (by decide +kernel) (by decide +kernel)) <|
  rg_fc (rg_ok_iload (i := 5) (by decide +kernel)) <|
  rg_fc (rg_ok_iadd (by decide +kernel)) <|
  rg_fc (rg_ok_iconst (n := 0) (by decide +kernel) (by decide +kernel)) <|
  rg_fc (rg_ok_iastore (by decide +kernel)) <|
  rg_fc (rg_ok_iinc (n := 1) (by decide +kernel) (by decide +kernel) (by decide +kernel)) <|
  rg_fc (rg_ok_goto (off := (-23)) (by decide +kernel) (by decide +kernel)) <|
  fun _ h => absurd h List.not_mem_nil
def rg_c71_1 : List (Nat × rg_S) := [(44, rg_sic 0 1), (45, rg_sis 5 2), (47, rg_sK [true, true, true, true, true, true, false, false, false, false, false, false, false, false] (rg_sil 5 2)), (49, rg_sal 0 1), (50, rg_sgr 7 1), (53, rg_sil 1 1), (54, rg_sai), (55, rg_skge 183), (58, rg_sal 0 1), (59, rg_sil 1 1), (60, rg_sil 5 2), (62, rg_scV 70 2 2 7), (65, rg_sls 6 2), (67, rg_slc 0 1), (68, rg_sls 8 2), (70, rg_sil 3 1), (71, rg_scS 9 1 1), (74, rg_sil 5 2), (76, rg_s2i (fun x y => x + y)), (77, rg_sis 10 2), (79, rg_sic 0 1), (80, rg_sis 11 2), (82, rg_sK [true, true, true, true, true, true, true, false, true, false, true, true, false, false] (rg_sil 11 2)), (84, rg_sal 0 1), (85, rg_sgr 7 1)]
theorem rg_o71_1 : ∀ q ∈ rg_c71_1, rg_Ok 71 q.1 q.2 :=
  rg_fc (rg_ok_iconst (n := 0) (by decide +kernel) (by decide +kernel)) <|
  rg_fc (rg_ok_istore (i := 5) (by decide +kernel) (by decide +kernel)) <|
  rg_fc (rg_okK _ (rg_ok_iload (i := 5) (by decide +kernel))) <|
  rg_fc (rg_ok_aload_n (j := 0) (by decide +kernel) rfl) <|
  rg_fc (rg_ok_getr (idx := 14) rg_cok7 (by decide +kernel) rfl (by decide +kernel) rg_wf_M_14) <|
  rg_fc (rg_ok_iload_n (j := 1) (by decide +kernel) rfl) <|
  rg_fc (rg_ok_iaload (by decide +kernel)) <|
  rg_fc (rg_ok_icmp_ge (off := 128) (by decide +kernel) (by decide +kernel)) <|
  rg_fc (rg_ok_aload_n (j := 0) (by decide +kernel) rfl) <|
  rg_fc (rg_ok_iload_n (j := 1) (by decide +kernel) rfl) <|
  rg_fc (rg_ok_iload (i := 5) (by decide +kernel)) <|
  rg_fc (rg_ok_callV (idx := 42) rg_cok7 (by decide +kernel) (by decide +kernel) rg_wm_M_42 rg_wj_70 rg_ws_70 rg_wz_7 rg_wd_70 ⟨by decide +kernel, by decide +kernel, by decide +kernel, by decide +kernel⟩ (by decide +kernel) (by decide +kernel)) <|
  rg_fc (rg_ok_lstore (i := 6) (by decide +kernel) (by decide +kernel)) <|
  rg_fc (rg_ok_lconst (n := 0) (by decide +kernel) (by decide +kernel)) <|
  rg_fc (rg_ok_lstore (i := 8) (by decide +kernel) (by decide +kernel)) <|
  rg_fc (rg_ok_iload_n (j := 3) (by decide +kernel) rfl) <|
  rg_fc (rg_ok_callS (idx := 32) (by decide +kernel) (by decide +kernel) rg_wm_M_32 rg_wt_9 rg_wy_9 rg_wd_9 ⟨by decide +kernel, by decide +kernel, by decide +kernel⟩ (by decide +kernel) (by decide +kernel)) <|
  rg_fc (rg_ok_iload (i := 5) (by decide +kernel)) <|
  rg_fc (rg_ok_iadd (by decide +kernel)) <|
  rg_fc (rg_ok_istore (i := 10) (by decide +kernel) (by decide +kernel)) <|
  rg_fc (rg_ok_iconst (n := 0) (by decide +kernel) (by decide +kernel)) <|
  rg_fc (rg_ok_istore (i := 11) (by decide +kernel) (by decide +kernel)) <|
  rg_fc (rg_okK _ (rg_ok_iload (i := 11) (by decide +kernel))) <|
  rg_fc (rg_ok_aload_n (j := 0) (by decide +kernel) rfl) <|
  rg_fc (rg_ok_getr (idx := 14) rg_cok7 (by decide +kernel) rfl (by decide +kernel) rg_wf_M_14) <|
  fun _ h => absurd h List.not_mem_nil
def rg_c71_2 : List (Nat × rg_S) := [(88, rg_sil 2 1), (89, rg_sai), (90, rg_skge 160), (93, rg_sll 6 2), (95, rg_sal 0 1), (96, rg_sgr 7 0), (99, rg_sil 2 1), (100, rg_scS 9 1 1), (103, rg_sil 11 2), (105, rg_s2i (fun x y => x + y)), (106, rg_sai), (107, rg_si2l), (108, rg_slc 4294967295 3), (111, rg_s2l (fun x y => x &&& y)), (112, rg_s2l (fun x y => x * y)), (113, rg_sal 0 1), (114, rg_sgr 7 0), (117, rg_sil 10 2), (119, rg_sil 11 2), (121, rg_s2i (fun x y => x + y)), (122, rg_sai), (123, rg_si2l), (124, rg_slc 4294967295 3), (127, rg_s2l (fun x y => x &&& y)), (128, rg_s2l (fun x y => x + y))]
theorem rg_o71_2 : ∀ q ∈ rg_c71_2, rg_Ok 71 q.1 q.2 :=
  rg_fc (rg_ok_iload_n (j := 2) (by decide +kernel) rfl) <|
  rg_fc (rg_ok_iaload (by decide +kernel)) <|
  rg_fc (rg_ok_icmp_ge (off := 70) (by decide +kernel) (by decide +kernel)) <|
  rg_fc (rg_ok_lload (i := 6) (by decide +kernel)) <|
  rg_fc (rg_ok_aload_n (j := 0) (by decide +kernel) rfl) <|
  rg_fc (rg_ok_getr (idx := 8) rg_cok7 (by decide +kernel) rfl (by decide +kernel) rg_wf_M_8) <|
  rg_fc (rg_ok_iload_n (j := 2) (by decide +kernel) rfl) <|
  rg_fc (rg_ok_callS (idx := 32) (by decide +kernel) (by decide +kernel) rg_wm_M_32 rg_wt_9 rg_wy_9 rg_wd_9 ⟨by decide +kernel, by decide +kernel, by decide +kernel⟩ (by decide +kernel) (by decide +kernel)) <|
  rg_fc (rg_ok_iload (i := 11) (by decide +kernel)) <|
  rg_fc (rg_ok_iadd (by decide +kernel)) <|
  rg_fc (rg_ok_iaload (by decide +kernel)) <|
  rg_fc (rg_ok_i2l (by decide +kernel)) <|
  rg_fc (rg_ok_ldc2 (n := 36) (by decide +kernel) rg_wc_M_36) <|
  rg_fc (rg_ok_land (by decide +kernel)) <|
  rg_fc (rg_ok_lmul (by decide +kernel)) <|
  rg_fc (rg_ok_aload_n (j := 0) (by decide +kernel) rfl) <|
  rg_fc (rg_ok_getr (idx := 8) rg_cok7 (by decide +kernel) rfl (by decide +kernel) rg_wf_M_8) <|
  rg_fc (rg_ok_iload (i := 10) (by decide +kernel)) <|
  rg_fc (rg_ok_iload (i := 11) (by decide +kernel)) <|
  rg_fc (rg_ok_iadd (by decide +kernel)) <|
  rg_fc (rg_ok_iaload (by decide +kernel)) <|
  rg_fc (rg_ok_i2l (by decide +kernel)) <|
  rg_fc (rg_ok_ldc2 (n := 36) (by decide +kernel) rg_wc_M_36) <|
  rg_fc (rg_ok_land (by decide +kernel)) <|
  rg_fc (rg_ok_ladd (by decide +kernel)) <|
  fun _ h => absurd h List.not_mem_nil
def rg_c71_3 : List (Nat × rg_S) := [(129, rg_sll 8 2), (131, rg_s2l (fun x y => x + y)), (132, rg_sls 12 2), (134, rg_sal 0 1), (135, rg_sgr 7 0), (138, rg_sil 10 2), (140, rg_sil 11 2), (142, rg_s2i (fun x y => x + y)), (143, rg_sll 12 2), (145, rg_sl2i), (146, rg_swi), (147, rg_sll 12 2), (149, rg_sic 32 2), (151, rg_ssh (fun x y => (x.toUInt64 >>> (y.toInt64.toUInt64 &&& Int64.toUInt64 63)).toInt64)), (152, rg_sls 8 2), (154, rg_sin 11 1), (157, rg_sgo 82), (160, rg_sal 0 1), (161, rg_sgr 7 0), (164, rg_sil 10 2), (166, rg_sal 0 1), (167, rg_sgr 7 1), (170, rg_sil 2 1), (171, rg_sai), (172, rg_s2i (fun x y => x + y))]
theorem rg_o71_3 : ∀ q ∈ rg_c71_3, rg_Ok 71 q.1 q.2 :=
  rg_fc (rg_ok_lload (i := 8) (by decide +kernel)) <|
  rg_fc (rg_ok_ladd (by decide +kernel)) <|
  rg_fc (rg_ok_lstore (i := 12) (by decide +kernel) (by decide +kernel)) <|
  rg_fc (rg_ok_aload_n (j := 0) (by decide +kernel) rfl) <|
  rg_fc (rg_ok_getr (idx := 8) rg_cok7 (by decide +kernel) rfl (by decide +kernel) rg_wf_M_8) <|
  rg_fc (rg_ok_iload (i := 10) (by decide +kernel)) <|
  rg_fc (rg_ok_iload (i := 11) (by decide +kernel)) <|
  rg_fc (rg_ok_iadd (by decide +kernel)) <|
  rg_fc (rg_ok_lload (i := 12) (by decide +kernel)) <|
  rg_fc (rg_ok_l2i (by decide +kernel)) <|
  rg_fc (rg_ok_iastore (by decide +kernel)) <|
  rg_fc (rg_ok_lload (i := 12) (by decide +kernel)) <|
  rg_fc (rg_ok_bipush (n := 32) (by decide +kernel) (by decide +kernel)) <|
  rg_fc (rg_ok_lushr (by decide +kernel)) <|
  rg_fc (rg_ok_lstore (i := 8) (by decide +kernel) (by decide +kernel)) <|
  rg_fc (rg_ok_iinc (n := 1) (by decide +kernel) (by decide +kernel) (by decide +kernel)) <|
  rg_fc (rg_ok_goto (off := (-75)) (by decide +kernel) (by decide +kernel)) <|
  rg_fc (rg_ok_aload_n (j := 0) (by decide +kernel) rfl) <|
  rg_fc (rg_ok_getr (idx := 8) rg_cok7 (by decide +kernel) rfl (by decide +kernel) rg_wf_M_8) <|
  rg_fc (rg_ok_iload (i := 10) (by decide +kernel)) <|
  rg_fc (rg_ok_aload_n (j := 0) (by decide +kernel) rfl) <|
  rg_fc (rg_ok_getr (idx := 14) rg_cok7 (by decide +kernel) rfl (by decide +kernel) rg_wf_M_14) <|
  rg_fc (rg_ok_iload_n (j := 2) (by decide +kernel) rfl) <|
  rg_fc (rg_ok_iaload (by decide +kernel)) <|
  rg_fc (rg_ok_iadd (by decide +kernel)) <|
  fun _ h => absurd h List.not_mem_nil
def rg_c71_4 : List (Nat × rg_S) := [(173, rg_sll 8 2), (175, rg_sl2i), (176, rg_swi), (177, rg_sin 5 1), (180, rg_sgo 47), (183, rg_sal 0 1), (184, rg_sgr 7 1), (187, rg_sil 3 1), (188, rg_sil 4 2), (190, rg_swi), (191, rg_sal 0 1), (192, rg_sgr 7 2), (195, rg_sil 3 1), (196, rg_sal 0 1), (197, rg_sgr 7 2), (200, rg_sil 1 1), (201, rg_sai), (202, rg_sal 0 1), (203, rg_sgr 7 2), (206, rg_sil 2 1), (207, rg_sai), (208, rg_s2i (fun x y => x * y)), (209, rg_swi), (210, rg_sal 0 1), (211, rg_sil 3 1)]
theorem rg_o71_4 : ∀ q ∈ rg_c71_4, rg_Ok 71 q.1 q.2 :=
  rg_fc (rg_ok_lload (i := 8) (by decide +kernel)) <|
  rg_fc (rg_ok_l2i (by decide +kernel)) <|
  rg_fc (rg_ok_iastore (by decide +kernel)) <|
  rg_fc (rg_ok_iinc (n := 1) (by decide +kernel) (by decide +kernel) (by decide +kernel)) <|
  rg_fc (rg_ok_goto (off := (-133)) (by decide +kernel) (by decide +kernel)) <|
  rg_fc (rg_ok_aload_n (j := 0) (by decide +kernel) rfl) <|
  rg_fc (rg_ok_getr (idx := 14) rg_cok7 (by decide +kernel) rfl (by decide +kernel) rg_wf_M_14) <|
  rg_fc (rg_ok_iload_n (j := 3) (by decide +kernel) rfl) <|
  rg_fc (rg_ok_iload (i := 4) (by decide +kernel)) <|
  rg_fc (rg_ok_iastore (by decide +kernel)) <|
  rg_fc (rg_ok_aload_n (j := 0) (by decide +kernel) rfl) <|
  rg_fc (rg_ok_getr (idx := 17) rg_cok7 (by decide +kernel) rfl (by decide +kernel) rg_wf_M_17) <|
  rg_fc (rg_ok_iload_n (j := 3) (by decide +kernel) rfl) <|
  rg_fc (rg_ok_aload_n (j := 0) (by decide +kernel) rfl) <|
  rg_fc (rg_ok_getr (idx := 17) rg_cok7 (by decide +kernel) rfl (by decide +kernel) rg_wf_M_17) <|
  rg_fc (rg_ok_iload_n (j := 1) (by decide +kernel) rfl) <|
  rg_fc (rg_ok_iaload (by decide +kernel)) <|
  rg_fc (rg_ok_aload_n (j := 0) (by decide +kernel) rfl) <|
  rg_fc (rg_ok_getr (idx := 17) rg_cok7 (by decide +kernel) rfl (by decide +kernel) rg_wf_M_17) <|
  rg_fc (rg_ok_iload_n (j := 2) (by decide +kernel) rfl) <|
  rg_fc (rg_ok_iaload (by decide +kernel)) <|
  rg_fc (rg_ok_imul (by decide +kernel)) <|
  rg_fc (rg_ok_iastore (by decide +kernel)) <|
  rg_fc (rg_ok_aload_n (j := 0) (by decide +kernel) rfl) <|
  rg_fc (rg_ok_iload_n (j := 3) (by decide +kernel) rfl) <|
  fun _ h => absurd h List.not_mem_nil
def rg_c71_5 : List (Nat × rg_S) := [(212, rg_scV 10 1 0 7), (215, rg_rv)]
theorem rg_o71_5 : ∀ q ∈ rg_c71_5, rg_Ok 71 q.1 q.2 :=
  rg_fc (rg_ok_callV (idx := 38) rg_cok7 (by decide +kernel) (by decide +kernel) rg_wm_M_38 rg_wj_10 rg_ws_10 rg_wz_7 rg_wd_10 ⟨by decide +kernel, by decide +kernel, by decide +kernel, by decide +kernel⟩ (by decide +kernel) (by decide +kernel)) <|
  rg_fc (rg_ok_return (by decide +kernel) rfl) <|
  fun _ h => absurd h List.not_mem_nil
def rg_kd71 : List (List (Nat × rg_S)) := [rg_c71_0, rg_c71_1, rg_c71_2, rg_c71_3, rg_c71_4, rg_c71_5]
theorem rg_o71 : ∀ pc f, rg_lk2 rg_kd71 pc = some f → rg_Ok 71 pc f := rg_lk2_ok (rg_fd rg_o71_0 (rg_fd rg_o71_1 (rg_fd rg_o71_2 (rg_fd rg_o71_3 (rg_fd rg_o71_4 (rg_fd rg_o71_5 (fun _ h => absurd h List.not_mem_nil)))))))
def rg_c72_0 : List (Nat × rg_S) := [(0, rg_sic 0 1), (1, rg_sis 2 1), (2, rg_sK [true, true, true] (rg_sal 0 1)), (3, rg_sil 1 1), (4, rg_sil 2 1), (5, rg_sic 32 2), (7, rg_sdi (fun x y => x / y)), (8, rg_scV 70 2 2 7), (11, rg_slc 0 1), (12, rg_scm), (13, rg_sjne 22), (16, rg_sin 2 32), (19, rg_sgo 2), (22, rg_sK [true, true, true] (rg_sal 0 1)), (23, rg_sil 1 1), (24, rg_sil 2 1), (25, rg_sic 32 2), (27, rg_sdi (fun x y => x / y)), (28, rg_scV 70 2 2 7), (31, rg_sil 2 1), (32, rg_sic 32 2), (34, rg_sdi (fun x y => x - x / y * y)), (35, rg_ssh (fun x y => x >>> (y.toInt64 &&& 63))), (36, rg_slc 1 1), (37, rg_s2l (fun x y => x &&& y))]
theorem rg_o72_0 : ∀ q ∈ rg_c72_0, rg_Ok 72 q.1 q.2 :=
  rg_fc (rg_ok_iconst (n := 0) (by decide +kernel) (by decide +kernel)) <|
  rg_fc (rg_ok_istore_n (j := 2) (by decide +kernel) rfl (by decide +kernel)) <|
  rg_fc (rg_okK _ (rg_ok_aload_n (j := 0) (by decide +kernel) rfl)) <|
  rg_fc (rg_ok_iload_n (j := 1) (by decide +kernel) rfl) <|
  rg_fc (rg_ok_iload_n (j := 2) (by decide +kernel) rfl) <|
  rg_fc (rg_ok_bipush (n := 32) (by decide +kernel) (by decide +kernel)) <|
  rg_fc (rg_ok_idiv (by decide +kernel)) <|
  rg_fc (rg_ok_callV (idx := 42) rg_cok7 (by decide +kernel) (by decide +kernel) rg_wm_M_42 rg_wj_70 rg_ws_70 rg_wz_7 rg_wd_70 ⟨by decide +kernel, by decide +kernel, by decide +kernel, by decide +kernel⟩ (by decide +kernel) (by decide +kernel)) <|
  rg_fc (rg_ok_lconst (n := 0) (by decide +kernel) (by decide +kernel)) <|
  rg_fc (rg_ok_lcmp (by decide +kernel)) <|
  rg_fc (rg_ok_if_ne (off := 9) (by decide +kernel) (by decide +kernel)) <|
  rg_fc (rg_ok_iinc (n := 32) (by decide +kernel) (by decide +kernel) (by decide +kernel)) <|
  rg_fc (rg_ok_goto (off := (-17)) (by decide +kernel) (by decide +kernel)) <|
  rg_fc (rg_okK _ (rg_ok_aload_n (j := 0) (by decide +kernel) rfl)) <|
  rg_fc (rg_ok_iload_n (j := 1) (by decide +kernel) rfl) <|
  rg_fc (rg_ok_iload_n (j := 2) (by decide +kernel) rfl) <|
  rg_fc (rg_ok_bipush (n := 32) (by decide +kernel) (by decide +kernel)) <|
  rg_fc (rg_ok_idiv (by decide +kernel)) <|
  rg_fc (rg_ok_callV (idx := 42) rg_cok7 (by decide +kernel) (by decide +kernel) rg_wm_M_42 rg_wj_70 rg_ws_70 rg_wz_7 rg_wd_70 ⟨by decide +kernel, by decide +kernel, by decide +kernel, by decide +kernel⟩ (by decide +kernel) (by decide +kernel)) <|
  rg_fc (rg_ok_iload_n (j := 2) (by decide +kernel) rfl) <|
  rg_fc (rg_ok_bipush (n := 32) (by decide +kernel) (by decide +kernel)) <|
  rg_fc (rg_ok_irem (by decide +kernel)) <|
  rg_fc (rg_ok_lshr (by decide +kernel)) <|
  rg_fc (rg_ok_lconst (n := 1) (by decide +kernel) (by decide +kernel)) <|
  rg_fc (rg_ok_land (by decide +kernel)) <|
  fun _ h => absurd h List.not_mem_nil
def rg_c72_1 : List (Nat × rg_S) := [(38, rg_slc 0 1), (39, rg_scm), (40, rg_sjne 49), (43, rg_sin 2 1), (46, rg_sgo 22), (49, rg_sil 2 1), (50, rg_ri)]
theorem rg_o72_1 : ∀ q ∈ rg_c72_1, rg_Ok 72 q.1 q.2 :=
  rg_fc (rg_ok_lconst (n := 0) (by decide +kernel) (by decide +kernel)) <|
  rg_fc (rg_ok_lcmp (by decide +kernel)) <|
  rg_fc (rg_ok_if_ne (off := 9) (by decide +kernel) (by decide +kernel)) <|
  rg_fc (rg_ok_iinc (n := 1) (by decide +kernel) (by decide +kernel) (by decide +kernel)) <|
  rg_fc (rg_ok_goto (off := (-24)) (by decide +kernel) (by decide +kernel)) <|
  rg_fc (rg_ok_iload_n (j := 2) (by decide +kernel) rfl) <|
  rg_fc (rg_ok_ireturn (by decide +kernel) rfl) <|
  fun _ h => absurd h List.not_mem_nil
def rg_kd72 : List (List (Nat × rg_S)) := [rg_c72_0, rg_c72_1]
theorem rg_o72 : ∀ pc f, rg_lk2 rg_kd72 pc = some f → rg_Ok 72 pc f := rg_lk2_ok (rg_fd rg_o72_0 (rg_fd rg_o72_1 (fun _ h => absurd h List.not_mem_nil)))
def rg_c73_0 : List (Nat × rg_S) := [(0, rg_sil 2 1), (1, rg_sic 32 2), (3, rg_sdi (fun x y => x / y)), (4, rg_sis 3 1), (5, rg_sil 2 1), (6, rg_sic 32 2), (8, rg_sdi (fun x y => x - x / y * y)), (9, rg_sis 4 2), (11, rg_sal 0 1), (12, rg_sgr 7 1), (15, rg_sil 1 1), (16, rg_sai), (17, rg_sil 3 1), (18, rg_s2i (fun x y => x - y)), (19, rg_sis 5 2), (21, rg_sic 0 1), (22, rg_sis 6 2), (24, rg_sK [true, true, false, true, true, true, true, false, false, false, false] (rg_sil 6 2)), (26, rg_sil 5 2), (28, rg_skge 124), (31, rg_sal 0 1), (32, rg_sgr 7 0), (35, rg_sil 1 1), (36, rg_scS 9 1 1), (39, rg_sil 6 2)]
theorem rg_o73_0 : ∀ q ∈ rg_c73_0, rg_Ok 73 q.1 q.2 :=
  rg_fc (rg_ok_iload_n (j := 2) (by decide +kernel) rfl) <|
  rg_fc (rg_ok_bipush (n := 32) (by decide +kernel) (by decide +kernel)) <|
  rg_fc (rg_ok_idiv (by decide +kernel)) <|
  rg_fc (rg_ok_istore_n (j := 3) (by decide +kernel) rfl (by decide +kernel)) <|
  rg_fc (rg_ok_iload_n (j := 2) (by decide +kernel) rfl) <|
  rg_fc (rg_ok_bipush (n := 32) (by decide +kernel) (by decide +kernel)) <|
  rg_fc (rg_ok_irem (by decide +kernel)) <|
  rg_fc (rg_ok_istore (i := 4) (by decide +kernel) (by decide +kernel)) <|
  rg_fc (rg_ok_aload_n (j := 0) (by decide +kernel) rfl) <|
  rg_fc (rg_ok_getr (idx := 14) rg_cok7 (by decide +kernel) rfl (by decide +kernel) rg_wf_M_14) <|
  rg_fc (rg_ok_iload_n (j := 1) (by decide +kernel) rfl) <|
  rg_fc (rg_ok_iaload (by decide +kernel)) <|
  rg_fc (rg_ok_iload_n (j := 3) (by decide +kernel) rfl) <|
  rg_fc (rg_ok_isub (by decide +kernel)) <|
  rg_fc (rg_ok_istore (i := 5) (by decide +kernel) (by decide +kernel)) <|
  rg_fc (rg_ok_iconst (n := 0) (by decide +kernel) (by decide +kernel)) <|
  rg_fc (rg_ok_istore (i := 6) (by decide +kernel) (by decide +kernel)) <|
  rg_fc (rg_okK _ (rg_ok_iload (i := 6) (by decide +kernel))) <|
  rg_fc (rg_ok_iload (i := 5) (by decide +kernel)) <|
  rg_fc (rg_ok_icmp_ge (off := 96) (by decide +kernel) (by decide +kernel)) <|
  rg_fc (rg_ok_aload_n (j := 0) (by decide +kernel) rfl) <|
  rg_fc (rg_ok_getr (idx := 8) rg_cok7 (by decide +kernel) rfl (by decide +kernel) rg_wf_M_8) <|
  rg_fc (rg_ok_iload_n (j := 1) (by decide +kernel) rfl) <|
  rg_fc (rg_ok_callS (idx := 32) (by decide +kernel) (by decide +kernel) rg_wm_M_32 rg_wt_9 rg_wy_9 rg_wd_9 ⟨by decide +kernel, by decide +kernel, by decide +kernel⟩ (by decide +kernel) (by decide +kernel)) <|
  rg_fc (rg_ok_iload (i := 6) (by decide +kernel)) <|
  fun _ h => absurd h List.not_mem_nil
def rg_c73_1 : List (Nat × rg_S) := [(41, rg_s2i (fun x y => x + y)), (42, rg_sil 3 1), (43, rg_s2i (fun x y => x + y)), (44, rg_sai), (45, rg_si2l), (46, rg_slc 4294967295 3), (49, rg_s2l (fun x y => x &&& y)), (50, rg_sls 7 2), (52, rg_sil 6 2), (54, rg_sil 3 1), (55, rg_s2i (fun x y => x + y)), (56, rg_sic 1 1), (57, rg_s2i (fun x y => x + y)), (58, rg_sal 0 1), (59, rg_sgr 7 1), (62, rg_sil 1 1), (63, rg_sai), (64, rg_skge 91), (67, rg_sal 0 1), (68, rg_sgr 7 0), (71, rg_sil 1 1), (72, rg_scS 9 1 1), (75, rg_sil 6 2), (77, rg_s2i (fun x y => x + y)), (78, rg_sil 3 1)]
theorem rg_o73_1 : ∀ q ∈ rg_c73_1, rg_Ok 73 q.1 q.2 :=
  rg_fc (rg_ok_iadd (by decide +kernel)) <|
  rg_fc (rg_ok_iload_n (j := 3) (by decide +kernel) rfl) <|
  rg_fc (rg_ok_iadd (by decide +kernel)) <|
  rg_fc (rg_ok_iaload (by decide +kernel)) <|
  rg_fc (rg_ok_i2l (by decide +kernel)) <|
  rg_fc (rg_ok_ldc2 (n := 36) (by decide +kernel) rg_wc_M_36) <|
  rg_fc (rg_ok_land (by decide +kernel)) <|
  rg_fc (rg_ok_lstore (i := 7) (by decide +kernel) (by decide +kernel)) <|
  rg_fc (rg_ok_iload (i := 6) (by decide +kernel)) <|
  rg_fc (rg_ok_iload_n (j := 3) (by decide +kernel) rfl) <|
  rg_fc (rg_ok_iadd (by decide +kernel)) <|
  rg_fc (rg_ok_iconst (n := 1) (by decide +kernel) (by decide +kernel)) <|
  rg_fc (rg_ok_iadd (by decide +kernel)) <|
  rg_fc (rg_ok_aload_n (j := 0) (by decide +kernel) rfl) <|
  rg_fc (rg_ok_getr (idx := 14) rg_cok7 (by decide +kernel) rfl (by decide +kernel) rg_wf_M_14) <|
  rg_fc (rg_ok_iload_n (j := 1) (by decide +kernel) rfl) <|
  rg_fc (rg_ok_iaload (by decide +kernel)) <|
  rg_fc (rg_ok_icmp_ge (off := 27) (by decide +kernel) (by decide +kernel)) <|
  rg_fc (rg_ok_aload_n (j := 0) (by decide +kernel) rfl) <|
  rg_fc (rg_ok_getr (idx := 8) rg_cok7 (by decide +kernel) rfl (by decide +kernel) rg_wf_M_8) <|
  rg_fc (rg_ok_iload_n (j := 1) (by decide +kernel) rfl) <|
  rg_fc (rg_ok_callS (idx := 32) (by decide +kernel) (by decide +kernel) rg_wm_M_32 rg_wt_9 rg_wy_9 rg_wd_9 ⟨by decide +kernel, by decide +kernel, by decide +kernel⟩ (by decide +kernel) (by decide +kernel)) <|
  rg_fc (rg_ok_iload (i := 6) (by decide +kernel)) <|
  rg_fc (rg_ok_iadd (by decide +kernel)) <|
  rg_fc (rg_ok_iload_n (j := 3) (by decide +kernel) rfl) <|
  fun _ h => absurd h List.not_mem_nil
def rg_c73_2 : List (Nat × rg_S) := [(79, rg_s2i (fun x y => x + y)), (80, rg_sic 1 1), (81, rg_s2i (fun x y => x + y)), (82, rg_sai), (83, rg_si2l), (84, rg_slc 4294967295 3), (87, rg_s2l (fun x y => x &&& y)), (88, rg_sgo 92), (91, rg_slc 0 1), (92, rg_sK [true, true, false, true, true, true, true, true, false, false, false] (rg_sls 9 2)), (94, rg_sal 0 1), (95, rg_sgr 7 0), (98, rg_sil 1 1), (99, rg_scS 9 1 1), (102, rg_sil 6 2), (104, rg_s2i (fun x y => x + y)), (105, rg_sll 9 2), (107, rg_sic 32 2), (109, rg_ssh (fun x y => x <<< (y.toInt64 &&& 63))), (110, rg_sll 7 2), (112, rg_s2l (fun x y => x ||| y)), (113, rg_sil 4 2), (115, rg_ssh (fun x y => (x.toUInt64 >>> (y.toInt64.toUInt64 &&& Int64.toUInt64 63)).toInt64)), (116, rg_sl2i), (117, rg_swi)]
theorem rg_o73_2 : ∀ q ∈ rg_c73_2, rg_Ok 73 q.1 q.2 :=
  rg_fc (rg_ok_iadd (by decide +kernel)) <|
  rg_fc (rg_ok_iconst (n := 1) (by decide +kernel) (by decide +kernel)) <|
  rg_fc (rg_ok_iadd (by decide +kernel)) <|
  rg_fc (rg_ok_iaload (by decide +kernel)) <|
  rg_fc (rg_ok_i2l (by decide +kernel)) <|
  rg_fc (rg_ok_ldc2 (n := 36) (by decide +kernel) rg_wc_M_36) <|
  rg_fc (rg_ok_land (by decide +kernel)) <|
  rg_fc (rg_ok_goto (off := 4) (by decide +kernel) (by decide +kernel)) <|
  rg_fc (rg_ok_lconst (n := 0) (by decide +kernel) (by decide +kernel)) <|
  rg_fc (rg_okK _ (rg_ok_lstore (i := 9) (by decide +kernel) (by decide +kernel))) <|
  rg_fc (rg_ok_aload_n (j := 0) (by decide +kernel) rfl) <|
  rg_fc (rg_ok_getr (idx := 8) rg_cok7 (by decide +kernel) rfl (by decide +kernel) rg_wf_M_8) <|
  rg_fc (rg_ok_iload_n (j := 1) (by decide +kernel) rfl) <|
  rg_fc (rg_ok_callS (idx := 32) (by decide +kernel) (by decide +kernel) rg_wm_M_32 rg_wt_9 rg_wy_9 rg_wd_9 ⟨by decide +kernel, by decide +kernel, by decide +kernel⟩ (by decide +kernel) (by decide +kernel)) <|
  rg_fc (rg_ok_iload (i := 6) (by decide +kernel)) <|
  rg_fc (rg_ok_iadd (by decide +kernel)) <|
  rg_fc (rg_ok_lload (i := 9) (by decide +kernel)) <|
  rg_fc (rg_ok_bipush (n := 32) (by decide +kernel) (by decide +kernel)) <|
  rg_fc (rg_ok_lshl (by decide +kernel)) <|
  rg_fc (rg_ok_lload (i := 7) (by decide +kernel)) <|
  rg_fc (rg_ok_lor (by decide +kernel)) <|
  rg_fc (rg_ok_iload (i := 4) (by decide +kernel)) <|
  rg_fc (rg_ok_lushr (by decide +kernel)) <|
  rg_fc (rg_ok_l2i (by decide +kernel)) <|
  rg_fc (rg_ok_iastore (by decide +kernel)) <|
  fun _ h => absurd h List.not_mem_nil
def rg_c73_3 : List (Nat × rg_S) := [(118, rg_sin 6 1), (121, rg_sgo 24), (124, rg_sal 0 1), (125, rg_sgr 7 1), (128, rg_sil 1 1), (129, rg_sil 5 2), (131, rg_swi), (132, rg_sal 0 1), (133, rg_sil 1 1), (134, rg_scV 10 1 0 7), (137, rg_rv)]
theorem rg_o73_3 : ∀ q ∈ rg_c73_3, rg_Ok 73 q.1 q.2 :=
  rg_fc (rg_ok_iinc (n := 1) (by decide +kernel) (by decide +kernel) (by decide +kernel)) <|
  rg_fc (rg_ok_goto (off := (-97)) (by decide +kernel) (by decide +kernel)) <|
  rg_fc (rg_ok_aload_n (j := 0) (by decide +kernel) rfl) <|
  rg_fc (rg_ok_getr (idx := 14) rg_cok7 (by decide +kernel) rfl (by decide +kernel) rg_wf_M_14) <|
  rg_fc (rg_ok_iload_n (j := 1) (by decide +kernel) rfl) <|
  rg_fc (rg_ok_iload (i := 5) (by decide +kernel)) <|
  rg_fc (rg_ok_iastore (by decide +kernel)) <|
  rg_fc (rg_ok_aload_n (j := 0) (by decide +kernel) rfl) <|
  rg_fc (rg_ok_iload_n (j := 1) (by decide +kernel) rfl) <|
  rg_fc (rg_ok_callV (idx := 38) rg_cok7 (by decide +kernel) (by decide +kernel) rg_wm_M_38 rg_wj_10 rg_ws_10 rg_wz_7 rg_wd_10 ⟨by decide +kernel, by decide +kernel, by decide +kernel, by decide +kernel⟩ (by decide +kernel) (by decide +kernel)) <|
  rg_fc (rg_ok_return (by decide +kernel) rfl) <|
  fun _ h => absurd h List.not_mem_nil
def rg_kd73 : List (List (Nat × rg_S)) := [rg_c73_0, rg_c73_1, rg_c73_2, rg_c73_3]
theorem rg_o73 : ∀ pc f, rg_lk2 rg_kd73 pc = some f → rg_Ok 73 pc f := rg_lk2_ok (rg_fd rg_o73_0 (rg_fd rg_o73_1 (rg_fd rg_o73_2 (rg_fd rg_o73_3 (fun _ h => absurd h List.not_mem_nil)))))
def rg_c74_0 : List (Nat × rg_S) := [(0, rg_sal 0 1), (1, rg_sgr 7 1), (4, rg_sil 1 1), (5, rg_sai), (6, rg_sal 0 1), (7, rg_sgr 7 1), (10, rg_sil 2 1), (11, rg_sai), (12, rg_skeq 36), (15, rg_sal 0 1), (16, rg_sgr 7 1), (19, rg_sil 1 1), (20, rg_sai), (21, rg_sal 0 1), (22, rg_sgr 7 1), (25, rg_sil 2 1), (26, rg_sai), (27, rg_skge 34), (30, rg_sic (-1) 1), (31, rg_sgo 35), (34, rg_sic 1 1), (35, rg_sK [false, false, false, false] (rg_ri)), (36, rg_sal 0 1), (37, rg_sgr 7 1), (40, rg_sil 1 1)]
theorem rg_o74_0 : ∀ q ∈ rg_c74_0, rg_Ok 74 q.1 q.2 :=
  rg_fc (rg_ok_aload_n (j := 0) (by decide +kernel) rfl) <|
  rg_fc (rg_ok_getr (idx := 14) rg_cok7 (by decide +kernel) rfl (by decide +kernel) rg_wf_M_14) <|
  rg_fc (rg_ok_iload_n (j := 1) (by decide +kernel) rfl) <|
  rg_fc (rg_ok_iaload (by decide +kernel)) <|
  rg_fc (rg_ok_aload_n (j := 0) (by decide +kernel) rfl) <|
  rg_fc (rg_ok_getr (idx := 14) rg_cok7 (by decide +kernel) rfl (by decide +kernel) rg_wf_M_14) <|
  rg_fc (rg_ok_iload_n (j := 2) (by decide +kernel) rfl) <|
  rg_fc (rg_ok_iaload (by decide +kernel)) <|
  rg_fc (rg_ok_icmp_eq (off := 24) (by decide +kernel) (by decide +kernel)) <|
  rg_fc (rg_ok_aload_n (j := 0) (by decide +kernel) rfl) <|
  rg_fc (rg_ok_getr (idx := 14) rg_cok7 (by decide +kernel) rfl (by decide +kernel) rg_wf_M_14) <|
  rg_fc (rg_ok_iload_n (j := 1) (by decide +kernel) rfl) <|
  rg_fc (rg_ok_iaload (by decide +kernel)) <|
  rg_fc (rg_ok_aload_n (j := 0) (by decide +kernel) rfl) <|
  rg_fc (rg_ok_getr (idx := 14) rg_cok7 (by decide +kernel) rfl (by decide +kernel) rg_wf_M_14) <|
  rg_fc (rg_ok_iload_n (j := 2) (by decide +kernel) rfl) <|
  rg_fc (rg_ok_iaload (by decide +kernel)) <|
  rg_fc (rg_ok_icmp_ge (off := 7) (by decide +kernel) (by decide +kernel)) <|
  rg_fc (rg_ok_iconst (n := (-1)) (by decide +kernel) (by decide +kernel)) <|
  rg_fc (rg_ok_goto (off := 4) (by decide +kernel) (by decide +kernel)) <|
  rg_fc (rg_ok_iconst (n := 1) (by decide +kernel) (by decide +kernel)) <|
  rg_fc (rg_okK _ (rg_ok_ireturn (by decide +kernel) rfl)) <|
  rg_fc (rg_ok_aload_n (j := 0) (by decide +kernel) rfl) <|
  rg_fc (rg_ok_getr (idx := 14) rg_cok7 (by decide +kernel) rfl (by decide +kernel) rg_wf_M_14) <|
  rg_fc (rg_ok_iload_n (j := 1) (by decide +kernel) rfl) <|
  fun _ h => absurd h List.not_mem_nil
def rg_c74_1 : List (Nat × rg_S) := [(41, rg_sai), (42, rg_sic 1 1), (43, rg_s2i (fun x y => x - y)), (44, rg_sis 3 1), (45, rg_sK [true, true, true, true] (rg_sil 3 1)), (46, rg_sjlt 93), (49, rg_sal 0 1), (50, rg_sil 1 1), (51, rg_sil 3 1), (52, rg_scV 70 2 2 7), (55, rg_sal 0 1), (56, rg_sil 2 1), (57, rg_sil 3 1), (58, rg_scV 70 2 2 7), (61, rg_scm), (62, rg_sjeq 87), (65, rg_sal 0 1), (66, rg_sil 1 1), (67, rg_sil 3 1), (68, rg_scV 70 2 2 7), (71, rg_sal 0 1), (72, rg_sil 2 1), (73, rg_sil 3 1), (74, rg_scV 70 2 2 7), (77, rg_scm)]
theorem rg_o74_1 : ∀ q ∈ rg_c74_1, rg_Ok 74 q.1 q.2 :=
  rg_fc (rg_ok_iaload (by decide +kernel)) <|
  rg_fc (rg_ok_iconst (n := 1) (by decide +kernel) (by decide +kernel)) <|
  rg_fc (rg_ok_isub (by decide +kernel)) <|
  rg_fc (rg_ok_istore_n (j := 3) (by decide +kernel) rfl (by decide +kernel)) <|
  rg_fc (rg_okK _ (rg_ok_iload_n (j := 3) (by decide +kernel) rfl)) <|
  rg_fc (rg_ok_if_lt (off := 47) (by decide +kernel) (by decide +kernel)) <|
  rg_fc (rg_ok_aload_n (j := 0) (by decide +kernel) rfl) <|
  rg_fc (rg_ok_iload_n (j := 1) (by decide +kernel) rfl) <|
  rg_fc (rg_ok_iload_n (j := 3) (by decide +kernel) rfl) <|
  rg_fc (rg_ok_callV (idx := 42) rg_cok7 (by decide +kernel) (by decide +kernel) rg_wm_M_42 rg_wj_70 rg_ws_70 rg_wz_7 rg_wd_70 ⟨by decide +kernel, by decide +kernel, by decide +kernel, by decide +kernel⟩ (by decide +kernel) (by decide +kernel)) <|
  rg_fc (rg_ok_aload_n (j := 0) (by decide +kernel) rfl) <|
  rg_fc (rg_ok_iload_n (j := 2) (by decide +kernel) rfl) <|
  rg_fc (rg_ok_iload_n (j := 3) (by decide +kernel) rfl) <|
  rg_fc (rg_ok_callV (idx := 42) rg_cok7 (by decide +kernel) (by decide +kernel) rg_wm_M_42 rg_wj_70 rg_ws_70 rg_wz_7 rg_wd_70 ⟨by decide +kernel, by decide +kernel, by decide +kernel, by decide +kernel⟩ (by decide +kernel) (by decide +kernel)) <|
  rg_fc (rg_ok_lcmp (by decide +kernel)) <|
  rg_fc (rg_ok_if_eq (off := 25) (by decide +kernel) (by decide +kernel)) <|
  rg_fc (rg_ok_aload_n (j := 0) (by decide +kernel) rfl) <|
  rg_fc (rg_ok_iload_n (j := 1) (by decide +kernel) rfl) <|
  rg_fc (rg_ok_iload_n (j := 3) (by decide +kernel) rfl) <|
  rg_fc (rg_ok_callV (idx := 42) rg_cok7 (by decide +kernel) (by decide +kernel) rg_wm_M_42 rg_wj_70 rg_ws_70 rg_wz_7 rg_wd_70 ⟨by decide +kernel, by decide +kernel, by decide +kernel, by decide +kernel⟩ (by decide +kernel) (by decide +kernel)) <|
  rg_fc (rg_ok_aload_n (j := 0) (by decide +kernel) rfl) <|
  rg_fc (rg_ok_iload_n (j := 2) (by decide +kernel) rfl) <|
  rg_fc (rg_ok_iload_n (j := 3) (by decide +kernel) rfl) <|
  rg_fc (rg_ok_callV (idx := 42) rg_cok7 (by decide +kernel) (by decide +kernel) rg_wm_M_42 rg_wj_70 rg_ws_70 rg_wz_7 rg_wd_70 ⟨by decide +kernel, by decide +kernel, by decide +kernel, by decide +kernel⟩ (by decide +kernel) (by decide +kernel)) <|
  rg_fc (rg_ok_lcmp (by decide +kernel)) <|
  fun _ h => absurd h List.not_mem_nil
def rg_c74_2 : List (Nat × rg_S) := [(78, rg_sjge 85), (81, rg_sic (-1) 1), (82, rg_sgo 86), (85, rg_sic 1 1), (86, rg_sK [false, false, false, false] (rg_ri)), (87, rg_sin 3 (-1)), (90, rg_sgo 45), (93, rg_sic 0 1), (94, rg_ri)]
theorem rg_o74_2 : ∀ q ∈ rg_c74_2, rg_Ok 74 q.1 q.2 :=
  rg_fc (rg_ok_if_ge (off := 7) (by decide +kernel) (by decide +kernel)) <|
  rg_fc (rg_ok_iconst (n := (-1)) (by decide +kernel) (by decide +kernel)) <|
  rg_fc (rg_ok_goto (off := 4) (by decide +kernel) (by decide +kernel)) <|
  rg_fc (rg_ok_iconst (n := 1) (by decide +kernel) (by decide +kernel)) <|
  rg_fc (rg_okK _ (rg_ok_ireturn (by decide +kernel) rfl)) <|
  rg_fc (rg_ok_iinc (n := (-1)) (by decide +kernel) (by decide +kernel) (by decide +kernel)) <|
  rg_fc (rg_ok_goto (off := (-45)) (by decide +kernel) (by decide +kernel)) <|
  rg_fc (rg_ok_iconst (n := 0) (by decide +kernel) (by decide +kernel)) <|
  rg_fc (rg_ok_ireturn (by decide +kernel) rfl) <|
  fun _ h => absurd h List.not_mem_nil
def rg_kd74 : List (List (Nat × rg_S)) := [rg_c74_0, rg_c74_1, rg_c74_2]
theorem rg_o74 : ∀ pc f, rg_lk2 rg_kd74 pc = some f → rg_Ok 74 pc f := rg_lk2_ok (rg_fd rg_o74_0 (rg_fd rg_o74_1 (rg_fd rg_o74_2 (fun _ h => absurd h List.not_mem_nil))))
def rg_c75_0 : List (Nat × rg_S) := [(0, rg_sal 0 1), (1, rg_sgr 7 1), (4, rg_sil 1 1), (5, rg_sai), (6, rg_sis 4 2), (8, rg_sal 0 1), (9, rg_sgr 7 1), (12, rg_sil 2 1), (13, rg_sai), (14, rg_sis 5 2), (16, rg_slc 0 1), (17, rg_sls 6 2), (19, rg_sic 0 1), (20, rg_sis 8 2), (22, rg_sK [true, true, true, true, true, true, true, false, true, false, false] (rg_sil 8 2)), (24, rg_sil 4 2), (26, rg_skge 115), (29, rg_sal 0 1), (30, rg_sgr 7 0), (33, rg_sil 1 1), (34, rg_scS 9 1 1), (37, rg_sil 8 2), (39, rg_s2i (fun x y => x + y)), (40, rg_sai), (41, rg_si2l)]
theorem rg_o75_0 : ∀ q ∈ rg_c75_0, rg_Ok 75 q.1 q.2 :=
  rg_fc (rg_ok_aload_n (j := 0) (by decide +kernel) rfl) <|
  rg_fc (rg_ok_getr (idx := 14) rg_cok7 (by decide +kernel) rfl (by decide +kernel) rg_wf_M_14) <|
  rg_fc (rg_ok_iload_n (j := 1) (by decide +kernel) rfl) <|
  rg_fc (rg_ok_iaload (by decide +kernel)) <|
  rg_fc (rg_ok_istore (i := 4) (by decide +kernel) (by decide +kernel)) <|
  rg_fc (rg_ok_aload_n (j := 0) (by decide +kernel) rfl) <|
  rg_fc (rg_ok_getr (idx := 14) rg_cok7 (by decide +kernel) rfl (by decide +kernel) rg_wf_M_14) <|
  rg_fc (rg_ok_iload_n (j := 2) (by decide +kernel) rfl) <|
  rg_fc (rg_ok_iaload (by decide +kernel)) <|
  rg_fc (rg_ok_istore (i := 5) (by decide +kernel) (by decide +kernel)) <|
  rg_fc (rg_ok_lconst (n := 0) (by decide +kernel) (by decide +kernel)) <|
  rg_fc (rg_ok_lstore (i := 6) (by decide +kernel) (by decide +kernel)) <|
  rg_fc (rg_ok_iconst (n := 0) (by decide +kernel) (by decide +kernel)) <|
  rg_fc (rg_ok_istore (i := 8) (by decide +kernel) (by decide +kernel)) <|
  rg_fc (rg_okK _ (rg_ok_iload (i := 8) (by decide +kernel))) <|
  rg_fc (rg_ok_iload (i := 4) (by decide +kernel)) <|
  rg_fc (rg_ok_icmp_ge (off := 89) (by decide +kernel) (by decide +kernel)) <|
  rg_fc (rg_ok_aload_n (j := 0) (by decide +kernel) rfl) <|
  rg_fc (rg_ok_getr (idx := 8) rg_cok7 (by decide +kernel) rfl (by decide +kernel) rg_wf_M_8) <|
  rg_fc (rg_ok_iload_n (j := 1) (by decide +kernel) rfl) <|
  rg_fc (rg_ok_callS (idx := 32) (by decide +kernel) (by decide +kernel) rg_wm_M_32 rg_wt_9 rg_wy_9 rg_wd_9 ⟨by decide +kernel, by decide +kernel, by decide +kernel⟩ (by decide +kernel) (by decide +kernel)) <|
  rg_fc (rg_ok_iload (i := 8) (by decide +kernel)) <|
  rg_fc (rg_ok_iadd (by decide +kernel)) <|
  rg_fc (rg_ok_iaload (by decide +kernel)) <|
  rg_fc (rg_ok_i2l (by decide +kernel)) <|
  fun _ h => absurd h List.not_mem_nil
def rg_c75_1 : List (Nat × rg_S) := [(42, rg_slc 4294967295 3), (45, rg_s2l (fun x y => x &&& y)), (46, rg_sil 8 2), (48, rg_sil 5 2), (50, rg_skge 73), (53, rg_sal 0 1), (54, rg_sgr 7 0), (57, rg_sil 2 1), (58, rg_scS 9 1 1), (61, rg_sil 8 2), (63, rg_s2i (fun x y => x + y)), (64, rg_sai), (65, rg_si2l), (66, rg_slc 4294967295 3), (69, rg_s2l (fun x y => x &&& y)), (70, rg_sgo 74), (73, rg_slc 0 1), (74, rg_sK [true, true, true, true, true, true, true, false, true, false, false] (rg_s2l (fun x y => x - y))), (75, rg_sll 6 2), (77, rg_s2l (fun x y => x - y)), (78, rg_sls 9 2), (80, rg_sal 0 1), (81, rg_sgr 7 0), (84, rg_sil 3 1), (85, rg_scS 9 1 1)]
theorem rg_o75_1 : ∀ q ∈ rg_c75_1, rg_Ok 75 q.1 q.2 :=
  rg_fc (rg_ok_ldc2 (n := 36) (by decide +kernel) rg_wc_M_36) <|
  rg_fc (rg_ok_land (by decide +kernel)) <|
  rg_fc (rg_ok_iload (i := 8) (by decide +kernel)) <|
  rg_fc (rg_ok_iload (i := 5) (by decide +kernel)) <|
  rg_fc (rg_ok_icmp_ge (off := 23) (by decide +kernel) (by decide +kernel)) <|
  rg_fc (rg_ok_aload_n (j := 0) (by decide +kernel) rfl) <|
  rg_fc (rg_ok_getr (idx := 8) rg_cok7 (by decide +kernel) rfl (by decide +kernel) rg_wf_M_8) <|
  rg_fc (rg_ok_iload_n (j := 2) (by decide +kernel) rfl) <|
  rg_fc (rg_ok_callS (idx := 32) (by decide +kernel) (by decide +kernel) rg_wm_M_32 rg_wt_9 rg_wy_9 rg_wd_9 ⟨by decide +kernel, by decide +kernel, by decide +kernel⟩ (by decide +kernel) (by decide +kernel)) <|
  rg_fc (rg_ok_iload (i := 8) (by decide +kernel)) <|
  rg_fc (rg_ok_iadd (by decide +kernel)) <|
  rg_fc (rg_ok_iaload (by decide +kernel)) <|
  rg_fc (rg_ok_i2l (by decide +kernel)) <|
  rg_fc (rg_ok_ldc2 (n := 36) (by decide +kernel) rg_wc_M_36) <|
  rg_fc (rg_ok_land (by decide +kernel)) <|
  rg_fc (rg_ok_goto (off := 4) (by decide +kernel) (by decide +kernel)) <|
  rg_fc (rg_ok_lconst (n := 0) (by decide +kernel) (by decide +kernel)) <|
  rg_fc (rg_okK _ (rg_ok_lsub (by decide +kernel))) <|
  rg_fc (rg_ok_lload (i := 6) (by decide +kernel)) <|
  rg_fc (rg_ok_lsub (by decide +kernel)) <|
  rg_fc (rg_ok_lstore (i := 9) (by decide +kernel) (by decide +kernel)) <|
  rg_fc (rg_ok_aload_n (j := 0) (by decide +kernel) rfl) <|
  rg_fc (rg_ok_getr (idx := 8) rg_cok7 (by decide +kernel) rfl (by decide +kernel) rg_wf_M_8) <|
  rg_fc (rg_ok_iload_n (j := 3) (by decide +kernel) rfl) <|
  rg_fc (rg_ok_callS (idx := 32) (by decide +kernel) (by decide +kernel) rg_wm_M_32 rg_wt_9 rg_wy_9 rg_wd_9 ⟨by decide +kernel, by decide +kernel, by decide +kernel⟩ (by decide +kernel) (by decide +kernel)) <|
  fun _ h => absurd h List.not_mem_nil
def rg_c75_2 : List (Nat × rg_S) := [(88, rg_sil 8 2), (90, rg_s2i (fun x y => x + y)), (91, rg_sll 9 2), (93, rg_sl2i), (94, rg_swi), (95, rg_sll 9 2), (97, rg_slc 0 1), (98, rg_scm), (99, rg_sjge 106), (102, rg_slc 1 1), (103, rg_sgo 107), (106, rg_slc 0 1), (107, rg_sK [true, true, true, true, true, true, false, false, true, false, false] (rg_sls 6 2)), (109, rg_sin 8 1), (112, rg_sgo 22), (115, rg_sal 0 1), (116, rg_sgr 7 1), (119, rg_sil 3 1), (120, rg_sil 4 2), (122, rg_swi), (123, rg_rv)]
theorem rg_o75_2 : ∀ q ∈ rg_c75_2, rg_Ok 75 q.1 q.2 :=
  rg_fc (rg_ok_iload (i := 8) (by decide +kernel)) <|
  rg_fc (rg_ok_iadd (by decide +kernel)) <|
  rg_fc (rg_ok_lload (i := 9) (by decide +kernel)) <|
  rg_fc (rg_ok_l2i (by decide +kernel)) <|
  rg_fc (rg_ok_iastore (by decide +kernel)) <|
  rg_fc (rg_ok_lload (i := 9) (by decide +kernel)) <|
  rg_fc (rg_ok_lconst (n := 0) (by decide +kernel) (by decide +kernel)) <|
  rg_fc (rg_ok_lcmp (by decide +kernel)) <|
  rg_fc (rg_ok_if_ge (off := 7) (by decide +kernel) (by decide +kernel)) <|
  rg_fc (rg_ok_lconst (n := 1) (by decide +kernel) (by decide +kernel)) <|
  rg_fc (rg_ok_goto (off := 4) (by decide +kernel) (by decide +kernel)) <|
  rg_fc (rg_ok_lconst (n := 0) (by decide +kernel) (by decide +kernel)) <|
  rg_fc (rg_okK _ (rg_ok_lstore (i := 6) (by decide +kernel) (by decide +kernel))) <|
  rg_fc (rg_ok_iinc (n := 1) (by decide +kernel) (by decide +kernel) (by decide +kernel)) <|
  rg_fc (rg_ok_goto (off := (-90)) (by decide +kernel) (by decide +kernel)) <|
  rg_fc (rg_ok_aload_n (j := 0) (by decide +kernel) rfl) <|
  rg_fc (rg_ok_getr (idx := 14) rg_cok7 (by decide +kernel) rfl (by decide +kernel) rg_wf_M_14) <|
  rg_fc (rg_ok_iload_n (j := 3) (by decide +kernel) rfl) <|
  rg_fc (rg_ok_iload (i := 4) (by decide +kernel)) <|
  rg_fc (rg_ok_iastore (by decide +kernel)) <|
  rg_fc (rg_ok_return (by decide +kernel) rfl) <|
  fun _ h => absurd h List.not_mem_nil
def rg_kd75 : List (List (Nat × rg_S)) := [rg_c75_0, rg_c75_1, rg_c75_2]
theorem rg_o75 : ∀ pc f, rg_lk2 rg_kd75 pc = some f → rg_Ok 75 pc f := rg_lk2_ok (rg_fd rg_o75_0 (rg_fd rg_o75_1 (rg_fd rg_o75_2 (fun _ h => absurd h List.not_mem_nil))))
def rg_c76_0 : List (Nat × rg_S) := [(0, rg_sal 0 1), (1, rg_sil 1 1), (2, rg_sic 386 3), (5, rg_scV 69 2 0 7), (8, rg_sal 0 1), (9, rg_sil 2 1), (10, rg_sic 387 3), (13, rg_scV 69 2 0 7), (16, rg_sal 0 1), (17, rg_sgr 7 2), (20, rg_sic 386 3), (23, rg_sic 1 1), (24, rg_swi), (25, rg_sal 0 1), (26, rg_sgr 7 2), (29, rg_sic 387 3), (32, rg_sic 1 1), (33, rg_swi), (34, rg_sal 0 1), (35, rg_sic 386 3), (38, rg_scV 72 1 1 7), (41, rg_sis 3 1), (42, rg_sal 0 1), (43, rg_sic 387 3), (46, rg_scV 72 1 1 7)]
theorem rg_o76_0 : ∀ q ∈ rg_c76_0, rg_Ok 76 q.1 q.2 :=
  rg_fc (rg_ok_aload_n (j := 0) (by decide +kernel) rfl) <|
  rg_fc (rg_ok_iload_n (j := 1) (by decide +kernel) rfl) <|
  rg_fc (rg_ok_sipush (n := 386) (by decide +kernel) (by decide +kernel)) <|
  rg_fc (rg_ok_callV (idx := 46) rg_cok7 (by decide +kernel) (by decide +kernel) rg_wm_M_46 rg_wj_69 rg_ws_69 rg_wz_7 rg_wd_69 ⟨by decide +kernel, by decide +kernel, by decide +kernel, by decide +kernel⟩ (by decide +kernel) (by decide +kernel)) <|
  rg_fc (rg_ok_aload_n (j := 0) (by decide +kernel) rfl) <|
  rg_fc (rg_ok_iload_n (j := 2) (by decide +kernel) rfl) <|
  rg_fc (rg_ok_sipush (n := 387) (by decide +kernel) (by decide +kernel)) <|
  rg_fc (rg_ok_callV (idx := 46) rg_cok7 (by decide +kernel) (by decide +kernel) rg_wm_M_46 rg_wj_69 rg_ws_69 rg_wz_7 rg_wd_69 ⟨by decide +kernel, by decide +kernel, by decide +kernel, by decide +kernel⟩ (by decide +kernel) (by decide +kernel)) <|
  rg_fc (rg_ok_aload_n (j := 0) (by decide +kernel) rfl) <|
  rg_fc (rg_ok_getr (idx := 17) rg_cok7 (by decide +kernel) rfl (by decide +kernel) rg_wf_M_17) <|
  rg_fc (rg_ok_sipush (n := 386) (by decide +kernel) (by decide +kernel)) <|
  rg_fc (rg_ok_iconst (n := 1) (by decide +kernel) (by decide +kernel)) <|
  rg_fc (rg_ok_iastore (by decide +kernel)) <|
  rg_fc (rg_ok_aload_n (j := 0) (by decide +kernel) rfl) <|
  rg_fc (rg_ok_getr (idx := 17) rg_cok7 (by decide +kernel) rfl (by decide +kernel) rg_wf_M_17) <|
  rg_fc (rg_ok_sipush (n := 387) (by decide +kernel) (by decide +kernel)) <|
  rg_fc (rg_ok_iconst (n := 1) (by decide +kernel) (by decide +kernel)) <|
  rg_fc (rg_ok_iastore (by decide +kernel)) <|
  rg_fc (rg_ok_aload_n (j := 0) (by decide +kernel) rfl) <|
  rg_fc (rg_ok_sipush (n := 386) (by decide +kernel) (by decide +kernel)) <|
  rg_fc (rg_ok_callV (idx := 67) rg_cok7 (by decide +kernel) (by decide +kernel) rg_wm_M_67 rg_wj_72 rg_ws_72 rg_wz_7 rg_wd_72 ⟨by decide +kernel, by decide +kernel, by decide +kernel, by decide +kernel⟩ (by decide +kernel) (by decide +kernel)) <|
  rg_fc (rg_ok_istore_n (j := 3) (by decide +kernel) rfl (by decide +kernel)) <|
  rg_fc (rg_ok_aload_n (j := 0) (by decide +kernel) rfl) <|
  rg_fc (rg_ok_sipush (n := 387) (by decide +kernel) (by decide +kernel)) <|
  rg_fc (rg_ok_callV (idx := 67) rg_cok7 (by decide +kernel) (by decide +kernel) rg_wm_M_67 rg_wj_72 rg_ws_72 rg_wz_7 rg_wd_72 ⟨by decide +kernel, by decide +kernel, by decide +kernel, by decide +kernel⟩ (by decide +kernel) (by decide +kernel)) <|
  fun _ h => absurd h List.not_mem_nil
def rg_c76_1 : List (Nat × rg_S) := [(49, rg_sis 4 2), (51, rg_sal 0 1), (52, rg_sic 386 3), (55, rg_sil 3 1), (56, rg_scV 73 2 0 7), (59, rg_sal 0 1), (60, rg_sic 387 3), (63, rg_sil 4 2), (65, rg_scV 73 2 0 7), (68, rg_sic 386 3), (71, rg_sis 5 2), (73, rg_sic 387 3), (76, rg_sis 6 2), (78, rg_sal 0 1), (79, rg_sil 5 2), (81, rg_sil 6 2), (83, rg_scV 74 2 1 7), (86, rg_sis 7 2), (88, rg_sK [true, false, false, true, true, true, true, true, false] (rg_sil 7 2)), (90, rg_sjeq 151), (93, rg_sil 7 2), (95, rg_sjge 110), (98, rg_sil 5 2), (100, rg_sis 8 2), (102, rg_sil 6 2)]
theorem rg_o76_1 : ∀ q ∈ rg_c76_1, rg_Ok 76 q.1 q.2 :=
  rg_fc (rg_ok_istore (i := 4) (by decide +kernel) (by decide +kernel)) <|
  rg_fc (rg_ok_aload_n (j := 0) (by decide +kernel) rfl) <|
  rg_fc (rg_ok_sipush (n := 386) (by decide +kernel) (by decide +kernel)) <|
  rg_fc (rg_ok_iload_n (j := 3) (by decide +kernel) rfl) <|
  rg_fc (rg_ok_callV (idx := 70) rg_cok7 (by decide +kernel) (by decide +kernel) rg_wm_M_70 rg_wj_73 rg_ws_73 rg_wz_7 rg_wd_73 ⟨by decide +kernel, by decide +kernel, by decide +kernel, by decide +kernel⟩ (by decide +kernel) (by decide +kernel)) <|
  rg_fc (rg_ok_aload_n (j := 0) (by decide +kernel) rfl) <|
  rg_fc (rg_ok_sipush (n := 387) (by decide +kernel) (by decide +kernel)) <|
  rg_fc (rg_ok_iload (i := 4) (by decide +kernel)) <|
  rg_fc (rg_ok_callV (idx := 70) rg_cok7 (by decide +kernel) (by decide +kernel) rg_wm_M_70 rg_wj_73 rg_ws_73 rg_wz_7 rg_wd_73 ⟨by decide +kernel, by decide +kernel, by decide +kernel, by decide +kernel⟩ (by decide +kernel) (by decide +kernel)) <|
  rg_fc (rg_ok_sipush (n := 386) (by decide +kernel) (by decide +kernel)) <|
  rg_fc (rg_ok_istore (i := 5) (by decide +kernel) (by decide +kernel)) <|
  rg_fc (rg_ok_sipush (n := 387) (by decide +kernel) (by decide +kernel)) <|
  rg_fc (rg_ok_istore (i := 6) (by decide +kernel) (by decide +kernel)) <|
  rg_fc (rg_ok_aload_n (j := 0) (by decide +kernel) rfl) <|
  rg_fc (rg_ok_iload (i := 5) (by decide +kernel)) <|
  rg_fc (rg_ok_iload (i := 6) (by decide +kernel)) <|
  rg_fc (rg_ok_callV (idx := 54) rg_cok7 (by decide +kernel) (by decide +kernel) rg_wm_M_54 rg_wj_74 rg_ws_74 rg_wz_7 rg_wd_74 ⟨by decide +kernel, by decide +kernel, by decide +kernel, by decide +kernel⟩ (by decide +kernel) (by decide +kernel)) <|
  rg_fc (rg_ok_istore (i := 7) (by decide +kernel) (by decide +kernel)) <|
  rg_fc (rg_okK _ (rg_ok_iload (i := 7) (by decide +kernel))) <|
  rg_fc (rg_ok_if_eq (off := 61) (by decide +kernel) (by decide +kernel)) <|
  rg_fc (rg_ok_iload (i := 7) (by decide +kernel)) <|
  rg_fc (rg_ok_if_ge (off := 15) (by decide +kernel) (by decide +kernel)) <|
  rg_fc (rg_ok_iload (i := 5) (by decide +kernel)) <|
  rg_fc (rg_ok_istore (i := 8) (by decide +kernel) (by decide +kernel)) <|
  rg_fc (rg_ok_iload (i := 6) (by decide +kernel)) <|
  fun _ h => absurd h List.not_mem_nil
def rg_c76_2 : List (Nat × rg_S) := [(104, rg_sis 5 2), (106, rg_sil 8 2), (108, rg_sis 6 2), (110, rg_sK [true, false, false, true, true, true, true, false, false] (rg_sal 0 1)), (111, rg_sil 5 2), (113, rg_sil 6 2), (115, rg_sil 5 2), (117, rg_scV 75 3 0 7), (120, rg_sal 0 1), (121, rg_sil 5 2), (123, rg_scV 10 1 0 7), (126, rg_sal 0 1), (127, rg_sil 5 2), (129, rg_sal 0 1), (130, rg_sil 5 2), (132, rg_scV 72 1 1 7), (135, rg_scV 73 2 0 7), (138, rg_sal 0 1), (139, rg_sil 5 2), (141, rg_sil 6 2), (143, rg_scV 74 2 1 7), (146, rg_sis 7 2), (148, rg_sgo 88), (151, rg_sal 0 1), (152, rg_sil 5 2)]
theorem rg_o76_2 : ∀ q ∈ rg_c76_2, rg_Ok 76 q.1 q.2 :=
  rg_fc (rg_ok_istore (i := 5) (by decide +kernel) (by decide +kernel)) <|
  rg_fc (rg_ok_iload (i := 8) (by decide +kernel)) <|
  rg_fc (rg_ok_istore (i := 6) (by decide +kernel) (by decide +kernel)) <|
  rg_fc (rg_okK _ (rg_ok_aload_n (j := 0) (by decide +kernel) rfl)) <|
  rg_fc (rg_ok_iload (i := 5) (by decide +kernel)) <|
  rg_fc (rg_ok_iload (i := 6) (by decide +kernel)) <|
  rg_fc (rg_ok_iload (i := 5) (by decide +kernel)) <|
  rg_fc (rg_ok_callV (idx := 58) rg_cok7 (by decide +kernel) (by decide +kernel) rg_wm_M_58 rg_wj_75 rg_ws_75 rg_wz_7 rg_wd_75 ⟨by decide +kernel, by decide +kernel, by decide +kernel, by decide +kernel⟩ (by decide +kernel) (by decide +kernel)) <|
  rg_fc (rg_ok_aload_n (j := 0) (by decide +kernel) rfl) <|
  rg_fc (rg_ok_iload (i := 5) (by decide +kernel)) <|
  rg_fc (rg_ok_callV (idx := 38) rg_cok7 (by decide +kernel) (by decide +kernel) rg_wm_M_38 rg_wj_10 rg_ws_10 rg_wz_7 rg_wd_10 ⟨by decide +kernel, by decide +kernel, by decide +kernel, by decide +kernel⟩ (by decide +kernel) (by decide +kernel)) <|
  rg_fc (rg_ok_aload_n (j := 0) (by decide +kernel) rfl) <|
  rg_fc (rg_ok_iload (i := 5) (by decide +kernel)) <|
  rg_fc (rg_ok_aload_n (j := 0) (by decide +kernel) rfl) <|
  rg_fc (rg_ok_iload (i := 5) (by decide +kernel)) <|
  rg_fc (rg_ok_callV (idx := 67) rg_cok7 (by decide +kernel) (by decide +kernel) rg_wm_M_67 rg_wj_72 rg_ws_72 rg_wz_7 rg_wd_72 ⟨by decide +kernel, by decide +kernel, by decide +kernel, by decide +kernel⟩ (by decide +kernel) (by decide +kernel)) <|
  rg_fc (rg_ok_callV (idx := 70) rg_cok7 (by decide +kernel) (by decide +kernel) rg_wm_M_70 rg_wj_73 rg_ws_73 rg_wz_7 rg_wd_73 ⟨by decide +kernel, by decide +kernel, by decide +kernel, by decide +kernel⟩ (by decide +kernel) (by decide +kernel)) <|
  rg_fc (rg_ok_aload_n (j := 0) (by decide +kernel) rfl) <|
  rg_fc (rg_ok_iload (i := 5) (by decide +kernel)) <|
  rg_fc (rg_ok_iload (i := 6) (by decide +kernel)) <|
  rg_fc (rg_ok_callV (idx := 54) rg_cok7 (by decide +kernel) (by decide +kernel) rg_wm_M_54 rg_wj_74 rg_ws_74 rg_wz_7 rg_wd_74 ⟨by decide +kernel, by decide +kernel, by decide +kernel, by decide +kernel⟩ (by decide +kernel) (by decide +kernel)) <|
  rg_fc (rg_ok_istore (i := 7) (by decide +kernel) (by decide +kernel)) <|
  rg_fc (rg_ok_goto (off := (-60)) (by decide +kernel) (by decide +kernel)) <|
  rg_fc (rg_ok_aload_n (j := 0) (by decide +kernel) rfl) <|
  rg_fc (rg_ok_iload (i := 5) (by decide +kernel)) <|
  fun _ h => absurd h List.not_mem_nil
def rg_c76_3 : List (Nat × rg_S) := [(154, rg_sic 386 3), (157, rg_scV 69 2 0 7), (160, rg_sil 3 1), (161, rg_sil 4 2), (163, rg_skge 170), (166, rg_sil 3 1), (167, rg_sgo 172), (170, rg_sil 4 2), (172, rg_sK [false, false, false, false, false, false, false, false, false] (rg_ri))]
theorem rg_o76_3 : ∀ q ∈ rg_c76_3, rg_Ok 76 q.1 q.2 :=
  rg_fc (rg_ok_sipush (n := 386) (by decide +kernel) (by decide +kernel)) <|
  rg_fc (rg_ok_callV (idx := 46) rg_cok7 (by decide +kernel) (by decide +kernel) rg_wm_M_46 rg_wj_69 rg_ws_69 rg_wz_7 rg_wd_69 ⟨by decide +kernel, by decide +kernel, by decide +kernel, by decide +kernel⟩ (by decide +kernel) (by decide +kernel)) <|
  rg_fc (rg_ok_iload_n (j := 3) (by decide +kernel) rfl) <|
  rg_fc (rg_ok_iload (i := 4) (by decide +kernel)) <|
  rg_fc (rg_ok_icmp_ge (off := 7) (by decide +kernel) (by decide +kernel)) <|
  rg_fc (rg_ok_iload_n (j := 3) (by decide +kernel) rfl) <|
  rg_fc (rg_ok_goto (off := 5) (by decide +kernel) (by decide +kernel)) <|
  rg_fc (rg_ok_iload (i := 4) (by decide +kernel)) <|
  rg_fc (rg_okK _ (rg_ok_ireturn (by decide +kernel) rfl)) <|
  fun _ h => absurd h List.not_mem_nil
def rg_kd76 : List (List (Nat × rg_S)) := [rg_c76_0, rg_c76_1, rg_c76_2, rg_c76_3]
theorem rg_o76 : ∀ pc f, rg_lk2 rg_kd76 pc = some f → rg_Ok 76 pc f := rg_lk2_ok (rg_fd rg_o76_0 (rg_fd rg_o76_1 (rg_fd rg_o76_2 (rg_fd rg_o76_3 (fun _ h => absurd h List.not_mem_nil)))))
def rg_c77_0 : List (Nat × rg_S) := [(0, rg_sal 0 1), (1, rg_sgr 7 1), (4, rg_sil 1 1), (5, rg_sai), (6, rg_sal 0 1), (7, rg_sgr 7 1), (10, rg_sil 2 1), (11, rg_sai), (12, rg_skle 24), (15, rg_sal 0 1), (16, rg_sgr 7 1), (19, rg_sil 1 1), (20, rg_sai), (21, rg_sgo 30), (24, rg_sal 0 1), (25, rg_sgr 7 1), (28, rg_sil 2 1), (29, rg_sai), (30, rg_sK [true, true, true, true, false, false, false, false, false, false, false, false] (rg_sis 4 2)), (32, rg_slc 0 1), (33, rg_sls 5 2), (35, rg_sal 0 1), (36, rg_sgr 7 1), (39, rg_sil 1 1), (40, rg_sai)]
theorem rg_o77_0 : ∀ q ∈ rg_c77_0, rg_Ok 77 q.1 q.2 :=
  rg_fc (rg_ok_aload_n (j := 0) (by decide +kernel) rfl) <|
  rg_fc (rg_ok_getr (idx := 14) rg_cok7 (by decide +kernel) rfl (by decide +kernel) rg_wf_M_14) <|
  rg_fc (rg_ok_iload_n (j := 1) (by decide +kernel) rfl) <|
  rg_fc (rg_ok_iaload (by decide +kernel)) <|
  rg_fc (rg_ok_aload_n (j := 0) (by decide +kernel) rfl) <|
  rg_fc (rg_ok_getr (idx := 14) rg_cok7 (by decide +kernel) rfl (by decide +kernel) rg_wf_M_14) <|
  rg_fc (rg_ok_iload_n (j := 2) (by decide +kernel) rfl) <|
  rg_fc (rg_ok_iaload (by decide +kernel)) <|
  rg_fc (rg_ok_icmp_le (off := 12) (by decide +kernel) (by decide +kernel)) <|
  rg_fc (rg_ok_aload_n (j := 0) (by decide +kernel) rfl) <|
  rg_fc (rg_ok_getr (idx := 14) rg_cok7 (by decide +kernel) rfl (by decide +kernel) rg_wf_M_14) <|
  rg_fc (rg_ok_iload_n (j := 1) (by decide +kernel) rfl) <|
  rg_fc (rg_ok_iaload (by decide +kernel)) <|
  rg_fc (rg_ok_goto (off := 9) (by decide +kernel) (by decide +kernel)) <|
  rg_fc (rg_ok_aload_n (j := 0) (by decide +kernel) rfl) <|
  rg_fc (rg_ok_getr (idx := 14) rg_cok7 (by decide +kernel) rfl (by decide +kernel) rg_wf_M_14) <|
  rg_fc (rg_ok_iload_n (j := 2) (by decide +kernel) rfl) <|
  rg_fc (rg_ok_iaload (by decide +kernel)) <|
  rg_fc (rg_okK _ (rg_ok_istore (i := 4) (by decide +kernel) (by decide +kernel))) <|
  rg_fc (rg_ok_lconst (n := 0) (by decide +kernel) (by decide +kernel)) <|
  rg_fc (rg_ok_lstore (i := 5) (by decide +kernel) (by decide +kernel)) <|
  rg_fc (rg_ok_aload_n (j := 0) (by decide +kernel) rfl) <|
  rg_fc (rg_ok_getr (idx := 14) rg_cok7 (by decide +kernel) rfl (by decide +kernel) rg_wf_M_14) <|
  rg_fc (rg_ok_iload_n (j := 1) (by decide +kernel) rfl) <|
  rg_fc (rg_ok_iaload (by decide +kernel)) <|
  fun _ h => absurd h List.not_mem_nil
def rg_c77_1 : List (Nat × rg_S) := [(41, rg_sis 7 2), (43, rg_sal 0 1), (44, rg_sgr 7 1), (47, rg_sil 2 1), (48, rg_sai), (49, rg_sis 8 2), (51, rg_sic 0 1), (52, rg_sis 9 2), (54, rg_sK [true, true, true, true, true, true, false, true, true, true, false, false] (rg_sil 9 2)), (56, rg_sil 4 2), (58, rg_skge 151), (61, rg_sll 5 2), (63, rg_sil 9 2), (65, rg_sil 7 2), (67, rg_skge 90), (70, rg_sal 0 1), (71, rg_sgr 7 0), (74, rg_sil 1 1), (75, rg_scS 9 1 1), (78, rg_sil 9 2), (80, rg_s2i (fun x y => x + y)), (81, rg_sai), (82, rg_si2l), (83, rg_slc 4294967295 3), (86, rg_s2l (fun x y => x &&& y))]
theorem rg_o77_1 : ∀ q ∈ rg_c77_1, rg_Ok 77 q.1 q.2 :=
  rg_fc (rg_ok_istore (i := 7) (by decide +kernel) (by decide +kernel)) <|
  rg_fc (rg_ok_aload_n (j := 0) (by decide +kernel) rfl) <|
  rg_fc (rg_ok_getr (idx := 14) rg_cok7 (by decide +kernel) rfl (by decide +kernel) rg_wf_M_14) <|
  rg_fc (rg_ok_iload_n (j := 2) (by decide +kernel) rfl) <|
  rg_fc (rg_ok_iaload (by decide +kernel)) <|
  rg_fc (rg_ok_istore (i := 8) (by decide +kernel) (by decide +kernel)) <|
  rg_fc (rg_ok_iconst (n := 0) (by decide +kernel) (by decide +kernel)) <|
  rg_fc (rg_ok_istore (i := 9) (by decide +kernel) (by decide +kernel)) <|
  rg_fc (rg_okK _ (rg_ok_iload (i := 9) (by decide +kernel))) <|
  rg_fc (rg_ok_iload (i := 4) (by decide +kernel)) <|
  rg_fc (rg_ok_icmp_ge (off := 93) (by decide +kernel) (by decide +kernel)) <|
  rg_fc (rg_ok_lload (i := 5) (by decide +kernel)) <|
  rg_fc (rg_ok_iload (i := 9) (by decide +kernel)) <|
  rg_fc (rg_ok_iload (i := 7) (by decide +kernel)) <|
  rg_fc (rg_ok_icmp_ge (off := 23) (by decide +kernel) (by decide +kernel)) <|
  rg_fc (rg_ok_aload_n (j := 0) (by decide +kernel) rfl) <|
  rg_fc (rg_ok_getr (idx := 8) rg_cok7 (by decide +kernel) rfl (by decide +kernel) rg_wf_M_8) <|
  rg_fc (rg_ok_iload_n (j := 1) (by decide +kernel) rfl) <|
  rg_fc (rg_ok_callS (idx := 32) (by decide +kernel) (by decide +kernel) rg_wm_M_32 rg_wt_9 rg_wy_9 rg_wd_9 ⟨by decide +kernel, by decide +kernel, by decide +kernel⟩ (by decide +kernel) (by decide +kernel)) <|
  rg_fc (rg_ok_iload (i := 9) (by decide +kernel)) <|
  rg_fc (rg_ok_iadd (by decide +kernel)) <|
  rg_fc (rg_ok_iaload (by decide +kernel)) <|
  rg_fc (rg_ok_i2l (by decide +kernel)) <|
  rg_fc (rg_ok_ldc2 (n := 36) (by decide +kernel) rg_wc_M_36) <|
  rg_fc (rg_ok_land (by decide +kernel)) <|
  fun _ h => absurd h List.not_mem_nil
def rg_c77_2 : List (Nat × rg_S) := [(87, rg_sgo 91), (90, rg_slc 0 1), (91, rg_sK [true, true, true, true, true, false, false, true, true, true, false, false] (rg_s2l (fun x y => x + y))), (92, rg_sil 9 2), (94, rg_sil 8 2), (96, rg_skge 119), (99, rg_sal 0 1), (100, rg_sgr 7 0), (103, rg_sil 2 1), (104, rg_scS 9 1 1), (107, rg_sil 9 2), (109, rg_s2i (fun x y => x + y)), (110, rg_sai), (111, rg_si2l), (112, rg_slc 4294967295 3), (115, rg_s2l (fun x y => x &&& y)), (116, rg_sgo 120), (119, rg_slc 0 1), (120, rg_sK [true, true, true, true, true, false, false, true, true, true, false, false] (rg_s2l (fun x y => x + y))), (121, rg_sls 10 2), (123, rg_sal 0 1), (124, rg_sgr 7 0), (127, rg_sil 3 1), (128, rg_scS 9 1 1), (131, rg_sil 9 2)]
theorem rg_o77_2 : ∀ q ∈ rg_c77_2, rg_Ok 77 q.1 q.2 :=
  rg_fc (rg_ok_goto (off := 4) (by decide +kernel) (by decide +kernel)) <|
  rg_fc (rg_ok_lconst (n := 0) (by decide +kernel) (by decide +kernel)) <|
  rg_fc (rg_okK _ (rg_ok_ladd (by decide +kernel))) <|
  rg_fc (rg_ok_iload (i := 9) (by decide +kernel)) <|
  rg_fc (rg_ok_iload (i := 8) (by decide +kernel)) <|
  rg_fc (rg_ok_icmp_ge (off := 23) (by decide +kernel) (by decide +kernel)) <|
  rg_fc (rg_ok_aload_n (j := 0) (by decide +kernel) rfl) <|
  rg_fc (rg_ok_getr (idx := 8) rg_cok7 (by decide +kernel) rfl (by decide +kernel) rg_wf_M_8) <|
  rg_fc (rg_ok_iload_n (j := 2) (by decide +kernel) rfl) <|
  rg_fc (rg_ok_callS (idx := 32) (by decide +kernel) (by decide +kernel) rg_wm_M_32 rg_wt_9 rg_wy_9 rg_wd_9 ⟨by decide +kernel, by decide +kernel, by decide +kernel⟩ (by decide +kernel) (by decide +kernel)) <|
  rg_fc (rg_ok_iload (i := 9) (by decide +kernel)) <|
  rg_fc (rg_ok_iadd (by decide +kernel)) <|
  rg_fc (rg_ok_iaload (by decide +kernel)) <|
  rg_fc (rg_ok_i2l (by decide +kernel)) <|
  rg_fc (rg_ok_ldc2 (n := 36) (by decide +kernel) rg_wc_M_36) <|
  rg_fc (rg_ok_land (by decide +kernel)) <|
  rg_fc (rg_ok_goto (off := 4) (by decide +kernel) (by decide +kernel)) <|
  rg_fc (rg_ok_lconst (n := 0) (by decide +kernel) (by decide +kernel)) <|
  rg_fc (rg_okK _ (rg_ok_ladd (by decide +kernel))) <|
  rg_fc (rg_ok_lstore (i := 10) (by decide +kernel) (by decide +kernel)) <|
  rg_fc (rg_ok_aload_n (j := 0) (by decide +kernel) rfl) <|
  rg_fc (rg_ok_getr (idx := 8) rg_cok7 (by decide +kernel) rfl (by decide +kernel) rg_wf_M_8) <|
  rg_fc (rg_ok_iload_n (j := 3) (by decide +kernel) rfl) <|
  rg_fc (rg_ok_callS (idx := 32) (by decide +kernel) (by decide +kernel) rg_wm_M_32 rg_wt_9 rg_wy_9 rg_wd_9 ⟨by decide +kernel, by decide +kernel, by decide +kernel⟩ (by decide +kernel) (by decide +kernel)) <|
  rg_fc (rg_ok_iload (i := 9) (by decide +kernel)) <|
  fun _ h => absurd h List.not_mem_nil
def rg_c77_3 : List (Nat × rg_S) := [(133, rg_s2i (fun x y => x + y)), (134, rg_sll 10 2), (136, rg_sl2i), (137, rg_swi), (138, rg_sll 10 2), (140, rg_sic 32 2), (142, rg_ssh (fun x y => (x.toUInt64 >>> (y.toInt64.toUInt64 &&& Int64.toUInt64 63)).toInt64)), (143, rg_sls 5 2), (145, rg_sin 9 1), (148, rg_sgo 54), (151, rg_sal 0 1), (152, rg_sgr 7 0), (155, rg_sil 3 1), (156, rg_scS 9 1 1), (159, rg_sil 4 2), (161, rg_s2i (fun x y => x + y)), (162, rg_sll 5 2), (164, rg_sl2i), (165, rg_swi), (166, rg_sal 0 1), (167, rg_sgr 7 1), (170, rg_sil 3 1), (171, rg_sil 4 2), (173, rg_sic 1 1), (174, rg_s2i (fun x y => x + y))]
theorem rg_o77_3 : ∀ q ∈ rg_c77_3, rg_Ok 77 q.1 q.2 :=
  rg_fc (rg_ok_iadd (by decide +kernel)) <|
  rg_fc (rg_ok_lload (i := 10) (by decide +kernel)) <|
  rg_fc (rg_ok_l2i (by decide +kernel)) <|
  rg_fc (rg_ok_iastore (by decide +kernel)) <|
  rg_fc (rg_ok_lload (i := 10) (by decide +kernel)) <|
  rg_fc (rg_ok_bipush (n := 32) (by decide +kernel) (by decide +kernel)) <|
  rg_fc (rg_ok_lushr (by decide +kernel)) <|
  rg_fc (rg_ok_lstore (i := 5) (by decide +kernel) (by decide +kernel)) <|
  rg_fc (rg_ok_iinc (n := 1) (by decide +kernel) (by decide +kernel) (by decide +kernel)) <|
  rg_fc (rg_ok_goto (off := (-94)) (by decide +kernel) (by decide +kernel)) <|
  rg_fc (rg_ok_aload_n (j := 0) (by decide +kernel) rfl) <|
  rg_fc (rg_ok_getr (idx := 8) rg_cok7 (by decide +kernel) rfl (by decide +kernel) rg_wf_M_8) <|
  rg_fc (rg_ok_iload_n (j := 3) (by decide +kernel) rfl) <|
  rg_fc (rg_ok_callS (idx := 32) (by decide +kernel) (by decide +kernel) rg_wm_M_32 rg_wt_9 rg_wy_9 rg_wd_9 ⟨by decide +kernel, by decide +kernel, by decide +kernel⟩ (by decide +kernel) (by decide +kernel)) <|
  rg_fc (rg_ok_iload (i := 4) (by decide +kernel)) <|
  rg_fc (rg_ok_iadd (by decide +kernel)) <|
  rg_fc (rg_ok_lload (i := 5) (by decide +kernel)) <|
  rg_fc (rg_ok_l2i (by decide +kernel)) <|
  rg_fc (rg_ok_iastore (by decide +kernel)) <|
  rg_fc (rg_ok_aload_n (j := 0) (by decide +kernel) rfl) <|
  rg_fc (rg_ok_getr (idx := 14) rg_cok7 (by decide +kernel) rfl (by decide +kernel) rg_wf_M_14) <|
  rg_fc (rg_ok_iload_n (j := 3) (by decide +kernel) rfl) <|
  rg_fc (rg_ok_iload (i := 4) (by decide +kernel)) <|
  rg_fc (rg_ok_iconst (n := 1) (by decide +kernel) (by decide +kernel)) <|
  rg_fc (rg_ok_iadd (by decide +kernel)) <|
  fun _ h => absurd h List.not_mem_nil
def rg_c77_4 : List (Nat × rg_S) := [(175, rg_swi), (176, rg_rv)]
theorem rg_o77_4 : ∀ q ∈ rg_c77_4, rg_Ok 77 q.1 q.2 :=
  rg_fc (rg_ok_iastore (by decide +kernel)) <|
  rg_fc (rg_ok_return (by decide +kernel) rfl) <|
  fun _ h => absurd h List.not_mem_nil
def rg_kd77 : List (List (Nat × rg_S)) := [rg_c77_0, rg_c77_1, rg_c77_2, rg_c77_3, rg_c77_4]
theorem rg_o77 : ∀ pc f, rg_lk2 rg_kd77 pc = some f → rg_Ok 77 pc f := rg_lk2_ok (rg_fd rg_o77_0 (rg_fd rg_o77_1 (rg_fd rg_o77_2 (rg_fd rg_o77_3 (rg_fd rg_o77_4 (fun _ h => absurd h List.not_mem_nil))))))
def rg_c78_0 : List (Nat × rg_S) := [(0, rg_sal 0 1), (1, rg_sgr 7 2), (4, rg_sil 1 1), (5, rg_sai), (6, rg_sis 4 2), (8, rg_sal 0 1), (9, rg_sgr 7 2), (12, rg_sil 2 1), (13, rg_sai), (14, rg_sis 5 2), (16, rg_sil 4 2), (18, rg_sjeq 26), (21, rg_sil 5 2), (23, rg_sjne 42), (26, rg_sK [true, true, true, true, true, false, false] (rg_sal 0 1)), (27, rg_sil 4 2), (29, rg_sjne 36), (32, rg_sil 2 1), (33, rg_sgo 37), (36, rg_sil 1 1), (37, rg_sK [false, false, false, true, false, false, false] (rg_sil 3 1)), (38, rg_scV 69 2 0 7), (41, rg_rv), (42, rg_sil 4 2), (44, rg_sil 5 2)]
theorem rg_o78_0 : ∀ q ∈ rg_c78_0, rg_Ok 78 q.1 q.2 :=
  rg_fc (rg_ok_aload_n (j := 0) (by decide +kernel) rfl) <|
  rg_fc (rg_ok_getr (idx := 17) rg_cok7 (by decide +kernel) rfl (by decide +kernel) rg_wf_M_17) <|
  rg_fc (rg_ok_iload_n (j := 1) (by decide +kernel) rfl) <|
  rg_fc (rg_ok_iaload (by decide +kernel)) <|
  rg_fc (rg_ok_istore (i := 4) (by decide +kernel) (by decide +kernel)) <|
  rg_fc (rg_ok_aload_n (j := 0) (by decide +kernel) rfl) <|
  rg_fc (rg_ok_getr (idx := 17) rg_cok7 (by decide +kernel) rfl (by decide +kernel) rg_wf_M_17) <|
  rg_fc (rg_ok_iload_n (j := 2) (by decide +kernel) rfl) <|
  rg_fc (rg_ok_iaload (by decide +kernel)) <|
  rg_fc (rg_ok_istore (i := 5) (by decide +kernel) (by decide +kernel)) <|
  rg_fc (rg_ok_iload (i := 4) (by decide +kernel)) <|
  rg_fc (rg_ok_if_eq (off := 8) (by decide +kernel) (by decide +kernel)) <|
  rg_fc (rg_ok_iload (i := 5) (by decide +kernel)) <|
  rg_fc (rg_ok_if_ne (off := 19) (by decide +kernel) (by decide +kernel)) <|
  rg_fc (rg_okK _ (rg_ok_aload_n (j := 0) (by decide +kernel) rfl)) <|
  rg_fc (rg_ok_iload (i := 4) (by decide +kernel)) <|
  rg_fc (rg_ok_if_ne (off := 7) (by decide +kernel) (by decide +kernel)) <|
  rg_fc (rg_ok_iload_n (j := 2) (by decide +kernel) rfl) <|
  rg_fc (rg_ok_goto (off := 4) (by decide +kernel) (by decide +kernel)) <|
  rg_fc (rg_ok_iload_n (j := 1) (by decide +kernel) rfl) <|
  rg_fc (rg_okK _ (rg_ok_iload_n (j := 3) (by decide +kernel) rfl)) <|
  rg_fc (rg_ok_callV (idx := 46) rg_cok7 (by decide +kernel) (by decide +kernel) rg_wm_M_46 rg_wj_69 rg_ws_69 rg_wz_7 rg_wd_69 ⟨by decide +kernel, by decide +kernel, by decide +kernel, by decide +kernel⟩ (by decide +kernel) (by decide +kernel)) <|
  rg_fc (rg_ok_return (by decide +kernel) rfl) <|
  rg_fc (rg_ok_iload (i := 4) (by decide +kernel)) <|
  rg_fc (rg_ok_iload (i := 5) (by decide +kernel)) <|
  fun _ h => absurd h List.not_mem_nil
def rg_c78_1 : List (Nat × rg_S) := [(46, rg_skne 67), (49, rg_sal 0 1), (50, rg_sil 1 1), (51, rg_sil 2 1), (52, rg_sil 3 1), (53, rg_scV 77 3 0 7), (56, rg_sal 0 1), (57, rg_sgr 7 2), (60, rg_sil 3 1), (61, rg_sil 4 2), (63, rg_swi), (64, rg_sgo 123), (67, rg_sal 0 1), (68, rg_sil 1 1), (69, rg_sil 2 1), (70, rg_scV 74 2 1 7), (73, rg_sjge 80), (76, rg_sic 1 1), (77, rg_sgo 81), (80, rg_sic 0 1), (81, rg_sK [true, true, true, true, true, true, false] (rg_sis 6 2)), (83, rg_sil 6 2), (85, rg_sjeq 98), (88, rg_sal 0 1), (89, rg_sil 2 1)]
theorem rg_o78_1 : ∀ q ∈ rg_c78_1, rg_Ok 78 q.1 q.2 :=
  rg_fc (rg_ok_icmp_ne (off := 21) (by decide +kernel) (by decide +kernel)) <|
  rg_fc (rg_ok_aload_n (j := 0) (by decide +kernel) rfl) <|
  rg_fc (rg_ok_iload_n (j := 1) (by decide +kernel) rfl) <|
  rg_fc (rg_ok_iload_n (j := 2) (by decide +kernel) rfl) <|
  rg_fc (rg_ok_iload_n (j := 3) (by decide +kernel) rfl) <|
  rg_fc (rg_ok_callV (idx := 50) rg_cok7 (by decide +kernel) (by decide +kernel) rg_wm_M_50 rg_wj_77 rg_ws_77 rg_wz_7 rg_wd_77 ⟨by decide +kernel, by decide +kernel, by decide +kernel, by decide +kernel⟩ (by decide +kernel) (by decide +kernel)) <|
  rg_fc (rg_ok_aload_n (j := 0) (by decide +kernel) rfl) <|
  rg_fc (rg_ok_getr (idx := 17) rg_cok7 (by decide +kernel) rfl (by decide +kernel) rg_wf_M_17) <|
  rg_fc (rg_ok_iload_n (j := 3) (by decide +kernel) rfl) <|
  rg_fc (rg_ok_iload (i := 4) (by decide +kernel)) <|
  rg_fc (rg_ok_iastore (by decide +kernel)) <|
  rg_fc (rg_ok_goto (off := 59) (by decide +kernel) (by decide +kernel)) <|
  rg_fc (rg_ok_aload_n (j := 0) (by decide +kernel) rfl) <|
  rg_fc (rg_ok_iload_n (j := 1) (by decide +kernel) rfl) <|
  rg_fc (rg_ok_iload_n (j := 2) (by decide +kernel) rfl) <|
  rg_fc (rg_ok_callV (idx := 54) rg_cok7 (by decide +kernel) (by decide +kernel) rg_wm_M_54 rg_wj_74 rg_ws_74 rg_wz_7 rg_wd_74 ⟨by decide +kernel, by decide +kernel, by decide +kernel, by decide +kernel⟩ (by decide +kernel) (by decide +kernel)) <|
  rg_fc (rg_ok_if_ge (off := 7) (by decide +kernel) (by decide +kernel)) <|
  rg_fc (rg_ok_iconst (n := 1) (by decide +kernel) (by decide +kernel)) <|
  rg_fc (rg_ok_goto (off := 4) (by decide +kernel) (by decide +kernel)) <|
  rg_fc (rg_ok_iconst (n := 0) (by decide +kernel) (by decide +kernel)) <|
  rg_fc (rg_okK _ (rg_ok_istore (i := 6) (by decide +kernel) (by decide +kernel))) <|
  rg_fc (rg_ok_iload (i := 6) (by decide +kernel)) <|
  rg_fc (rg_ok_if_eq (off := 13) (by decide +kernel) (by decide +kernel)) <|
  rg_fc (rg_ok_aload_n (j := 0) (by decide +kernel) rfl) <|
  rg_fc (rg_ok_iload_n (j := 2) (by decide +kernel) rfl) <|
  fun _ h => absurd h List.not_mem_nil
def rg_c78_2 : List (Nat × rg_S) := [(90, rg_sil 1 1), (91, rg_sil 3 1), (92, rg_scV 75 3 0 7), (95, rg_sgo 105), (98, rg_sal 0 1), (99, rg_sil 1 1), (100, rg_sil 2 1), (101, rg_sil 3 1), (102, rg_scV 75 3 0 7), (105, rg_sK [true, false, false, true, true, true, true] (rg_sal 0 1)), (106, rg_sgr 7 2), (109, rg_sil 3 1), (110, rg_sil 6 2), (112, rg_sjeq 120), (115, rg_sil 5 2), (117, rg_sgo 122), (120, rg_sil 4 2), (122, rg_sK [true, false, false, true, false, false, false] (rg_swi)), (123, rg_sK [true, false, false, true, false, false, false] (rg_sal 0 1)), (124, rg_sil 3 1), (125, rg_scV 10 1 0 7), (128, rg_rv)]
theorem rg_o78_2 : ∀ q ∈ rg_c78_2, rg_Ok 78 q.1 q.2 :=
  rg_fc (rg_ok_iload_n (j := 1) (by decide +kernel) rfl) <|
  rg_fc (rg_ok_iload_n (j := 3) (by decide +kernel) rfl) <|
  rg_fc (rg_ok_callV (idx := 58) rg_cok7 (by decide +kernel) (by decide +kernel) rg_wm_M_58 rg_wj_75 rg_ws_75 rg_wz_7 rg_wd_75 ⟨by decide +kernel, by decide +kernel, by decide +kernel, by decide +kernel⟩ (by decide +kernel) (by decide +kernel)) <|
  rg_fc (rg_ok_goto (off := 10) (by decide +kernel) (by decide +kernel)) <|
  rg_fc (rg_ok_aload_n (j := 0) (by decide +kernel) rfl) <|
  rg_fc (rg_ok_iload_n (j := 1) (by decide +kernel) rfl) <|
  rg_fc (rg_ok_iload_n (j := 2) (by decide +kernel) rfl) <|
  rg_fc (rg_ok_iload_n (j := 3) (by decide +kernel) rfl) <|
  rg_fc (rg_ok_callV (idx := 58) rg_cok7 (by decide +kernel) (by decide +kernel) rg_wm_M_58 rg_wj_75 rg_ws_75 rg_wz_7 rg_wd_75 ⟨by decide +kernel, by decide +kernel, by decide +kernel, by decide +kernel⟩ (by decide +kernel) (by decide +kernel)) <|
  rg_fc (rg_okK _ (rg_ok_aload_n (j := 0) (by decide +kernel) rfl)) <|
  rg_fc (rg_ok_getr (idx := 17) rg_cok7 (by decide +kernel) rfl (by decide +kernel) rg_wf_M_17) <|
  rg_fc (rg_ok_iload_n (j := 3) (by decide +kernel) rfl) <|
  rg_fc (rg_ok_iload (i := 6) (by decide +kernel)) <|
  rg_fc (rg_ok_if_eq (off := 8) (by decide +kernel) (by decide +kernel)) <|
  rg_fc (rg_ok_iload (i := 5) (by decide +kernel)) <|
  rg_fc (rg_ok_goto (off := 5) (by decide +kernel) (by decide +kernel)) <|
  rg_fc (rg_ok_iload (i := 4) (by decide +kernel)) <|
  rg_fc (rg_okK _ (rg_ok_iastore (by decide +kernel))) <|
  rg_fc (rg_okK _ (rg_ok_aload_n (j := 0) (by decide +kernel) rfl)) <|
  rg_fc (rg_ok_iload_n (j := 3) (by decide +kernel) rfl) <|
  rg_fc (rg_ok_callV (idx := 38) rg_cok7 (by decide +kernel) (by decide +kernel) rg_wm_M_38 rg_wj_10 rg_ws_10 rg_wz_7 rg_wd_10 ⟨by decide +kernel, by decide +kernel, by decide +kernel, by decide +kernel⟩ (by decide +kernel) (by decide +kernel)) <|
  rg_fc (rg_ok_return (by decide +kernel) rfl) <|
  fun _ h => absurd h List.not_mem_nil
def rg_kd78 : List (List (Nat × rg_S)) := [rg_c78_0, rg_c78_1, rg_c78_2]
theorem rg_o78 : ∀ pc f, rg_lk2 rg_kd78 pc = some f → rg_Ok 78 pc f := rg_lk2_ok (rg_fd rg_o78_0 (rg_fd rg_o78_1 (rg_fd rg_o78_2 (fun _ h => absurd h List.not_mem_nil))))
def rg_c79_0 : List (Nat × rg_S) := [(0, rg_sal 0 1), (1, rg_sgr 7 1), (4, rg_sil 1 1), (5, rg_sai), (6, rg_sjne 10), (9, rg_rv), (10, rg_sal 0 1), (11, rg_sgr 7 2), (14, rg_sil 1 1), (15, rg_sai), (16, rg_sis 3 1), (17, rg_sal 0 1), (18, rg_sil 1 1), (19, rg_sil 2 1), (20, rg_scV 73 2 0 7), (23, rg_sal 0 1), (24, rg_sgr 7 1), (27, rg_sic 386 3), (30, rg_sai), (31, rg_sic 1 1), (32, rg_skne 58), (35, rg_sal 0 1), (36, rg_sgr 7 0), (39, rg_sic 386 3), (42, rg_scS 9 1 1)]
theorem rg_o79_0 : ∀ q ∈ rg_c79_0, rg_Ok 79 q.1 q.2 :=
  rg_fc (rg_ok_aload_n (j := 0) (by decide +kernel) rfl) <|
  rg_fc (rg_ok_getr (idx := 14) rg_cok7 (by decide +kernel) rfl (by decide +kernel) rg_wf_M_14) <|
  rg_fc (rg_ok_iload_n (j := 1) (by decide +kernel) rfl) <|
  rg_fc (rg_ok_iaload (by decide +kernel)) <|
  rg_fc (rg_ok_if_ne (off := 4) (by decide +kernel) (by decide +kernel)) <|
  rg_fc (rg_ok_return (by decide +kernel) rfl) <|
  rg_fc (rg_ok_aload_n (j := 0) (by decide +kernel) rfl) <|
  rg_fc (rg_ok_getr (idx := 17) rg_cok7 (by decide +kernel) rfl (by decide +kernel) rg_wf_M_17) <|
  rg_fc (rg_ok_iload_n (j := 1) (by decide +kernel) rfl) <|
  rg_fc (rg_ok_iaload (by decide +kernel)) <|
  rg_fc (rg_ok_istore_n (j := 3) (by decide +kernel) rfl (by decide +kernel)) <|
  rg_fc (rg_ok_aload_n (j := 0) (by decide +kernel) rfl) <|
  rg_fc (rg_ok_iload_n (j := 1) (by decide +kernel) rfl) <|
  rg_fc (rg_ok_iload_n (j := 2) (by decide +kernel) rfl) <|
  rg_fc (rg_ok_callV (idx := 70) rg_cok7 (by decide +kernel) (by decide +kernel) rg_wm_M_70 rg_wj_73 rg_ws_73 rg_wz_7 rg_wd_73 ⟨by decide +kernel, by decide +kernel, by decide +kernel, by decide +kernel⟩ (by decide +kernel) (by decide +kernel)) <|
  rg_fc (rg_ok_aload_n (j := 0) (by decide +kernel) rfl) <|
  rg_fc (rg_ok_getr (idx := 14) rg_cok7 (by decide +kernel) rfl (by decide +kernel) rg_wf_M_14) <|
  rg_fc (rg_ok_sipush (n := 386) (by decide +kernel) (by decide +kernel)) <|
  rg_fc (rg_ok_iaload (by decide +kernel)) <|
  rg_fc (rg_ok_iconst (n := 1) (by decide +kernel) (by decide +kernel)) <|
  rg_fc (rg_ok_icmp_ne (off := 26) (by decide +kernel) (by decide +kernel)) <|
  rg_fc (rg_ok_aload_n (j := 0) (by decide +kernel) rfl) <|
  rg_fc (rg_ok_getr (idx := 8) rg_cok7 (by decide +kernel) rfl (by decide +kernel) rg_wf_M_8) <|
  rg_fc (rg_ok_sipush (n := 386) (by decide +kernel) (by decide +kernel)) <|
  rg_fc (rg_ok_callS (idx := 32) (by decide +kernel) (by decide +kernel) rg_wm_M_32 rg_wt_9 rg_wy_9 rg_wd_9 ⟨by decide +kernel, by decide +kernel, by decide +kernel⟩ (by decide +kernel) (by decide +kernel)) <|
  fun _ h => absurd h List.not_mem_nil
def rg_c79_1 : List (Nat × rg_S) := [(45, rg_sai), (46, rg_sic 1 1), (47, rg_skne 58), (50, rg_sal 0 1), (51, rg_sgr 7 2), (54, rg_sil 1 1), (55, rg_sil 3 1), (56, rg_swi), (57, rg_rv), (58, rg_sK [true, true, false, true, false, false, false, false, false, false, false, false, false, false, false, false, false, false, false, false, false] (rg_sal 0 1)), (59, rg_sgr 7 0), (62, rg_sic 386 3), (65, rg_scS 9 1 1), (68, rg_sai), (69, rg_sis 4 2), (71, rg_sil 4 2), (73, rg_sis 5 2), (75, rg_sic 0 1), (76, rg_sis 6 2), (78, rg_sK [true, true, false, true, true, true, true, false, false, false, false, false, false, false, false, false, false, false, false, false, false] (rg_sil 6 2)), (80, rg_sic 5 1), (81, rg_skge 102), (84, rg_sil 5 2), (86, rg_sic 2 1), (87, rg_sil 4 2)]
theorem rg_o79_1 : ∀ q ∈ rg_c79_1, rg_Ok 79 q.1 q.2 :=
  rg_fc (rg_ok_iaload (by decide +kernel)) <|
  rg_fc (rg_ok_iconst (n := 1) (by decide +kernel) (by decide +kernel)) <|
  rg_fc (rg_ok_icmp_ne (off := 11) (by decide +kernel) (by decide +kernel)) <|
  rg_fc (rg_ok_aload_n (j := 0) (by decide +kernel) rfl) <|
  rg_fc (rg_ok_getr (idx := 17) rg_cok7 (by decide +kernel) rfl (by decide +kernel) rg_wf_M_17) <|
  rg_fc (rg_ok_iload_n (j := 1) (by decide +kernel) rfl) <|
  rg_fc (rg_ok_iload_n (j := 3) (by decide +kernel) rfl) <|
  rg_fc (rg_ok_iastore (by decide +kernel)) <|
  rg_fc (rg_ok_return (by decide +kernel) rfl) <|
  rg_fc (rg_okK _ (rg_ok_aload_n (j := 0) (by decide +kernel) rfl)) <|
  rg_fc (rg_ok_getr (idx := 8) rg_cok7 (by decide +kernel) rfl (by decide +kernel) rg_wf_M_8) <|
  rg_fc (rg_ok_sipush (n := 386) (by decide +kernel) (by decide +kernel)) <|
  rg_fc (rg_ok_callS (idx := 32) (by decide +kernel) (by decide +kernel) rg_wm_M_32 rg_wt_9 rg_wy_9 rg_wd_9 ⟨by decide +kernel, by decide +kernel, by decide +kernel⟩ (by decide +kernel) (by decide +kernel)) <|
  rg_fc (rg_ok_iaload (by decide +kernel)) <|
  rg_fc (rg_ok_istore (i := 4) (by decide +kernel) (by decide +kernel)) <|
  rg_fc (rg_ok_iload (i := 4) (by decide +kernel)) <|
  rg_fc (rg_ok_istore (i := 5) (by decide +kernel) (by decide +kernel)) <|
  rg_fc (rg_ok_iconst (n := 0) (by decide +kernel) (by decide +kernel)) <|
  rg_fc (rg_ok_istore (i := 6) (by decide +kernel) (by decide +kernel)) <|
  rg_fc (rg_okK _ (rg_ok_iload (i := 6) (by decide +kernel))) <|
  rg_fc (rg_ok_iconst (n := 5) (by decide +kernel) (by decide +kernel)) <|
  rg_fc (rg_ok_icmp_ge (off := 21) (by decide +kernel) (by decide +kernel)) <|
  rg_fc (rg_ok_iload (i := 5) (by decide +kernel)) <|
  rg_fc (rg_ok_iconst (n := 2) (by decide +kernel) (by decide +kernel)) <|
  rg_fc (rg_ok_iload (i := 4) (by decide +kernel)) <|
  fun _ h => absurd h List.not_mem_nil
def rg_c79_2 : List (Nat × rg_S) := [(89, rg_sil 5 2), (91, rg_s2i (fun x y => x * y)), (92, rg_s2i (fun x y => x - y)), (93, rg_s2i (fun x y => x * y)), (94, rg_sis 5 2), (96, rg_sin 6 1), (99, rg_sgo 78), (102, rg_sal 0 1), (103, rg_sgr 7 1), (106, rg_sil 1 1), (107, rg_sai), (108, rg_sal 0 1), (109, rg_sgr 7 1), (112, rg_sic 386 3), (115, rg_sai), (116, rg_s2i (fun x y => x - y)), (117, rg_sic 1 1), (118, rg_s2i (fun x y => x + y)), (119, rg_sis 6 2), (121, rg_sal 0 1), (122, rg_sgr 7 1), (125, rg_sic 386 3), (128, rg_sai), (129, rg_sis 7 2), (131, rg_sic 0 1)]
theorem rg_o79_2 : ∀ q ∈ rg_c79_2, rg_Ok 79 q.1 q.2 :=
  rg_fc (rg_ok_iload (i := 5) (by decide +kernel)) <|
  rg_fc (rg_ok_imul (by decide +kernel)) <|
  rg_fc (rg_ok_isub (by decide +kernel)) <|
  rg_fc (rg_ok_imul (by decide +kernel)) <|
  rg_fc (rg_ok_istore (i := 5) (by decide +kernel) (by decide +kernel)) <|
  rg_fc (rg_ok_iinc (n := 1) (by decide +kernel) (by decide +kernel) (by decide +kernel)) <|
  rg_fc (rg_ok_goto (off := (-21)) (by decide +kernel) (by decide +kernel)) <|
  rg_fc (rg_ok_aload_n (j := 0) (by decide +kernel) rfl) <|
  rg_fc (rg_ok_getr (idx := 14) rg_cok7 (by decide +kernel) rfl (by decide +kernel) rg_wf_M_14) <|
  rg_fc (rg_ok_iload_n (j := 1) (by decide +kernel) rfl) <|
  rg_fc (rg_ok_iaload (by decide +kernel)) <|
  rg_fc (rg_ok_aload_n (j := 0) (by decide +kernel) rfl) <|
  rg_fc (rg_ok_getr (idx := 14) rg_cok7 (by decide +kernel) rfl (by decide +kernel) rg_wf_M_14) <|
  rg_fc (rg_ok_sipush (n := 386) (by decide +kernel) (by decide +kernel)) <|
  rg_fc (rg_ok_iaload (by decide +kernel)) <|
  rg_fc (rg_ok_isub (by decide +kernel)) <|
  rg_fc (rg_ok_iconst (n := 1) (by decide +kernel) (by decide +kernel)) <|
  rg_fc (rg_ok_iadd (by decide +kernel)) <|
  rg_fc (rg_ok_istore (i := 6) (by decide +kernel) (by decide +kernel)) <|
  rg_fc (rg_ok_aload_n (j := 0) (by decide +kernel) rfl) <|
  rg_fc (rg_ok_getr (idx := 14) rg_cok7 (by decide +kernel) rfl (by decide +kernel) rg_wf_M_14) <|
  rg_fc (rg_ok_sipush (n := 386) (by decide +kernel) (by decide +kernel)) <|
  rg_fc (rg_ok_iaload (by decide +kernel)) <|
  rg_fc (rg_ok_istore (i := 7) (by decide +kernel) (by decide +kernel)) <|
  rg_fc (rg_ok_iconst (n := 0) (by decide +kernel) (by decide +kernel)) <|
  fun _ h => absurd h List.not_mem_nil
def rg_c79_3 : List (Nat × rg_S) := [(132, rg_sis 8 2), (134, rg_sK [true, true, false, true, false, true, true, true, true, false, false, false, false, false, false, false, false, false, false, false, false] (rg_sil 8 2)), (136, rg_sil 6 2), (138, rg_skge 342), (141, rg_sal 0 1), (142, rg_sgr 7 0), (145, rg_sil 1 1), (146, rg_scS 9 1 1), (149, rg_sil 8 2), (151, rg_s2i (fun x y => x + y)), (152, rg_sai), (153, rg_sil 5 2), (155, rg_s2i (fun x y => x * y)), (156, rg_sis 9 2), (158, rg_sil 9 2), (160, rg_si2l), (161, rg_slc 4294967295 3), (164, rg_s2l (fun x y => x &&& y)), (165, rg_sls 10 2), (167, rg_slc 0 1), (168, rg_sls 12 2), (170, rg_slc 0 1), (171, rg_sls 14 2), (173, rg_sic 0 1), (174, rg_sis 16 2)]
theorem rg_o79_3 : ∀ q ∈ rg_c79_3, rg_Ok 79 q.1 q.2 :=
  rg_fc (rg_ok_istore (i := 8) (by decide +kernel) (by decide +kernel)) <|
  rg_fc (rg_okK _ (rg_ok_iload (i := 8) (by decide +kernel))) <|
  rg_fc (rg_ok_iload (i := 6) (by decide +kernel)) <|
  rg_fc (rg_ok_icmp_ge (off := 204) (by decide +kernel) (by decide +kernel)) <|
  rg_fc (rg_ok_aload_n (j := 0) (by decide +kernel) rfl) <|
  rg_fc (rg_ok_getr (idx := 8) rg_cok7 (by decide +kernel) rfl (by decide +kernel) rg_wf_M_8) <|
  rg_fc (rg_ok_iload_n (j := 1) (by decide +kernel) rfl) <|
  rg_fc (rg_ok_callS (idx := 32) (by decide +kernel) (by decide +kernel) rg_wm_M_32 rg_wt_9 rg_wy_9 rg_wd_9 ⟨by decide +kernel, by decide +kernel, by decide +kernel⟩ (by decide +kernel) (by decide +kernel)) <|
  rg_fc (rg_ok_iload (i := 8) (by decide +kernel)) <|
  rg_fc (rg_ok_iadd (by decide +kernel)) <|
  rg_fc (rg_ok_iaload (by decide +kernel)) <|
  rg_fc (rg_ok_iload (i := 5) (by decide +kernel)) <|
  rg_fc (rg_ok_imul (by decide +kernel)) <|
  rg_fc (rg_ok_istore (i := 9) (by decide +kernel) (by decide +kernel)) <|
  rg_fc (rg_ok_iload (i := 9) (by decide +kernel)) <|
  rg_fc (rg_ok_i2l (by decide +kernel)) <|
  rg_fc (rg_ok_ldc2 (n := 36) (by decide +kernel) rg_wc_M_36) <|
  rg_fc (rg_ok_land (by decide +kernel)) <|
  rg_fc (rg_ok_lstore (i := 10) (by decide +kernel) (by decide +kernel)) <|
  rg_fc (rg_ok_lconst (n := 0) (by decide +kernel) (by decide +kernel)) <|
  rg_fc (rg_ok_lstore (i := 12) (by decide +kernel) (by decide +kernel)) <|
  rg_fc (rg_ok_lconst (n := 0) (by decide +kernel) (by decide +kernel)) <|
  rg_fc (rg_ok_lstore (i := 14) (by decide +kernel) (by decide +kernel)) <|
  rg_fc (rg_ok_iconst (n := 0) (by decide +kernel) (by decide +kernel)) <|
  rg_fc (rg_ok_istore (i := 16) (by decide +kernel) (by decide +kernel)) <|
  fun _ h => absurd h List.not_mem_nil
def rg_c79_4 : List (Nat × rg_S) := [(176, rg_sK [true, true, false, true, false, true, true, true, true, true, true, false, true, false, true, false, true, false, false, false, false] (rg_sil 8 2)), (178, rg_sil 16 2), (180, rg_s2i (fun x y => x + y)), (181, rg_sal 0 1), (182, rg_sgr 7 1), (185, rg_sil 1 1), (186, rg_sai), (187, rg_skge 322), (190, rg_sil 16 2), (192, rg_sil 7 2), (194, rg_sklt 207), (197, rg_sll 12 2), (199, rg_sll 14 2), (201, rg_s2l (fun x y => x + y)), (202, rg_slc 0 1), (203, rg_scm), (204, rg_sjeq 322), (207, rg_sK [true, true, false, true, false, true, true, true, true, true, true, false, true, false, true, false, true, false, false, false, false] (rg_sll 12 2)), (209, rg_sil 16 2), (211, rg_sil 7 2), (213, rg_skge 241), (216, rg_sll 10 2), (218, rg_sal 0 1), (219, rg_sgr 7 0), (222, rg_sic 386 3)]
theorem rg_o79_4 : ∀ q ∈ rg_c79_4, rg_Ok 79 q.1 q.2 :=
  rg_fc (rg_okK _ (rg_ok_iload (i := 8) (by decide +kernel))) <|
  rg_fc (rg_ok_iload (i := 16) (by decide +kernel)) <|
  rg_fc (rg_ok_iadd (by decide +kernel)) <|
  rg_fc (rg_ok_aload_n (j := 0) (by decide +kernel) rfl) <|
  rg_fc (rg_ok_getr (idx := 14) rg_cok7 (by decide +kernel) rfl (by decide +kernel) rg_wf_M_14) <|
  rg_fc (rg_ok_iload_n (j := 1) (by decide +kernel) rfl) <|
  rg_fc (rg_ok_iaload (by decide +kernel)) <|
  rg_fc (rg_ok_icmp_ge (off := 135) (by decide +kernel) (by decide +kernel)) <|
  rg_fc (rg_ok_iload (i := 16) (by decide +kernel)) <|
  rg_fc (rg_ok_iload (i := 7) (by decide +kernel)) <|
  rg_fc (rg_ok_icmp_lt (off := 13) (by decide +kernel) (by decide +kernel)) <|
  rg_fc (rg_ok_lload (i := 12) (by decide +kernel)) <|
  rg_fc (rg_ok_lload (i := 14) (by decide +kernel)) <|
  rg_fc (rg_ok_ladd (by decide +kernel)) <|
  rg_fc (rg_ok_lconst (n := 0) (by decide +kernel) (by decide +kernel)) <|
  rg_fc (rg_ok_lcmp (by decide +kernel)) <|
  rg_fc (rg_ok_if_eq (off := 118) (by decide +kernel) (by decide +kernel)) <|
  rg_fc (rg_okK _ (rg_ok_lload (i := 12) (by decide +kernel))) <|
  rg_fc (rg_ok_iload (i := 16) (by decide +kernel)) <|
  rg_fc (rg_ok_iload (i := 7) (by decide +kernel)) <|
  rg_fc (rg_ok_icmp_ge (off := 28) (by decide +kernel) (by decide +kernel)) <|
  rg_fc (rg_ok_lload (i := 10) (by decide +kernel)) <|
  rg_fc (rg_ok_aload_n (j := 0) (by decide +kernel) rfl) <|
  rg_fc (rg_ok_getr (idx := 8) rg_cok7 (by decide +kernel) rfl (by decide +kernel) rg_wf_M_8) <|
  rg_fc (rg_ok_sipush (n := 386) (by decide +kernel) (by decide +kernel)) <|
  fun _ h => absurd h List.not_mem_nil
def rg_c79_5 : List (Nat × rg_S) := [(225, rg_scS 9 1 1), (228, rg_sil 16 2), (230, rg_s2i (fun x y => x + y)), (231, rg_sai), (232, rg_si2l), (233, rg_slc 4294967295 3), (236, rg_s2l (fun x y => x &&& y)), (237, rg_s2l (fun x y => x * y)), (238, rg_sgo 242), (241, rg_slc 0 1), (242, rg_sK [true, true, false, true, false, true, true, true, true, true, true, false, false, false, true, false, true, false, false, false, false] (rg_s2l (fun x y => x + y))), (243, rg_sls 17 2), (245, rg_sll 17 2), (247, rg_sic 32 2), (249, rg_ssh (fun x y => (x.toUInt64 >>> (y.toInt64.toUInt64 &&& Int64.toUInt64 63)).toInt64)), (250, rg_sls 12 2), (252, rg_sal 0 1), (253, rg_sgr 7 0), (256, rg_sil 1 1), (257, rg_scS 9 1 1), (260, rg_sil 8 2), (262, rg_s2i (fun x y => x + y)), (263, rg_sil 16 2), (265, rg_s2i (fun x y => x + y)), (266, rg_sai)]
theorem rg_o79_5 : ∀ q ∈ rg_c79_5, rg_Ok 79 q.1 q.2 :=
  rg_fc (rg_ok_callS (idx := 32) (by decide +kernel) (by decide +kernel) rg_wm_M_32 rg_wt_9 rg_wy_9 rg_wd_9 ⟨by decide +kernel, by decide +kernel, by decide +kernel⟩ (by decide +kernel) (by decide +kernel)) <|
  rg_fc (rg_ok_iload (i := 16) (by decide +kernel)) <|
  rg_fc (rg_ok_iadd (by decide +kernel)) <|
  rg_fc (rg_ok_iaload (by decide +kernel)) <|
  rg_fc (rg_ok_i2l (by decide +kernel)) <|
  rg_fc (rg_ok_ldc2 (n := 36) (by decide +kernel) rg_wc_M_36) <|
  rg_fc (rg_ok_land (by decide +kernel)) <|
  rg_fc (rg_ok_lmul (by decide +kernel)) <|
  rg_fc (rg_ok_goto (off := 4) (by decide +kernel) (by decide +kernel)) <|
  rg_fc (rg_ok_lconst (n := 0) (by decide +kernel) (by decide +kernel)) <|
  rg_fc (rg_okK _ (rg_ok_ladd (by decide +kernel))) <|
  rg_fc (rg_ok_lstore (i := 17) (by decide +kernel) (by decide +kernel)) <|
  rg_fc (rg_ok_lload (i := 17) (by decide +kernel)) <|
  rg_fc (rg_ok_bipush (n := 32) (by decide +kernel) (by decide +kernel)) <|
  rg_fc (rg_ok_lushr (by decide +kernel)) <|
  rg_fc (rg_ok_lstore (i := 12) (by decide +kernel) (by decide +kernel)) <|
  rg_fc (rg_ok_aload_n (j := 0) (by decide +kernel) rfl) <|
  rg_fc (rg_ok_getr (idx := 8) rg_cok7 (by decide +kernel) rfl (by decide +kernel) rg_wf_M_8) <|
  rg_fc (rg_ok_iload_n (j := 1) (by decide +kernel) rfl) <|
  rg_fc (rg_ok_callS (idx := 32) (by decide +kernel) (by decide +kernel) rg_wm_M_32 rg_wt_9 rg_wy_9 rg_wd_9 ⟨by decide +kernel, by decide +kernel, by decide +kernel⟩ (by decide +kernel) (by decide +kernel)) <|
  rg_fc (rg_ok_iload (i := 8) (by decide +kernel)) <|
  rg_fc (rg_ok_iadd (by decide +kernel)) <|
  rg_fc (rg_ok_iload (i := 16) (by decide +kernel)) <|
  rg_fc (rg_ok_iadd (by decide +kernel)) <|
  rg_fc (rg_ok_iaload (by decide +kernel)) <|
  fun _ h => absurd h List.not_mem_nil
def rg_c79_6 : List (Nat × rg_S) := [(267, rg_si2l), (268, rg_slc 4294967295 3), (271, rg_s2l (fun x y => x &&& y)), (272, rg_sll 17 2), (274, rg_slc 4294967295 3), (277, rg_s2l (fun x y => x &&& y)), (278, rg_s2l (fun x y => x - y)), (279, rg_sll 14 2), (281, rg_s2l (fun x y => x - y)), (282, rg_sls 19 2), (284, rg_sal 0 1), (285, rg_sgr 7 0), (288, rg_sil 1 1), (289, rg_scS 9 1 1), (292, rg_sil 8 2), (294, rg_s2i (fun x y => x + y)), (295, rg_sil 16 2), (297, rg_s2i (fun x y => x + y)), (298, rg_sll 19 2), (300, rg_sl2i), (301, rg_swi), (302, rg_sll 19 2), (304, rg_slc 0 1), (305, rg_scm), (306, rg_sjge 313)]
theorem rg_o79_6 : ∀ q ∈ rg_c79_6, rg_Ok 79 q.1 q.2 :=
  rg_fc (rg_ok_i2l (by decide +kernel)) <|
  rg_fc (rg_ok_ldc2 (n := 36) (by decide +kernel) rg_wc_M_36) <|
  rg_fc (rg_ok_land (by decide +kernel)) <|
  rg_fc (rg_ok_lload (i := 17) (by decide +kernel)) <|
  rg_fc (rg_ok_ldc2 (n := 36) (by decide +kernel) rg_wc_M_36) <|
  rg_fc (rg_ok_land (by decide +kernel)) <|
  rg_fc (rg_ok_lsub (by decide +kernel)) <|
  rg_fc (rg_ok_lload (i := 14) (by decide +kernel)) <|
  rg_fc (rg_ok_lsub (by decide +kernel)) <|
  rg_fc (rg_ok_lstore (i := 19) (by decide +kernel) (by decide +kernel)) <|
  rg_fc (rg_ok_aload_n (j := 0) (by decide +kernel) rfl) <|
  rg_fc (rg_ok_getr (idx := 8) rg_cok7 (by decide +kernel) rfl (by decide +kernel) rg_wf_M_8) <|
  rg_fc (rg_ok_iload_n (j := 1) (by decide +kernel) rfl) <|
  rg_fc (rg_ok_callS (idx := 32) (by decide +kernel) (by decide +kernel) rg_wm_M_32 rg_wt_9 rg_wy_9 rg_wd_9 ⟨by decide +kernel, by decide +kernel, by decide +kernel⟩ (by decide +kernel) (by decide +kernel)) <|
  rg_fc (rg_ok_iload (i := 8) (by decide +kernel)) <|
  rg_fc (rg_ok_iadd (by decide +kernel)) <|
  rg_fc (rg_ok_iload (i := 16) (by decide +kernel)) <|
  rg_fc (rg_ok_iadd (by decide +kernel)) <|
  rg_fc (rg_ok_lload (i := 19) (by decide +kernel)) <|
  rg_fc (rg_ok_l2i (by decide +kernel)) <|
  rg_fc (rg_ok_iastore (by decide +kernel)) <|
  rg_fc (rg_ok_lload (i := 19) (by decide +kernel)) <|
  rg_fc (rg_ok_lconst (n := 0) (by decide +kernel) (by decide +kernel)) <|
  rg_fc (rg_ok_lcmp (by decide +kernel)) <|
  rg_fc (rg_ok_if_ge (off := 7) (by decide +kernel) (by decide +kernel)) <|
  fun _ h => absurd h List.not_mem_nil
def rg_c79_7 : List (Nat × rg_S) := [(309, rg_slc 1 1), (310, rg_sgo 314), (313, rg_slc 0 1), (314, rg_sK [true, true, false, true, false, true, true, true, true, true, true, false, true, false, false, false, true, false, false, false, false] (rg_sls 14 2)), (316, rg_sin 16 1), (319, rg_sgo 176), (322, rg_sK [true, true, false, true, false, true, true, true, true, true, false, false, false, false, false, false, false, false, false, false, false] (rg_sal 0 1)), (323, rg_sgr 7 0), (326, rg_sil 1 1), (327, rg_scS 9 1 1), (330, rg_sil 8 2), (332, rg_s2i (fun x y => x + y)), (333, rg_sil 9 2), (335, rg_swi), (336, rg_sin 8 1), (339, rg_sgo 134), (342, rg_sal 0 1), (343, rg_sgr 7 1), (346, rg_sil 1 1), (347, rg_sil 6 2), (349, rg_swi), (350, rg_sal 0 1), (351, rg_sgr 7 2), (354, rg_sil 1 1), (355, rg_sil 3 1)]
theorem rg_o79_7 : ∀ q ∈ rg_c79_7, rg_Ok 79 q.1 q.2 :=
  rg_fc (rg_ok_lconst (n := 1) (by decide +kernel) (by decide +kernel)) <|
  rg_fc (rg_ok_goto (off := 4) (by decide +kernel) (by decide +kernel)) <|
  rg_fc (rg_ok_lconst (n := 0) (by decide +kernel) (by decide +kernel)) <|
  rg_fc (rg_okK _ (rg_ok_lstore (i := 14) (by decide +kernel) (by decide +kernel))) <|
  rg_fc (rg_ok_iinc (n := 1) (by decide +kernel) (by decide +kernel) (by decide +kernel)) <|
  rg_fc (rg_ok_goto (off := (-143)) (by decide +kernel) (by decide +kernel)) <|
  rg_fc (rg_okK _ (rg_ok_aload_n (j := 0) (by decide +kernel) rfl)) <|
  rg_fc (rg_ok_getr (idx := 8) rg_cok7 (by decide +kernel) rfl (by decide +kernel) rg_wf_M_8) <|
  rg_fc (rg_ok_iload_n (j := 1) (by decide +kernel) rfl) <|
  rg_fc (rg_ok_callS (idx := 32) (by decide +kernel) (by decide +kernel) rg_wm_M_32 rg_wt_9 rg_wy_9 rg_wd_9 ⟨by decide +kernel, by decide +kernel, by decide +kernel⟩ (by decide +kernel) (by decide +kernel)) <|
  rg_fc (rg_ok_iload (i := 8) (by decide +kernel)) <|
  rg_fc (rg_ok_iadd (by decide +kernel)) <|
  rg_fc (rg_ok_iload (i := 9) (by decide +kernel)) <|
  rg_fc (rg_ok_iastore (by decide +kernel)) <|
  rg_fc (rg_ok_iinc (n := 1) (by decide +kernel) (by decide +kernel) (by decide +kernel)) <|
  rg_fc (rg_ok_goto (off := (-205)) (by decide +kernel) (by decide +kernel)) <|
  rg_fc (rg_ok_aload_n (j := 0) (by decide +kernel) rfl) <|
  rg_fc (rg_ok_getr (idx := 14) rg_cok7 (by decide +kernel) rfl (by decide +kernel) rg_wf_M_14) <|
  rg_fc (rg_ok_iload_n (j := 1) (by decide +kernel) rfl) <|
  rg_fc (rg_ok_iload (i := 6) (by decide +kernel)) <|
  rg_fc (rg_ok_iastore (by decide +kernel)) <|
  rg_fc (rg_ok_aload_n (j := 0) (by decide +kernel) rfl) <|
  rg_fc (rg_ok_getr (idx := 17) rg_cok7 (by decide +kernel) rfl (by decide +kernel) rg_wf_M_17) <|
  rg_fc (rg_ok_iload_n (j := 1) (by decide +kernel) rfl) <|
  rg_fc (rg_ok_iload_n (j := 3) (by decide +kernel) rfl) <|
  fun _ h => absurd h List.not_mem_nil
def rg_c79_8 : List (Nat × rg_S) := [(356, rg_swi), (357, rg_sal 0 1), (358, rg_sil 1 1), (359, rg_scV 10 1 0 7), (362, rg_rv)]
theorem rg_o79_8 : ∀ q ∈ rg_c79_8, rg_Ok 79 q.1 q.2 :=
  rg_fc (rg_ok_iastore (by decide +kernel)) <|
  rg_fc (rg_ok_aload_n (j := 0) (by decide +kernel) rfl) <|
  rg_fc (rg_ok_iload_n (j := 1) (by decide +kernel) rfl) <|
  rg_fc (rg_ok_callV (idx := 38) rg_cok7 (by decide +kernel) (by decide +kernel) rg_wm_M_38 rg_wj_10 rg_ws_10 rg_wz_7 rg_wd_10 ⟨by decide +kernel, by decide +kernel, by decide +kernel, by decide +kernel⟩ (by decide +kernel) (by decide +kernel)) <|
  rg_fc (rg_ok_return (by decide +kernel) rfl) <|
  fun _ h => absurd h List.not_mem_nil
def rg_kd79 : List (List (Nat × rg_S)) := [rg_c79_0, rg_c79_1, rg_c79_2, rg_c79_3, rg_c79_4, rg_c79_5, rg_c79_6, rg_c79_7, rg_c79_8]
theorem rg_o79 : ∀ pc f, rg_lk2 rg_kd79 pc = some f → rg_Ok 79 pc f := rg_lk2_ok (rg_fd rg_o79_0 (rg_fd rg_o79_1 (rg_fd rg_o79_2 (rg_fd rg_o79_3 (rg_fd rg_o79_4 (rg_fd rg_o79_5 (rg_fd rg_o79_6 (rg_fd rg_o79_7 (rg_fd rg_o79_8 (fun _ h => absurd h List.not_mem_nil))))))))))
def rg_c80_0 : List (Nat × rg_S) := [(0, rg_sal 0 1), (1, rg_sil 1 1), (2, rg_scV 67 1 1 7), (5, rg_sis 2 1), (6, rg_sic 1 1), (7, rg_sis 3 1), (8, rg_sic 0 1), (9, rg_sis 4 2), (11, rg_sK [true, true, true, true, true, false, false] (rg_sil 4 2)), (13, rg_sil 2 1), (14, rg_skge 112), (17, rg_sic 320 3), (20, rg_sal 0 1), (21, rg_sil 1 1), (22, rg_sil 4 2), (24, rg_scV 68 2 1 7), (27, rg_s2i (fun x y => x + y)), (28, rg_sis 5 2), (30, rg_sal 0 1), (31, rg_sgr 7 2), (34, rg_sil 5 2), (36, rg_sai), (37, rg_sjne 43), (40, rg_sgo 106), (43, rg_sil 3 1)]
theorem rg_o80_0 : ∀ q ∈ rg_c80_0, rg_Ok 80 q.1 q.2 :=
  rg_fc (rg_ok_aload_n (j := 0) (by decide +kernel) rfl) <|
  rg_fc (rg_ok_iload_n (j := 1) (by decide +kernel) rfl) <|
  rg_fc (rg_ok_callV (idx := 107) rg_cok7 (by decide +kernel) (by decide +kernel) rg_wm_M_107 rg_wj_67 rg_ws_67 rg_wz_7 rg_wd_67 ⟨by decide +kernel, by decide +kernel, by decide +kernel, by decide +kernel⟩ (by decide +kernel) (by decide +kernel)) <|
  rg_fc (rg_ok_istore_n (j := 2) (by decide +kernel) rfl (by decide +kernel)) <|
  rg_fc (rg_ok_iconst (n := 1) (by decide +kernel) (by decide +kernel)) <|
  rg_fc (rg_ok_istore_n (j := 3) (by decide +kernel) rfl (by decide +kernel)) <|
  rg_fc (rg_ok_iconst (n := 0) (by decide +kernel) (by decide +kernel)) <|
  rg_fc (rg_ok_istore (i := 4) (by decide +kernel) (by decide +kernel)) <|
  rg_fc (rg_okK _ (rg_ok_iload (i := 4) (by decide +kernel))) <|
  rg_fc (rg_ok_iload_n (j := 2) (by decide +kernel) rfl) <|
  rg_fc (rg_ok_icmp_ge (off := 98) (by decide +kernel) (by decide +kernel)) <|
  rg_fc (rg_ok_sipush (n := 320) (by decide +kernel) (by decide +kernel)) <|
  rg_fc (rg_ok_aload_n (j := 0) (by decide +kernel) rfl) <|
  rg_fc (rg_ok_iload_n (j := 1) (by decide +kernel) rfl) <|
  rg_fc (rg_ok_iload (i := 4) (by decide +kernel)) <|
  rg_fc (rg_ok_callV (idx := 110) rg_cok7 (by decide +kernel) (by decide +kernel) rg_wm_M_110 rg_wj_68 rg_ws_68 rg_wz_7 rg_wd_68 ⟨by decide +kernel, by decide +kernel, by decide +kernel, by decide +kernel⟩ (by decide +kernel) (by decide +kernel)) <|
  rg_fc (rg_ok_iadd (by decide +kernel)) <|
  rg_fc (rg_ok_istore (i := 5) (by decide +kernel) (by decide +kernel)) <|
  rg_fc (rg_ok_aload_n (j := 0) (by decide +kernel) rfl) <|
  rg_fc (rg_ok_getr (idx := 17) rg_cok7 (by decide +kernel) rfl (by decide +kernel) rg_wf_M_17) <|
  rg_fc (rg_ok_iload (i := 5) (by decide +kernel)) <|
  rg_fc (rg_ok_iaload (by decide +kernel)) <|
  rg_fc (rg_ok_if_ne (off := 6) (by decide +kernel) (by decide +kernel)) <|
  rg_fc (rg_ok_goto (off := 66) (by decide +kernel) (by decide +kernel)) <|
  rg_fc (rg_ok_iload_n (j := 3) (by decide +kernel) rfl) <|
  fun _ h => absurd h List.not_mem_nil
def rg_c80_1 : List (Nat × rg_S) := [(44, rg_sjeq 59), (47, rg_sal 0 1), (48, rg_sil 5 2), (50, rg_sic 389 3), (53, rg_scV 69 2 0 7), (56, rg_sgo 104), (59, rg_sal 0 1), (60, rg_sic 389 3), (63, rg_sil 5 2), (65, rg_scV 76 2 1 7), (68, rg_sis 6 2), (70, rg_sal 0 1), (71, rg_sic 386 3), (74, rg_sic 389 3), (77, rg_scV 69 2 0 7), (80, rg_sK [true, true, true, false, true, false, true] (rg_sil 6 2)), (82, rg_sjle 104), (85, rg_sal 0 1), (86, rg_sic 389 3), (89, rg_sic 389 3), (92, rg_sic 389 3), (95, rg_scV 78 3 0 7), (98, rg_sin 6 (-1)), (101, rg_sgo 80), (104, rg_sK [true, true, true, false, true, false, false] (rg_sic 0 1))]
theorem rg_o80_1 : ∀ q ∈ rg_c80_1, rg_Ok 80 q.1 q.2 :=
  rg_fc (rg_ok_if_eq (off := 15) (by decide +kernel) (by decide +kernel)) <|
  rg_fc (rg_ok_aload_n (j := 0) (by decide +kernel) rfl) <|
  rg_fc (rg_ok_iload (i := 5) (by decide +kernel)) <|
  rg_fc (rg_ok_sipush (n := 389) (by decide +kernel) (by decide +kernel)) <|
  rg_fc (rg_ok_callV (idx := 46) rg_cok7 (by decide +kernel) (by decide +kernel) rg_wm_M_46 rg_wj_69 rg_ws_69 rg_wz_7 rg_wd_69 ⟨by decide +kernel, by decide +kernel, by decide +kernel, by decide +kernel⟩ (by decide +kernel) (by decide +kernel)) <|
  rg_fc (rg_ok_goto (off := 48) (by decide +kernel) (by decide +kernel)) <|
  rg_fc (rg_ok_aload_n (j := 0) (by decide +kernel) rfl) <|
  rg_fc (rg_ok_sipush (n := 389) (by decide +kernel) (by decide +kernel)) <|
  rg_fc (rg_ok_iload (i := 5) (by decide +kernel)) <|
  rg_fc (rg_ok_callV (idx := 73) rg_cok7 (by decide +kernel) (by decide +kernel) rg_wm_M_73 rg_wj_76 rg_ws_76 rg_wz_7 rg_wd_76 ⟨by decide +kernel, by decide +kernel, by decide +kernel, by decide +kernel⟩ (by decide +kernel) (by decide +kernel)) <|
  rg_fc (rg_ok_istore (i := 6) (by decide +kernel) (by decide +kernel)) <|
  rg_fc (rg_ok_aload_n (j := 0) (by decide +kernel) rfl) <|
  rg_fc (rg_ok_sipush (n := 386) (by decide +kernel) (by decide +kernel)) <|
  rg_fc (rg_ok_sipush (n := 389) (by decide +kernel) (by decide +kernel)) <|
  rg_fc (rg_ok_callV (idx := 46) rg_cok7 (by decide +kernel) (by decide +kernel) rg_wm_M_46 rg_wj_69 rg_ws_69 rg_wz_7 rg_wd_69 ⟨by decide +kernel, by decide +kernel, by decide +kernel, by decide +kernel⟩ (by decide +kernel) (by decide +kernel)) <|
  rg_fc (rg_okK _ (rg_ok_iload (i := 6) (by decide +kernel))) <|
  rg_fc (rg_ok_if_le (off := 22) (by decide +kernel) (by decide +kernel)) <|
  rg_fc (rg_ok_aload_n (j := 0) (by decide +kernel) rfl) <|
  rg_fc (rg_ok_sipush (n := 389) (by decide +kernel) (by decide +kernel)) <|
  rg_fc (rg_ok_sipush (n := 389) (by decide +kernel) (by decide +kernel)) <|
  rg_fc (rg_ok_sipush (n := 389) (by decide +kernel) (by decide +kernel)) <|
  rg_fc (rg_ok_callV (idx := 61) rg_cok7 (by decide +kernel) (by decide +kernel) rg_wm_M_61 rg_wj_78 rg_ws_78 rg_wz_7 rg_wd_78 ⟨by decide +kernel, by decide +kernel, by decide +kernel, by decide +kernel⟩ (by decide +kernel) (by decide +kernel)) <|
  rg_fc (rg_ok_iinc (n := (-1)) (by decide +kernel) (by decide +kernel) (by decide +kernel)) <|
  rg_fc (rg_ok_goto (off := (-21)) (by decide +kernel) (by decide +kernel)) <|
  rg_fc (rg_okK _ (rg_ok_iconst (n := 0) (by decide +kernel) (by decide +kernel))) <|
  fun _ h => absurd h List.not_mem_nil
def rg_c80_2 : List (Nat × rg_S) := [(105, rg_sis 3 1), (106, rg_sK [true, true, true, true, true, false, false] (rg_sin 4 1)), (109, rg_sgo 11), (112, rg_sal 0 1), (113, rg_sic 389 3), (116, rg_scV 72 1 1 7), (119, rg_sis 4 2), (121, rg_sal 0 1), (122, rg_sic 389 3), (125, rg_sil 4 2), (127, rg_scV 73 2 0 7), (130, rg_sal 0 1), (131, rg_sic 389 3), (134, rg_sic 386 3), (137, rg_scV 69 2 0 7), (140, rg_sic 0 1), (141, rg_sis 5 2), (143, rg_sK [true, true, true, false, true, true, false] (rg_sil 5 2)), (145, rg_sil 2 1), (146, rg_skge 172), (149, rg_sal 0 1), (150, rg_sic 320 3), (153, rg_sal 0 1), (154, rg_sil 1 1), (155, rg_sil 5 2)]
theorem rg_o80_2 : ∀ q ∈ rg_c80_2, rg_Ok 80 q.1 q.2 :=
  rg_fc (rg_ok_istore_n (j := 3) (by decide +kernel) rfl (by decide +kernel)) <|
  rg_fc (rg_okK _ (rg_ok_iinc (n := 1) (by decide +kernel) (by decide +kernel) (by decide +kernel))) <|
  rg_fc (rg_ok_goto (off := (-98)) (by decide +kernel) (by decide +kernel)) <|
  rg_fc (rg_ok_aload_n (j := 0) (by decide +kernel) rfl) <|
  rg_fc (rg_ok_sipush (n := 389) (by decide +kernel) (by decide +kernel)) <|
  rg_fc (rg_ok_callV (idx := 67) rg_cok7 (by decide +kernel) (by decide +kernel) rg_wm_M_67 rg_wj_72 rg_ws_72 rg_wz_7 rg_wd_72 ⟨by decide +kernel, by decide +kernel, by decide +kernel, by decide +kernel⟩ (by decide +kernel) (by decide +kernel)) <|
  rg_fc (rg_ok_istore (i := 4) (by decide +kernel) (by decide +kernel)) <|
  rg_fc (rg_ok_aload_n (j := 0) (by decide +kernel) rfl) <|
  rg_fc (rg_ok_sipush (n := 389) (by decide +kernel) (by decide +kernel)) <|
  rg_fc (rg_ok_iload (i := 4) (by decide +kernel)) <|
  rg_fc (rg_ok_callV (idx := 70) rg_cok7 (by decide +kernel) (by decide +kernel) rg_wm_M_70 rg_wj_73 rg_ws_73 rg_wz_7 rg_wd_73 ⟨by decide +kernel, by decide +kernel, by decide +kernel, by decide +kernel⟩ (by decide +kernel) (by decide +kernel)) <|
  rg_fc (rg_ok_aload_n (j := 0) (by decide +kernel) rfl) <|
  rg_fc (rg_ok_sipush (n := 389) (by decide +kernel) (by decide +kernel)) <|
  rg_fc (rg_ok_sipush (n := 386) (by decide +kernel) (by decide +kernel)) <|
  rg_fc (rg_ok_callV (idx := 46) rg_cok7 (by decide +kernel) (by decide +kernel) rg_wm_M_46 rg_wj_69 rg_ws_69 rg_wz_7 rg_wd_69 ⟨by decide +kernel, by decide +kernel, by decide +kernel, by decide +kernel⟩ (by decide +kernel) (by decide +kernel)) <|
  rg_fc (rg_ok_iconst (n := 0) (by decide +kernel) (by decide +kernel)) <|
  rg_fc (rg_ok_istore (i := 5) (by decide +kernel) (by decide +kernel)) <|
  rg_fc (rg_okK _ (rg_ok_iload (i := 5) (by decide +kernel))) <|
  rg_fc (rg_ok_iload_n (j := 2) (by decide +kernel) rfl) <|
  rg_fc (rg_ok_icmp_ge (off := 26) (by decide +kernel) (by decide +kernel)) <|
  rg_fc (rg_ok_aload_n (j := 0) (by decide +kernel) rfl) <|
  rg_fc (rg_ok_sipush (n := 320) (by decide +kernel) (by decide +kernel)) <|
  rg_fc (rg_ok_aload_n (j := 0) (by decide +kernel) rfl) <|
  rg_fc (rg_ok_iload_n (j := 1) (by decide +kernel) rfl) <|
  rg_fc (rg_ok_iload (i := 5) (by decide +kernel)) <|
  fun _ h => absurd h List.not_mem_nil
def rg_c80_3 : List (Nat × rg_S) := [(157, rg_scV 68 2 1 7), (160, rg_s2i (fun x y => x + y)), (161, rg_sil 4 2), (163, rg_scV 79 2 0 7), (166, rg_sin 5 1), (169, rg_sgo 143), (172, rg_rv)]
theorem rg_o80_3 : ∀ q ∈ rg_c80_3, rg_Ok 80 q.1 q.2 :=
  rg_fc (rg_ok_callV (idx := 110) rg_cok7 (by decide +kernel) (by decide +kernel) rg_wm_M_110 rg_wj_68 rg_ws_68 rg_wz_7 rg_wd_68 ⟨by decide +kernel, by decide +kernel, by decide +kernel, by decide +kernel⟩ (by decide +kernel) (by decide +kernel)) <|
  rg_fc (rg_ok_iadd (by decide +kernel)) <|
  rg_fc (rg_ok_iload (i := 4) (by decide +kernel)) <|
  rg_fc (rg_ok_callV (idx := 76) rg_cok7 (by decide +kernel) (by decide +kernel) rg_wm_M_76 rg_wj_79 rg_ws_79 rg_wz_7 rg_wd_79 ⟨by decide +kernel, by decide +kernel, by decide +kernel, by decide +kernel⟩ (by decide +kernel) (by decide +kernel)) <|
  rg_fc (rg_ok_iinc (n := 1) (by decide +kernel) (by decide +kernel) (by decide +kernel)) <|
  rg_fc (rg_ok_goto (off := (-26)) (by decide +kernel) (by decide +kernel)) <|
  rg_fc (rg_ok_return (by decide +kernel) rfl) <|
  fun _ h => absurd h List.not_mem_nil
def rg_kd80 : List (List (Nat × rg_S)) := [rg_c80_0, rg_c80_1, rg_c80_2, rg_c80_3]
theorem rg_o80 : ∀ pc f, rg_lk2 rg_kd80 pc = some f → rg_Ok 80 pc f := rg_lk2_ok (rg_fd rg_o80_0 (rg_fd rg_o80_1 (rg_fd rg_o80_2 (rg_fd rg_o80_3 (fun _ h => absurd h List.not_mem_nil)))))

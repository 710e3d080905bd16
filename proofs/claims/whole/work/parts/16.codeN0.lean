def rg_c6_0 : List (Nat × rg_S) := [(0, rg_sal 0 1), (1, rg_sob), (4, rg_sal 0 1), (5, rg_sic 25 2), (7, rg_sna 9 2), (9, rg_spr 3 2), (12, rg_sal 0 1), (13, rg_snw 1), (16, rg_sdu), (17, rg_scI 4 0 0), (20, rg_spr 3 3), (23, rg_sal 0 1), (24, rg_sal 1 1), (25, rg_spr 3 0), (28, rg_sal 0 1), (29, rg_sal 2 1), (30, rg_spr 3 1), (33, rg_rv)]
theorem rg_o6_0 : ∀ q ∈ rg_c6_0, rg_Ok 6 q.1 q.2 :=
  rg_fc (rg_ok_aload_n (j := 0) (by decide +kernel) rfl) <|
  rg_fc (rg_ok_objinit (idx := 3) (by decide +kernel) rg_wm_N_3 rg_wo_1 rg_wo_2 (by decide +kernel) (by decide +kernel)) <|
  rg_fc (rg_ok_aload_n (j := 0) (by decide +kernel) rfl) <|
  rg_fc (rg_ok_bipush (n := 25) (by decide +kernel) (by decide +kernel)) <|
  rg_fc (rg_ok_newa (at0 := .int) (t := 0) (by decide +kernel) rfl rg_wa_int (Or.inl ⟨rfl, rfl, rfl⟩)) <|
  rg_fc (rg_ok_putr (idx := 9) rg_cok3 (by decide +kernel) rfl (fun _ => ⟨rfl, rfl⟩) (Or.inr ⟨rfl, rfl, rfl⟩) (by decide +kernel) rg_wf_N_9) <|
  rg_fc (rg_ok_aload_n (j := 0) (by decide +kernel) rfl) <|
  rg_fc (rg_ok_new (idx := 15) rg_cok1 (by decide +kernel) (by decide +kernel) rg_wk_N_15 rg_wi_1 rg_wz_1) <|
  rg_fc (rg_ok_dup (by decide +kernel)) <|
  rg_fc (rg_ok_callI (idx := 17) (by decide +kernel) (by decide +kernel) rg_wm_N_17 rg_wj_4 rfl rfl rg_wz_1 rg_wd_4 ⟨by decide +kernel, by decide +kernel, by decide +kernel⟩ (by decide +kernel) (by decide +kernel)) <|
  rg_fc (rg_ok_putr (idx := 18) rg_cok3 (by decide +kernel) rfl (fun _ => ⟨rfl, rfl⟩) (Or.inr ⟨rfl, rfl, rfl⟩) (by decide +kernel) rg_wf_N_18) <|
  rg_fc (rg_ok_aload_n (j := 0) (by decide +kernel) rfl) <|
  rg_fc (rg_ok_aload_n (j := 1) (by decide +kernel) rfl) <|
  rg_fc (rg_ok_putr (idx := 22) rg_cok3 (by decide +kernel) rfl (fun _ => ⟨rfl, rfl⟩) (Or.inr ⟨rfl, rfl, rfl⟩) (by decide +kernel) rg_wf_N_22) <|
  rg_fc (rg_ok_aload_n (j := 0) (by decide +kernel) rfl) <|
  rg_fc (rg_ok_aload_n (j := 2) (by decide +kernel) rfl) <|
  rg_fc (rg_ok_putr (idx := 26) rg_cok3 (by decide +kernel) rfl (fun _ => ⟨rfl, rfl⟩) (Or.inr ⟨rfl, rfl, rfl⟩) (by decide +kernel) rg_wf_N_26) <|
  rg_fc (rg_ok_return (by decide +kernel) rfl) <|
  fun _ h => absurd h List.not_mem_nil
def rg_kd6 : List (List (Nat × rg_S)) := [rg_c6_0]
theorem rg_o6 : ∀ pc f, rg_lk2 rg_kd6 pc = some f → rg_Ok 6 pc f := rg_lk2_ok (rg_fd rg_o6_0 (fun _ h => absurd h List.not_mem_nil))
def rg_c16_0 : List (Nat × rg_S) := [(0, rg_sic 0 1), (1, rg_sis 3 1), (2, rg_sK [true, true, true, true] (rg_sil 3 1)), (3, rg_sal 0 1), (4, rg_sgr 3 2), (7, rg_sln), (8, rg_skge 24), (11, rg_sal 0 1), (12, rg_sgr 3 2), (15, rg_sil 3 1), (16, rg_sic 0 1), (17, rg_swi), (18, rg_sin 3 1), (21, rg_sgo 2), (24, rg_sal 0 1), (25, rg_sgr 3 1), (28, rg_sic 2 1), (29, rg_sic 5 1), (30, rg_sil 1 1), (31, rg_sil 2 1), (32, rg_scV 15 4 0 2), (35, rg_rv)]
theorem rg_o16_0 : ∀ q ∈ rg_c16_0, rg_Ok 16 q.1 q.2 :=
  rg_fc (rg_ok_iconst (n := 0) (by decide +kernel) (by decide +kernel)) <|
  rg_fc (rg_ok_istore_n (j := 3) (by decide +kernel) rfl (by decide +kernel)) <|
  rg_fc (rg_okK _ (rg_ok_iload_n (j := 3) (by decide +kernel) rfl)) <|
  rg_fc (rg_ok_aload_n (j := 0) (by decide +kernel) rfl) <|
  rg_fc (rg_ok_getr (idx := 9) rg_cok3 (by decide +kernel) rfl (by decide +kernel) rg_wf_N_9) <|
  rg_fc (rg_ok_alen (by decide +kernel)) <|
  rg_fc (rg_ok_icmp_ge (off := 16) (by decide +kernel) (by decide +kernel)) <|
  rg_fc (rg_ok_aload_n (j := 0) (by decide +kernel) rfl) <|
  rg_fc (rg_ok_getr (idx := 9) rg_cok3 (by decide +kernel) rfl (by decide +kernel) rg_wf_N_9) <|
  rg_fc (rg_ok_iload_n (j := 3) (by decide +kernel) rfl) <|
  rg_fc (rg_ok_iconst (n := 0) (by decide +kernel) (by decide +kernel)) <|
  rg_fc (rg_ok_iastore (by decide +kernel)) <|
  rg_fc (rg_ok_iinc (n := 1) (by decide +kernel) (by decide +kernel) (by decide +kernel)) <|
  rg_fc (rg_ok_goto (off := (-19)) (by decide +kernel) (by decide +kernel)) <|
  rg_fc (rg_ok_aload_n (j := 0) (by decide +kernel) rfl) <|
  rg_fc (rg_ok_getr (idx := 26) rg_cok3 (by decide +kernel) rfl (by decide +kernel) rg_wf_N_26) <|
  rg_fc (rg_ok_iconst (n := 2) (by decide +kernel) (by decide +kernel)) <|
  rg_fc (rg_ok_iconst (n := 5) (by decide +kernel) (by decide +kernel)) <|
  rg_fc (rg_ok_iload_n (j := 1) (by decide +kernel) rfl) <|
  rg_fc (rg_ok_iload_n (j := 2) (by decide +kernel) rfl) <|
  rg_fc (rg_ok_callV (idx := 30) rg_cok2 (by decide +kernel) (by decide +kernel) rg_wm_N_30 rg_wj_15 rg_ws_15 rg_wz_2 rg_wd_15 ⟨by decide +kernel, by decide +kernel, by decide +kernel, by decide +kernel⟩ (by decide +kernel) (by decide +kernel)) <|
  rg_fc (rg_ok_return (by decide +kernel) rfl) <|
  fun _ h => absurd h List.not_mem_nil
def rg_kd16 : List (List (Nat × rg_S)) := [rg_c16_0]
theorem rg_o16 : ∀ pc f, rg_lk2 rg_kd16 pc = some f → rg_Ok 16 pc f := rg_lk2_ok (rg_fd rg_o16_0 (fun _ h => absurd h List.not_mem_nil))
def rg_c57_0 : List (Nat × rg_S) := [(0, rg_sil 1 1), (1, rg_sjne 17), (4, rg_sal 0 1), (5, rg_sgr 3 2), (8, rg_sil 2 1), (9, rg_sic 5 1), (10, rg_s2i (fun x y => x * y)), (11, rg_sil 3 1), (12, rg_s2i (fun x y => x + y)), (13, rg_sai), (14, rg_sgo 28), (17, rg_sal 0 1), (18, rg_sgr 3 2), (21, rg_sil 3 1), (22, rg_sic 5 1), (23, rg_s2i (fun x y => x * y)), (24, rg_sil 2 1), (25, rg_s2i (fun x y => x + y)), (26, rg_sai), (27, rg_s1i (fun x => -x)), (28, rg_sK [false, false, false, false] (rg_ri))]
theorem rg_o57_0 : ∀ q ∈ rg_c57_0, rg_Ok 57 q.1 q.2 :=
  rg_fc (rg_ok_iload_n (j := 1) (by decide +kernel) rfl) <|
  rg_fc (rg_ok_if_ne (off := 16) (by decide +kernel) (by decide +kernel)) <|
  rg_fc (rg_ok_aload_n (j := 0) (by decide +kernel) rfl) <|
  rg_fc (rg_ok_getr (idx := 9) rg_cok3 (by decide +kernel) rfl (by decide +kernel) rg_wf_N_9) <|
  rg_fc (rg_ok_iload_n (j := 2) (by decide +kernel) rfl) <|
  rg_fc (rg_ok_iconst (n := 5) (by decide +kernel) (by decide +kernel)) <|
  rg_fc (rg_ok_imul (by decide +kernel)) <|
  rg_fc (rg_ok_iload_n (j := 3) (by decide +kernel) rfl) <|
  rg_fc (rg_ok_iadd (by decide +kernel)) <|
  rg_fc (rg_ok_iaload (by decide +kernel)) <|
  rg_fc (rg_ok_goto (off := 14) (by decide +kernel) (by decide +kernel)) <|
  rg_fc (rg_ok_aload_n (j := 0) (by decide +kernel) rfl) <|
  rg_fc (rg_ok_getr (idx := 9) rg_cok3 (by decide +kernel) rfl (by decide +kernel) rg_wf_N_9) <|
  rg_fc (rg_ok_iload_n (j := 3) (by decide +kernel) rfl) <|
  rg_fc (rg_ok_iconst (n := 5) (by decide +kernel) (by decide +kernel)) <|
  rg_fc (rg_ok_imul (by decide +kernel)) <|
  rg_fc (rg_ok_iload_n (j := 2) (by decide +kernel) rfl) <|
  rg_fc (rg_ok_iadd (by decide +kernel)) <|
  rg_fc (rg_ok_iaload (by decide +kernel)) <|
  rg_fc (rg_ok_ineg (by decide +kernel)) <|
  rg_fc (rg_okK _ (rg_ok_ireturn (by decide +kernel) rfl)) <|
  fun _ h => absurd h List.not_mem_nil
def rg_kd57 : List (List (Nat × rg_S)) := [rg_c57_0]
theorem rg_o57 : ∀ pc f, rg_lk2 rg_kd57 pc = some f → rg_Ok 57 pc f := rg_lk2_ok (rg_fd rg_o57_0 (fun _ h => absurd h List.not_mem_nil))
def rg_c58_0 : List (Nat × rg_S) := [(0, rg_sic 1 1), (1, rg_sil 1 1), (2, rg_s2i (fun x y => x - y)), (3, rg_sis 2 1), (4, rg_sic 0 1), (5, rg_sis 3 1), (6, rg_sK [true, true, true, true, false, false, false] (rg_sil 3 1)), (7, rg_sal 0 1), (8, rg_sgr 3 1), (11, rg_sil 1 1), (12, rg_scV 22 1 1 2), (15, rg_skge 111), (18, rg_sal 0 1), (19, rg_sgr 3 1), (22, rg_sgr 2 6), (25, rg_sal 0 1), (26, rg_sgr 3 1), (29, rg_sil 1 1), (30, rg_sil 3 1), (31, rg_scV 29 2 1 2), (34, rg_saq), (35, rg_sas 4 2), (37, rg_sal 4 2), (39, rg_sic 0 1), (40, rg_sic 1 1)]
theorem rg_o58_0 : ∀ q ∈ rg_c58_0, rg_Ok 58 q.1 q.2 :=
  rg_fc (rg_ok_iconst (n := 1) (by decide +kernel) (by decide +kernel)) <|
  rg_fc (rg_ok_iload_n (j := 1) (by decide +kernel) rfl) <|
  rg_fc (rg_ok_isub (by decide +kernel)) <|
  rg_fc (rg_ok_istore_n (j := 2) (by decide +kernel) rfl (by decide +kernel)) <|
  rg_fc (rg_ok_iconst (n := 0) (by decide +kernel) (by decide +kernel)) <|
  rg_fc (rg_ok_istore_n (j := 3) (by decide +kernel) rfl (by decide +kernel)) <|
  rg_fc (rg_okK _ (rg_ok_iload_n (j := 3) (by decide +kernel) rfl)) <|
  rg_fc (rg_ok_aload_n (j := 0) (by decide +kernel) rfl) <|
  rg_fc (rg_ok_getr (idx := 26) rg_cok3 (by decide +kernel) rfl (by decide +kernel) rg_wf_N_26) <|
  rg_fc (rg_ok_iload_n (j := 1) (by decide +kernel) rfl) <|
  rg_fc (rg_ok_callV (idx := 36) rg_cok2 (by decide +kernel) (by decide +kernel) rg_wm_N_36 rg_wj_22 rg_ws_22 rg_wz_2 rg_wd_22 ⟨by decide +kernel, by decide +kernel, by decide +kernel, by decide +kernel⟩ (by decide +kernel) (by decide +kernel)) <|
  rg_fc (rg_ok_icmp_ge (off := 96) (by decide +kernel) (by decide +kernel)) <|
  rg_fc (rg_ok_aload_n (j := 0) (by decide +kernel) rfl) <|
  rg_fc (rg_ok_getr (idx := 26) rg_cok3 (by decide +kernel) rfl (by decide +kernel) rg_wf_N_26) <|
  rg_fc (rg_ok_getr (idx := 49) rg_cok2 (by decide +kernel) rfl (by decide +kernel) rg_wf_N_49) <|
  rg_fc (rg_ok_aload_n (j := 0) (by decide +kernel) rfl) <|
  rg_fc (rg_ok_getr (idx := 26) rg_cok3 (by decide +kernel) rfl (by decide +kernel) rg_wf_N_26) <|
  rg_fc (rg_ok_iload_n (j := 1) (by decide +kernel) rfl) <|
  rg_fc (rg_ok_iload_n (j := 3) (by decide +kernel) rfl) <|
  rg_fc (rg_ok_callV (idx := 53) rg_cok2 (by decide +kernel) (by decide +kernel) rg_wm_N_53 rg_wj_29 rg_ws_29 rg_wz_2 rg_wd_29 ⟨by decide +kernel, by decide +kernel, by decide +kernel, by decide +kernel⟩ (by decide +kernel) (by decide +kernel)) <|
  rg_fc (rg_ok_aaload (by decide +kernel)) <|
  rg_fc (rg_ok_astore (i := 4) (by decide +kernel) (by decide +kernel)) <|
  rg_fc (rg_ok_aload (i := 4) (by decide +kernel)) <|
  rg_fc (rg_ok_iconst (n := 0) (by decide +kernel) (by decide +kernel)) <|
  rg_fc (rg_ok_iconst (n := 1) (by decide +kernel) (by decide +kernel)) <|
  fun _ h => absurd h List.not_mem_nil
def rg_c58_1 : List (Nat × rg_S) := [(41, rg_scV 14 2 0 1), (44, rg_sic 0 1), (45, rg_sis 5 2), (47, rg_sK [true, true, true, true, true, true, false] (rg_sil 5 2)), (49, rg_sal 0 1), (50, rg_sgr 3 1), (53, rg_sil 2 1), (54, rg_scV 22 1 1 2), (57, rg_skge 105), (60, rg_sal 0 1), (61, rg_sgr 3 1), (64, rg_sgr 2 5), (67, rg_sal 0 1), (68, rg_sgr 3 1), (71, rg_sil 2 1), (72, rg_sil 5 2), (74, rg_scV 29 2 1 2), (77, rg_saq), (78, rg_sas 6 2), (80, rg_sal 0 1), (81, rg_sgr 3 0), (84, rg_sal 4 2), (86, rg_sal 6 2), (88, rg_sal 0 1), (89, rg_sil 1 1)]
theorem rg_o58_1 : ∀ q ∈ rg_c58_1, rg_Ok 58 q.1 q.2 :=
  rg_fc (rg_ok_callV (idx := 56) rg_cok1 (by decide +kernel) (by decide +kernel) rg_wm_N_56 rg_wj_14 rg_ws_14 rg_wz_1 rg_wd_14 ⟨by decide +kernel, by decide +kernel, by decide +kernel, by decide +kernel⟩ (by decide +kernel) (by decide +kernel)) <|
  rg_fc (rg_ok_iconst (n := 0) (by decide +kernel) (by decide +kernel)) <|
  rg_fc (rg_ok_istore (i := 5) (by decide +kernel) (by decide +kernel)) <|
  rg_fc (rg_okK _ (rg_ok_iload (i := 5) (by decide +kernel))) <|
  rg_fc (rg_ok_aload_n (j := 0) (by decide +kernel) rfl) <|
  rg_fc (rg_ok_getr (idx := 26) rg_cok3 (by decide +kernel) rfl (by decide +kernel) rg_wf_N_26) <|
  rg_fc (rg_ok_iload_n (j := 2) (by decide +kernel) rfl) <|
  rg_fc (rg_ok_callV (idx := 36) rg_cok2 (by decide +kernel) (by decide +kernel) rg_wm_N_36 rg_wj_22 rg_ws_22 rg_wz_2 rg_wd_22 ⟨by decide +kernel, by decide +kernel, by decide +kernel, by decide +kernel⟩ (by decide +kernel) (by decide +kernel)) <|
  rg_fc (rg_ok_icmp_ge (off := 48) (by decide +kernel) (by decide +kernel)) <|
  rg_fc (rg_ok_aload_n (j := 0) (by decide +kernel) rfl) <|
  rg_fc (rg_ok_getr (idx := 26) rg_cok3 (by decide +kernel) rfl (by decide +kernel) rg_wf_N_26) <|
  rg_fc (rg_ok_getr (idx := 60) rg_cok2 (by decide +kernel) rfl (by decide +kernel) rg_wf_N_60) <|
  rg_fc (rg_ok_aload_n (j := 0) (by decide +kernel) rfl) <|
  rg_fc (rg_ok_getr (idx := 26) rg_cok3 (by decide +kernel) rfl (by decide +kernel) rg_wf_N_26) <|
  rg_fc (rg_ok_iload_n (j := 2) (by decide +kernel) rfl) <|
  rg_fc (rg_ok_iload (i := 5) (by decide +kernel)) <|
  rg_fc (rg_ok_callV (idx := 53) rg_cok2 (by decide +kernel) (by decide +kernel) rg_wm_N_53 rg_wj_29 rg_ws_29 rg_wz_2 rg_wd_29 ⟨by decide +kernel, by decide +kernel, by decide +kernel, by decide +kernel⟩ (by decide +kernel) (by decide +kernel)) <|
  rg_fc (rg_ok_aaload (by decide +kernel)) <|
  rg_fc (rg_ok_astore (i := 6) (by decide +kernel) (by decide +kernel)) <|
  rg_fc (rg_ok_aload_n (j := 0) (by decide +kernel) rfl) <|
  rg_fc (rg_ok_getr (idx := 22) rg_cok3 (by decide +kernel) rfl (by decide +kernel) rg_wf_N_22) <|
  rg_fc (rg_ok_aload (i := 4) (by decide +kernel)) <|
  rg_fc (rg_ok_aload (i := 6) (by decide +kernel)) <|
  rg_fc (rg_ok_aload_n (j := 0) (by decide +kernel) rfl) <|
  rg_fc (rg_ok_iload_n (j := 1) (by decide +kernel) rfl) <|
  fun _ h => absurd h List.not_mem_nil
def rg_c58_2 : List (Nat × rg_S) := [(90, rg_sil 3 1), (91, rg_sil 5 2), (93, rg_scV 57 3 1 3), (96, rg_scV 51 3 0 4), (99, rg_sin 5 1), (102, rg_sgo 47), (105, rg_sin 3 1), (108, rg_sgo 6), (111, rg_rv)]
theorem rg_o58_2 : ∀ q ∈ rg_c58_2, rg_Ok 58 q.1 q.2 :=
  rg_fc (rg_ok_iload_n (j := 3) (by decide +kernel) rfl) <|
  rg_fc (rg_ok_iload (i := 5) (by decide +kernel)) <|
  rg_fc (rg_ok_callV (idx := 63) rg_cok3 (by decide +kernel) (by decide +kernel) rg_wm_N_63 rg_wj_57 rg_ws_57 rg_wz_3 rg_wd_57 ⟨by decide +kernel, by decide +kernel, by decide +kernel, by decide +kernel⟩ (by decide +kernel) (by decide +kernel)) <|
  rg_fc (rg_ok_callV (idx := 67) rg_cok4 (by decide +kernel) (by decide +kernel) rg_wm_N_67 rg_wj_51 rg_ws_51 rg_wz_4 rg_wd_51 ⟨by decide +kernel, by decide +kernel, by decide +kernel, by decide +kernel⟩ (by decide +kernel) (by decide +kernel)) <|
  rg_fc (rg_ok_iinc (n := 1) (by decide +kernel) (by decide +kernel) (by decide +kernel)) <|
  rg_fc (rg_ok_goto (off := (-55)) (by decide +kernel) (by decide +kernel)) <|
  rg_fc (rg_ok_iinc (n := 1) (by decide +kernel) (by decide +kernel) (by decide +kernel)) <|
  rg_fc (rg_ok_goto (off := (-102)) (by decide +kernel) (by decide +kernel)) <|
  rg_fc (rg_ok_return (by decide +kernel) rfl) <|
  fun _ h => absurd h List.not_mem_nil
def rg_kd58 : List (List (Nat × rg_S)) := [rg_c58_0, rg_c58_1, rg_c58_2]
theorem rg_o58 : ∀ pc f, rg_lk2 rg_kd58 pc = some f → rg_Ok 58 pc f := rg_lk2_ok (rg_fd rg_o58_0 (rg_fd rg_o58_1 (rg_fd rg_o58_2 (fun _ h => absurd h List.not_mem_nil))))
def rg_c63_0 : List (Nat × rg_S) := [(0, rg_sal 0 1), (1, rg_sgr 3 1), (4, rg_sil 1 1), (5, rg_sal 0 1), (6, rg_sgr 3 1), (9, rg_sgr 2 1), (12, rg_scV 55 2 0 2), (15, rg_sal 0 1), (16, rg_sgr 3 1), (19, rg_sic 1 1), (20, rg_sil 1 1), (21, rg_s2i (fun x y => x - y)), (22, rg_sil 2 1), (23, rg_scV 56 2 0 2), (26, rg_sal 0 1), (27, rg_sil 1 1), (28, rg_scV 58 1 0 3), (31, rg_sal 0 1), (32, rg_sgr 3 1), (35, rg_sil 1 1), (36, rg_sal 0 1), (37, rg_sgr 3 1), (40, rg_sgr 2 5), (43, rg_scV 62 2 1 2), (46, rg_rz)]
theorem rg_o63_0 : ∀ q ∈ rg_c63_0, rg_Ok 63 q.1 q.2 :=
  rg_fc (rg_ok_aload_n (j := 0) (by decide +kernel) rfl) <|
  rg_fc (rg_ok_getr (idx := 26) rg_cok3 (by decide +kernel) rfl (by decide +kernel) rg_wf_N_26) <|
  rg_fc (rg_ok_iload_n (j := 1) (by decide +kernel) rfl) <|
  rg_fc (rg_ok_aload_n (j := 0) (by decide +kernel) rfl) <|
  rg_fc (rg_ok_getr (idx := 26) rg_cok3 (by decide +kernel) rfl (by decide +kernel) rg_wf_N_26) <|
  rg_fc (rg_ok_getr (idx := 73) rg_cok2 (by decide +kernel) rfl (by decide +kernel) rg_wf_N_73) <|
  rg_fc (rg_ok_callV (idx := 76) rg_cok2 (by decide +kernel) (by decide +kernel) rg_wm_N_76 rg_wj_55 rg_ws_55 rg_wz_2 rg_wd_55 ⟨by decide +kernel, by decide +kernel, by decide +kernel, by decide +kernel⟩ (by decide +kernel) (by decide +kernel)) <|
  rg_fc (rg_ok_aload_n (j := 0) (by decide +kernel) rfl) <|
  rg_fc (rg_ok_getr (idx := 26) rg_cok3 (by decide +kernel) rfl (by decide +kernel) rg_wf_N_26) <|
  rg_fc (rg_ok_iconst (n := 1) (by decide +kernel) (by decide +kernel)) <|
  rg_fc (rg_ok_iload_n (j := 1) (by decide +kernel) rfl) <|
  rg_fc (rg_ok_isub (by decide +kernel)) <|
  rg_fc (rg_ok_iload_n (j := 2) (by decide +kernel) rfl) <|
  rg_fc (rg_ok_callV (idx := 80) rg_cok2 (by decide +kernel) (by decide +kernel) rg_wm_N_80 rg_wj_56 rg_ws_56 rg_wz_2 rg_wd_56 ⟨by decide +kernel, by decide +kernel, by decide +kernel, by decide +kernel⟩ (by decide +kernel) (by decide +kernel)) <|
  rg_fc (rg_ok_aload_n (j := 0) (by decide +kernel) rfl) <|
  rg_fc (rg_ok_iload_n (j := 1) (by decide +kernel) rfl) <|
  rg_fc (rg_ok_callV (idx := 83) rg_cok3 (by decide +kernel) (by decide +kernel) rg_wm_N_83 rg_wj_58 rg_ws_58 rg_wz_3 rg_wd_58 ⟨by decide +kernel, by decide +kernel, by decide +kernel, by decide +kernel⟩ (by decide +kernel) (by decide +kernel)) <|
  rg_fc (rg_ok_aload_n (j := 0) (by decide +kernel) rfl) <|
  rg_fc (rg_ok_getr (idx := 26) rg_cok3 (by decide +kernel) rfl (by decide +kernel) rg_wf_N_26) <|
  rg_fc (rg_ok_iload_n (j := 1) (by decide +kernel) rfl) <|
  rg_fc (rg_ok_aload_n (j := 0) (by decide +kernel) rfl) <|
  rg_fc (rg_ok_getr (idx := 26) rg_cok3 (by decide +kernel) rfl (by decide +kernel) rg_wf_N_26) <|
  rg_fc (rg_ok_getr (idx := 60) rg_cok2 (by decide +kernel) rfl (by decide +kernel) rg_wf_N_60) <|
  rg_fc (rg_ok_callV (idx := 87) rg_cok2 (by decide +kernel) (by decide +kernel) rg_wm_N_87 rg_wj_62 rg_ws_62 rg_wz_2 rg_wd_62 ⟨by decide +kernel, by decide +kernel, by decide +kernel, by decide +kernel⟩ (by decide +kernel) (by decide +kernel)) <|
  rg_fc (rg_ok_zreturn (by decide +kernel) rfl) <|
  fun _ h => absurd h List.not_mem_nil
def rg_kd63 : List (List (Nat × rg_S)) := [rg_c63_0]
theorem rg_o63 : ∀ pc f, rg_lk2 rg_kd63 pc = some f → rg_Ok 63 pc f := rg_lk2_ok (rg_fd rg_o63_0 (fun _ h => absurd h List.not_mem_nil))
def rg_c103_0 : List (Nat × rg_S) := [(0, rg_sal 0 1), (1, rg_sgr 3 1), (4, rg_sal 0 1), (5, rg_sgr 3 1), (8, rg_sgr 2 1), (11, rg_scV 95 1 0 2), (14, rg_sal 0 1), (15, rg_sic 0 1), (16, rg_scV 58 1 0 3), (19, rg_sal 0 1), (20, rg_sic 1 1), (21, rg_scV 58 1 0 3), (24, rg_sal 0 1), (25, rg_sgr 3 1), (28, rg_sic 0 1), (29, rg_sal 0 1), (30, rg_sgr 3 1), (33, rg_sgr 2 5), (36, rg_scV 62 2 1 2), (39, rg_sjeq 64), (42, rg_sal 0 1), (43, rg_sgr 3 1), (46, rg_sic 1 1), (47, rg_sal 0 1), (48, rg_sgr 3 1)]
theorem rg_o103_0 : ∀ q ∈ rg_c103_0, rg_Ok 103 q.1 q.2 :=
  rg_fc (rg_ok_aload_n (j := 0) (by decide +kernel) rfl) <|
  rg_fc (rg_ok_getr (idx := 26) rg_cok3 (by decide +kernel) rfl (by decide +kernel) rg_wf_N_26) <|
  rg_fc (rg_ok_aload_n (j := 0) (by decide +kernel) rfl) <|
  rg_fc (rg_ok_getr (idx := 26) rg_cok3 (by decide +kernel) rfl (by decide +kernel) rg_wf_N_26) <|
  rg_fc (rg_ok_getr (idx := 73) rg_cok2 (by decide +kernel) rfl (by decide +kernel) rg_wf_N_73) <|
  rg_fc (rg_ok_callV (idx := 91) rg_cok2 (by decide +kernel) (by decide +kernel) rg_wm_N_91 rg_wj_95 rg_ws_95 rg_wz_2 rg_wd_95 ⟨by decide +kernel, by decide +kernel, by decide +kernel, by decide +kernel⟩ (by decide +kernel) (by decide +kernel)) <|
  rg_fc (rg_ok_aload_n (j := 0) (by decide +kernel) rfl) <|
  rg_fc (rg_ok_iconst (n := 0) (by decide +kernel) (by decide +kernel)) <|
  rg_fc (rg_ok_callV (idx := 83) rg_cok3 (by decide +kernel) (by decide +kernel) rg_wm_N_83 rg_wj_58 rg_ws_58 rg_wz_3 rg_wd_58 ⟨by decide +kernel, by decide +kernel, by decide +kernel, by decide +kernel⟩ (by decide +kernel) (by decide +kernel)) <|
  rg_fc (rg_ok_aload_n (j := 0) (by decide +kernel) rfl) <|
  rg_fc (rg_ok_iconst (n := 1) (by decide +kernel) (by decide +kernel)) <|
  rg_fc (rg_ok_callV (idx := 83) rg_cok3 (by decide +kernel) (by decide +kernel) rg_wm_N_83 rg_wj_58 rg_ws_58 rg_wz_3 rg_wd_58 ⟨by decide +kernel, by decide +kernel, by decide +kernel, by decide +kernel⟩ (by decide +kernel) (by decide +kernel)) <|
  rg_fc (rg_ok_aload_n (j := 0) (by decide +kernel) rfl) <|
  rg_fc (rg_ok_getr (idx := 26) rg_cok3 (by decide +kernel) rfl (by decide +kernel) rg_wf_N_26) <|
  rg_fc (rg_ok_iconst (n := 0) (by decide +kernel) (by decide +kernel)) <|
  rg_fc (rg_ok_aload_n (j := 0) (by decide +kernel) rfl) <|
  rg_fc (rg_ok_getr (idx := 26) rg_cok3 (by decide +kernel) rfl (by decide +kernel) rg_wf_N_26) <|
  rg_fc (rg_ok_getr (idx := 60) rg_cok2 (by decide +kernel) rfl (by decide +kernel) rg_wf_N_60) <|
  rg_fc (rg_ok_callV (idx := 87) rg_cok2 (by decide +kernel) (by decide +kernel) rg_wm_N_87 rg_wj_62 rg_ws_62 rg_wz_2 rg_wd_62 ⟨by decide +kernel, by decide +kernel, by decide +kernel, by decide +kernel⟩ (by decide +kernel) (by decide +kernel)) <|
  rg_fc (rg_ok_if_eq (off := 25) (by decide +kernel) (by decide +kernel)) <|
  rg_fc (rg_ok_aload_n (j := 0) (by decide +kernel) rfl) <|
  rg_fc (rg_ok_getr (idx := 26) rg_cok3 (by decide +kernel) rfl (by decide +kernel) rg_wf_N_26) <|
  rg_fc (rg_ok_iconst (n := 1) (by decide +kernel) (by decide +kernel)) <|
  rg_fc (rg_ok_aload_n (j := 0) (by decide +kernel) rfl) <|
  rg_fc (rg_ok_getr (idx := 26) rg_cok3 (by decide +kernel) rfl (by decide +kernel) rg_wf_N_26) <|
  fun _ h => absurd h List.not_mem_nil
def rg_c103_1 : List (Nat × rg_S) := [(51, rg_sgr 2 5), (54, rg_scV 62 2 1 2), (57, rg_sjeq 64), (60, rg_sic 1 1), (61, rg_sgo 65), (64, rg_sK [false] (rg_sic 0 1)), (65, rg_sK [false] (rg_rz))]
theorem rg_o103_1 : ∀ q ∈ rg_c103_1, rg_Ok 103 q.1 q.2 :=
  rg_fc (rg_ok_getr (idx := 60) rg_cok2 (by decide +kernel) rfl (by decide +kernel) rg_wf_N_60) <|
  rg_fc (rg_ok_callV (idx := 87) rg_cok2 (by decide +kernel) (by decide +kernel) rg_wm_N_87 rg_wj_62 rg_ws_62 rg_wz_2 rg_wd_62 ⟨by decide +kernel, by decide +kernel, by decide +kernel, by decide +kernel⟩ (by decide +kernel) (by decide +kernel)) <|
  rg_fc (rg_ok_if_eq (off := 7) (by decide +kernel) (by decide +kernel)) <|
  rg_fc (rg_ok_iconst (n := 1) (by decide +kernel) (by decide +kernel)) <|
  rg_fc (rg_ok_goto (off := 4) (by decide +kernel) (by decide +kernel)) <|
  rg_fc (rg_okK _ (rg_ok_iconst (n := 0) (by decide +kernel) (by decide +kernel))) <|
  rg_fc (rg_okK _ (rg_ok_zreturn (by decide +kernel) rfl)) <|
  fun _ h => absurd h List.not_mem_nil
def rg_kd103 : List (List (Nat × rg_S)) := [rg_c103_0, rg_c103_1]
theorem rg_o103 : ∀ pc f, rg_lk2 rg_kd103 pc = some f → rg_Ok 103 pc f := rg_lk2_ok (rg_fd rg_o103_0 (rg_fd rg_o103_1 (fun _ h => absurd h List.not_mem_nil)))
def rg_c125_0 : List (Nat × rg_S) := [(0, rg_sal 0 1), (1, rg_sgr 3 1), (4, rg_sal 0 1), (5, rg_sgr 3 1), (8, rg_sgr 2 2), (11, rg_scV 95 1 0 2), (14, rg_sal 1 1), (15, rg_sic 0 1), (16, rg_sic 1 1), (17, rg_scV 14 2 0 1), (20, rg_sic 0 1), (21, rg_sis 3 1), (22, rg_sK [true, true, true, true, false] (rg_sil 3 1)), (23, rg_sic 1 1), (24, rg_skgt 136), (27, rg_sil 2 1), (28, rg_sil 3 1), (29, rg_skeq 37), (32, rg_sil 2 1), (33, rg_sic 2 1), (34, rg_skne 130), (37, rg_sK [true, true, true, true, false] (rg_sal 0 1)), (38, rg_sil 3 1), (39, rg_scV 58 1 0 3), (42, rg_sal 0 1)]
theorem rg_o125_0 : ∀ q ∈ rg_c125_0, rg_Ok 125 q.1 q.2 :=
  rg_fc (rg_ok_aload_n (j := 0) (by decide +kernel) rfl) <|
  rg_fc (rg_ok_getr (idx := 26) rg_cok3 (by decide +kernel) rfl (by decide +kernel) rg_wf_N_26) <|
  rg_fc (rg_ok_aload_n (j := 0) (by decide +kernel) rfl) <|
  rg_fc (rg_ok_getr (idx := 26) rg_cok3 (by decide +kernel) rfl (by decide +kernel) rg_wf_N_26) <|
  rg_fc (rg_ok_getr (idx := 95) rg_cok2 (by decide +kernel) rfl (by decide +kernel) rg_wf_N_95) <|
  rg_fc (rg_ok_callV (idx := 91) rg_cok2 (by decide +kernel) (by decide +kernel) rg_wm_N_91 rg_wj_95 rg_ws_95 rg_wz_2 rg_wd_95 ⟨by decide +kernel, by decide +kernel, by decide +kernel, by decide +kernel⟩ (by decide +kernel) (by decide +kernel)) <|
  rg_fc (rg_ok_aload_n (j := 1) (by decide +kernel) rfl) <|
  rg_fc (rg_ok_iconst (n := 0) (by decide +kernel) (by decide +kernel)) <|
  rg_fc (rg_ok_iconst (n := 1) (by decide +kernel) (by decide +kernel)) <|
  rg_fc (rg_ok_callV (idx := 56) rg_cok1 (by decide +kernel) (by decide +kernel) rg_wm_N_56 rg_wj_14 rg_ws_14 rg_wz_1 rg_wd_14 ⟨by decide +kernel, by decide +kernel, by decide +kernel, by decide +kernel⟩ (by decide +kernel) (by decide +kernel)) <|
  rg_fc (rg_ok_iconst (n := 0) (by decide +kernel) (by decide +kernel)) <|
  rg_fc (rg_ok_istore_n (j := 3) (by decide +kernel) rfl (by decide +kernel)) <|
  rg_fc (rg_okK _ (rg_ok_iload_n (j := 3) (by decide +kernel) rfl)) <|
  rg_fc (rg_ok_iconst (n := 1) (by decide +kernel) (by decide +kernel)) <|
  rg_fc (rg_ok_icmp_gt (off := 112) (by decide +kernel) (by decide +kernel)) <|
  rg_fc (rg_ok_iload_n (j := 2) (by decide +kernel) rfl) <|
  rg_fc (rg_ok_iload_n (j := 3) (by decide +kernel) rfl) <|
  rg_fc (rg_ok_icmp_eq (off := 8) (by decide +kernel) (by decide +kernel)) <|
  rg_fc (rg_ok_iload_n (j := 2) (by decide +kernel) rfl) <|
  rg_fc (rg_ok_iconst (n := 2) (by decide +kernel) (by decide +kernel)) <|
  rg_fc (rg_ok_icmp_ne (off := 96) (by decide +kernel) (by decide +kernel)) <|
  rg_fc (rg_okK _ (rg_ok_aload_n (j := 0) (by decide +kernel) rfl)) <|
  rg_fc (rg_ok_iload_n (j := 3) (by decide +kernel) rfl) <|
  rg_fc (rg_ok_callV (idx := 83) rg_cok3 (by decide +kernel) (by decide +kernel) rg_wm_N_83 rg_wj_58 rg_ws_58 rg_wz_3 rg_wd_58 ⟨by decide +kernel, by decide +kernel, by decide +kernel, by decide +kernel⟩ (by decide +kernel) (by decide +kernel)) <|
  rg_fc (rg_ok_aload_n (j := 0) (by decide +kernel) rfl) <|
  fun _ h => absurd h List.not_mem_nil
def rg_c125_1 : List (Nat × rg_S) := [(43, rg_sgr 3 3), (46, rg_sal 0 1), (47, rg_sgr 3 1), (50, rg_sgr 2 6), (53, rg_sal 0 1), (54, rg_sgr 3 1), (57, rg_sil 3 1), (58, rg_sic 0 1), (59, rg_scV 29 2 1 2), (62, rg_saq), (63, rg_scV 53 1 0 1), (66, rg_sic 1 1), (67, rg_sis 4 2), (69, rg_sK [true, true, true, true, true] (rg_sil 4 2)), (71, rg_sal 0 1), (72, rg_sgr 3 1), (75, rg_sil 3 1), (76, rg_scV 22 1 1 2), (79, rg_skge 117), (82, rg_sal 0 1), (83, rg_sgr 3 0), (86, rg_sal 0 1), (87, rg_sgr 3 3), (90, rg_sal 0 1), (91, rg_sgr 3 1)]
theorem rg_o125_1 : ∀ q ∈ rg_c125_1, rg_Ok 125 q.1 q.2 :=
  rg_fc (rg_ok_getr (idx := 18) rg_cok3 (by decide +kernel) rfl (by decide +kernel) rg_wf_N_18) <|
  rg_fc (rg_ok_aload_n (j := 0) (by decide +kernel) rfl) <|
  rg_fc (rg_ok_getr (idx := 26) rg_cok3 (by decide +kernel) rfl (by decide +kernel) rg_wf_N_26) <|
  rg_fc (rg_ok_getr (idx := 49) rg_cok2 (by decide +kernel) rfl (by decide +kernel) rg_wf_N_49) <|
  rg_fc (rg_ok_aload_n (j := 0) (by decide +kernel) rfl) <|
  rg_fc (rg_ok_getr (idx := 26) rg_cok3 (by decide +kernel) rfl (by decide +kernel) rg_wf_N_26) <|
  rg_fc (rg_ok_iload_n (j := 3) (by decide +kernel) rfl) <|
  rg_fc (rg_ok_iconst (n := 0) (by decide +kernel) (by decide +kernel)) <|
  rg_fc (rg_ok_callV (idx := 53) rg_cok2 (by decide +kernel) (by decide +kernel) rg_wm_N_53 rg_wj_29 rg_ws_29 rg_wz_2 rg_wd_29 ⟨by decide +kernel, by decide +kernel, by decide +kernel, by decide +kernel⟩ (by decide +kernel) (by decide +kernel)) <|
  rg_fc (rg_ok_aaload (by decide +kernel)) <|
  rg_fc (rg_ok_callV (idx := 98) rg_cok1 (by decide +kernel) (by decide +kernel) rg_wm_N_98 rg_wj_53 rg_ws_53 rg_wz_1 rg_wd_53 ⟨by decide +kernel, by decide +kernel, by decide +kernel, by decide +kernel⟩ (by decide +kernel) (by decide +kernel)) <|
  rg_fc (rg_ok_iconst (n := 1) (by decide +kernel) (by decide +kernel)) <|
  rg_fc (rg_ok_istore (i := 4) (by decide +kernel) (by decide +kernel)) <|
  rg_fc (rg_okK _ (rg_ok_iload (i := 4) (by decide +kernel))) <|
  rg_fc (rg_ok_aload_n (j := 0) (by decide +kernel) rfl) <|
  rg_fc (rg_ok_getr (idx := 26) rg_cok3 (by decide +kernel) rfl (by decide +kernel) rg_wf_N_26) <|
  rg_fc (rg_ok_iload_n (j := 3) (by decide +kernel) rfl) <|
  rg_fc (rg_ok_callV (idx := 36) rg_cok2 (by decide +kernel) (by decide +kernel) rg_wm_N_36 rg_wj_22 rg_ws_22 rg_wz_2 rg_wd_22 ⟨by decide +kernel, by decide +kernel, by decide +kernel, by decide +kernel⟩ (by decide +kernel) (by decide +kernel)) <|
  rg_fc (rg_ok_icmp_ge (off := 38) (by decide +kernel) (by decide +kernel)) <|
  rg_fc (rg_ok_aload_n (j := 0) (by decide +kernel) rfl) <|
  rg_fc (rg_ok_getr (idx := 22) rg_cok3 (by decide +kernel) rfl (by decide +kernel) rg_wf_N_22) <|
  rg_fc (rg_ok_aload_n (j := 0) (by decide +kernel) rfl) <|
  rg_fc (rg_ok_getr (idx := 18) rg_cok3 (by decide +kernel) rfl (by decide +kernel) rg_wf_N_18) <|
  rg_fc (rg_ok_aload_n (j := 0) (by decide +kernel) rfl) <|
  rg_fc (rg_ok_getr (idx := 26) rg_cok3 (by decide +kernel) rfl (by decide +kernel) rg_wf_N_26) <|
  fun _ h => absurd h List.not_mem_nil
def rg_c125_2 : List (Nat × rg_S) := [(94, rg_sgr 2 6), (97, rg_sal 0 1), (98, rg_sgr 3 1), (101, rg_sil 3 1), (102, rg_sil 4 2), (104, rg_scV 29 2 1 2), (107, rg_saq), (108, rg_scV 120 2 0 4), (111, rg_sin 4 1), (114, rg_sgo 69), (117, rg_sal 0 1), (118, rg_sgr 3 0), (121, rg_sal 1 1), (122, rg_sal 0 1), (123, rg_sgr 3 3), (126, rg_sic 1 1), (127, rg_scV 51 3 0 4), (130, rg_sK [true, true, true, true, false] (rg_sin 3 1)), (133, rg_sgo 22), (136, rg_rv)]
theorem rg_o125_2 : ∀ q ∈ rg_c125_2, rg_Ok 125 q.1 q.2 :=
  rg_fc (rg_ok_getr (idx := 49) rg_cok2 (by decide +kernel) rfl (by decide +kernel) rg_wf_N_49) <|
  rg_fc (rg_ok_aload_n (j := 0) (by decide +kernel) rfl) <|
  rg_fc (rg_ok_getr (idx := 26) rg_cok3 (by decide +kernel) rfl (by decide +kernel) rg_wf_N_26) <|
  rg_fc (rg_ok_iload_n (j := 3) (by decide +kernel) rfl) <|
  rg_fc (rg_ok_iload (i := 4) (by decide +kernel)) <|
  rg_fc (rg_ok_callV (idx := 53) rg_cok2 (by decide +kernel) (by decide +kernel) rg_wm_N_53 rg_wj_29 rg_ws_29 rg_wz_2 rg_wd_29 ⟨by decide +kernel, by decide +kernel, by decide +kernel, by decide +kernel⟩ (by decide +kernel) (by decide +kernel)) <|
  rg_fc (rg_ok_aaload (by decide +kernel)) <|
  rg_fc (rg_ok_callV (idx := 102) rg_cok4 (by decide +kernel) (by decide +kernel) rg_wm_N_102 rg_wj_120 rg_ws_120 rg_wz_4 rg_wd_120 ⟨by decide +kernel, by decide +kernel, by decide +kernel, by decide +kernel⟩ (by decide +kernel) (by decide +kernel)) <|
  rg_fc (rg_ok_iinc (n := 1) (by decide +kernel) (by decide +kernel) (by decide +kernel)) <|
  rg_fc (rg_ok_goto (off := (-45)) (by decide +kernel) (by decide +kernel)) <|
  rg_fc (rg_ok_aload_n (j := 0) (by decide +kernel) rfl) <|
  rg_fc (rg_ok_getr (idx := 22) rg_cok3 (by decide +kernel) rfl (by decide +kernel) rg_wf_N_22) <|
  rg_fc (rg_ok_aload_n (j := 1) (by decide +kernel) rfl) <|
  rg_fc (rg_ok_aload_n (j := 0) (by decide +kernel) rfl) <|
  rg_fc (rg_ok_getr (idx := 18) rg_cok3 (by decide +kernel) rfl (by decide +kernel) rg_wf_N_18) <|
  rg_fc (rg_ok_iconst (n := 1) (by decide +kernel) (by decide +kernel)) <|
  rg_fc (rg_ok_callV (idx := 67) rg_cok4 (by decide +kernel) (by decide +kernel) rg_wm_N_67 rg_wj_51 rg_ws_51 rg_wz_4 rg_wd_51 ⟨by decide +kernel, by decide +kernel, by decide +kernel, by decide +kernel⟩ (by decide +kernel) (by decide +kernel)) <|
  rg_fc (rg_okK _ (rg_ok_iinc (n := 1) (by decide +kernel) (by decide +kernel) (by decide +kernel))) <|
  rg_fc (rg_ok_goto (off := (-111)) (by decide +kernel) (by decide +kernel)) <|
  rg_fc (rg_ok_return (by decide +kernel) rfl) <|
  fun _ h => absurd h List.not_mem_nil
def rg_kd125 : List (List (Nat × rg_S)) := [rg_c125_0, rg_c125_1, rg_c125_2]
theorem rg_o125 : ∀ pc f, rg_lk2 rg_kd125 pc = some f → rg_Ok 125 pc f := rg_lk2_ok (rg_fd rg_o125_0 (rg_fd rg_o125_1 (rg_fd rg_o125_2 (fun _ h => absurd h List.not_mem_nil))))
def rg_c144_0 : List (Nat × rg_S) := [(0, rg_sic 1000 3), (3, rg_sis 1 1), (4, rg_sic (-1000) 3), (7, rg_sis 2 1), (8, rg_sic 0 1), (9, rg_sis 3 1), (10, rg_sK [true, true, true, true, false, false] (rg_sil 3 1)), (11, rg_sal 0 1), (12, rg_sgr 3 1), (15, rg_sic 0 1), (16, rg_scV 22 1 1 2), (19, rg_skge 77), (22, rg_sic 0 1), (23, rg_sis 4 2), (25, rg_sK [true, true, true, true, true, false] (rg_sil 4 2)), (27, rg_sal 0 1), (28, rg_sgr 3 1), (31, rg_sic 1 1), (32, rg_scV 22 1 1 2), (35, rg_skge 71), (38, rg_sal 0 1), (39, rg_sgr 3 2), (42, rg_sil 3 1), (43, rg_sic 5 1), (44, rg_s2i (fun x y => x * y))]
theorem rg_o144_0 : ∀ q ∈ rg_c144_0, rg_Ok 144 q.1 q.2 :=
  rg_fc (rg_ok_sipush (n := 1000) (by decide +kernel) (by decide +kernel)) <|
  rg_fc (rg_ok_istore_n (j := 1) (by decide +kernel) rfl (by decide +kernel)) <|
  rg_fc (rg_ok_sipush (n := (-1000)) (by decide +kernel) (by decide +kernel)) <|
  rg_fc (rg_ok_istore_n (j := 2) (by decide +kernel) rfl (by decide +kernel)) <|
  rg_fc (rg_ok_iconst (n := 0) (by decide +kernel) (by decide +kernel)) <|
  rg_fc (rg_ok_istore_n (j := 3) (by decide +kernel) rfl (by decide +kernel)) <|
  rg_fc (rg_okK _ (rg_ok_iload_n (j := 3) (by decide +kernel) rfl)) <|
  rg_fc (rg_ok_aload_n (j := 0) (by decide +kernel) rfl) <|
  rg_fc (rg_ok_getr (idx := 26) rg_cok3 (by decide +kernel) rfl (by decide +kernel) rg_wf_N_26) <|
  rg_fc (rg_ok_iconst (n := 0) (by decide +kernel) (by decide +kernel)) <|
  rg_fc (rg_ok_callV (idx := 36) rg_cok2 (by decide +kernel) (by decide +kernel) rg_wm_N_36 rg_wj_22 rg_ws_22 rg_wz_2 rg_wd_22 ⟨by decide +kernel, by decide +kernel, by decide +kernel, by decide +kernel⟩ (by decide +kernel) (by decide +kernel)) <|
  rg_fc (rg_ok_icmp_ge (off := 58) (by decide +kernel) (by decide +kernel)) <|
  rg_fc (rg_ok_iconst (n := 0) (by decide +kernel) (by decide +kernel)) <|
  rg_fc (rg_ok_istore (i := 4) (by decide +kernel) (by decide +kernel)) <|
  rg_fc (rg_okK _ (rg_ok_iload (i := 4) (by decide +kernel))) <|
  rg_fc (rg_ok_aload_n (j := 0) (by decide +kernel) rfl) <|
  rg_fc (rg_ok_getr (idx := 26) rg_cok3 (by decide +kernel) rfl (by decide +kernel) rg_wf_N_26) <|
  rg_fc (rg_ok_iconst (n := 1) (by decide +kernel) (by decide +kernel)) <|
  rg_fc (rg_ok_callV (idx := 36) rg_cok2 (by decide +kernel) (by decide +kernel) rg_wm_N_36 rg_wj_22 rg_ws_22 rg_wz_2 rg_wd_22 ⟨by decide +kernel, by decide +kernel, by decide +kernel, by decide +kernel⟩ (by decide +kernel) (by decide +kernel)) <|
  rg_fc (rg_ok_icmp_ge (off := 36) (by decide +kernel) (by decide +kernel)) <|
  rg_fc (rg_ok_aload_n (j := 0) (by decide +kernel) rfl) <|
  rg_fc (rg_ok_getr (idx := 9) rg_cok3 (by decide +kernel) rfl (by decide +kernel) rg_wf_N_9) <|
  rg_fc (rg_ok_iload_n (j := 3) (by decide +kernel) rfl) <|
  rg_fc (rg_ok_iconst (n := 5) (by decide +kernel) (by decide +kernel)) <|
  rg_fc (rg_ok_imul (by decide +kernel)) <|
  fun _ h => absurd h List.not_mem_nil
def rg_c144_1 : List (Nat × rg_S) := [(45, rg_sil 4 2), (47, rg_s2i (fun x y => x + y)), (48, rg_sai), (49, rg_sis 5 2), (51, rg_sil 1 1), (52, rg_sil 5 2), (54, rg_smn), (57, rg_sis 1 1), (58, rg_sil 2 1), (59, rg_sil 5 2), (61, rg_smx), (64, rg_sis 2 1), (65, rg_sin 4 1), (68, rg_sgo 25), (71, rg_sin 3 1), (74, rg_sgo 10), (77, rg_sil 2 1), (78, rg_sil 1 1), (79, rg_s2i (fun x y => x - y)), (80, rg_ri)]
theorem rg_o144_1 : ∀ q ∈ rg_c144_1, rg_Ok 144 q.1 q.2 :=
  rg_fc (rg_ok_iload (i := 4) (by decide +kernel)) <|
  rg_fc (rg_ok_iadd (by decide +kernel)) <|
  rg_fc (rg_ok_iaload (by decide +kernel)) <|
  rg_fc (rg_ok_istore (i := 5) (by decide +kernel) (by decide +kernel)) <|
  rg_fc (rg_ok_iload_n (j := 1) (by decide +kernel) rfl) <|
  rg_fc (rg_ok_iload (i := 5) (by decide +kernel)) <|
  rg_fc (rg_ok_mmin (idx := 40) (by decide +kernel) rg_wq_N_40 rg_wq1_min rg_wq2 rg_wq3_min (by decide +kernel) (by decide +kernel)) <|
  rg_fc (rg_ok_istore_n (j := 1) (by decide +kernel) rfl (by decide +kernel)) <|
  rg_fc (rg_ok_iload_n (j := 2) (by decide +kernel) rfl) <|
  rg_fc (rg_ok_iload (i := 5) (by decide +kernel)) <|
  rg_fc (rg_ok_mmax (idx := 46) (by decide +kernel) rg_wq_N_46 rg_wq1_max rg_wq2 rg_wq3_max (by decide +kernel) (by decide +kernel)) <|
  rg_fc (rg_ok_istore_n (j := 2) (by decide +kernel) rfl (by decide +kernel)) <|
  rg_fc (rg_ok_iinc (n := 1) (by decide +kernel) (by decide +kernel) (by decide +kernel)) <|
  rg_fc (rg_ok_goto (off := (-43)) (by decide +kernel) (by decide +kernel)) <|
  rg_fc (rg_ok_iinc (n := 1) (by decide +kernel) (by decide +kernel) (by decide +kernel)) <|
  rg_fc (rg_ok_goto (off := (-64)) (by decide +kernel) (by decide +kernel)) <|
  rg_fc (rg_ok_iload_n (j := 2) (by decide +kernel) rfl) <|
  rg_fc (rg_ok_iload_n (j := 1) (by decide +kernel) rfl) <|
  rg_fc (rg_ok_isub (by decide +kernel)) <|
  rg_fc (rg_ok_ireturn (by decide +kernel) rfl) <|
  fun _ h => absurd h List.not_mem_nil
def rg_kd144 : List (List (Nat × rg_S)) := [rg_c144_0, rg_c144_1]
theorem rg_o144 : ∀ pc f, rg_lk2 rg_kd144 pc = some f → rg_Ok 144 pc f := rg_lk2_ok (rg_fd rg_o144_0 (rg_fd rg_o144_1 (fun _ h => absurd h List.not_mem_nil)))

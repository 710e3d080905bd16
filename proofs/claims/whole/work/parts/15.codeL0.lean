def rg_c5_0 : List (Nat × rg_S) := [(0, rg_sal 0 1), (1, rg_sob), (4, rg_sal 0 1), (5, rg_sic 40 2), (7, rg_sna 12 3), (10, rg_spr 2 1), (13, rg_sal 0 1), (14, rg_sic 40 2), (16, rg_sna 12 3), (19, rg_spr 2 2), (22, rg_sal 0 1), (23, rg_sic 40 2), (25, rg_sna 12 3), (28, rg_spr 2 3), (31, rg_sal 0 1), (32, rg_sic 40 2), (34, rg_sna 12 3), (37, rg_spr 2 4), (40, rg_sal 0 1), (41, rg_sic 40 2), (43, rg_sna 12 3), (46, rg_spr 2 5), (49, rg_sal 0 1), (50, rg_sic 40 2), (52, rg_sna 12 3)]
theorem rg_o5_0 : ∀ q ∈ rg_c5_0, rg_Ok 5 q.1 q.2 :=
  rg_fc (rg_ok_aload_n (j := 0) (by decide +kernel) rfl) <|
  rg_fc (rg_ok_objinit (idx := 3) (by decide +kernel) rg_wm_L_3 rg_wo_1 rg_wo_2 (by decide +kernel) (by decide +kernel)) <|
  rg_fc (rg_ok_aload_n (j := 0) (by decide +kernel) rfl) <|
  rg_fc (rg_ok_bipush (n := 40) (by decide +kernel) (by decide +kernel)) <|
  rg_fc (rg_ok_anewa (idx := 9) (by decide +kernel) rg_wk_L_9) <|
  rg_fc (rg_ok_putr (idx := 11) rg_cok2 (by decide +kernel) rfl (fun _ => ⟨rfl, rfl⟩) (Or.inr ⟨rfl, rfl, rfl⟩) (by decide +kernel) rg_wf_L_11) <|
  rg_fc (rg_ok_aload_n (j := 0) (by decide +kernel) rfl) <|
  rg_fc (rg_ok_bipush (n := 40) (by decide +kernel) (by decide +kernel)) <|
  rg_fc (rg_ok_anewa (idx := 9) (by decide +kernel) rg_wk_L_9) <|
  rg_fc (rg_ok_putr (idx := 17) rg_cok2 (by decide +kernel) rfl (fun _ => ⟨rfl, rfl⟩) (Or.inr ⟨rfl, rfl, rfl⟩) (by decide +kernel) rg_wf_L_17) <|
  rg_fc (rg_ok_aload_n (j := 0) (by decide +kernel) rfl) <|
  rg_fc (rg_ok_bipush (n := 40) (by decide +kernel) (by decide +kernel)) <|
  rg_fc (rg_ok_anewa (idx := 9) (by decide +kernel) rg_wk_L_9) <|
  rg_fc (rg_ok_putr (idx := 20) rg_cok2 (by decide +kernel) rfl (fun _ => ⟨rfl, rfl⟩) (Or.inr ⟨rfl, rfl, rfl⟩) (by decide +kernel) rg_wf_L_20) <|
  rg_fc (rg_ok_aload_n (j := 0) (by decide +kernel) rfl) <|
  rg_fc (rg_ok_bipush (n := 40) (by decide +kernel) (by decide +kernel)) <|
  rg_fc (rg_ok_anewa (idx := 9) (by decide +kernel) rg_wk_L_9) <|
  rg_fc (rg_ok_putr (idx := 23) rg_cok2 (by decide +kernel) rfl (fun _ => ⟨rfl, rfl⟩) (Or.inr ⟨rfl, rfl, rfl⟩) (by decide +kernel) rg_wf_L_23) <|
  rg_fc (rg_ok_aload_n (j := 0) (by decide +kernel) rfl) <|
  rg_fc (rg_ok_bipush (n := 40) (by decide +kernel) (by decide +kernel)) <|
  rg_fc (rg_ok_anewa (idx := 9) (by decide +kernel) rg_wk_L_9) <|
  rg_fc (rg_ok_putr (idx := 26) rg_cok2 (by decide +kernel) rfl (fun _ => ⟨rfl, rfl⟩) (Or.inr ⟨rfl, rfl, rfl⟩) (by decide +kernel) rg_wf_L_26) <|
  rg_fc (rg_ok_aload_n (j := 0) (by decide +kernel) rfl) <|
  rg_fc (rg_ok_bipush (n := 40) (by decide +kernel) (by decide +kernel)) <|
  rg_fc (rg_ok_anewa (idx := 9) (by decide +kernel) rg_wk_L_9) <|
  fun _ h => absurd h List.not_mem_nil
def rg_c5_1 : List (Nat × rg_S) := [(55, rg_spr 2 6), (58, rg_sal 0 1), (59, rg_snw 1), (62, rg_sdu), (63, rg_scI 4 0 0), (66, rg_spr 2 7), (69, rg_sal 0 1), (70, rg_snw 1), (73, rg_sdu), (74, rg_scI 4 0 0), (77, rg_spr 2 8), (80, rg_sal 0 1), (81, rg_snw 1), (84, rg_sdu), (85, rg_scI 4 0 0), (88, rg_spr 2 9), (91, rg_sal 0 1), (92, rg_sal 1 1), (93, rg_spr 2 0), (96, rg_sic 0 1), (97, rg_sis 2 1), (98, rg_sK [true, false, true] (rg_sil 2 1)), (99, rg_sic 40 2), (101, rg_skge 188), (104, rg_sal 0 1)]
theorem rg_o5_1 : ∀ q ∈ rg_c5_1, rg_Ok 5 q.1 q.2 :=
  rg_fc (rg_ok_putr (idx := 29) rg_cok2 (by decide +kernel) rfl (fun _ => ⟨rfl, rfl⟩) (Or.inr ⟨rfl, rfl, rfl⟩) (by decide +kernel) rg_wf_L_29) <|
  rg_fc (rg_ok_aload_n (j := 0) (by decide +kernel) rfl) <|
  rg_fc (rg_ok_new (idx := 9) rg_cok1 (by decide +kernel) (by decide +kernel) rg_wk_L_9 rg_wi_1 rg_wz_1) <|
  rg_fc (rg_ok_dup (by decide +kernel)) <|
  rg_fc (rg_ok_callI (idx := 32) (by decide +kernel) (by decide +kernel) rg_wm_L_32 rg_wj_4 rfl rfl rg_wz_1 rg_wd_4 ⟨by decide +kernel, by decide +kernel, by decide +kernel⟩ (by decide +kernel) (by decide +kernel)) <|
  rg_fc (rg_ok_putr (idx := 33) rg_cok2 (by decide +kernel) rfl (fun _ => ⟨rfl, rfl⟩) (Or.inr ⟨rfl, rfl, rfl⟩) (by decide +kernel) rg_wf_L_33) <|
  rg_fc (rg_ok_aload_n (j := 0) (by decide +kernel) rfl) <|
  rg_fc (rg_ok_new (idx := 9) rg_cok1 (by decide +kernel) (by decide +kernel) rg_wk_L_9 rg_wi_1 rg_wz_1) <|
  rg_fc (rg_ok_dup (by decide +kernel)) <|
  rg_fc (rg_ok_callI (idx := 32) (by decide +kernel) (by decide +kernel) rg_wm_L_32 rg_wj_4 rfl rfl rg_wz_1 rg_wd_4 ⟨by decide +kernel, by decide +kernel, by decide +kernel⟩ (by decide +kernel) (by decide +kernel)) <|
  rg_fc (rg_ok_putr (idx := 37) rg_cok2 (by decide +kernel) rfl (fun _ => ⟨rfl, rfl⟩) (Or.inr ⟨rfl, rfl, rfl⟩) (by decide +kernel) rg_wf_L_37) <|
  rg_fc (rg_ok_aload_n (j := 0) (by decide +kernel) rfl) <|
  rg_fc (rg_ok_new (idx := 9) rg_cok1 (by decide +kernel) (by decide +kernel) rg_wk_L_9 rg_wi_1 rg_wz_1) <|
  rg_fc (rg_ok_dup (by decide +kernel)) <|
  rg_fc (rg_ok_callI (idx := 32) (by decide +kernel) (by decide +kernel) rg_wm_L_32 rg_wj_4 rfl rfl rg_wz_1 rg_wd_4 ⟨by decide +kernel, by decide +kernel, by decide +kernel⟩ (by decide +kernel) (by decide +kernel)) <|
  rg_fc (rg_ok_putr (idx := 40) rg_cok2 (by decide +kernel) rfl (fun _ => ⟨rfl, rfl⟩) (Or.inr ⟨rfl, rfl, rfl⟩) (by decide +kernel) rg_wf_L_40) <|
  rg_fc (rg_ok_aload_n (j := 0) (by decide +kernel) rfl) <|
  rg_fc (rg_ok_aload_n (j := 1) (by decide +kernel) rfl) <|
  rg_fc (rg_ok_putr (idx := 43) rg_cok2 (by decide +kernel) rfl (fun _ => ⟨rfl, rfl⟩) (Or.inr ⟨rfl, rfl, rfl⟩) (by decide +kernel) rg_wf_L_43) <|
  rg_fc (rg_ok_iconst (n := 0) (by decide +kernel) (by decide +kernel)) <|
  rg_fc (rg_ok_istore_n (j := 2) (by decide +kernel) rfl (by decide +kernel)) <|
  rg_fc (rg_okK _ (rg_ok_iload_n (j := 2) (by decide +kernel) rfl)) <|
  rg_fc (rg_ok_bipush (n := 40) (by decide +kernel) (by decide +kernel)) <|
  rg_fc (rg_ok_icmp_ge (off := 87) (by decide +kernel) (by decide +kernel)) <|
  rg_fc (rg_ok_aload_n (j := 0) (by decide +kernel) rfl) <|
  fun _ h => absurd h List.not_mem_nil
def rg_c5_2 : List (Nat × rg_S) := [(105, rg_sgr 2 1), (108, rg_sil 2 1), (109, rg_snw 1), (112, rg_sdu), (113, rg_scI 4 0 0), (116, rg_swq), (117, rg_sal 0 1), (118, rg_sgr 2 2), (121, rg_sil 2 1), (122, rg_snw 1), (125, rg_sdu), (126, rg_scI 4 0 0), (129, rg_swq), (130, rg_sal 0 1), (131, rg_sgr 2 3), (134, rg_sil 2 1), (135, rg_snw 1), (138, rg_sdu), (139, rg_scI 4 0 0), (142, rg_swq), (143, rg_sal 0 1), (144, rg_sgr 2 4), (147, rg_sil 2 1), (148, rg_snw 1), (151, rg_sdu)]
theorem rg_o5_2 : ∀ q ∈ rg_c5_2, rg_Ok 5 q.1 q.2 :=
  rg_fc (rg_ok_getr (idx := 11) rg_cok2 (by decide +kernel) rfl (by decide +kernel) rg_wf_L_11) <|
  rg_fc (rg_ok_iload_n (j := 2) (by decide +kernel) rfl) <|
  rg_fc (rg_ok_new (idx := 9) rg_cok1 (by decide +kernel) (by decide +kernel) rg_wk_L_9 rg_wi_1 rg_wz_1) <|
  rg_fc (rg_ok_dup (by decide +kernel)) <|
  rg_fc (rg_ok_callI (idx := 32) (by decide +kernel) (by decide +kernel) rg_wm_L_32 rg_wj_4 rfl rfl rg_wz_1 rg_wd_4 ⟨by decide +kernel, by decide +kernel, by decide +kernel⟩ (by decide +kernel) (by decide +kernel)) <|
  rg_fc (rg_ok_aastore (by decide +kernel)) <|
  rg_fc (rg_ok_aload_n (j := 0) (by decide +kernel) rfl) <|
  rg_fc (rg_ok_getr (idx := 17) rg_cok2 (by decide +kernel) rfl (by decide +kernel) rg_wf_L_17) <|
  rg_fc (rg_ok_iload_n (j := 2) (by decide +kernel) rfl) <|
  rg_fc (rg_ok_new (idx := 9) rg_cok1 (by decide +kernel) (by decide +kernel) rg_wk_L_9 rg_wi_1 rg_wz_1) <|
  rg_fc (rg_ok_dup (by decide +kernel)) <|
  rg_fc (rg_ok_callI (idx := 32) (by decide +kernel) (by decide +kernel) rg_wm_L_32 rg_wj_4 rfl rfl rg_wz_1 rg_wd_4 ⟨by decide +kernel, by decide +kernel, by decide +kernel⟩ (by decide +kernel) (by decide +kernel)) <|
  rg_fc (rg_ok_aastore (by decide +kernel)) <|
  rg_fc (rg_ok_aload_n (j := 0) (by decide +kernel) rfl) <|
  rg_fc (rg_ok_getr (idx := 20) rg_cok2 (by decide +kernel) rfl (by decide +kernel) rg_wf_L_20) <|
  rg_fc (rg_ok_iload_n (j := 2) (by decide +kernel) rfl) <|
  rg_fc (rg_ok_new (idx := 9) rg_cok1 (by decide +kernel) (by decide +kernel) rg_wk_L_9 rg_wi_1 rg_wz_1) <|
  rg_fc (rg_ok_dup (by decide +kernel)) <|
  rg_fc (rg_ok_callI (idx := 32) (by decide +kernel) (by decide +kernel) rg_wm_L_32 rg_wj_4 rfl rfl rg_wz_1 rg_wd_4 ⟨by decide +kernel, by decide +kernel, by decide +kernel⟩ (by decide +kernel) (by decide +kernel)) <|
  rg_fc (rg_ok_aastore (by decide +kernel)) <|
  rg_fc (rg_ok_aload_n (j := 0) (by decide +kernel) rfl) <|
  rg_fc (rg_ok_getr (idx := 23) rg_cok2 (by decide +kernel) rfl (by decide +kernel) rg_wf_L_23) <|
  rg_fc (rg_ok_iload_n (j := 2) (by decide +kernel) rfl) <|
  rg_fc (rg_ok_new (idx := 9) rg_cok1 (by decide +kernel) (by decide +kernel) rg_wk_L_9 rg_wi_1 rg_wz_1) <|
  rg_fc (rg_ok_dup (by decide +kernel)) <|
  fun _ h => absurd h List.not_mem_nil
def rg_c5_3 : List (Nat × rg_S) := [(152, rg_scI 4 0 0), (155, rg_swq), (156, rg_sal 0 1), (157, rg_sgr 2 5), (160, rg_sil 2 1), (161, rg_snw 1), (164, rg_sdu), (165, rg_scI 4 0 0), (168, rg_swq), (169, rg_sal 0 1), (170, rg_sgr 2 6), (173, rg_sil 2 1), (174, rg_snw 1), (177, rg_sdu), (178, rg_scI 4 0 0), (181, rg_swq), (182, rg_sin 2 1), (185, rg_sgo 98), (188, rg_rv)]
theorem rg_o5_3 : ∀ q ∈ rg_c5_3, rg_Ok 5 q.1 q.2 :=
  rg_fc (rg_ok_callI (idx := 32) (by decide +kernel) (by decide +kernel) rg_wm_L_32 rg_wj_4 rfl rfl rg_wz_1 rg_wd_4 ⟨by decide +kernel, by decide +kernel, by decide +kernel⟩ (by decide +kernel) (by decide +kernel)) <|
  rg_fc (rg_ok_aastore (by decide +kernel)) <|
  rg_fc (rg_ok_aload_n (j := 0) (by decide +kernel) rfl) <|
  rg_fc (rg_ok_getr (idx := 26) rg_cok2 (by decide +kernel) rfl (by decide +kernel) rg_wf_L_26) <|
  rg_fc (rg_ok_iload_n (j := 2) (by decide +kernel) rfl) <|
  rg_fc (rg_ok_new (idx := 9) rg_cok1 (by decide +kernel) (by decide +kernel) rg_wk_L_9 rg_wi_1 rg_wz_1) <|
  rg_fc (rg_ok_dup (by decide +kernel)) <|
  rg_fc (rg_ok_callI (idx := 32) (by decide +kernel) (by decide +kernel) rg_wm_L_32 rg_wj_4 rfl rfl rg_wz_1 rg_wd_4 ⟨by decide +kernel, by decide +kernel, by decide +kernel⟩ (by decide +kernel) (by decide +kernel)) <|
  rg_fc (rg_ok_aastore (by decide +kernel)) <|
  rg_fc (rg_ok_aload_n (j := 0) (by decide +kernel) rfl) <|
  rg_fc (rg_ok_getr (idx := 29) rg_cok2 (by decide +kernel) rfl (by decide +kernel) rg_wf_L_29) <|
  rg_fc (rg_ok_iload_n (j := 2) (by decide +kernel) rfl) <|
  rg_fc (rg_ok_new (idx := 9) rg_cok1 (by decide +kernel) (by decide +kernel) rg_wk_L_9 rg_wi_1 rg_wz_1) <|
  rg_fc (rg_ok_dup (by decide +kernel)) <|
  rg_fc (rg_ok_callI (idx := 32) (by decide +kernel) (by decide +kernel) rg_wm_L_32 rg_wj_4 rfl rfl rg_wz_1 rg_wd_4 ⟨by decide +kernel, by decide +kernel, by decide +kernel⟩ (by decide +kernel) (by decide +kernel)) <|
  rg_fc (rg_ok_aastore (by decide +kernel)) <|
  rg_fc (rg_ok_iinc (n := 1) (by decide +kernel) (by decide +kernel) (by decide +kernel)) <|
  rg_fc (rg_ok_goto (off := (-87)) (by decide +kernel) (by decide +kernel)) <|
  rg_fc (rg_ok_return (by decide +kernel) rfl) <|
  fun _ h => absurd h List.not_mem_nil
def rg_kd5 : List (List (Nat × rg_S)) := [rg_c5_0, rg_c5_1, rg_c5_2, rg_c5_3]
theorem rg_o5 : ∀ pc f, rg_lk2 rg_kd5 pc = some f → rg_Ok 5 pc f := rg_lk2_ok (rg_fd rg_o5_0 (rg_fd rg_o5_1 (rg_fd rg_o5_2 (rg_fd rg_o5_3 (fun _ h => absurd h List.not_mem_nil)))))
def rg_c15_0 : List (Nat × rg_S) := [(0, rg_sal 0 1), (1, rg_sil 1 1), (2, rg_spi 2 10), (5, rg_sal 0 1), (6, rg_sil 2 1), (7, rg_spi 2 11), (10, rg_sal 0 1), (11, rg_sil 3 1), (12, rg_spi 2 12), (15, rg_sal 0 1), (16, rg_sil 4 2), (18, rg_spi 2 13), (21, rg_sic 0 1), (22, rg_sis 5 2), (24, rg_sK [true, false, false, false, false, true] (rg_sil 5 2)), (26, rg_sic 40 2), (28, rg_skge 61), (31, rg_sal 0 1), (32, rg_sgr 2 1), (35, rg_sil 5 2), (37, rg_saq), (38, rg_sic 0 1), (39, rg_sic 1 1), (40, rg_scV 14 2 0 1), (43, rg_sal 0 1)]
theorem rg_o15_0 : ∀ q ∈ rg_c15_0, rg_Ok 15 q.1 q.2 :=
  rg_fc (rg_ok_aload_n (j := 0) (by decide +kernel) rfl) <|
  rg_fc (rg_ok_iload_n (j := 1) (by decide +kernel) rfl) <|
  rg_fc (rg_ok_puti (idx := 47) rg_cok2 (by decide +kernel) rfl rfl rfl (by decide +kernel) rg_wf_L_47) <|
  rg_fc (rg_ok_aload_n (j := 0) (by decide +kernel) rfl) <|
  rg_fc (rg_ok_iload_n (j := 2) (by decide +kernel) rfl) <|
  rg_fc (rg_ok_puti (idx := 51) rg_cok2 (by decide +kernel) rfl rfl rfl (by decide +kernel) rg_wf_L_51) <|
  rg_fc (rg_ok_aload_n (j := 0) (by decide +kernel) rfl) <|
  rg_fc (rg_ok_iload_n (j := 3) (by decide +kernel) rfl) <|
  rg_fc (rg_ok_puti (idx := 54) rg_cok2 (by decide +kernel) rfl rfl rfl (by decide +kernel) rg_wf_L_54) <|
  rg_fc (rg_ok_aload_n (j := 0) (by decide +kernel) rfl) <|
  rg_fc (rg_ok_iload (i := 4) (by decide +kernel)) <|
  rg_fc (rg_ok_puti (idx := 57) rg_cok2 (by decide +kernel) rfl rfl rfl (by decide +kernel) rg_wf_L_57) <|
  rg_fc (rg_ok_iconst (n := 0) (by decide +kernel) (by decide +kernel)) <|
  rg_fc (rg_ok_istore (i := 5) (by decide +kernel) (by decide +kernel)) <|
  rg_fc (rg_okK _ (rg_ok_iload (i := 5) (by decide +kernel))) <|
  rg_fc (rg_ok_bipush (n := 40) (by decide +kernel) (by decide +kernel)) <|
  rg_fc (rg_ok_icmp_ge (off := 33) (by decide +kernel) (by decide +kernel)) <|
  rg_fc (rg_ok_aload_n (j := 0) (by decide +kernel) rfl) <|
  rg_fc (rg_ok_getr (idx := 11) rg_cok2 (by decide +kernel) rfl (by decide +kernel) rg_wf_L_11) <|
  rg_fc (rg_ok_iload (i := 5) (by decide +kernel)) <|
  rg_fc (rg_ok_aaload (by decide +kernel)) <|
  rg_fc (rg_ok_iconst (n := 0) (by decide +kernel) (by decide +kernel)) <|
  rg_fc (rg_ok_iconst (n := 1) (by decide +kernel) (by decide +kernel)) <|
  rg_fc (rg_ok_callV (idx := 60) rg_cok1 (by decide +kernel) (by decide +kernel) rg_wm_L_60 rg_wj_14 rg_ws_14 rg_wz_1 rg_wd_14 ⟨by decide +kernel, by decide +kernel, by decide +kernel, by decide +kernel⟩ (by decide +kernel) (by decide +kernel)) <|
  rg_fc (rg_ok_aload_n (j := 0) (by decide +kernel) rfl) <|
  fun _ h => absurd h List.not_mem_nil
def rg_c15_1 : List (Nat × rg_S) := [(44, rg_sgr 2 2), (47, rg_sil 5 2), (49, rg_saq), (50, rg_sic 0 1), (51, rg_sic 1 1), (52, rg_scV 14 2 0 1), (55, rg_sin 5 1), (58, rg_sgo 24), (61, rg_rv)]
theorem rg_o15_1 : ∀ q ∈ rg_c15_1, rg_Ok 15 q.1 q.2 :=
  rg_fc (rg_ok_getr (idx := 17) rg_cok2 (by decide +kernel) rfl (by decide +kernel) rg_wf_L_17) <|
  rg_fc (rg_ok_iload (i := 5) (by decide +kernel)) <|
  rg_fc (rg_ok_aaload (by decide +kernel)) <|
  rg_fc (rg_ok_iconst (n := 0) (by decide +kernel) (by decide +kernel)) <|
  rg_fc (rg_ok_iconst (n := 1) (by decide +kernel) (by decide +kernel)) <|
  rg_fc (rg_ok_callV (idx := 60) rg_cok1 (by decide +kernel) (by decide +kernel) rg_wm_L_60 rg_wj_14 rg_ws_14 rg_wz_1 rg_wd_14 ⟨by decide +kernel, by decide +kernel, by decide +kernel, by decide +kernel⟩ (by decide +kernel) (by decide +kernel)) <|
  rg_fc (rg_ok_iinc (n := 1) (by decide +kernel) (by decide +kernel) (by decide +kernel)) <|
  rg_fc (rg_ok_goto (off := (-34)) (by decide +kernel) (by decide +kernel)) <|
  rg_fc (rg_ok_return (by decide +kernel) rfl) <|
  fun _ h => absurd h List.not_mem_nil
def rg_kd15 : List (List (Nat × rg_S)) := [rg_c15_0, rg_c15_1]
theorem rg_o15 : ∀ pc f, rg_lk2 rg_kd15 pc = some f → rg_Ok 15 pc f := rg_lk2_ok (rg_fd rg_o15_0 (rg_fd rg_o15_1 (fun _ h => absurd h List.not_mem_nil)))
def rg_c22_0 : List (Nat × rg_S) := [(0, rg_sil 1 1), (1, rg_sjne 11), (4, rg_sal 0 1), (5, rg_sgi 2 12), (8, rg_sgo 15), (11, rg_sal 0 1), (12, rg_sgi 2 13), (15, rg_sK [false, false] (rg_ri))]
theorem rg_o22_0 : ∀ q ∈ rg_c22_0, rg_Ok 22 q.1 q.2 :=
  rg_fc (rg_ok_iload_n (j := 1) (by decide +kernel) rfl) <|
  rg_fc (rg_ok_if_ne (off := 10) (by decide +kernel) (by decide +kernel)) <|
  rg_fc (rg_ok_aload_n (j := 0) (by decide +kernel) rfl) <|
  rg_fc (rg_ok_geti (idx := 54) rg_cok2 (by decide +kernel) rfl (by decide +kernel) rg_wf_L_54) <|
  rg_fc (rg_ok_goto (off := 7) (by decide +kernel) (by decide +kernel)) <|
  rg_fc (rg_ok_aload_n (j := 0) (by decide +kernel) rfl) <|
  rg_fc (rg_ok_geti (idx := 57) rg_cok2 (by decide +kernel) rfl (by decide +kernel) rg_wf_L_57) <|
  rg_fc (rg_okK _ (rg_ok_ireturn (by decide +kernel) rfl)) <|
  fun _ h => absurd h List.not_mem_nil
def rg_kd22 : List (List (Nat × rg_S)) := [rg_c22_0]
theorem rg_o22 : ∀ pc f, rg_lk2 rg_kd22 pc = some f → rg_Ok 22 pc f := rg_lk2_ok (rg_fd rg_o22_0 (fun _ h => absurd h List.not_mem_nil))
def rg_c23_0 : List (Nat × rg_S) := [(0, rg_sil 1 1), (1, rg_sic 0 1), (2, rg_sal 0 1), (3, rg_sgi 2 10), (6, rg_sic 1 1), (7, rg_s2i (fun x y => x - y)), (8, rg_scS 13 3 1), (11, rg_sjeq 33), (14, rg_sil 2 1), (15, rg_sic 0 1), (16, rg_sal 0 1), (17, rg_sil 1 1), (18, rg_scV 22 1 1 2), (21, rg_sic 1 1), (22, rg_s2i (fun x y => x - y)), (23, rg_scS 13 3 1), (26, rg_sjeq 33), (29, rg_sic 1 1), (30, rg_sgo 34), (33, rg_sK [false, false, false] (rg_sic 0 1)), (34, rg_sK [false, false, false] (rg_rz))]
theorem rg_o23_0 : ∀ q ∈ rg_c23_0, rg_Ok 23 q.1 q.2 :=
  rg_fc (rg_ok_iload_n (j := 1) (by decide +kernel) rfl) <|
  rg_fc (rg_ok_iconst (n := 0) (by decide +kernel) (by decide +kernel)) <|
  rg_fc (rg_ok_aload_n (j := 0) (by decide +kernel) rfl) <|
  rg_fc (rg_ok_geti (idx := 47) rg_cok2 (by decide +kernel) rfl (by decide +kernel) rg_wf_L_47) <|
  rg_fc (rg_ok_iconst (n := 1) (by decide +kernel) (by decide +kernel)) <|
  rg_fc (rg_ok_isub (by decide +kernel)) <|
  rg_fc (rg_ok_callSN (idx := 64) (host := "RegretTable")  (by decide +kernel) (by decide +kernel) (fun s h => h.2.2.2.2) rg_wt_13 rg_wy_13 rg_wd_13 ⟨by decide +kernel, by decide +kernel, by decide +kernel⟩ (by decide +kernel) (by decide +kernel)) <|
  rg_fc (rg_ok_if_eq (off := 22) (by decide +kernel) (by decide +kernel)) <|
  rg_fc (rg_ok_iload_n (j := 2) (by decide +kernel) rfl) <|
  rg_fc (rg_ok_iconst (n := 0) (by decide +kernel) (by decide +kernel)) <|
  rg_fc (rg_ok_aload_n (j := 0) (by decide +kernel) rfl) <|
  rg_fc (rg_ok_iload_n (j := 1) (by decide +kernel) rfl) <|
  rg_fc (rg_ok_callV (idx := 68) rg_cok2 (by decide +kernel) (by decide +kernel) rg_wm_L_68 rg_wj_22 rg_ws_22 rg_wz_2 rg_wd_22 ⟨by decide +kernel, by decide +kernel, by decide +kernel, by decide +kernel⟩ (by decide +kernel) (by decide +kernel)) <|
  rg_fc (rg_ok_iconst (n := 1) (by decide +kernel) (by decide +kernel)) <|
  rg_fc (rg_ok_isub (by decide +kernel)) <|
  rg_fc (rg_ok_callSN (idx := 64) (host := "RegretTable")  (by decide +kernel) (by decide +kernel) (fun s h => h.2.2.2.2) rg_wt_13 rg_wy_13 rg_wd_13 ⟨by decide +kernel, by decide +kernel, by decide +kernel⟩ (by decide +kernel) (by decide +kernel)) <|
  rg_fc (rg_ok_if_eq (off := 7) (by decide +kernel) (by decide +kernel)) <|
  rg_fc (rg_ok_iconst (n := 1) (by decide +kernel) (by decide +kernel)) <|
  rg_fc (rg_ok_goto (off := 4) (by decide +kernel) (by decide +kernel)) <|
  rg_fc (rg_okK _ (rg_ok_iconst (n := 0) (by decide +kernel) (by decide +kernel))) <|
  rg_fc (rg_okK _ (rg_ok_zreturn (by decide +kernel) rfl)) <|
  fun _ h => absurd h List.not_mem_nil
def rg_kd23 : List (List (Nat × rg_S)) := [rg_c23_0]
theorem rg_o23 : ∀ pc f, rg_lk2 rg_kd23 pc = some f → rg_Ok 23 pc f := rg_lk2_ok (rg_fd rg_o23_0 (fun _ h => absurd h List.not_mem_nil))
def rg_c29_0 : List (Nat × rg_S) := [(0, rg_sil 1 1), (1, rg_sal 0 1), (2, rg_sgi 2 11), (5, rg_s2i (fun x y => x * y)), (6, rg_sil 2 1), (7, rg_s2i (fun x y => x + y)), (8, rg_ri)]
theorem rg_o29_0 : ∀ q ∈ rg_c29_0, rg_Ok 29 q.1 q.2 :=
  rg_fc (rg_ok_iload_n (j := 1) (by decide +kernel) rfl) <|
  rg_fc (rg_ok_aload_n (j := 0) (by decide +kernel) rfl) <|
  rg_fc (rg_ok_geti (idx := 51) rg_cok2 (by decide +kernel) rfl (by decide +kernel) rg_wf_L_51) <|
  rg_fc (rg_ok_imul (by decide +kernel)) <|
  rg_fc (rg_ok_iload_n (j := 2) (by decide +kernel) rfl) <|
  rg_fc (rg_ok_iadd (by decide +kernel)) <|
  rg_fc (rg_ok_ireturn (by decide +kernel) rfl) <|
  fun _ h => absurd h List.not_mem_nil
def rg_kd29 : List (List (Nat × rg_S)) := [rg_c29_0]
theorem rg_o29 : ∀ pc f, rg_lk2 rg_kd29 pc = some f → rg_Ok 29 pc f := rg_lk2_ok (rg_fd rg_o29_0 (fun _ h => absurd h List.not_mem_nil))
def rg_c55_0 : List (Nat × rg_S) := [(0, rg_sal 0 1), (1, rg_sil 1 1), (2, rg_sic 0 1), (3, rg_scV 29 2 1 2), (6, rg_sis 3 1), (7, rg_sal 0 1), (8, rg_sil 1 1), (9, rg_scV 22 1 1 2), (12, rg_sis 4 2), (14, rg_sal 0 1), (15, rg_sgr 2 7), (18, rg_sic 0 1), (19, rg_sic 1 1), (20, rg_scV 14 2 0 1), (23, rg_sil 3 1), (24, rg_sis 5 2), (26, rg_sK [true, false, true, true, true, true, false] (rg_sil 5 2)), (28, rg_sil 3 1), (29, rg_sil 4 2), (31, rg_s2i (fun x y => x + y)), (32, rg_skge 70), (35, rg_sal 2 1), (36, rg_sil 5 2), (38, rg_saq), (39, rg_sgr 1 0)]
theorem rg_o55_0 : ∀ q ∈ rg_c55_0, rg_Ok 55 q.1 q.2 :=
  rg_fc (rg_ok_aload_n (j := 0) (by decide +kernel) rfl) <|
  rg_fc (rg_ok_iload_n (j := 1) (by decide +kernel) rfl) <|
  rg_fc (rg_ok_iconst (n := 0) (by decide +kernel) (by decide +kernel)) <|
  rg_fc (rg_ok_callV (idx := 72) rg_cok2 (by decide +kernel) (by decide +kernel) rg_wm_L_72 rg_wj_29 rg_ws_29 rg_wz_2 rg_wd_29 ⟨by decide +kernel, by decide +kernel, by decide +kernel, by decide +kernel⟩ (by decide +kernel) (by decide +kernel)) <|
  rg_fc (rg_ok_istore_n (j := 3) (by decide +kernel) rfl (by decide +kernel)) <|
  rg_fc (rg_ok_aload_n (j := 0) (by decide +kernel) rfl) <|
  rg_fc (rg_ok_iload_n (j := 1) (by decide +kernel) rfl) <|
  rg_fc (rg_ok_callV (idx := 68) rg_cok2 (by decide +kernel) (by decide +kernel) rg_wm_L_68 rg_wj_22 rg_ws_22 rg_wz_2 rg_wd_22 ⟨by decide +kernel, by decide +kernel, by decide +kernel, by decide +kernel⟩ (by decide +kernel) (by decide +kernel)) <|
  rg_fc (rg_ok_istore (i := 4) (by decide +kernel) (by decide +kernel)) <|
  rg_fc (rg_ok_aload_n (j := 0) (by decide +kernel) rfl) <|
  rg_fc (rg_ok_getr (idx := 33) rg_cok2 (by decide +kernel) rfl (by decide +kernel) rg_wf_L_33) <|
  rg_fc (rg_ok_iconst (n := 0) (by decide +kernel) (by decide +kernel)) <|
  rg_fc (rg_ok_iconst (n := 1) (by decide +kernel) (by decide +kernel)) <|
  rg_fc (rg_ok_callV (idx := 60) rg_cok1 (by decide +kernel) (by decide +kernel) rg_wm_L_60 rg_wj_14 rg_ws_14 rg_wz_1 rg_wd_14 ⟨by decide +kernel, by decide +kernel, by decide +kernel, by decide +kernel⟩ (by decide +kernel) (by decide +kernel)) <|
  rg_fc (rg_ok_iload_n (j := 3) (by decide +kernel) rfl) <|
  rg_fc (rg_ok_istore (i := 5) (by decide +kernel) (by decide +kernel)) <|
  rg_fc (rg_okK _ (rg_ok_iload (i := 5) (by decide +kernel))) <|
  rg_fc (rg_ok_iload_n (j := 3) (by decide +kernel) rfl) <|
  rg_fc (rg_ok_iload (i := 4) (by decide +kernel)) <|
  rg_fc (rg_ok_iadd (by decide +kernel)) <|
  rg_fc (rg_ok_icmp_ge (off := 38) (by decide +kernel) (by decide +kernel)) <|
  rg_fc (rg_ok_aload_n (j := 2) (by decide +kernel) rfl) <|
  rg_fc (rg_ok_iload (i := 5) (by decide +kernel)) <|
  rg_fc (rg_ok_aaload (by decide +kernel)) <|
  rg_fc (rg_ok_getr (idx := 76) rg_cok1 (by decide +kernel) rfl (by decide +kernel) rg_wf_L_76) <|
  fun _ h => absurd h List.not_mem_nil
def rg_c55_1 : List (Nat × rg_S) := [(42, rg_scV 30 0 1 5), (45, rg_sjle 64), (48, rg_sal 0 1), (49, rg_sgr 2 0), (52, rg_sal 0 1), (53, rg_sgr 2 7), (56, rg_sal 2 1), (57, rg_sil 5 2), (59, rg_saq), (60, rg_sic 1 1), (61, rg_scV 51 3 0 4), (64, rg_sK [true, false, true, true, true, true, false] (rg_sin 5 1)), (67, rg_sgo 26), (70, rg_sal 0 1), (71, rg_sgr 2 7), (74, rg_sgr 1 0), (77, rg_scV 30 0 1 5), (80, rg_sjle 87), (83, rg_sic 1 1), (84, rg_sgo 88), (87, rg_sic 0 1), (88, rg_sK [true, false, true, true, true, false, false] (rg_sis 5 2)), (90, rg_sil 5 2), (92, rg_sjeq 102), (95, rg_sal 0 1)]
theorem rg_o55_1 : ∀ q ∈ rg_c55_1, rg_Ok 55 q.1 q.2 :=
  rg_fc (rg_ok_callV (idx := 80) rg_cok5 (by decide +kernel) (by decide +kernel) rg_wm_L_80 rg_wj_30 rg_ws_30 rg_wz_5 rg_wd_30 ⟨by decide +kernel, by decide +kernel, by decide +kernel, by decide +kernel⟩ (by decide +kernel) (by decide +kernel)) <|
  rg_fc (rg_ok_if_le (off := 19) (by decide +kernel) (by decide +kernel)) <|
  rg_fc (rg_ok_aload_n (j := 0) (by decide +kernel) rfl) <|
  rg_fc (rg_ok_getr (idx := 43) rg_cok2 (by decide +kernel) rfl (by decide +kernel) rg_wf_L_43) <|
  rg_fc (rg_ok_aload_n (j := 0) (by decide +kernel) rfl) <|
  rg_fc (rg_ok_getr (idx := 33) rg_cok2 (by decide +kernel) rfl (by decide +kernel) rg_wf_L_33) <|
  rg_fc (rg_ok_aload_n (j := 2) (by decide +kernel) rfl) <|
  rg_fc (rg_ok_iload (i := 5) (by decide +kernel)) <|
  rg_fc (rg_ok_aaload (by decide +kernel)) <|
  rg_fc (rg_ok_iconst (n := 1) (by decide +kernel) (by decide +kernel)) <|
  rg_fc (rg_ok_callV (idx := 86) rg_cok4 (by decide +kernel) (by decide +kernel) rg_wm_L_86 rg_wj_51 rg_ws_51 rg_wz_4 rg_wd_51 ⟨by decide +kernel, by decide +kernel, by decide +kernel, by decide +kernel⟩ (by decide +kernel) (by decide +kernel)) <|
  rg_fc (rg_okK _ (rg_ok_iinc (n := 1) (by decide +kernel) (by decide +kernel) (by decide +kernel))) <|
  rg_fc (rg_ok_goto (off := (-41)) (by decide +kernel) (by decide +kernel)) <|
  rg_fc (rg_ok_aload_n (j := 0) (by decide +kernel) rfl) <|
  rg_fc (rg_ok_getr (idx := 33) rg_cok2 (by decide +kernel) rfl (by decide +kernel) rg_wf_L_33) <|
  rg_fc (rg_ok_getr (idx := 76) rg_cok1 (by decide +kernel) rfl (by decide +kernel) rg_wf_L_76) <|
  rg_fc (rg_ok_callV (idx := 80) rg_cok5 (by decide +kernel) (by decide +kernel) rg_wm_L_80 rg_wj_30 rg_ws_30 rg_wz_5 rg_wd_30 ⟨by decide +kernel, by decide +kernel, by decide +kernel, by decide +kernel⟩ (by decide +kernel) (by decide +kernel)) <|
  rg_fc (rg_ok_if_le (off := 7) (by decide +kernel) (by decide +kernel)) <|
  rg_fc (rg_ok_iconst (n := 1) (by decide +kernel) (by decide +kernel)) <|
  rg_fc (rg_ok_goto (off := 4) (by decide +kernel) (by decide +kernel)) <|
  rg_fc (rg_ok_iconst (n := 0) (by decide +kernel) (by decide +kernel)) <|
  rg_fc (rg_okK _ (rg_ok_istore (i := 5) (by decide +kernel) (by decide +kernel))) <|
  rg_fc (rg_ok_iload (i := 5) (by decide +kernel)) <|
  rg_fc (rg_ok_if_eq (off := 10) (by decide +kernel) (by decide +kernel)) <|
  rg_fc (rg_ok_aload_n (j := 0) (by decide +kernel) rfl) <|
  fun _ h => absurd h List.not_mem_nil
def rg_c55_2 : List (Nat × rg_S) := [(96, rg_sgr 2 7), (99, rg_scV 52 0 0 1), (102, rg_sK [true, false, true, true, true, true, false] (rg_sil 3 1)), (103, rg_sis 6 2), (105, rg_sK [true, false, true, true, true, true, true] (rg_sil 6 2)), (107, rg_sil 3 1), (108, rg_sil 4 2), (110, rg_s2i (fun x y => x + y)), (111, rg_skge 201), (114, rg_sil 5 2), (116, rg_sjne 135), (119, rg_sal 0 1), (120, rg_sgr 2 5), (123, rg_sil 6 2), (125, rg_saq), (126, rg_sic 1 1), (127, rg_sil 4 2), (129, rg_scV 14 2 0 1), (132, rg_sgo 195), (135, rg_sal 2 1), (136, rg_sil 6 2), (138, rg_saq), (139, rg_sgr 1 0), (142, rg_scV 30 0 1 5), (145, rg_sjle 183)]
theorem rg_o55_2 : ∀ q ∈ rg_c55_2, rg_Ok 55 q.1 q.2 :=
  rg_fc (rg_ok_getr (idx := 33) rg_cok2 (by decide +kernel) rfl (by decide +kernel) rg_wf_L_33) <|
  rg_fc (rg_ok_callV (idx := 92) rg_cok1 (by decide +kernel) (by decide +kernel) rg_wm_L_92 rg_wj_52 rg_ws_52 rg_wz_1 rg_wd_52 ⟨by decide +kernel, by decide +kernel, by decide +kernel, by decide +kernel⟩ (by decide +kernel) (by decide +kernel)) <|
  rg_fc (rg_okK _ (rg_ok_iload_n (j := 3) (by decide +kernel) rfl)) <|
  rg_fc (rg_ok_istore (i := 6) (by decide +kernel) (by decide +kernel)) <|
  rg_fc (rg_okK _ (rg_ok_iload (i := 6) (by decide +kernel))) <|
  rg_fc (rg_ok_iload_n (j := 3) (by decide +kernel) rfl) <|
  rg_fc (rg_ok_iload (i := 4) (by decide +kernel)) <|
  rg_fc (rg_ok_iadd (by decide +kernel)) <|
  rg_fc (rg_ok_icmp_ge (off := 90) (by decide +kernel) (by decide +kernel)) <|
  rg_fc (rg_ok_iload (i := 5) (by decide +kernel)) <|
  rg_fc (rg_ok_if_ne (off := 19) (by decide +kernel) (by decide +kernel)) <|
  rg_fc (rg_ok_aload_n (j := 0) (by decide +kernel) rfl) <|
  rg_fc (rg_ok_getr (idx := 26) rg_cok2 (by decide +kernel) rfl (by decide +kernel) rg_wf_L_26) <|
  rg_fc (rg_ok_iload (i := 6) (by decide +kernel)) <|
  rg_fc (rg_ok_aaload (by decide +kernel)) <|
  rg_fc (rg_ok_iconst (n := 1) (by decide +kernel) (by decide +kernel)) <|
  rg_fc (rg_ok_iload (i := 4) (by decide +kernel)) <|
  rg_fc (rg_ok_callV (idx := 60) rg_cok1 (by decide +kernel) (by decide +kernel) rg_wm_L_60 rg_wj_14 rg_ws_14 rg_wz_1 rg_wd_14 ⟨by decide +kernel, by decide +kernel, by decide +kernel, by decide +kernel⟩ (by decide +kernel) (by decide +kernel)) <|
  rg_fc (rg_ok_goto (off := 63) (by decide +kernel) (by decide +kernel)) <|
  rg_fc (rg_ok_aload_n (j := 2) (by decide +kernel) rfl) <|
  rg_fc (rg_ok_iload (i := 6) (by decide +kernel)) <|
  rg_fc (rg_ok_aaload (by decide +kernel)) <|
  rg_fc (rg_ok_getr (idx := 76) rg_cok1 (by decide +kernel) rfl (by decide +kernel) rg_wf_L_76) <|
  rg_fc (rg_ok_callV (idx := 80) rg_cok5 (by decide +kernel) (by decide +kernel) rg_wm_L_80 rg_wj_30 rg_ws_30 rg_wz_5 rg_wd_30 ⟨by decide +kernel, by decide +kernel, by decide +kernel, by decide +kernel⟩ (by decide +kernel) (by decide +kernel)) <|
  rg_fc (rg_ok_if_le (off := 38) (by decide +kernel) (by decide +kernel)) <|
  fun _ h => absurd h List.not_mem_nil
def rg_c55_3 : List (Nat × rg_S) := [(148, rg_sal 0 1), (149, rg_sgr 2 5), (152, rg_sil 6 2), (154, rg_saq), (155, rg_sal 2 1), (156, rg_sil 6 2), (158, rg_saq), (159, rg_scV 53 1 0 1), (162, rg_sal 0 1), (163, rg_sgr 2 0), (166, rg_sal 0 1), (167, rg_sgr 2 5), (170, rg_sil 6 2), (172, rg_saq), (173, rg_sal 0 1), (174, rg_sgr 2 7), (177, rg_scV 54 2 0 4), (180, rg_sgo 195), (183, rg_sal 0 1), (184, rg_sgr 2 5), (187, rg_sil 6 2), (189, rg_saq), (190, rg_sic 0 1), (191, rg_sic 1 1), (192, rg_scV 14 2 0 1)]
theorem rg_o55_3 : ∀ q ∈ rg_c55_3, rg_Ok 55 q.1 q.2 :=
  rg_fc (rg_ok_aload_n (j := 0) (by decide +kernel) rfl) <|
  rg_fc (rg_ok_getr (idx := 26) rg_cok2 (by decide +kernel) rfl (by decide +kernel) rg_wf_L_26) <|
  rg_fc (rg_ok_iload (i := 6) (by decide +kernel)) <|
  rg_fc (rg_ok_aaload (by decide +kernel)) <|
  rg_fc (rg_ok_aload_n (j := 2) (by decide +kernel) rfl) <|
  rg_fc (rg_ok_iload (i := 6) (by decide +kernel)) <|
  rg_fc (rg_ok_aaload (by decide +kernel)) <|
  rg_fc (rg_ok_callV (idx := 95) rg_cok1 (by decide +kernel) (by decide +kernel) rg_wm_L_95 rg_wj_53 rg_ws_53 rg_wz_1 rg_wd_53 ⟨by decide +kernel, by decide +kernel, by decide +kernel, by decide +kernel⟩ (by decide +kernel) (by decide +kernel)) <|
  rg_fc (rg_ok_aload_n (j := 0) (by decide +kernel) rfl) <|
  rg_fc (rg_ok_getr (idx := 43) rg_cok2 (by decide +kernel) rfl (by decide +kernel) rg_wf_L_43) <|
  rg_fc (rg_ok_aload_n (j := 0) (by decide +kernel) rfl) <|
  rg_fc (rg_ok_getr (idx := 26) rg_cok2 (by decide +kernel) rfl (by decide +kernel) rg_wf_L_26) <|
  rg_fc (rg_ok_iload (i := 6) (by decide +kernel)) <|
  rg_fc (rg_ok_aaload (by decide +kernel)) <|
  rg_fc (rg_ok_aload_n (j := 0) (by decide +kernel) rfl) <|
  rg_fc (rg_ok_getr (idx := 33) rg_cok2 (by decide +kernel) rfl (by decide +kernel) rg_wf_L_33) <|
  rg_fc (rg_ok_callV (idx := 99) rg_cok4 (by decide +kernel) (by decide +kernel) rg_wm_L_99 rg_wj_54 rg_ws_54 rg_wz_4 rg_wd_54 ⟨by decide +kernel, by decide +kernel, by decide +kernel, by decide +kernel⟩ (by decide +kernel) (by decide +kernel)) <|
  rg_fc (rg_ok_goto (off := 15) (by decide +kernel) (by decide +kernel)) <|
  rg_fc (rg_ok_aload_n (j := 0) (by decide +kernel) rfl) <|
  rg_fc (rg_ok_getr (idx := 26) rg_cok2 (by decide +kernel) rfl (by decide +kernel) rg_wf_L_26) <|
  rg_fc (rg_ok_iload (i := 6) (by decide +kernel)) <|
  rg_fc (rg_ok_aaload (by decide +kernel)) <|
  rg_fc (rg_ok_iconst (n := 0) (by decide +kernel) (by decide +kernel)) <|
  rg_fc (rg_ok_iconst (n := 1) (by decide +kernel) (by decide +kernel)) <|
  rg_fc (rg_ok_callV (idx := 60) rg_cok1 (by decide +kernel) (by decide +kernel) rg_wm_L_60 rg_wj_14 rg_ws_14 rg_wz_1 rg_wd_14 ⟨by decide +kernel, by decide +kernel, by decide +kernel, by decide +kernel⟩ (by decide +kernel) (by decide +kernel)) <|
  fun _ h => absurd h List.not_mem_nil
def rg_c55_4 : List (Nat × rg_S) := [(195, rg_sK [true, false, true, true, true, true, true] (rg_sin 6 1)), (198, rg_sgo 105), (201, rg_rv)]
theorem rg_o55_4 : ∀ q ∈ rg_c55_4, rg_Ok 55 q.1 q.2 :=
  rg_fc (rg_okK _ (rg_ok_iinc (n := 1) (by decide +kernel) (by decide +kernel) (by decide +kernel))) <|
  rg_fc (rg_ok_goto (off := (-93)) (by decide +kernel) (by decide +kernel)) <|
  rg_fc (rg_ok_return (by decide +kernel) rfl) <|
  fun _ h => absurd h List.not_mem_nil
def rg_kd55 : List (List (Nat × rg_S)) := [rg_c55_0, rg_c55_1, rg_c55_2, rg_c55_3, rg_c55_4]
theorem rg_o55 : ∀ pc f, rg_lk2 rg_kd55 pc = some f → rg_Ok 55 pc f := rg_lk2_ok (rg_fd rg_o55_0 (rg_fd rg_o55_1 (rg_fd rg_o55_2 (rg_fd rg_o55_3 (rg_fd rg_o55_4 (fun _ h => absurd h List.not_mem_nil))))))
def rg_c56_0 : List (Nat × rg_S) := [(0, rg_sic 0 1), (1, rg_sis 3 1), (2, rg_sK [true, true, true, true] (rg_sil 3 1)), (3, rg_sal 0 1), (4, rg_sil 1 1), (5, rg_scV 22 1 1 2), (8, rg_skge 42), (11, rg_sal 0 1), (12, rg_sgr 2 5), (15, rg_sal 0 1), (16, rg_sil 1 1), (17, rg_sil 3 1), (18, rg_scV 29 2 1 2), (21, rg_saq), (22, rg_sil 3 1), (23, rg_sil 2 1), (24, rg_skne 31), (27, rg_sic 1 1), (28, rg_sgo 32), (31, rg_sic 0 1), (32, rg_sK [true, true, true, true] (rg_sic 1 1)), (33, rg_scV 14 2 0 1), (36, rg_sin 3 1), (39, rg_sgo 2), (42, rg_rv)]
theorem rg_o56_0 : ∀ q ∈ rg_c56_0, rg_Ok 56 q.1 q.2 :=
  rg_fc (rg_ok_iconst (n := 0) (by decide +kernel) (by decide +kernel)) <|
  rg_fc (rg_ok_istore_n (j := 3) (by decide +kernel) rfl (by decide +kernel)) <|
  rg_fc (rg_okK _ (rg_ok_iload_n (j := 3) (by decide +kernel) rfl)) <|
  rg_fc (rg_ok_aload_n (j := 0) (by decide +kernel) rfl) <|
  rg_fc (rg_ok_iload_n (j := 1) (by decide +kernel) rfl) <|
  rg_fc (rg_ok_callV (idx := 68) rg_cok2 (by decide +kernel) (by decide +kernel) rg_wm_L_68 rg_wj_22 rg_ws_22 rg_wz_2 rg_wd_22 ⟨by decide +kernel, by decide +kernel, by decide +kernel, by decide +kernel⟩ (by decide +kernel) (by decide +kernel)) <|
  rg_fc (rg_ok_icmp_ge (off := 34) (by decide +kernel) (by decide +kernel)) <|
  rg_fc (rg_ok_aload_n (j := 0) (by decide +kernel) rfl) <|
  rg_fc (rg_ok_getr (idx := 26) rg_cok2 (by decide +kernel) rfl (by decide +kernel) rg_wf_L_26) <|
  rg_fc (rg_ok_aload_n (j := 0) (by decide +kernel) rfl) <|
  rg_fc (rg_ok_iload_n (j := 1) (by decide +kernel) rfl) <|
  rg_fc (rg_ok_iload_n (j := 3) (by decide +kernel) rfl) <|
  rg_fc (rg_ok_callV (idx := 72) rg_cok2 (by decide +kernel) (by decide +kernel) rg_wm_L_72 rg_wj_29 rg_ws_29 rg_wz_2 rg_wd_29 ⟨by decide +kernel, by decide +kernel, by decide +kernel, by decide +kernel⟩ (by decide +kernel) (by decide +kernel)) <|
  rg_fc (rg_ok_aaload (by decide +kernel)) <|
  rg_fc (rg_ok_iload_n (j := 3) (by decide +kernel) rfl) <|
  rg_fc (rg_ok_iload_n (j := 2) (by decide +kernel) rfl) <|
  rg_fc (rg_ok_icmp_ne (off := 7) (by decide +kernel) (by decide +kernel)) <|
  rg_fc (rg_ok_iconst (n := 1) (by decide +kernel) (by decide +kernel)) <|
  rg_fc (rg_ok_goto (off := 4) (by decide +kernel) (by decide +kernel)) <|
  rg_fc (rg_ok_iconst (n := 0) (by decide +kernel) (by decide +kernel)) <|
  rg_fc (rg_okK _ (rg_ok_iconst (n := 1) (by decide +kernel) (by decide +kernel))) <|
  rg_fc (rg_ok_callV (idx := 60) rg_cok1 (by decide +kernel) (by decide +kernel) rg_wm_L_60 rg_wj_14 rg_ws_14 rg_wz_1 rg_wd_14 ⟨by decide +kernel, by decide +kernel, by decide +kernel, by decide +kernel⟩ (by decide +kernel) (by decide +kernel)) <|
  rg_fc (rg_ok_iinc (n := 1) (by decide +kernel) (by decide +kernel) (by decide +kernel)) <|
  rg_fc (rg_ok_goto (off := (-37)) (by decide +kernel) (by decide +kernel)) <|
  rg_fc (rg_ok_return (by decide +kernel) rfl) <|
  fun _ h => absurd h List.not_mem_nil
def rg_kd56 : List (List (Nat × rg_S)) := [rg_c56_0]
theorem rg_o56 : ∀ pc f, rg_lk2 rg_kd56 pc = some f → rg_Ok 56 pc f := rg_lk2_ok (rg_fd rg_o56_0 (fun _ h => absurd h List.not_mem_nil))
def rg_c62_0 : List (Nat × rg_S) := [(0, rg_sal 0 1), (1, rg_sil 1 1), (2, rg_sic 0 1), (3, rg_scV 29 2 1 2), (6, rg_sis 3 1), (7, rg_sil 3 1), (8, rg_sal 0 1), (9, rg_sil 1 1), (10, rg_scV 22 1 1 2), (13, rg_s2i (fun x y => x + y)), (14, rg_sis 4 2), (16, rg_sal 0 1), (17, rg_sgr 2 8), (20, rg_sic 0 1), (21, rg_sic 1 1), (22, rg_scV 14 2 0 1), (25, rg_sil 3 1), (26, rg_sis 5 2), (28, rg_sK [true, false, true, true, true, true] (rg_sil 5 2)), (30, rg_sil 4 2), (32, rg_skge 89), (35, rg_sal 0 1), (36, rg_sgr 2 9), (39, rg_sal 0 1), (40, rg_sgr 2 5)]
theorem rg_o62_0 : ∀ q ∈ rg_c62_0, rg_Ok 62 q.1 q.2 :=
  rg_fc (rg_ok_aload_n (j := 0) (by decide +kernel) rfl) <|
  rg_fc (rg_ok_iload_n (j := 1) (by decide +kernel) rfl) <|
  rg_fc (rg_ok_iconst (n := 0) (by decide +kernel) (by decide +kernel)) <|
  rg_fc (rg_ok_callV (idx := 72) rg_cok2 (by decide +kernel) (by decide +kernel) rg_wm_L_72 rg_wj_29 rg_ws_29 rg_wz_2 rg_wd_29 ⟨by decide +kernel, by decide +kernel, by decide +kernel, by decide +kernel⟩ (by decide +kernel) (by decide +kernel)) <|
  rg_fc (rg_ok_istore_n (j := 3) (by decide +kernel) rfl (by decide +kernel)) <|
  rg_fc (rg_ok_iload_n (j := 3) (by decide +kernel) rfl) <|
  rg_fc (rg_ok_aload_n (j := 0) (by decide +kernel) rfl) <|
  rg_fc (rg_ok_iload_n (j := 1) (by decide +kernel) rfl) <|
  rg_fc (rg_ok_callV (idx := 68) rg_cok2 (by decide +kernel) (by decide +kernel) rg_wm_L_68 rg_wj_22 rg_ws_22 rg_wz_2 rg_wd_22 ⟨by decide +kernel, by decide +kernel, by decide +kernel, by decide +kernel⟩ (by decide +kernel) (by decide +kernel)) <|
  rg_fc (rg_ok_iadd (by decide +kernel)) <|
  rg_fc (rg_ok_istore (i := 4) (by decide +kernel) (by decide +kernel)) <|
  rg_fc (rg_ok_aload_n (j := 0) (by decide +kernel) rfl) <|
  rg_fc (rg_ok_getr (idx := 37) rg_cok2 (by decide +kernel) rfl (by decide +kernel) rg_wf_L_37) <|
  rg_fc (rg_ok_iconst (n := 0) (by decide +kernel) (by decide +kernel)) <|
  rg_fc (rg_ok_iconst (n := 1) (by decide +kernel) (by decide +kernel)) <|
  rg_fc (rg_ok_callV (idx := 60) rg_cok1 (by decide +kernel) (by decide +kernel) rg_wm_L_60 rg_wj_14 rg_ws_14 rg_wz_1 rg_wd_14 ⟨by decide +kernel, by decide +kernel, by decide +kernel, by decide +kernel⟩ (by decide +kernel) (by decide +kernel)) <|
  rg_fc (rg_ok_iload_n (j := 3) (by decide +kernel) rfl) <|
  rg_fc (rg_ok_istore (i := 5) (by decide +kernel) (by decide +kernel)) <|
  rg_fc (rg_okK _ (rg_ok_iload (i := 5) (by decide +kernel))) <|
  rg_fc (rg_ok_iload (i := 4) (by decide +kernel)) <|
  rg_fc (rg_ok_icmp_ge (off := 57) (by decide +kernel) (by decide +kernel)) <|
  rg_fc (rg_ok_aload_n (j := 0) (by decide +kernel) rfl) <|
  rg_fc (rg_ok_getr (idx := 40) rg_cok2 (by decide +kernel) rfl (by decide +kernel) rg_wf_L_40) <|
  rg_fc (rg_ok_aload_n (j := 0) (by decide +kernel) rfl) <|
  rg_fc (rg_ok_getr (idx := 26) rg_cok2 (by decide +kernel) rfl (by decide +kernel) rg_wf_L_26) <|
  fun _ h => absurd h List.not_mem_nil
def rg_c62_1 : List (Nat × rg_S) := [(43, rg_sil 5 2), (45, rg_saq), (46, rg_scV 53 1 0 1), (49, rg_sal 0 1), (50, rg_sgr 2 0), (53, rg_sal 0 1), (54, rg_sgr 2 9), (57, rg_sal 0 1), (58, rg_sgr 2 6), (61, rg_sil 5 2), (63, rg_saq), (64, rg_scV 54 2 0 4), (67, rg_sal 0 1), (68, rg_sgr 2 0), (71, rg_sal 0 1), (72, rg_sgr 2 8), (75, rg_sal 0 1), (76, rg_sgr 2 9), (79, rg_sic 1 1), (80, rg_scV 51 3 0 4), (83, rg_sin 5 1), (86, rg_sgo 28), (89, rg_sil 3 1), (90, rg_sis 5 2), (92, rg_sK [true, false, true, false, true, true] (rg_sil 5 2))]
theorem rg_o62_1 : ∀ q ∈ rg_c62_1, rg_Ok 62 q.1 q.2 :=
  rg_fc (rg_ok_iload (i := 5) (by decide +kernel)) <|
  rg_fc (rg_ok_aaload (by decide +kernel)) <|
  rg_fc (rg_ok_callV (idx := 95) rg_cok1 (by decide +kernel) (by decide +kernel) rg_wm_L_95 rg_wj_53 rg_ws_53 rg_wz_1 rg_wd_53 ⟨by decide +kernel, by decide +kernel, by decide +kernel, by decide +kernel⟩ (by decide +kernel) (by decide +kernel)) <|
  rg_fc (rg_ok_aload_n (j := 0) (by decide +kernel) rfl) <|
  rg_fc (rg_ok_getr (idx := 43) rg_cok2 (by decide +kernel) rfl (by decide +kernel) rg_wf_L_43) <|
  rg_fc (rg_ok_aload_n (j := 0) (by decide +kernel) rfl) <|
  rg_fc (rg_ok_getr (idx := 40) rg_cok2 (by decide +kernel) rfl (by decide +kernel) rg_wf_L_40) <|
  rg_fc (rg_ok_aload_n (j := 0) (by decide +kernel) rfl) <|
  rg_fc (rg_ok_getr (idx := 29) rg_cok2 (by decide +kernel) rfl (by decide +kernel) rg_wf_L_29) <|
  rg_fc (rg_ok_iload (i := 5) (by decide +kernel)) <|
  rg_fc (rg_ok_aaload (by decide +kernel)) <|
  rg_fc (rg_ok_callV (idx := 99) rg_cok4 (by decide +kernel) (by decide +kernel) rg_wm_L_99 rg_wj_54 rg_ws_54 rg_wz_4 rg_wd_54 ⟨by decide +kernel, by decide +kernel, by decide +kernel, by decide +kernel⟩ (by decide +kernel) (by decide +kernel)) <|
  rg_fc (rg_ok_aload_n (j := 0) (by decide +kernel) rfl) <|
  rg_fc (rg_ok_getr (idx := 43) rg_cok2 (by decide +kernel) rfl (by decide +kernel) rg_wf_L_43) <|
  rg_fc (rg_ok_aload_n (j := 0) (by decide +kernel) rfl) <|
  rg_fc (rg_ok_getr (idx := 37) rg_cok2 (by decide +kernel) rfl (by decide +kernel) rg_wf_L_37) <|
  rg_fc (rg_ok_aload_n (j := 0) (by decide +kernel) rfl) <|
  rg_fc (rg_ok_getr (idx := 40) rg_cok2 (by decide +kernel) rfl (by decide +kernel) rg_wf_L_40) <|
  rg_fc (rg_ok_iconst (n := 1) (by decide +kernel) (by decide +kernel)) <|
  rg_fc (rg_ok_callV (idx := 86) rg_cok4 (by decide +kernel) (by decide +kernel) rg_wm_L_86 rg_wj_51 rg_ws_51 rg_wz_4 rg_wd_51 ⟨by decide +kernel, by decide +kernel, by decide +kernel, by decide +kernel⟩ (by decide +kernel) (by decide +kernel)) <|
  rg_fc (rg_ok_iinc (n := 1) (by decide +kernel) (by decide +kernel) (by decide +kernel)) <|
  rg_fc (rg_ok_goto (off := (-58)) (by decide +kernel) (by decide +kernel)) <|
  rg_fc (rg_ok_iload_n (j := 3) (by decide +kernel) rfl) <|
  rg_fc (rg_ok_istore (i := 5) (by decide +kernel) (by decide +kernel)) <|
  rg_fc (rg_okK _ (rg_ok_iload (i := 5) (by decide +kernel))) <|
  fun _ h => absurd h List.not_mem_nil
def rg_c62_2 : List (Nat × rg_S) := [(94, rg_sil 4 2), (96, rg_skge 241), (99, rg_sal 0 1), (100, rg_sgr 2 9), (103, rg_sal 0 1), (104, rg_sgr 2 6), (107, rg_sil 5 2), (109, rg_saq), (110, rg_scV 53 1 0 1), (113, rg_sal 0 1), (114, rg_sgr 2 0), (117, rg_sal 0 1), (118, rg_sgr 2 9), (121, rg_sal 0 1), (122, rg_sgr 2 8), (125, rg_sic (-1) 1), (126, rg_scV 51 3 0 4), (129, rg_sal 0 1), (130, rg_sgr 2 3), (133, rg_sil 5 2), (135, rg_saq), (136, rg_sal 0 1), (137, rg_sgr 2 1), (140, rg_sil 5 2), (142, rg_saq)]
theorem rg_o62_2 : ∀ q ∈ rg_c62_2, rg_Ok 62 q.1 q.2 :=
  rg_fc (rg_ok_iload (i := 4) (by decide +kernel)) <|
  rg_fc (rg_ok_icmp_ge (off := 145) (by decide +kernel) (by decide +kernel)) <|
  rg_fc (rg_ok_aload_n (j := 0) (by decide +kernel) rfl) <|
  rg_fc (rg_ok_getr (idx := 40) rg_cok2 (by decide +kernel) rfl (by decide +kernel) rg_wf_L_40) <|
  rg_fc (rg_ok_aload_n (j := 0) (by decide +kernel) rfl) <|
  rg_fc (rg_ok_getr (idx := 29) rg_cok2 (by decide +kernel) rfl (by decide +kernel) rg_wf_L_29) <|
  rg_fc (rg_ok_iload (i := 5) (by decide +kernel)) <|
  rg_fc (rg_ok_aaload (by decide +kernel)) <|
  rg_fc (rg_ok_callV (idx := 95) rg_cok1 (by decide +kernel) (by decide +kernel) rg_wm_L_95 rg_wj_53 rg_ws_53 rg_wz_1 rg_wd_53 ⟨by decide +kernel, by decide +kernel, by decide +kernel, by decide +kernel⟩ (by decide +kernel) (by decide +kernel)) <|
  rg_fc (rg_ok_aload_n (j := 0) (by decide +kernel) rfl) <|
  rg_fc (rg_ok_getr (idx := 43) rg_cok2 (by decide +kernel) rfl (by decide +kernel) rg_wf_L_43) <|
  rg_fc (rg_ok_aload_n (j := 0) (by decide +kernel) rfl) <|
  rg_fc (rg_ok_getr (idx := 40) rg_cok2 (by decide +kernel) rfl (by decide +kernel) rg_wf_L_40) <|
  rg_fc (rg_ok_aload_n (j := 0) (by decide +kernel) rfl) <|
  rg_fc (rg_ok_getr (idx := 37) rg_cok2 (by decide +kernel) rfl (by decide +kernel) rg_wf_L_37) <|
  rg_fc (rg_ok_iconst (n := (-1)) (by decide +kernel) (by decide +kernel)) <|
  rg_fc (rg_ok_callV (idx := 86) rg_cok4 (by decide +kernel) (by decide +kernel) rg_wm_L_86 rg_wj_51 rg_ws_51 rg_wz_4 rg_wd_51 ⟨by decide +kernel, by decide +kernel, by decide +kernel, by decide +kernel⟩ (by decide +kernel) (by decide +kernel)) <|
  rg_fc (rg_ok_aload_n (j := 0) (by decide +kernel) rfl) <|
  rg_fc (rg_ok_getr (idx := 20) rg_cok2 (by decide +kernel) rfl (by decide +kernel) rg_wf_L_20) <|
  rg_fc (rg_ok_iload (i := 5) (by decide +kernel)) <|
  rg_fc (rg_ok_aaload (by decide +kernel)) <|
  rg_fc (rg_ok_aload_n (j := 0) (by decide +kernel) rfl) <|
  rg_fc (rg_ok_getr (idx := 11) rg_cok2 (by decide +kernel) rfl (by decide +kernel) rg_wf_L_11) <|
  rg_fc (rg_ok_iload (i := 5) (by decide +kernel)) <|
  rg_fc (rg_ok_aaload (by decide +kernel)) <|
  fun _ h => absurd h List.not_mem_nil
def rg_c62_3 : List (Nat × rg_S) := [(143, rg_scV 53 1 0 1), (146, rg_sal 0 1), (147, rg_sgr 2 0), (150, rg_sal 0 1), (151, rg_sgr 2 3), (154, rg_sil 5 2), (156, rg_saq), (157, rg_sal 0 1), (158, rg_sgr 2 9), (161, rg_sic 1 1), (162, rg_scV 51 3 0 4), (165, rg_sal 0 1), (166, rg_sgr 2 4), (169, rg_sil 5 2), (171, rg_saq), (172, rg_sal 0 1), (173, rg_sgr 2 2), (176, rg_sil 5 2), (178, rg_saq), (179, rg_scV 53 1 0 1), (182, rg_sal 0 1), (183, rg_sgr 2 0), (186, rg_sal 0 1), (187, rg_sgr 2 4), (190, rg_sil 5 2)]
theorem rg_o62_3 : ∀ q ∈ rg_c62_3, rg_Ok 62 q.1 q.2 :=
  rg_fc (rg_ok_callV (idx := 95) rg_cok1 (by decide +kernel) (by decide +kernel) rg_wm_L_95 rg_wj_53 rg_ws_53 rg_wz_1 rg_wd_53 ⟨by decide +kernel, by decide +kernel, by decide +kernel, by decide +kernel⟩ (by decide +kernel) (by decide +kernel)) <|
  rg_fc (rg_ok_aload_n (j := 0) (by decide +kernel) rfl) <|
  rg_fc (rg_ok_getr (idx := 43) rg_cok2 (by decide +kernel) rfl (by decide +kernel) rg_wf_L_43) <|
  rg_fc (rg_ok_aload_n (j := 0) (by decide +kernel) rfl) <|
  rg_fc (rg_ok_getr (idx := 20) rg_cok2 (by decide +kernel) rfl (by decide +kernel) rg_wf_L_20) <|
  rg_fc (rg_ok_iload (i := 5) (by decide +kernel)) <|
  rg_fc (rg_ok_aaload (by decide +kernel)) <|
  rg_fc (rg_ok_aload_n (j := 0) (by decide +kernel) rfl) <|
  rg_fc (rg_ok_getr (idx := 40) rg_cok2 (by decide +kernel) rfl (by decide +kernel) rg_wf_L_40) <|
  rg_fc (rg_ok_iconst (n := 1) (by decide +kernel) (by decide +kernel)) <|
  rg_fc (rg_ok_callV (idx := 86) rg_cok4 (by decide +kernel) (by decide +kernel) rg_wm_L_86 rg_wj_51 rg_ws_51 rg_wz_4 rg_wd_51 ⟨by decide +kernel, by decide +kernel, by decide +kernel, by decide +kernel⟩ (by decide +kernel) (by decide +kernel)) <|
  rg_fc (rg_ok_aload_n (j := 0) (by decide +kernel) rfl) <|
  rg_fc (rg_ok_getr (idx := 23) rg_cok2 (by decide +kernel) rfl (by decide +kernel) rg_wf_L_23) <|
  rg_fc (rg_ok_iload (i := 5) (by decide +kernel)) <|
  rg_fc (rg_ok_aaload (by decide +kernel)) <|
  rg_fc (rg_ok_aload_n (j := 0) (by decide +kernel) rfl) <|
  rg_fc (rg_ok_getr (idx := 17) rg_cok2 (by decide +kernel) rfl (by decide +kernel) rg_wf_L_17) <|
  rg_fc (rg_ok_iload (i := 5) (by decide +kernel)) <|
  rg_fc (rg_ok_aaload (by decide +kernel)) <|
  rg_fc (rg_ok_callV (idx := 95) rg_cok1 (by decide +kernel) (by decide +kernel) rg_wm_L_95 rg_wj_53 rg_ws_53 rg_wz_1 rg_wd_53 ⟨by decide +kernel, by decide +kernel, by decide +kernel, by decide +kernel⟩ (by decide +kernel) (by decide +kernel)) <|
  rg_fc (rg_ok_aload_n (j := 0) (by decide +kernel) rfl) <|
  rg_fc (rg_ok_getr (idx := 43) rg_cok2 (by decide +kernel) rfl (by decide +kernel) rg_wf_L_43) <|
  rg_fc (rg_ok_aload_n (j := 0) (by decide +kernel) rfl) <|
  rg_fc (rg_ok_getr (idx := 23) rg_cok2 (by decide +kernel) rfl (by decide +kernel) rg_wf_L_23) <|
  rg_fc (rg_ok_iload (i := 5) (by decide +kernel)) <|
  fun _ h => absurd h List.not_mem_nil
def rg_c62_4 : List (Nat × rg_S) := [(192, rg_saq), (193, rg_sal 2 1), (194, rg_sil 5 2), (196, rg_saq), (197, rg_sic 1 1), (198, rg_scV 51 3 0 4), (201, rg_sal 0 1), (202, rg_sgr 2 3), (205, rg_sil 5 2), (207, rg_saq), (208, rg_scV 61 0 1 1), (211, rg_sic 256 3), (214, rg_skgt 233), (217, rg_sal 0 1), (218, rg_sgr 2 4), (221, rg_sil 5 2), (223, rg_saq), (224, rg_scV 61 0 1 1), (227, rg_sic 256 3), (230, rg_skle 235), (233, rg_sK [false, false, false, false, false, false] (rg_sic 0 1)), (234, rg_rz), (235, rg_sin 5 1), (238, rg_sgo 92), (241, rg_sic 1 1)]
theorem rg_o62_4 : ∀ q ∈ rg_c62_4, rg_Ok 62 q.1 q.2 :=
  rg_fc (rg_ok_aaload (by decide +kernel)) <|
  rg_fc (rg_ok_aload_n (j := 2) (by decide +kernel) rfl) <|
  rg_fc (rg_ok_iload (i := 5) (by decide +kernel)) <|
  rg_fc (rg_ok_aaload (by decide +kernel)) <|
  rg_fc (rg_ok_iconst (n := 1) (by decide +kernel) (by decide +kernel)) <|
  rg_fc (rg_ok_callV (idx := 86) rg_cok4 (by decide +kernel) (by decide +kernel) rg_wm_L_86 rg_wj_51 rg_ws_51 rg_wz_4 rg_wd_51 ⟨by decide +kernel, by decide +kernel, by decide +kernel, by decide +kernel⟩ (by decide +kernel) (by decide +kernel)) <|
  rg_fc (rg_ok_aload_n (j := 0) (by decide +kernel) rfl) <|
  rg_fc (rg_ok_getr (idx := 20) rg_cok2 (by decide +kernel) rfl (by decide +kernel) rg_wf_L_20) <|
  rg_fc (rg_ok_iload (i := 5) (by decide +kernel)) <|
  rg_fc (rg_ok_aaload (by decide +kernel)) <|
  rg_fc (rg_ok_callV (idx := 107) rg_cok1 (by decide +kernel) (by decide +kernel) rg_wm_L_107 rg_wj_61 rg_ws_61 rg_wz_1 rg_wd_61 ⟨by decide +kernel, by decide +kernel, by decide +kernel, by decide +kernel⟩ (by decide +kernel) (by decide +kernel)) <|
  rg_fc (rg_ok_sipush (n := 256) (by decide +kernel) (by decide +kernel)) <|
  rg_fc (rg_ok_icmp_gt (off := 19) (by decide +kernel) (by decide +kernel)) <|
  rg_fc (rg_ok_aload_n (j := 0) (by decide +kernel) rfl) <|
  rg_fc (rg_ok_getr (idx := 23) rg_cok2 (by decide +kernel) rfl (by decide +kernel) rg_wf_L_23) <|
  rg_fc (rg_ok_iload (i := 5) (by decide +kernel)) <|
  rg_fc (rg_ok_aaload (by decide +kernel)) <|
  rg_fc (rg_ok_callV (idx := 107) rg_cok1 (by decide +kernel) (by decide +kernel) rg_wm_L_107 rg_wj_61 rg_ws_61 rg_wz_1 rg_wd_61 ⟨by decide +kernel, by decide +kernel, by decide +kernel, by decide +kernel⟩ (by decide +kernel) (by decide +kernel)) <|
  rg_fc (rg_ok_sipush (n := 256) (by decide +kernel) (by decide +kernel)) <|
  rg_fc (rg_ok_icmp_le (off := 5) (by decide +kernel) (by decide +kernel)) <|
  rg_fc (rg_okK _ (rg_ok_iconst (n := 0) (by decide +kernel) (by decide +kernel))) <|
  rg_fc (rg_ok_zreturn (by decide +kernel) rfl) <|
  rg_fc (rg_ok_iinc (n := 1) (by decide +kernel) (by decide +kernel) (by decide +kernel)) <|
  rg_fc (rg_ok_goto (off := (-146)) (by decide +kernel) (by decide +kernel)) <|
  rg_fc (rg_ok_iconst (n := 1) (by decide +kernel) (by decide +kernel)) <|
  fun _ h => absurd h List.not_mem_nil
def rg_c62_5 : List (Nat × rg_S) := [(242, rg_rz)]
theorem rg_o62_5 : ∀ q ∈ rg_c62_5, rg_Ok 62 q.1 q.2 :=
  rg_fc (rg_ok_zreturn (by decide +kernel) rfl) <|
  fun _ h => absurd h List.not_mem_nil
def rg_kd62 : List (List (Nat × rg_S)) := [rg_c62_0, rg_c62_1, rg_c62_2, rg_c62_3, rg_c62_4, rg_c62_5]
theorem rg_o62 : ∀ pc f, rg_lk2 rg_kd62 pc = some f → rg_Ok 62 pc f := rg_lk2_ok (rg_fd rg_o62_0 (rg_fd rg_o62_1 (rg_fd rg_o62_2 (rg_fd rg_o62_3 (rg_fd rg_o62_4 (rg_fd rg_o62_5 (fun _ h => absurd h List.not_mem_nil)))))))
def rg_c64_0 : List (Nat × rg_S) := [(0, rg_sic 0 1), (1, rg_sis 2 1), (2, rg_sK [true, true, true, false] (rg_sil 2 1)), (3, rg_sal 0 1), (4, rg_sil 1 1), (5, rg_scV 22 1 1 2), (8, rg_skge 54), (11, rg_sal 0 1), (12, rg_sil 1 1), (13, rg_sil 2 1), (14, rg_scV 29 2 1 2), (17, rg_sis 3 1), (18, rg_sal 0 1), (19, rg_sgr 2 1), (22, rg_sil 3 1), (23, rg_saq), (24, rg_sal 0 1), (25, rg_sgr 2 3), (28, rg_sil 3 1), (29, rg_saq), (30, rg_scV 53 1 0 1), (33, rg_sal 0 1), (34, rg_sgr 2 2), (37, rg_sil 3 1), (38, rg_saq)]
theorem rg_o64_0 : ∀ q ∈ rg_c64_0, rg_Ok 64 q.1 q.2 :=
  rg_fc (rg_ok_iconst (n := 0) (by decide +kernel) (by decide +kernel)) <|
  rg_fc (rg_ok_istore_n (j := 2) (by decide +kernel) rfl (by decide +kernel)) <|
  rg_fc (rg_okK _ (rg_ok_iload_n (j := 2) (by decide +kernel) rfl)) <|
  rg_fc (rg_ok_aload_n (j := 0) (by decide +kernel) rfl) <|
  rg_fc (rg_ok_iload_n (j := 1) (by decide +kernel) rfl) <|
  rg_fc (rg_ok_callV (idx := 68) rg_cok2 (by decide +kernel) (by decide +kernel) rg_wm_L_68 rg_wj_22 rg_ws_22 rg_wz_2 rg_wd_22 ⟨by decide +kernel, by decide +kernel, by decide +kernel, by decide +kernel⟩ (by decide +kernel) (by decide +kernel)) <|
  rg_fc (rg_ok_icmp_ge (off := 46) (by decide +kernel) (by decide +kernel)) <|
  rg_fc (rg_ok_aload_n (j := 0) (by decide +kernel) rfl) <|
  rg_fc (rg_ok_iload_n (j := 1) (by decide +kernel) rfl) <|
  rg_fc (rg_ok_iload_n (j := 2) (by decide +kernel) rfl) <|
  rg_fc (rg_ok_callV (idx := 72) rg_cok2 (by decide +kernel) (by decide +kernel) rg_wm_L_72 rg_wj_29 rg_ws_29 rg_wz_2 rg_wd_29 ⟨by decide +kernel, by decide +kernel, by decide +kernel, by decide +kernel⟩ (by decide +kernel) (by decide +kernel)) <|
  rg_fc (rg_ok_istore_n (j := 3) (by decide +kernel) rfl (by decide +kernel)) <|
  rg_fc (rg_ok_aload_n (j := 0) (by decide +kernel) rfl) <|
  rg_fc (rg_ok_getr (idx := 11) rg_cok2 (by decide +kernel) rfl (by decide +kernel) rg_wf_L_11) <|
  rg_fc (rg_ok_iload_n (j := 3) (by decide +kernel) rfl) <|
  rg_fc (rg_ok_aaload (by decide +kernel)) <|
  rg_fc (rg_ok_aload_n (j := 0) (by decide +kernel) rfl) <|
  rg_fc (rg_ok_getr (idx := 20) rg_cok2 (by decide +kernel) rfl (by decide +kernel) rg_wf_L_20) <|
  rg_fc (rg_ok_iload_n (j := 3) (by decide +kernel) rfl) <|
  rg_fc (rg_ok_aaload (by decide +kernel)) <|
  rg_fc (rg_ok_callV (idx := 95) rg_cok1 (by decide +kernel) (by decide +kernel) rg_wm_L_95 rg_wj_53 rg_ws_53 rg_wz_1 rg_wd_53 ⟨by decide +kernel, by decide +kernel, by decide +kernel, by decide +kernel⟩ (by decide +kernel) (by decide +kernel)) <|
  rg_fc (rg_ok_aload_n (j := 0) (by decide +kernel) rfl) <|
  rg_fc (rg_ok_getr (idx := 17) rg_cok2 (by decide +kernel) rfl (by decide +kernel) rg_wf_L_17) <|
  rg_fc (rg_ok_iload_n (j := 3) (by decide +kernel) rfl) <|
  rg_fc (rg_ok_aaload (by decide +kernel)) <|
  fun _ h => absurd h List.not_mem_nil
def rg_c64_1 : List (Nat × rg_S) := [(39, rg_sal 0 1), (40, rg_sgr 2 4), (43, rg_sil 3 1), (44, rg_saq), (45, rg_scV 53 1 0 1), (48, rg_sin 2 1), (51, rg_sgo 2), (54, rg_rv)]
theorem rg_o64_1 : ∀ q ∈ rg_c64_1, rg_Ok 64 q.1 q.2 :=
  rg_fc (rg_ok_aload_n (j := 0) (by decide +kernel) rfl) <|
  rg_fc (rg_ok_getr (idx := 23) rg_cok2 (by decide +kernel) rfl (by decide +kernel) rg_wf_L_23) <|
  rg_fc (rg_ok_iload_n (j := 3) (by decide +kernel) rfl) <|
  rg_fc (rg_ok_aaload (by decide +kernel)) <|
  rg_fc (rg_ok_callV (idx := 95) rg_cok1 (by decide +kernel) (by decide +kernel) rg_wm_L_95 rg_wj_53 rg_ws_53 rg_wz_1 rg_wd_53 ⟨by decide +kernel, by decide +kernel, by decide +kernel, by decide +kernel⟩ (by decide +kernel) (by decide +kernel)) <|
  rg_fc (rg_ok_iinc (n := 1) (by decide +kernel) (by decide +kernel) (by decide +kernel)) <|
  rg_fc (rg_ok_goto (off := (-49)) (by decide +kernel) (by decide +kernel)) <|
  rg_fc (rg_ok_return (by decide +kernel) rfl) <|
  fun _ h => absurd h List.not_mem_nil
def rg_kd64 : List (List (Nat × rg_S)) := [rg_c64_0, rg_c64_1]
theorem rg_o64 : ∀ pc f, rg_lk2 rg_kd64 pc = some f → rg_Ok 64 pc f := rg_lk2_ok (rg_fd rg_o64_0 (rg_fd rg_o64_1 (fun _ h => absurd h List.not_mem_nil)))
def rg_c95_0 : List (Nat × rg_S) := [(0, rg_sic 0 1), (1, rg_sis 2 1), (2, rg_sK [true, true, true] (rg_sil 2 1)), (3, rg_sal 0 1), (4, rg_sgi 2 10), (7, rg_skge 22), (10, rg_sal 0 1), (11, rg_sil 2 1), (12, rg_sal 1 1), (13, rg_scV 55 2 0 2), (16, rg_sin 2 1), (19, rg_sgo 2), (22, rg_rv)]
theorem rg_o95_0 : ∀ q ∈ rg_c95_0, rg_Ok 95 q.1 q.2 :=
  rg_fc (rg_ok_iconst (n := 0) (by decide +kernel) (by decide +kernel)) <|
  rg_fc (rg_ok_istore_n (j := 2) (by decide +kernel) rfl (by decide +kernel)) <|
  rg_fc (rg_okK _ (rg_ok_iload_n (j := 2) (by decide +kernel) rfl)) <|
  rg_fc (rg_ok_aload_n (j := 0) (by decide +kernel) rfl) <|
  rg_fc (rg_ok_geti (idx := 47) rg_cok2 (by decide +kernel) rfl (by decide +kernel) rg_wf_L_47) <|
  rg_fc (rg_ok_icmp_ge (off := 15) (by decide +kernel) (by decide +kernel)) <|
  rg_fc (rg_ok_aload_n (j := 0) (by decide +kernel) rfl) <|
  rg_fc (rg_ok_iload_n (j := 2) (by decide +kernel) rfl) <|
  rg_fc (rg_ok_aload_n (j := 1) (by decide +kernel) rfl) <|
  rg_fc (rg_ok_callV (idx := 103) rg_cok2 (by decide +kernel) (by decide +kernel) rg_wm_L_103 rg_wj_55 rg_ws_55 rg_wz_2 rg_wd_55 ⟨by decide +kernel, by decide +kernel, by decide +kernel, by decide +kernel⟩ (by decide +kernel) (by decide +kernel)) <|
  rg_fc (rg_ok_iinc (n := 1) (by decide +kernel) (by decide +kernel) (by decide +kernel)) <|
  rg_fc (rg_ok_goto (off := (-17)) (by decide +kernel) (by decide +kernel)) <|
  rg_fc (rg_ok_return (by decide +kernel) rfl) <|
  fun _ h => absurd h List.not_mem_nil
def rg_kd95 : List (List (Nat × rg_S)) := [rg_c95_0]
theorem rg_o95 : ∀ pc f, rg_lk2 rg_kd95 pc = some f → rg_Ok 95 pc f := rg_lk2_ok (rg_fd rg_o95_0 (fun _ h => absurd h List.not_mem_nil))
def rg_c97_0 : List (Nat × rg_S) := [(0, rg_sic 0 1), (1, rg_sis 1 1), (2, rg_sK [true, true] (rg_sil 1 1)), (3, rg_sic 40 2), (5, rg_skge 25), (8, rg_sal 0 1), (9, rg_sgr 2 6), (12, rg_sil 1 1), (13, rg_saq), (14, rg_sic 0 1), (15, rg_sic 1 1), (16, rg_scV 14 2 0 1), (19, rg_sin 1 1), (22, rg_sgo 2), (25, rg_rv)]
theorem rg_o97_0 : ∀ q ∈ rg_c97_0, rg_Ok 97 q.1 q.2 :=
  rg_fc (rg_ok_iconst (n := 0) (by decide +kernel) (by decide +kernel)) <|
  rg_fc (rg_ok_istore_n (j := 1) (by decide +kernel) rfl (by decide +kernel)) <|
  rg_fc (rg_okK _ (rg_ok_iload_n (j := 1) (by decide +kernel) rfl)) <|
  rg_fc (rg_ok_bipush (n := 40) (by decide +kernel) (by decide +kernel)) <|
  rg_fc (rg_ok_icmp_ge (off := 20) (by decide +kernel) (by decide +kernel)) <|
  rg_fc (rg_ok_aload_n (j := 0) (by decide +kernel) rfl) <|
  rg_fc (rg_ok_getr (idx := 29) rg_cok2 (by decide +kernel) rfl (by decide +kernel) rg_wf_L_29) <|
  rg_fc (rg_ok_iload_n (j := 1) (by decide +kernel) rfl) <|
  rg_fc (rg_ok_aaload (by decide +kernel)) <|
  rg_fc (rg_ok_iconst (n := 0) (by decide +kernel) (by decide +kernel)) <|
  rg_fc (rg_ok_iconst (n := 1) (by decide +kernel) (by decide +kernel)) <|
  rg_fc (rg_ok_callV (idx := 60) rg_cok1 (by decide +kernel) (by decide +kernel) rg_wm_L_60 rg_wj_14 rg_ws_14 rg_wz_1 rg_wd_14 ⟨by decide +kernel, by decide +kernel, by decide +kernel, by decide +kernel⟩ (by decide +kernel) (by decide +kernel)) <|
  rg_fc (rg_ok_iinc (n := 1) (by decide +kernel) (by decide +kernel) (by decide +kernel)) <|
  rg_fc (rg_ok_goto (off := (-20)) (by decide +kernel) (by decide +kernel)) <|
  rg_fc (rg_ok_return (by decide +kernel) rfl) <|
  fun _ h => absurd h List.not_mem_nil
def rg_kd97 : List (List (Nat × rg_S)) := [rg_c97_0]
theorem rg_o97 : ∀ pc f, rg_lk2 rg_kd97 pc = some f → rg_Ok 97 pc f := rg_lk2_ok (rg_fd rg_o97_0 (fun _ h => absurd h List.not_mem_nil))
def rg_c145_0 : List (Nat × rg_S) := [(0, rg_sal 0 1), (1, rg_sgr 2 9), (4, rg_sal 0 1), (5, rg_sgr 2 1), (8, rg_sal 0 1), (9, rg_sil 1 1), (10, rg_sic 0 1), (11, rg_scV 29 2 1 2), (14, rg_saq), (15, rg_scV 53 1 0 1), (18, rg_sic 1 1), (19, rg_sis 2 1), (20, rg_sK [true, true, true] (rg_sil 2 1)), (21, rg_sal 0 1), (22, rg_sil 1 1), (23, rg_scV 22 1 1 2), (26, rg_skge 57), (29, rg_sal 0 1), (30, rg_sgr 2 0), (33, rg_sal 0 1), (34, rg_sgr 2 9), (37, rg_sal 0 1), (38, rg_sgr 2 1), (41, rg_sal 0 1), (42, rg_sil 1 1)]
theorem rg_o145_0 : ∀ q ∈ rg_c145_0, rg_Ok 145 q.1 q.2 :=
  rg_fc (rg_ok_aload_n (j := 0) (by decide +kernel) rfl) <|
  rg_fc (rg_ok_getr (idx := 40) rg_cok2 (by decide +kernel) rfl (by decide +kernel) rg_wf_L_40) <|
  rg_fc (rg_ok_aload_n (j := 0) (by decide +kernel) rfl) <|
  rg_fc (rg_ok_getr (idx := 11) rg_cok2 (by decide +kernel) rfl (by decide +kernel) rg_wf_L_11) <|
  rg_fc (rg_ok_aload_n (j := 0) (by decide +kernel) rfl) <|
  rg_fc (rg_ok_iload_n (j := 1) (by decide +kernel) rfl) <|
  rg_fc (rg_ok_iconst (n := 0) (by decide +kernel) (by decide +kernel)) <|
  rg_fc (rg_ok_callV (idx := 72) rg_cok2 (by decide +kernel) (by decide +kernel) rg_wm_L_72 rg_wj_29 rg_ws_29 rg_wz_2 rg_wd_29 ⟨by decide +kernel, by decide +kernel, by decide +kernel, by decide +kernel⟩ (by decide +kernel) (by decide +kernel)) <|
  rg_fc (rg_ok_aaload (by decide +kernel)) <|
  rg_fc (rg_ok_callV (idx := 95) rg_cok1 (by decide +kernel) (by decide +kernel) rg_wm_L_95 rg_wj_53 rg_ws_53 rg_wz_1 rg_wd_53 ⟨by decide +kernel, by decide +kernel, by decide +kernel, by decide +kernel⟩ (by decide +kernel) (by decide +kernel)) <|
  rg_fc (rg_ok_iconst (n := 1) (by decide +kernel) (by decide +kernel)) <|
  rg_fc (rg_ok_istore_n (j := 2) (by decide +kernel) rfl (by decide +kernel)) <|
  rg_fc (rg_okK _ (rg_ok_iload_n (j := 2) (by decide +kernel) rfl)) <|
  rg_fc (rg_ok_aload_n (j := 0) (by decide +kernel) rfl) <|
  rg_fc (rg_ok_iload_n (j := 1) (by decide +kernel) rfl) <|
  rg_fc (rg_ok_callV (idx := 68) rg_cok2 (by decide +kernel) (by decide +kernel) rg_wm_L_68 rg_wj_22 rg_ws_22 rg_wz_2 rg_wd_22 ⟨by decide +kernel, by decide +kernel, by decide +kernel, by decide +kernel⟩ (by decide +kernel) (by decide +kernel)) <|
  rg_fc (rg_ok_icmp_ge (off := 31) (by decide +kernel) (by decide +kernel)) <|
  rg_fc (rg_ok_aload_n (j := 0) (by decide +kernel) rfl) <|
  rg_fc (rg_ok_getr (idx := 43) rg_cok2 (by decide +kernel) rfl (by decide +kernel) rg_wf_L_43) <|
  rg_fc (rg_ok_aload_n (j := 0) (by decide +kernel) rfl) <|
  rg_fc (rg_ok_getr (idx := 40) rg_cok2 (by decide +kernel) rfl (by decide +kernel) rg_wf_L_40) <|
  rg_fc (rg_ok_aload_n (j := 0) (by decide +kernel) rfl) <|
  rg_fc (rg_ok_getr (idx := 11) rg_cok2 (by decide +kernel) rfl (by decide +kernel) rg_wf_L_11) <|
  rg_fc (rg_ok_aload_n (j := 0) (by decide +kernel) rfl) <|
  rg_fc (rg_ok_iload_n (j := 1) (by decide +kernel) rfl) <|
  fun _ h => absurd h List.not_mem_nil
def rg_c145_1 : List (Nat × rg_S) := [(43, rg_sil 2 1), (44, rg_scV 29 2 1 2), (47, rg_saq), (48, rg_scV 120 2 0 4), (51, rg_sin 2 1), (54, rg_sgo 20), (57, rg_sal 0 1), (58, rg_sgr 2 9), (61, rg_ra)]
theorem rg_o145_1 : ∀ q ∈ rg_c145_1, rg_Ok 145 q.1 q.2 :=
  rg_fc (rg_ok_iload_n (j := 2) (by decide +kernel) rfl) <|
  rg_fc (rg_ok_callV (idx := 72) rg_cok2 (by decide +kernel) (by decide +kernel) rg_wm_L_72 rg_wj_29 rg_ws_29 rg_wz_2 rg_wd_29 ⟨by decide +kernel, by decide +kernel, by decide +kernel, by decide +kernel⟩ (by decide +kernel) (by decide +kernel)) <|
  rg_fc (rg_ok_aaload (by decide +kernel)) <|
  rg_fc (rg_ok_callV (idx := 110) rg_cok4 (by decide +kernel) (by decide +kernel) rg_wm_L_110 rg_wj_120 rg_ws_120 rg_wz_4 rg_wd_120 ⟨by decide +kernel, by decide +kernel, by decide +kernel, by decide +kernel⟩ (by decide +kernel) (by decide +kernel)) <|
  rg_fc (rg_ok_iinc (n := 1) (by decide +kernel) (by decide +kernel) (by decide +kernel)) <|
  rg_fc (rg_ok_goto (off := (-34)) (by decide +kernel) (by decide +kernel)) <|
  rg_fc (rg_ok_aload_n (j := 0) (by decide +kernel) rfl) <|
  rg_fc (rg_ok_getr (idx := 40) rg_cok2 (by decide +kernel) rfl (by decide +kernel) rg_wf_L_40) <|
  rg_fc (rg_ok_areturn (by decide +kernel) rfl) <|
  fun _ h => absurd h List.not_mem_nil
def rg_kd145 : List (List (Nat × rg_S)) := [rg_c145_0, rg_c145_1]
theorem rg_o145 : ∀ pc f, rg_lk2 rg_kd145 pc = some f → rg_Ok 145 pc f := rg_lk2_ok (rg_fd rg_o145_0 (rg_fd rg_o145_1 (fun _ h => absurd h List.not_mem_nil)))
def rg_c152_0 : List (Nat × rg_S) := [(0, rg_sic 0 1), (1, rg_sis 1 1), (2, rg_sic 0 1), (3, rg_sis 2 1), (4, rg_sK [true, true, true, false, false] (rg_sil 2 1)), (5, rg_sal 0 1), (6, rg_sgi 2 10), (9, rg_skge 73), (12, rg_sic 0 1), (13, rg_sis 3 1), (14, rg_sK [true, true, true, true, false] (rg_sil 3 1)), (15, rg_sal 0 1), (16, rg_sil 2 1), (17, rg_scV 22 1 1 2), (20, rg_skge 67), (23, rg_sal 0 1), (24, rg_sil 2 1), (25, rg_sil 3 1), (26, rg_scV 29 2 1 2), (29, rg_sis 4 2), (31, rg_sil 1 1), (32, rg_sal 0 1), (33, rg_sgr 2 1), (36, rg_sil 4 2), (38, rg_saq)]
theorem rg_o152_0 : ∀ q ∈ rg_c152_0, rg_Ok 152 q.1 q.2 :=
  rg_fc (rg_ok_iconst (n := 0) (by decide +kernel) (by decide +kernel)) <|
  rg_fc (rg_ok_istore_n (j := 1) (by decide +kernel) rfl (by decide +kernel)) <|
  rg_fc (rg_ok_iconst (n := 0) (by decide +kernel) (by decide +kernel)) <|
  rg_fc (rg_ok_istore_n (j := 2) (by decide +kernel) rfl (by decide +kernel)) <|
  rg_fc (rg_okK _ (rg_ok_iload_n (j := 2) (by decide +kernel) rfl)) <|
  rg_fc (rg_ok_aload_n (j := 0) (by decide +kernel) rfl) <|
  rg_fc (rg_ok_geti (idx := 47) rg_cok2 (by decide +kernel) rfl (by decide +kernel) rg_wf_L_47) <|
  rg_fc (rg_ok_icmp_ge (off := 64) (by decide +kernel) (by decide +kernel)) <|
  rg_fc (rg_ok_iconst (n := 0) (by decide +kernel) (by decide +kernel)) <|
  rg_fc (rg_ok_istore_n (j := 3) (by decide +kernel) rfl (by decide +kernel)) <|
  rg_fc (rg_okK _ (rg_ok_iload_n (j := 3) (by decide +kernel) rfl)) <|
  rg_fc (rg_ok_aload_n (j := 0) (by decide +kernel) rfl) <|
  rg_fc (rg_ok_iload_n (j := 2) (by decide +kernel) rfl) <|
  rg_fc (rg_ok_callV (idx := 68) rg_cok2 (by decide +kernel) (by decide +kernel) rg_wm_L_68 rg_wj_22 rg_ws_22 rg_wz_2 rg_wd_22 ⟨by decide +kernel, by decide +kernel, by decide +kernel, by decide +kernel⟩ (by decide +kernel) (by decide +kernel)) <|
  rg_fc (rg_ok_icmp_ge (off := 47) (by decide +kernel) (by decide +kernel)) <|
  rg_fc (rg_ok_aload_n (j := 0) (by decide +kernel) rfl) <|
  rg_fc (rg_ok_iload_n (j := 2) (by decide +kernel) rfl) <|
  rg_fc (rg_ok_iload_n (j := 3) (by decide +kernel) rfl) <|
  rg_fc (rg_ok_callV (idx := 72) rg_cok2 (by decide +kernel) (by decide +kernel) rg_wm_L_72 rg_wj_29 rg_ws_29 rg_wz_2 rg_wd_29 ⟨by decide +kernel, by decide +kernel, by decide +kernel, by decide +kernel⟩ (by decide +kernel) (by decide +kernel)) <|
  rg_fc (rg_ok_istore (i := 4) (by decide +kernel) (by decide +kernel)) <|
  rg_fc (rg_ok_iload_n (j := 1) (by decide +kernel) rfl) <|
  rg_fc (rg_ok_aload_n (j := 0) (by decide +kernel) rfl) <|
  rg_fc (rg_ok_getr (idx := 11) rg_cok2 (by decide +kernel) rfl (by decide +kernel) rg_wf_L_11) <|
  rg_fc (rg_ok_iload (i := 4) (by decide +kernel)) <|
  rg_fc (rg_ok_aaload (by decide +kernel)) <|
  fun _ h => absurd h List.not_mem_nil
def rg_c152_1 : List (Nat × rg_S) := [(39, rg_scV 61 0 1 1), (42, rg_smx), (45, rg_sis 1 1), (46, rg_sil 1 1), (47, rg_sal 0 1), (48, rg_sgr 2 2), (51, rg_sil 4 2), (53, rg_saq), (54, rg_scV 61 0 1 1), (57, rg_smx), (60, rg_sis 1 1), (61, rg_sin 3 1), (64, rg_sgo 14), (67, rg_sin 2 1), (70, rg_sgo 4), (73, rg_sil 1 1), (74, rg_ri)]
theorem rg_o152_1 : ∀ q ∈ rg_c152_1, rg_Ok 152 q.1 q.2 :=
  rg_fc (rg_ok_callV (idx := 107) rg_cok1 (by decide +kernel) (by decide +kernel) rg_wm_L_107 rg_wj_61 rg_ws_61 rg_wz_1 rg_wd_61 ⟨by decide +kernel, by decide +kernel, by decide +kernel, by decide +kernel⟩ (by decide +kernel) (by decide +kernel)) <|
  rg_fc (rg_ok_mmax (idx := 113) (by decide +kernel) rg_wq_L_113 rg_wq1_max rg_wq2 rg_wq3_max (by decide +kernel) (by decide +kernel)) <|
  rg_fc (rg_ok_istore_n (j := 1) (by decide +kernel) rfl (by decide +kernel)) <|
  rg_fc (rg_ok_iload_n (j := 1) (by decide +kernel) rfl) <|
  rg_fc (rg_ok_aload_n (j := 0) (by decide +kernel) rfl) <|
  rg_fc (rg_ok_getr (idx := 17) rg_cok2 (by decide +kernel) rfl (by decide +kernel) rg_wf_L_17) <|
  rg_fc (rg_ok_iload (i := 4) (by decide +kernel)) <|
  rg_fc (rg_ok_aaload (by decide +kernel)) <|
  rg_fc (rg_ok_callV (idx := 107) rg_cok1 (by decide +kernel) (by decide +kernel) rg_wm_L_107 rg_wj_61 rg_ws_61 rg_wz_1 rg_wd_61 ⟨by decide +kernel, by decide +kernel, by decide +kernel, by decide +kernel⟩ (by decide +kernel) (by decide +kernel)) <|
  rg_fc (rg_ok_mmax (idx := 113) (by decide +kernel) rg_wq_L_113 rg_wq1_max rg_wq2 rg_wq3_max (by decide +kernel) (by decide +kernel)) <|
  rg_fc (rg_ok_istore_n (j := 1) (by decide +kernel) rfl (by decide +kernel)) <|
  rg_fc (rg_ok_iinc (n := 1) (by decide +kernel) (by decide +kernel) (by decide +kernel)) <|
  rg_fc (rg_ok_goto (off := (-50)) (by decide +kernel) (by decide +kernel)) <|
  rg_fc (rg_ok_iinc (n := 1) (by decide +kernel) (by decide +kernel) (by decide +kernel)) <|
  rg_fc (rg_ok_goto (off := (-66)) (by decide +kernel) (by decide +kernel)) <|
  rg_fc (rg_ok_iload_n (j := 1) (by decide +kernel) rfl) <|
  rg_fc (rg_ok_ireturn (by decide +kernel) rfl) <|
  fun _ h => absurd h List.not_mem_nil
def rg_kd152 : List (List (Nat × rg_S)) := [rg_c152_0, rg_c152_1]
theorem rg_o152 : ∀ pc f, rg_lk2 rg_kd152 pc = some f → rg_Ok 152 pc f := rg_lk2_ok (rg_fd rg_o152_0 (rg_fd rg_o152_1 (fun _ h => absurd h List.not_mem_nil)))

def rg_c156_0 : List (Nat × rg_S) := [(0, rg_snw 6), (3, rg_sdu), (4, rg_scI 8 0 0), (7, rg_sas 1 1), (8, rg_snw 7), (11, rg_sdu), (12, rg_scI 12 0 0), (15, rg_sas 2 1), (16, rg_sic 0 1), (17, rg_sis 3 1), (18, rg_sK [true, true, true, true] (rg_sil 3 1)), (19, rg_sal 0 1), (20, rg_slx), (21, rg_sic 4 1), (22, rg_s2i (fun x y => x - y)), (23, rg_skgt 429), (26, rg_sal 0 1), (27, rg_sil 3 1), (28, rg_sax), (29, rg_sic 15 2), (31, rg_s2i (fun x y => x &&& y)), (32, rg_stb (nI 0) [96, 129, 172, 195, 218, 241, 254, 297, 320, 353, 377, 400] 423), (96, rg_sal 1 1), (97, rg_sal 0 1), (98, rg_sil 3 1)]
theorem rg_o156_0 : ∀ q ∈ rg_c156_0, rg_Ok 156 q.1 q.2 :=
  rg_fc (rg_ok_new (idx := 7) rg_cok6 (by decide +kernel) (by decide +kernel) rg_wk_Z_7 rg_wi_6 rg_wz_6) <|
  rg_fc (rg_ok_dup (by decide +kernel)) <|
  rg_fc (rg_ok_callI (idx := 9) (by decide +kernel) (by decide +kernel) rg_wm_Z_9 rg_wj_8 rfl rfl rg_wz_6 rg_wd_8 ⟨by decide +kernel, by decide +kernel, by decide +kernel⟩ (by decide +kernel) (by decide +kernel)) <|
  rg_fc (rg_ok_astore_n (j := 1) (by decide +kernel) rfl (by decide +kernel)) <|
  rg_fc (rg_ok_new (idx := 10) rg_cok7 (by decide +kernel) (by decide +kernel) rg_wk_Z_10 rg_wi_7 rg_wz_7) <|
  rg_fc (rg_ok_dup (by decide +kernel)) <|
  rg_fc (rg_ok_callI (idx := 12) (by decide +kernel) (by decide +kernel) rg_wm_Z_12 rg_wj_12 rfl rfl rg_wz_7 rg_wd_12 ⟨by decide +kernel, by decide +kernel, by decide +kernel⟩ (by decide +kernel) (by decide +kernel)) <|
  rg_fc (rg_ok_astore_n (j := 2) (by decide +kernel) rfl (by decide +kernel)) <|
  rg_fc (rg_ok_iconst (n := 0) (by decide +kernel) (by decide +kernel)) <|
  rg_fc (rg_ok_istore_n (j := 3) (by decide +kernel) rfl (by decide +kernel)) <|
  rg_fc (rg_okK _ (rg_ok_iload_n (j := 3) (by decide +kernel) rfl)) <|
  rg_fc (rg_ok_aload_n (j := 0) (by decide +kernel) rfl) <|
  rg_fc (rg_ok_xlen (by decide +kernel)) <|
  rg_fc (rg_ok_iconst (n := 4) (by decide +kernel) (by decide +kernel)) <|
  rg_fc (rg_ok_isub (by decide +kernel)) <|
  rg_fc (rg_ok_icmp_gt (off := 406) (by decide +kernel) (by decide +kernel)) <|
  rg_fc (rg_ok_aload_n (j := 0) (by decide +kernel) rfl) <|
  rg_fc (rg_ok_iload_n (j := 3) (by decide +kernel) rfl) <|
  rg_fc (rg_ok_xaload (by decide +kernel)) <|
  rg_fc (rg_ok_bipush (n := 15) (by decide +kernel) (by decide +kernel)) <|
  rg_fc (rg_ok_iand (by decide +kernel)) <|
  rg_fc (rg_ok_tsw (dflt := 391) (lo := 0) (hi := 11) (offs := #[64, 97, 140, 163, 186, 209, 222, 265, 288, 321, 345, 368]) (len := 64) (by decide +kernel) rfl rfl (by decide +kernel) rfl (rg_swp _ _ _ (by decide +kernel)) (by decide +kernel)) <|
  rg_fc (rg_ok_aload_n (j := 1) (by decide +kernel) rfl) <|
  rg_fc (rg_ok_aload_n (j := 0) (by decide +kernel) rfl) <|
  rg_fc (rg_ok_iload_n (j := 3) (by decide +kernel) rfl) <|
  fun _ h => absurd h List.not_mem_nil
def rg_c156_1 : List (Nat × rg_S) := [(99, rg_sic 1 1), (100, rg_s2i (fun x y => x + y)), (101, rg_sax), (102, rg_sal 0 1), (103, rg_sil 3 1), (104, rg_sic 2 1), (105, rg_s2i (fun x y => x + y)), (106, rg_sax), (107, rg_scV 18 2 1 6), (110, rg_sal 2 1), (111, rg_sal 0 1), (112, rg_sil 3 1), (113, rg_sic 1 1), (114, rg_s2i (fun x y => x + y)), (115, rg_sax), (116, rg_sal 0 1), (117, rg_sil 3 1), (118, rg_sic 2 1), (119, rg_s2i (fun x y => x + y)), (120, rg_sax), (121, rg_scV 21 2 1 7), (124, rg_skeq 423), (127, rg_sic 0 1), (128, rg_rz), (129, rg_sal 1 1)]
theorem rg_o156_1 : ∀ q ∈ rg_c156_1, rg_Ok 156 q.1 q.2 :=
  rg_fc (rg_ok_iconst (n := 1) (by decide +kernel) (by decide +kernel)) <|
  rg_fc (rg_ok_iadd (by decide +kernel)) <|
  rg_fc (rg_ok_xaload (by decide +kernel)) <|
  rg_fc (rg_ok_aload_n (j := 0) (by decide +kernel) rfl) <|
  rg_fc (rg_ok_iload_n (j := 3) (by decide +kernel) rfl) <|
  rg_fc (rg_ok_iconst (n := 2) (by decide +kernel) (by decide +kernel)) <|
  rg_fc (rg_ok_iadd (by decide +kernel)) <|
  rg_fc (rg_ok_xaload (by decide +kernel)) <|
  rg_fc (rg_ok_callV (idx := 13) rg_cok6 (by decide +kernel) (by decide +kernel) rg_wm_Z_13 rg_wj_18 rg_ws_18 rg_wz_6 rg_wd_18 ⟨by decide +kernel, by decide +kernel, by decide +kernel, by decide +kernel⟩ (by decide +kernel) (by decide +kernel)) <|
  rg_fc (rg_ok_aload_n (j := 2) (by decide +kernel) rfl) <|
  rg_fc (rg_ok_aload_n (j := 0) (by decide +kernel) rfl) <|
  rg_fc (rg_ok_iload_n (j := 3) (by decide +kernel) rfl) <|
  rg_fc (rg_ok_iconst (n := 1) (by decide +kernel) (by decide +kernel)) <|
  rg_fc (rg_ok_iadd (by decide +kernel)) <|
  rg_fc (rg_ok_xaload (by decide +kernel)) <|
  rg_fc (rg_ok_aload_n (j := 0) (by decide +kernel) rfl) <|
  rg_fc (rg_ok_iload_n (j := 3) (by decide +kernel) rfl) <|
  rg_fc (rg_ok_iconst (n := 2) (by decide +kernel) (by decide +kernel)) <|
  rg_fc (rg_ok_iadd (by decide +kernel)) <|
  rg_fc (rg_ok_xaload (by decide +kernel)) <|
  rg_fc (rg_ok_callV (idx := 17) rg_cok7 (by decide +kernel) (by decide +kernel) rg_wm_Z_17 rg_wj_21 rg_ws_21 rg_wz_7 rg_wd_21 ⟨by decide +kernel, by decide +kernel, by decide +kernel, by decide +kernel⟩ (by decide +kernel) (by decide +kernel)) <|
  rg_fc (rg_ok_icmp_eq (off := 299) (by decide +kernel) (by decide +kernel)) <|
  rg_fc (rg_ok_iconst (n := 0) (by decide +kernel) (by decide +kernel)) <|
  rg_fc (rg_ok_zreturn (by decide +kernel) rfl) <|
  rg_fc (rg_ok_aload_n (j := 1) (by decide +kernel) rfl) <|
  fun _ h => absurd h List.not_mem_nil
def rg_c156_2 : List (Nat × rg_S) := [(130, rg_sal 0 1), (131, rg_sil 3 1), (132, rg_sic 1 1), (133, rg_s2i (fun x y => x + y)), (134, rg_sax), (135, rg_sal 0 1), (136, rg_sil 3 1), (137, rg_sic 2 1), (138, rg_s2i (fun x y => x + y)), (139, rg_sax), (140, rg_sal 0 1), (141, rg_sil 3 1), (142, rg_sic 3 1), (143, rg_s2i (fun x y => x + y)), (144, rg_sax), (145, rg_scV 24 3 1 6), (148, rg_sal 2 1), (149, rg_sal 0 1), (150, rg_sil 3 1), (151, rg_sic 1 1), (152, rg_s2i (fun x y => x + y)), (153, rg_sax), (154, rg_sal 0 1), (155, rg_sil 3 1), (156, rg_sic 2 1)]
theorem rg_o156_2 : ∀ q ∈ rg_c156_2, rg_Ok 156 q.1 q.2 :=
  rg_fc (rg_ok_aload_n (j := 0) (by decide +kernel) rfl) <|
  rg_fc (rg_ok_iload_n (j := 3) (by decide +kernel) rfl) <|
  rg_fc (rg_ok_iconst (n := 1) (by decide +kernel) (by decide +kernel)) <|
  rg_fc (rg_ok_iadd (by decide +kernel)) <|
  rg_fc (rg_ok_xaload (by decide +kernel)) <|
  rg_fc (rg_ok_aload_n (j := 0) (by decide +kernel) rfl) <|
  rg_fc (rg_ok_iload_n (j := 3) (by decide +kernel) rfl) <|
  rg_fc (rg_ok_iconst (n := 2) (by decide +kernel) (by decide +kernel)) <|
  rg_fc (rg_ok_iadd (by decide +kernel)) <|
  rg_fc (rg_ok_xaload (by decide +kernel)) <|
  rg_fc (rg_ok_aload_n (j := 0) (by decide +kernel) rfl) <|
  rg_fc (rg_ok_iload_n (j := 3) (by decide +kernel) rfl) <|
  rg_fc (rg_ok_iconst (n := 3) (by decide +kernel) (by decide +kernel)) <|
  rg_fc (rg_ok_iadd (by decide +kernel)) <|
  rg_fc (rg_ok_xaload (by decide +kernel)) <|
  rg_fc (rg_ok_callV (idx := 18) rg_cok6 (by decide +kernel) (by decide +kernel) rg_wm_Z_18 rg_wj_24 rg_ws_24 rg_wz_6 rg_wd_24 ⟨by decide +kernel, by decide +kernel, by decide +kernel, by decide +kernel⟩ (by decide +kernel) (by decide +kernel)) <|
  rg_fc (rg_ok_aload_n (j := 2) (by decide +kernel) rfl) <|
  rg_fc (rg_ok_aload_n (j := 0) (by decide +kernel) rfl) <|
  rg_fc (rg_ok_iload_n (j := 3) (by decide +kernel) rfl) <|
  rg_fc (rg_ok_iconst (n := 1) (by decide +kernel) (by decide +kernel)) <|
  rg_fc (rg_ok_iadd (by decide +kernel)) <|
  rg_fc (rg_ok_xaload (by decide +kernel)) <|
  rg_fc (rg_ok_aload_n (j := 0) (by decide +kernel) rfl) <|
  rg_fc (rg_ok_iload_n (j := 3) (by decide +kernel) rfl) <|
  rg_fc (rg_ok_iconst (n := 2) (by decide +kernel) (by decide +kernel)) <|
  fun _ h => absurd h List.not_mem_nil
def rg_c156_3 : List (Nat × rg_S) := [(157, rg_s2i (fun x y => x + y)), (158, rg_sax), (159, rg_sal 0 1), (160, rg_sil 3 1), (161, rg_sic 3 1), (162, rg_s2i (fun x y => x + y)), (163, rg_sax), (164, rg_scV 25 3 1 7), (167, rg_skeq 423), (170, rg_sic 0 1), (171, rg_rz), (172, rg_sal 1 1), (173, rg_sal 0 1), (174, rg_sil 3 1), (175, rg_sic 1 1), (176, rg_s2i (fun x y => x + y)), (177, rg_sax), (178, rg_scV 27 1 1 6), (181, rg_sal 2 1), (182, rg_sal 0 1), (183, rg_sil 3 1), (184, rg_sic 1 1), (185, rg_s2i (fun x y => x + y)), (186, rg_sax), (187, rg_scV 28 1 1 7)]
theorem rg_o156_3 : ∀ q ∈ rg_c156_3, rg_Ok 156 q.1 q.2 :=
  rg_fc (rg_ok_iadd (by decide +kernel)) <|
  rg_fc (rg_ok_xaload (by decide +kernel)) <|
  rg_fc (rg_ok_aload_n (j := 0) (by decide +kernel) rfl) <|
  rg_fc (rg_ok_iload_n (j := 3) (by decide +kernel) rfl) <|
  rg_fc (rg_ok_iconst (n := 3) (by decide +kernel) (by decide +kernel)) <|
  rg_fc (rg_ok_iadd (by decide +kernel)) <|
  rg_fc (rg_ok_xaload (by decide +kernel)) <|
  rg_fc (rg_ok_callV (idx := 22) rg_cok7 (by decide +kernel) (by decide +kernel) rg_wm_Z_22 rg_wj_25 rg_ws_25 rg_wz_7 rg_wd_25 ⟨by decide +kernel, by decide +kernel, by decide +kernel, by decide +kernel⟩ (by decide +kernel) (by decide +kernel)) <|
  rg_fc (rg_ok_icmp_eq (off := 256) (by decide +kernel) (by decide +kernel)) <|
  rg_fc (rg_ok_iconst (n := 0) (by decide +kernel) (by decide +kernel)) <|
  rg_fc (rg_ok_zreturn (by decide +kernel) rfl) <|
  rg_fc (rg_ok_aload_n (j := 1) (by decide +kernel) rfl) <|
  rg_fc (rg_ok_aload_n (j := 0) (by decide +kernel) rfl) <|
  rg_fc (rg_ok_iload_n (j := 3) (by decide +kernel) rfl) <|
  rg_fc (rg_ok_iconst (n := 1) (by decide +kernel) (by decide +kernel)) <|
  rg_fc (rg_ok_iadd (by decide +kernel)) <|
  rg_fc (rg_ok_xaload (by decide +kernel)) <|
  rg_fc (rg_ok_callV (idx := 23) rg_cok6 (by decide +kernel) (by decide +kernel) rg_wm_Z_23 rg_wj_27 rg_ws_27 rg_wz_6 rg_wd_27 ⟨by decide +kernel, by decide +kernel, by decide +kernel, by decide +kernel⟩ (by decide +kernel) (by decide +kernel)) <|
  rg_fc (rg_ok_aload_n (j := 2) (by decide +kernel) rfl) <|
  rg_fc (rg_ok_aload_n (j := 0) (by decide +kernel) rfl) <|
  rg_fc (rg_ok_iload_n (j := 3) (by decide +kernel) rfl) <|
  rg_fc (rg_ok_iconst (n := 1) (by decide +kernel) (by decide +kernel)) <|
  rg_fc (rg_ok_iadd (by decide +kernel)) <|
  rg_fc (rg_ok_xaload (by decide +kernel)) <|
  rg_fc (rg_ok_callV (idx := 27) rg_cok7 (by decide +kernel) (by decide +kernel) rg_wm_Z_27 rg_wj_28 rg_ws_28 rg_wz_7 rg_wd_28 ⟨by decide +kernel, by decide +kernel, by decide +kernel, by decide +kernel⟩ (by decide +kernel) (by decide +kernel)) <|
  fun _ h => absurd h List.not_mem_nil
def rg_c156_4 : List (Nat × rg_S) := [(190, rg_skeq 423), (193, rg_sic 0 1), (194, rg_rz), (195, rg_sal 1 1), (196, rg_sal 0 1), (197, rg_sil 3 1), (198, rg_sic 1 1), (199, rg_s2i (fun x y => x + y)), (200, rg_sax), (201, rg_scV 66 1 1 6), (204, rg_sal 2 1), (205, rg_sal 0 1), (206, rg_sil 3 1), (207, rg_sic 1 1), (208, rg_s2i (fun x y => x + y)), (209, rg_sax), (210, rg_scV 92 1 1 7), (213, rg_skeq 423), (216, rg_sic 0 1), (217, rg_rz), (218, rg_sal 1 1), (219, rg_sal 0 1), (220, rg_sil 3 1), (221, rg_sic 1 1), (222, rg_s2i (fun x y => x + y))]
theorem rg_o156_4 : ∀ q ∈ rg_c156_4, rg_Ok 156 q.1 q.2 :=
  rg_fc (rg_ok_icmp_eq (off := 233) (by decide +kernel) (by decide +kernel)) <|
  rg_fc (rg_ok_iconst (n := 0) (by decide +kernel) (by decide +kernel)) <|
  rg_fc (rg_ok_zreturn (by decide +kernel) rfl) <|
  rg_fc (rg_ok_aload_n (j := 1) (by decide +kernel) rfl) <|
  rg_fc (rg_ok_aload_n (j := 0) (by decide +kernel) rfl) <|
  rg_fc (rg_ok_iload_n (j := 3) (by decide +kernel) rfl) <|
  rg_fc (rg_ok_iconst (n := 1) (by decide +kernel) (by decide +kernel)) <|
  rg_fc (rg_ok_iadd (by decide +kernel)) <|
  rg_fc (rg_ok_xaload (by decide +kernel)) <|
  rg_fc (rg_ok_callV (idx := 28) rg_cok6 (by decide +kernel) (by decide +kernel) rg_wm_Z_28 rg_wj_66 rg_ws_66 rg_wz_6 rg_wd_66 ⟨by decide +kernel, by decide +kernel, by decide +kernel, by decide +kernel⟩ (by decide +kernel) (by decide +kernel)) <|
  rg_fc (rg_ok_aload_n (j := 2) (by decide +kernel) rfl) <|
  rg_fc (rg_ok_aload_n (j := 0) (by decide +kernel) rfl) <|
  rg_fc (rg_ok_iload_n (j := 3) (by decide +kernel) rfl) <|
  rg_fc (rg_ok_iconst (n := 1) (by decide +kernel) (by decide +kernel)) <|
  rg_fc (rg_ok_iadd (by decide +kernel)) <|
  rg_fc (rg_ok_xaload (by decide +kernel)) <|
  rg_fc (rg_ok_callV (idx := 31) rg_cok7 (by decide +kernel) (by decide +kernel) rg_wm_Z_31 rg_wj_92 rg_ws_92 rg_wz_7 rg_wd_92 ⟨by decide +kernel, by decide +kernel, by decide +kernel, by decide +kernel⟩ (by decide +kernel) (by decide +kernel)) <|
  rg_fc (rg_ok_icmp_eq (off := 210) (by decide +kernel) (by decide +kernel)) <|
  rg_fc (rg_ok_iconst (n := 0) (by decide +kernel) (by decide +kernel)) <|
  rg_fc (rg_ok_zreturn (by decide +kernel) rfl) <|
  rg_fc (rg_ok_aload_n (j := 1) (by decide +kernel) rfl) <|
  rg_fc (rg_ok_aload_n (j := 0) (by decide +kernel) rfl) <|
  rg_fc (rg_ok_iload_n (j := 3) (by decide +kernel) rfl) <|
  rg_fc (rg_ok_iconst (n := 1) (by decide +kernel) (by decide +kernel)) <|
  rg_fc (rg_ok_iadd (by decide +kernel)) <|
  fun _ h => absurd h List.not_mem_nil
def rg_c156_5 : List (Nat × rg_S) := [(223, rg_sax), (224, rg_scV 93 1 1 6), (227, rg_sal 2 1), (228, rg_sal 0 1), (229, rg_sil 3 1), (230, rg_sic 1 1), (231, rg_s2i (fun x y => x + y)), (232, rg_sax), (233, rg_scV 94 1 1 7), (236, rg_skeq 423), (239, rg_sic 0 1), (240, rg_rz), (241, rg_sal 1 1), (242, rg_scV 104 0 1 6), (245, rg_sal 2 1), (246, rg_scV 118 0 1 7), (249, rg_skeq 423), (252, rg_sic 0 1), (253, rg_rz), (254, rg_sal 1 1), (255, rg_sal 0 1), (256, rg_sil 3 1), (257, rg_sic 1 1), (258, rg_s2i (fun x y => x + y)), (259, rg_sax)]
theorem rg_o156_5 : ∀ q ∈ rg_c156_5, rg_Ok 156 q.1 q.2 :=
  rg_fc (rg_ok_xaload (by decide +kernel)) <|
  rg_fc (rg_ok_callV (idx := 32) rg_cok6 (by decide +kernel) (by decide +kernel) rg_wm_Z_32 rg_wj_93 rg_ws_93 rg_wz_6 rg_wd_93 ⟨by decide +kernel, by decide +kernel, by decide +kernel, by decide +kernel⟩ (by decide +kernel) (by decide +kernel)) <|
  rg_fc (rg_ok_aload_n (j := 2) (by decide +kernel) rfl) <|
  rg_fc (rg_ok_aload_n (j := 0) (by decide +kernel) rfl) <|
  rg_fc (rg_ok_iload_n (j := 3) (by decide +kernel) rfl) <|
  rg_fc (rg_ok_iconst (n := 1) (by decide +kernel) (by decide +kernel)) <|
  rg_fc (rg_ok_iadd (by decide +kernel)) <|
  rg_fc (rg_ok_xaload (by decide +kernel)) <|
  rg_fc (rg_ok_callV (idx := 35) rg_cok7 (by decide +kernel) (by decide +kernel) rg_wm_Z_35 rg_wj_94 rg_ws_94 rg_wz_7 rg_wd_94 ⟨by decide +kernel, by decide +kernel, by decide +kernel, by decide +kernel⟩ (by decide +kernel) (by decide +kernel)) <|
  rg_fc (rg_ok_icmp_eq (off := 187) (by decide +kernel) (by decide +kernel)) <|
  rg_fc (rg_ok_iconst (n := 0) (by decide +kernel) (by decide +kernel)) <|
  rg_fc (rg_ok_zreturn (by decide +kernel) rfl) <|
  rg_fc (rg_ok_aload_n (j := 1) (by decide +kernel) rfl) <|
  rg_fc (rg_ok_callV (idx := 36) rg_cok6 (by decide +kernel) (by decide +kernel) rg_wm_Z_36 rg_wj_104 rg_ws_104 rg_wz_6 rg_wd_104 ⟨by decide +kernel, by decide +kernel, by decide +kernel, by decide +kernel⟩ (by decide +kernel) (by decide +kernel)) <|
  rg_fc (rg_ok_aload_n (j := 2) (by decide +kernel) rfl) <|
  rg_fc (rg_ok_callV (idx := 40) rg_cok7 (by decide +kernel) (by decide +kernel) rg_wm_Z_40 rg_wj_118 rg_ws_118 rg_wz_7 rg_wd_118 ⟨by decide +kernel, by decide +kernel, by decide +kernel, by decide +kernel⟩ (by decide +kernel) (by decide +kernel)) <|
  rg_fc (rg_ok_icmp_eq (off := 174) (by decide +kernel) (by decide +kernel)) <|
  rg_fc (rg_ok_iconst (n := 0) (by decide +kernel) (by decide +kernel)) <|
  rg_fc (rg_ok_zreturn (by decide +kernel) rfl) <|
  rg_fc (rg_ok_aload_n (j := 1) (by decide +kernel) rfl) <|
  rg_fc (rg_ok_aload_n (j := 0) (by decide +kernel) rfl) <|
  rg_fc (rg_ok_iload_n (j := 3) (by decide +kernel) rfl) <|
  rg_fc (rg_ok_iconst (n := 1) (by decide +kernel) (by decide +kernel)) <|
  rg_fc (rg_ok_iadd (by decide +kernel)) <|
  rg_fc (rg_ok_xaload (by decide +kernel)) <|
  fun _ h => absurd h List.not_mem_nil
def rg_c156_6 : List (Nat × rg_S) := [(260, rg_sal 0 1), (261, rg_sil 3 1), (262, rg_sic 2 1), (263, rg_s2i (fun x y => x + y)), (264, rg_sax), (265, rg_sal 0 1), (266, rg_sil 3 1), (267, rg_sic 3 1), (268, rg_s2i (fun x y => x + y)), (269, rg_sax), (270, rg_scV 126 3 1 6), (273, rg_sal 2 1), (274, rg_sal 0 1), (275, rg_sil 3 1), (276, rg_sic 1 1), (277, rg_s2i (fun x y => x + y)), (278, rg_sax), (279, rg_sal 0 1), (280, rg_sil 3 1), (281, rg_sic 2 1), (282, rg_s2i (fun x y => x + y)), (283, rg_sax), (284, rg_sal 0 1), (285, rg_sil 3 1), (286, rg_sic 3 1)]
theorem rg_o156_6 : ∀ q ∈ rg_c156_6, rg_Ok 156 q.1 q.2 :=
  rg_fc (rg_ok_aload_n (j := 0) (by decide +kernel) rfl) <|
  rg_fc (rg_ok_iload_n (j := 3) (by decide +kernel) rfl) <|
  rg_fc (rg_ok_iconst (n := 2) (by decide +kernel) (by decide +kernel)) <|
  rg_fc (rg_ok_iadd (by decide +kernel)) <|
  rg_fc (rg_ok_xaload (by decide +kernel)) <|
  rg_fc (rg_ok_aload_n (j := 0) (by decide +kernel) rfl) <|
  rg_fc (rg_ok_iload_n (j := 3) (by decide +kernel) rfl) <|
  rg_fc (rg_ok_iconst (n := 3) (by decide +kernel) (by decide +kernel)) <|
  rg_fc (rg_ok_iadd (by decide +kernel)) <|
  rg_fc (rg_ok_xaload (by decide +kernel)) <|
  rg_fc (rg_ok_callV (idx := 41) rg_cok6 (by decide +kernel) (by decide +kernel) rg_wm_Z_41 rg_wj_126 rg_ws_126 rg_wz_6 rg_wd_126 ⟨by decide +kernel, by decide +kernel, by decide +kernel, by decide +kernel⟩ (by decide +kernel) (by decide +kernel)) <|
  rg_fc (rg_ok_aload_n (j := 2) (by decide +kernel) rfl) <|
  rg_fc (rg_ok_aload_n (j := 0) (by decide +kernel) rfl) <|
  rg_fc (rg_ok_iload_n (j := 3) (by decide +kernel) rfl) <|
  rg_fc (rg_ok_iconst (n := 1) (by decide +kernel) (by decide +kernel)) <|
  rg_fc (rg_ok_iadd (by decide +kernel)) <|
  rg_fc (rg_ok_xaload (by decide +kernel)) <|
  rg_fc (rg_ok_aload_n (j := 0) (by decide +kernel) rfl) <|
  rg_fc (rg_ok_iload_n (j := 3) (by decide +kernel) rfl) <|
  rg_fc (rg_ok_iconst (n := 2) (by decide +kernel) (by decide +kernel)) <|
  rg_fc (rg_ok_iadd (by decide +kernel)) <|
  rg_fc (rg_ok_xaload (by decide +kernel)) <|
  rg_fc (rg_ok_aload_n (j := 0) (by decide +kernel) rfl) <|
  rg_fc (rg_ok_iload_n (j := 3) (by decide +kernel) rfl) <|
  rg_fc (rg_ok_iconst (n := 3) (by decide +kernel) (by decide +kernel)) <|
  fun _ h => absurd h List.not_mem_nil
def rg_c156_7 : List (Nat × rg_S) := [(287, rg_s2i (fun x y => x + y)), (288, rg_sax), (289, rg_scV 134 3 1 7), (292, rg_skeq 423), (295, rg_sic 0 1), (296, rg_rz), (297, rg_sal 1 1), (298, rg_sal 0 1), (299, rg_sil 3 1), (300, rg_sic 1 1), (301, rg_s2i (fun x y => x + y)), (302, rg_sax), (303, rg_scV 135 1 1 6), (306, rg_sal 2 1), (307, rg_sal 0 1), (308, rg_sil 3 1), (309, rg_sic 1 1), (310, rg_s2i (fun x y => x + y)), (311, rg_sax), (312, rg_scV 136 1 1 7), (315, rg_skeq 423), (318, rg_sic 0 1), (319, rg_rz), (320, rg_sal 1 1), (321, rg_sal 0 1)]
theorem rg_o156_7 : ∀ q ∈ rg_c156_7, rg_Ok 156 q.1 q.2 :=
  rg_fc (rg_ok_iadd (by decide +kernel)) <|
  rg_fc (rg_ok_xaload (by decide +kernel)) <|
  rg_fc (rg_ok_callV (idx := 44) rg_cok7 (by decide +kernel) (by decide +kernel) rg_wm_Z_44 rg_wj_134 rg_ws_134 rg_wz_7 rg_wd_134 ⟨by decide +kernel, by decide +kernel, by decide +kernel, by decide +kernel⟩ (by decide +kernel) (by decide +kernel)) <|
  rg_fc (rg_ok_icmp_eq (off := 131) (by decide +kernel) (by decide +kernel)) <|
  rg_fc (rg_ok_iconst (n := 0) (by decide +kernel) (by decide +kernel)) <|
  rg_fc (rg_ok_zreturn (by decide +kernel) rfl) <|
  rg_fc (rg_ok_aload_n (j := 1) (by decide +kernel) rfl) <|
  rg_fc (rg_ok_aload_n (j := 0) (by decide +kernel) rfl) <|
  rg_fc (rg_ok_iload_n (j := 3) (by decide +kernel) rfl) <|
  rg_fc (rg_ok_iconst (n := 1) (by decide +kernel) (by decide +kernel)) <|
  rg_fc (rg_ok_iadd (by decide +kernel)) <|
  rg_fc (rg_ok_xaload (by decide +kernel)) <|
  rg_fc (rg_ok_callV (idx := 45) rg_cok6 (by decide +kernel) (by decide +kernel) rg_wm_Z_45 rg_wj_135 rg_ws_135 rg_wz_6 rg_wd_135 ⟨by decide +kernel, by decide +kernel, by decide +kernel, by decide +kernel⟩ (by decide +kernel) (by decide +kernel)) <|
  rg_fc (rg_ok_aload_n (j := 2) (by decide +kernel) rfl) <|
  rg_fc (rg_ok_aload_n (j := 0) (by decide +kernel) rfl) <|
  rg_fc (rg_ok_iload_n (j := 3) (by decide +kernel) rfl) <|
  rg_fc (rg_ok_iconst (n := 1) (by decide +kernel) (by decide +kernel)) <|
  rg_fc (rg_ok_iadd (by decide +kernel)) <|
  rg_fc (rg_ok_xaload (by decide +kernel)) <|
  rg_fc (rg_ok_callV (idx := 49) rg_cok7 (by decide +kernel) (by decide +kernel) rg_wm_Z_49 rg_wj_136 rg_ws_136 rg_wz_7 rg_wd_136 ⟨by decide +kernel, by decide +kernel, by decide +kernel, by decide +kernel⟩ (by decide +kernel) (by decide +kernel)) <|
  rg_fc (rg_ok_icmp_eq (off := 108) (by decide +kernel) (by decide +kernel)) <|
  rg_fc (rg_ok_iconst (n := 0) (by decide +kernel) (by decide +kernel)) <|
  rg_fc (rg_ok_zreturn (by decide +kernel) rfl) <|
  rg_fc (rg_ok_aload_n (j := 1) (by decide +kernel) rfl) <|
  rg_fc (rg_ok_aload_n (j := 0) (by decide +kernel) rfl) <|
  fun _ h => absurd h List.not_mem_nil
def rg_c156_8 : List (Nat × rg_S) := [(322, rg_sil 3 1), (323, rg_sic 1 1), (324, rg_s2i (fun x y => x + y)), (325, rg_sax), (326, rg_sal 0 1), (327, rg_sil 3 1), (328, rg_sic 2 1), (329, rg_s2i (fun x y => x + y)), (330, rg_sax), (331, rg_scV 138 2 1 6), (334, rg_sal 2 1), (335, rg_sal 0 1), (336, rg_sil 3 1), (337, rg_sic 1 1), (338, rg_s2i (fun x y => x + y)), (339, rg_sax), (340, rg_sal 0 1), (341, rg_sil 3 1), (342, rg_sic 2 1), (343, rg_s2i (fun x y => x + y)), (344, rg_sax), (345, rg_scV 139 2 1 7), (348, rg_skeq 423), (351, rg_sic 0 1), (352, rg_rz)]
theorem rg_o156_8 : ∀ q ∈ rg_c156_8, rg_Ok 156 q.1 q.2 :=
  rg_fc (rg_ok_iload_n (j := 3) (by decide +kernel) rfl) <|
  rg_fc (rg_ok_iconst (n := 1) (by decide +kernel) (by decide +kernel)) <|
  rg_fc (rg_ok_iadd (by decide +kernel)) <|
  rg_fc (rg_ok_xaload (by decide +kernel)) <|
  rg_fc (rg_ok_aload_n (j := 0) (by decide +kernel) rfl) <|
  rg_fc (rg_ok_iload_n (j := 3) (by decide +kernel) rfl) <|
  rg_fc (rg_ok_iconst (n := 2) (by decide +kernel) (by decide +kernel)) <|
  rg_fc (rg_ok_iadd (by decide +kernel)) <|
  rg_fc (rg_ok_xaload (by decide +kernel)) <|
  rg_fc (rg_ok_callV (idx := 50) rg_cok6 (by decide +kernel) (by decide +kernel) rg_wm_Z_50 rg_wj_138 rg_ws_138 rg_wz_6 rg_wd_138 ⟨by decide +kernel, by decide +kernel, by decide +kernel, by decide +kernel⟩ (by decide +kernel) (by decide +kernel)) <|
  rg_fc (rg_ok_aload_n (j := 2) (by decide +kernel) rfl) <|
  rg_fc (rg_ok_aload_n (j := 0) (by decide +kernel) rfl) <|
  rg_fc (rg_ok_iload_n (j := 3) (by decide +kernel) rfl) <|
  rg_fc (rg_ok_iconst (n := 1) (by decide +kernel) (by decide +kernel)) <|
  rg_fc (rg_ok_iadd (by decide +kernel)) <|
  rg_fc (rg_ok_xaload (by decide +kernel)) <|
  rg_fc (rg_ok_aload_n (j := 0) (by decide +kernel) rfl) <|
  rg_fc (rg_ok_iload_n (j := 3) (by decide +kernel) rfl) <|
  rg_fc (rg_ok_iconst (n := 2) (by decide +kernel) (by decide +kernel)) <|
  rg_fc (rg_ok_iadd (by decide +kernel)) <|
  rg_fc (rg_ok_xaload (by decide +kernel)) <|
  rg_fc (rg_ok_callV (idx := 54) rg_cok7 (by decide +kernel) (by decide +kernel) rg_wm_Z_54 rg_wj_139 rg_ws_139 rg_wz_7 rg_wd_139 ⟨by decide +kernel, by decide +kernel, by decide +kernel, by decide +kernel⟩ (by decide +kernel) (by decide +kernel)) <|
  rg_fc (rg_ok_icmp_eq (off := 75) (by decide +kernel) (by decide +kernel)) <|
  rg_fc (rg_ok_iconst (n := 0) (by decide +kernel) (by decide +kernel)) <|
  rg_fc (rg_ok_zreturn (by decide +kernel) rfl) <|
  fun _ h => absurd h List.not_mem_nil
def rg_c156_9 : List (Nat × rg_S) := [(353, rg_sal 1 1), (354, rg_sal 0 1), (355, rg_sil 3 1), (356, rg_sic 1 1), (357, rg_s2i (fun x y => x + y)), (358, rg_sax), (359, rg_scV 141 1 2 6), (362, rg_sal 2 1), (363, rg_sal 0 1), (364, rg_sil 3 1), (365, rg_sic 1 1), (366, rg_s2i (fun x y => x + y)), (367, rg_sax), (368, rg_scV 142 1 2 7), (371, rg_scm), (372, rg_sjeq 423), (375, rg_sic 0 1), (376, rg_rz), (377, rg_sal 1 1), (378, rg_sal 0 1), (379, rg_sil 3 1), (380, rg_sic 1 1), (381, rg_s2i (fun x y => x + y)), (382, rg_sax), (383, rg_scV 148 1 1 6)]
theorem rg_o156_9 : ∀ q ∈ rg_c156_9, rg_Ok 156 q.1 q.2 :=
  rg_fc (rg_ok_aload_n (j := 1) (by decide +kernel) rfl) <|
  rg_fc (rg_ok_aload_n (j := 0) (by decide +kernel) rfl) <|
  rg_fc (rg_ok_iload_n (j := 3) (by decide +kernel) rfl) <|
  rg_fc (rg_ok_iconst (n := 1) (by decide +kernel) (by decide +kernel)) <|
  rg_fc (rg_ok_iadd (by decide +kernel)) <|
  rg_fc (rg_ok_xaload (by decide +kernel)) <|
  rg_fc (rg_ok_callV (idx := 55) rg_cok6 (by decide +kernel) (by decide +kernel) rg_wm_Z_55 rg_wj_141 rg_ws_141 rg_wz_6 rg_wd_141 ⟨by decide +kernel, by decide +kernel, by decide +kernel, by decide +kernel⟩ (by decide +kernel) (by decide +kernel)) <|
  rg_fc (rg_ok_aload_n (j := 2) (by decide +kernel) rfl) <|
  rg_fc (rg_ok_aload_n (j := 0) (by decide +kernel) rfl) <|
  rg_fc (rg_ok_iload_n (j := 3) (by decide +kernel) rfl) <|
  rg_fc (rg_ok_iconst (n := 1) (by decide +kernel) (by decide +kernel)) <|
  rg_fc (rg_ok_iadd (by decide +kernel)) <|
  rg_fc (rg_ok_xaload (by decide +kernel)) <|
  rg_fc (rg_ok_callV (idx := 59) rg_cok7 (by decide +kernel) (by decide +kernel) rg_wm_Z_59 rg_wj_142 rg_ws_142 rg_wz_7 rg_wd_142 ⟨by decide +kernel, by decide +kernel, by decide +kernel, by decide +kernel⟩ (by decide +kernel) (by decide +kernel)) <|
  rg_fc (rg_ok_lcmp (by decide +kernel)) <|
  rg_fc (rg_ok_if_eq (off := 51) (by decide +kernel) (by decide +kernel)) <|
  rg_fc (rg_ok_iconst (n := 0) (by decide +kernel) (by decide +kernel)) <|
  rg_fc (rg_ok_zreturn (by decide +kernel) rfl) <|
  rg_fc (rg_ok_aload_n (j := 1) (by decide +kernel) rfl) <|
  rg_fc (rg_ok_aload_n (j := 0) (by decide +kernel) rfl) <|
  rg_fc (rg_ok_iload_n (j := 3) (by decide +kernel) rfl) <|
  rg_fc (rg_ok_iconst (n := 1) (by decide +kernel) (by decide +kernel)) <|
  rg_fc (rg_ok_iadd (by decide +kernel)) <|
  rg_fc (rg_ok_xaload (by decide +kernel)) <|
  rg_fc (rg_ok_callV (idx := 60) rg_cok6 (by decide +kernel) (by decide +kernel) rg_wm_Z_60 rg_wj_148 rg_ws_148 rg_wz_6 rg_wd_148 ⟨by decide +kernel, by decide +kernel, by decide +kernel, by decide +kernel⟩ (by decide +kernel) (by decide +kernel)) <|
  fun _ h => absurd h List.not_mem_nil
def rg_c156_10 : List (Nat × rg_S) := [(386, rg_sal 2 1), (387, rg_sal 0 1), (388, rg_sil 3 1), (389, rg_sic 1 1), (390, rg_s2i (fun x y => x + y)), (391, rg_sax), (392, rg_scV 151 1 1 7), (395, rg_skeq 423), (398, rg_sic 0 1), (399, rg_rz), (400, rg_sal 1 1), (401, rg_sal 0 1), (402, rg_sil 3 1), (403, rg_sic 1 1), (404, rg_s2i (fun x y => x + y)), (405, rg_sax), (406, rg_scV 153 1 1 6), (409, rg_sal 2 1), (410, rg_sal 0 1), (411, rg_sil 3 1), (412, rg_sic 1 1), (413, rg_s2i (fun x y => x + y)), (414, rg_sax), (415, rg_scV 155 1 1 7), (418, rg_skeq 423)]
theorem rg_o156_10 : ∀ q ∈ rg_c156_10, rg_Ok 156 q.1 q.2 :=
  rg_fc (rg_ok_aload_n (j := 2) (by decide +kernel) rfl) <|
  rg_fc (rg_ok_aload_n (j := 0) (by decide +kernel) rfl) <|
  rg_fc (rg_ok_iload_n (j := 3) (by decide +kernel) rfl) <|
  rg_fc (rg_ok_iconst (n := 1) (by decide +kernel) (by decide +kernel)) <|
  rg_fc (rg_ok_iadd (by decide +kernel)) <|
  rg_fc (rg_ok_xaload (by decide +kernel)) <|
  rg_fc (rg_ok_callV (idx := 63) rg_cok7 (by decide +kernel) (by decide +kernel) rg_wm_Z_63 rg_wj_151 rg_ws_151 rg_wz_7 rg_wd_151 ⟨by decide +kernel, by decide +kernel, by decide +kernel, by decide +kernel⟩ (by decide +kernel) (by decide +kernel)) <|
  rg_fc (rg_ok_icmp_eq (off := 28) (by decide +kernel) (by decide +kernel)) <|
  rg_fc (rg_ok_iconst (n := 0) (by decide +kernel) (by decide +kernel)) <|
  rg_fc (rg_ok_zreturn (by decide +kernel) rfl) <|
  rg_fc (rg_ok_aload_n (j := 1) (by decide +kernel) rfl) <|
  rg_fc (rg_ok_aload_n (j := 0) (by decide +kernel) rfl) <|
  rg_fc (rg_ok_iload_n (j := 3) (by decide +kernel) rfl) <|
  rg_fc (rg_ok_iconst (n := 1) (by decide +kernel) (by decide +kernel)) <|
  rg_fc (rg_ok_iadd (by decide +kernel)) <|
  rg_fc (rg_ok_xaload (by decide +kernel)) <|
  rg_fc (rg_ok_callV (idx := 64) rg_cok6 (by decide +kernel) (by decide +kernel) rg_wm_Z_64 rg_wj_153 rg_ws_153 rg_wz_6 rg_wd_153 ⟨by decide +kernel, by decide +kernel, by decide +kernel, by decide +kernel⟩ (by decide +kernel) (by decide +kernel)) <|
  rg_fc (rg_ok_aload_n (j := 2) (by decide +kernel) rfl) <|
  rg_fc (rg_ok_aload_n (j := 0) (by decide +kernel) rfl) <|
  rg_fc (rg_ok_iload_n (j := 3) (by decide +kernel) rfl) <|
  rg_fc (rg_ok_iconst (n := 1) (by decide +kernel) (by decide +kernel)) <|
  rg_fc (rg_ok_iadd (by decide +kernel)) <|
  rg_fc (rg_ok_xaload (by decide +kernel)) <|
  rg_fc (rg_ok_callV (idx := 67) rg_cok7 (by decide +kernel) (by decide +kernel) rg_wm_Z_67 rg_wj_155 rg_ws_155 rg_wz_7 rg_wd_155 ⟨by decide +kernel, by decide +kernel, by decide +kernel, by decide +kernel⟩ (by decide +kernel) (by decide +kernel)) <|
  rg_fc (rg_ok_icmp_eq (off := 5) (by decide +kernel) (by decide +kernel)) <|
  fun _ h => absurd h List.not_mem_nil
def rg_c156_11 : List (Nat × rg_S) := [(421, rg_sic 0 1), (422, rg_rz), (423, rg_sK [true, true, true, true] (rg_sin 3 4)), (426, rg_sgo 18), (429, rg_sic 1 1), (430, rg_rz)]
theorem rg_o156_11 : ∀ q ∈ rg_c156_11, rg_Ok 156 q.1 q.2 :=
  rg_fc (rg_ok_iconst (n := 0) (by decide +kernel) (by decide +kernel)) <|
  rg_fc (rg_ok_zreturn (by decide +kernel) rfl) <|
  rg_fc (rg_okK _ (rg_ok_iinc (n := 4) (by decide +kernel) (by decide +kernel) (by decide +kernel))) <|
  rg_fc (rg_ok_goto (off := (-408)) (by decide +kernel) (by decide +kernel)) <|
  rg_fc (rg_ok_iconst (n := 1) (by decide +kernel) (by decide +kernel)) <|
  rg_fc (rg_ok_zreturn (by decide +kernel) rfl) <|
  fun _ h => absurd h List.not_mem_nil
def rg_kd156 : List (List (Nat × rg_S)) := [rg_c156_0, rg_c156_1, rg_c156_2, rg_c156_3, rg_c156_4, rg_c156_5, rg_c156_6, rg_c156_7, rg_c156_8, rg_c156_9, rg_c156_10, rg_c156_11]
theorem rg_o156 : ∀ pc f, rg_lk2 rg_kd156 pc = some f → rg_Ok 156 pc f := rg_lk2_ok (rg_fd rg_o156_0 (rg_fd rg_o156_1 (rg_fd rg_o156_2 (rg_fd rg_o156_3 (rg_fd rg_o156_4 (rg_fd rg_o156_5 (rg_fd rg_o156_6 (rg_fd rg_o156_7 (rg_fd rg_o156_8 (rg_fd rg_o156_9 (rg_fd rg_o156_10 (rg_fd rg_o156_11 (fun _ h => absurd h List.not_mem_nil)))))))))))))

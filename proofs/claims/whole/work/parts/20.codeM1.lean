def rg_c81_0 : List (Nat × rg_S) := [(0, rg_sal 0 1), (1, rg_sil 1 1), (2, rg_scV 67 1 1 7), (5, rg_sis 3 1), (6, rg_sic 0 1), (7, rg_sis 4 2), (9, rg_sic 0 1), (10, rg_sis 5 2), (12, rg_sK [true, true, true, true, true, true, false, false] (rg_sil 5 2)), (14, rg_sil 3 1), (15, rg_skge 53), (18, rg_sil 4 2), (20, rg_sjne 40), (23, rg_sal 0 1), (24, rg_sgr 7 2), (27, rg_sil 2 1), (28, rg_sal 0 1), (29, rg_sil 1 1), (30, rg_sil 5 2), (32, rg_scV 68 2 1 7), (35, rg_s2i (fun x y => x + y)), (36, rg_sai), (37, rg_sjle 44), (40, rg_sK [true, true, true, true, false, true, false, false] (rg_sic 1 1)), (41, rg_sgo 45)]
theorem rg_o81_0 : ∀ q ∈ rg_c81_0, rg_Ok 81 q.1 q.2 :=
  rg_fc (rg_ok_aload_n (j := 0) (by decide +kernel) rfl) <|
  rg_fc (rg_ok_iload_n (j := 1) (by decide +kernel) rfl) <|
  rg_fc (rg_ok_callV (idx := 107) rg_cok7 (by decide +kernel) (by decide +kernel) rg_wm_M_107 rg_wj_67 rg_ws_67 rg_wz_7 rg_wd_67 ⟨by decide +kernel, by decide +kernel, by decide +kernel, by decide +kernel⟩ (by decide +kernel) (by decide +kernel)) <|
  rg_fc (rg_ok_istore_n (j := 3) (by decide +kernel) rfl (by decide +kernel)) <|
  rg_fc (rg_ok_iconst (n := 0) (by decide +kernel) (by decide +kernel)) <|
  rg_fc (rg_ok_istore (i := 4) (by decide +kernel) (by decide +kernel)) <|
  rg_fc (rg_ok_iconst (n := 0) (by decide +kernel) (by decide +kernel)) <|
  rg_fc (rg_ok_istore (i := 5) (by decide +kernel) (by decide +kernel)) <|
  rg_fc (rg_okK _ (rg_ok_iload (i := 5) (by decide +kernel))) <|
  rg_fc (rg_ok_iload_n (j := 3) (by decide +kernel) rfl) <|
  rg_fc (rg_ok_icmp_ge (off := 38) (by decide +kernel) (by decide +kernel)) <|
  rg_fc (rg_ok_iload (i := 4) (by decide +kernel)) <|
  rg_fc (rg_ok_if_ne (off := 20) (by decide +kernel) (by decide +kernel)) <|
  rg_fc (rg_ok_aload_n (j := 0) (by decide +kernel) rfl) <|
  rg_fc (rg_ok_getr (idx := 17) rg_cok7 (by decide +kernel) rfl (by decide +kernel) rg_wf_M_17) <|
  rg_fc (rg_ok_iload_n (j := 2) (by decide +kernel) rfl) <|
  rg_fc (rg_ok_aload_n (j := 0) (by decide +kernel) rfl) <|
  rg_fc (rg_ok_iload_n (j := 1) (by decide +kernel) rfl) <|
  rg_fc (rg_ok_iload (i := 5) (by decide +kernel)) <|
  rg_fc (rg_ok_callV (idx := 110) rg_cok7 (by decide +kernel) (by decide +kernel) rg_wm_M_110 rg_wj_68 rg_ws_68 rg_wz_7 rg_wd_68 ⟨by decide +kernel, by decide +kernel, by decide +kernel, by decide +kernel⟩ (by decide +kernel) (by decide +kernel)) <|
  rg_fc (rg_ok_iadd (by decide +kernel)) <|
  rg_fc (rg_ok_iaload (by decide +kernel)) <|
  rg_fc (rg_ok_if_le (off := 7) (by decide +kernel) (by decide +kernel)) <|
  rg_fc (rg_okK _ (rg_ok_iconst (n := 1) (by decide +kernel) (by decide +kernel))) <|
  rg_fc (rg_ok_goto (off := 4) (by decide +kernel) (by decide +kernel)) <|
  fun _ h => absurd h List.not_mem_nil
def rg_c81_1 : List (Nat × rg_S) := [(44, rg_sic 0 1), (45, rg_sK [true, true, true, true, false, true, false, false] (rg_sis 4 2)), (47, rg_sin 5 1), (50, rg_sgo 12), (53, rg_sic 0 1), (54, rg_sis 5 2), (56, rg_sK [true, true, true, true, true, true, false, false] (rg_sil 5 2)), (58, rg_sil 3 1), (59, rg_skge 215), (62, rg_sal 0 1), (63, rg_sil 1 1), (64, rg_sil 5 2), (66, rg_scV 68 2 1 7), (69, rg_sis 6 2), (71, rg_sal 0 1), (72, rg_sic 320 3), (75, rg_sil 6 2), (77, rg_s2i (fun x y => x + y)), (78, rg_sil 4 2), (80, rg_sjeq 87), (83, rg_slc 0 1), (84, rg_sgo 88), (87, rg_slc 1 1), (88, rg_sK [true, true, true, true, true, true, true, false] (rg_scV 11 2 0 7)), (91, rg_sil 4 2)]
theorem rg_o81_1 : ∀ q ∈ rg_c81_1, rg_Ok 81 q.1 q.2 :=
  rg_fc (rg_ok_iconst (n := 0) (by decide +kernel) (by decide +kernel)) <|
  rg_fc (rg_okK _ (rg_ok_istore (i := 4) (by decide +kernel) (by decide +kernel))) <|
  rg_fc (rg_ok_iinc (n := 1) (by decide +kernel) (by decide +kernel) (by decide +kernel)) <|
  rg_fc (rg_ok_goto (off := (-38)) (by decide +kernel) (by decide +kernel)) <|
  rg_fc (rg_ok_iconst (n := 0) (by decide +kernel) (by decide +kernel)) <|
  rg_fc (rg_ok_istore (i := 5) (by decide +kernel) (by decide +kernel)) <|
  rg_fc (rg_okK _ (rg_ok_iload (i := 5) (by decide +kernel))) <|
  rg_fc (rg_ok_iload_n (j := 3) (by decide +kernel) rfl) <|
  rg_fc (rg_ok_icmp_ge (off := 156) (by decide +kernel) (by decide +kernel)) <|
  rg_fc (rg_ok_aload_n (j := 0) (by decide +kernel) rfl) <|
  rg_fc (rg_ok_iload_n (j := 1) (by decide +kernel) rfl) <|
  rg_fc (rg_ok_iload (i := 5) (by decide +kernel)) <|
  rg_fc (rg_ok_callV (idx := 110) rg_cok7 (by decide +kernel) (by decide +kernel) rg_wm_M_110 rg_wj_68 rg_ws_68 rg_wz_7 rg_wd_68 ⟨by decide +kernel, by decide +kernel, by decide +kernel, by decide +kernel⟩ (by decide +kernel) (by decide +kernel)) <|
  rg_fc (rg_ok_istore (i := 6) (by decide +kernel) (by decide +kernel)) <|
  rg_fc (rg_ok_aload_n (j := 0) (by decide +kernel) rfl) <|
  rg_fc (rg_ok_sipush (n := 320) (by decide +kernel) (by decide +kernel)) <|
  rg_fc (rg_ok_iload (i := 6) (by decide +kernel)) <|
  rg_fc (rg_ok_iadd (by decide +kernel)) <|
  rg_fc (rg_ok_iload (i := 4) (by decide +kernel)) <|
  rg_fc (rg_ok_if_eq (off := 7) (by decide +kernel) (by decide +kernel)) <|
  rg_fc (rg_ok_lconst (n := 0) (by decide +kernel) (by decide +kernel)) <|
  rg_fc (rg_ok_goto (off := 4) (by decide +kernel) (by decide +kernel)) <|
  rg_fc (rg_ok_lconst (n := 1) (by decide +kernel) (by decide +kernel)) <|
  rg_fc (rg_okK _ (rg_ok_callV (idx := 27) rg_cok7 (by decide +kernel) (by decide +kernel) rg_wm_M_27 rg_wj_11 rg_ws_11 rg_wz_7 rg_wd_11 ⟨by decide +kernel, by decide +kernel, by decide +kernel, by decide +kernel⟩ (by decide +kernel) (by decide +kernel))) <|
  rg_fc (rg_ok_iload (i := 4) (by decide +kernel)) <|
  fun _ h => absurd h List.not_mem_nil
def rg_c81_2 : List (Nat × rg_S) := [(93, rg_sjeq 209), (96, rg_sal 0 1), (97, rg_sgr 7 2), (100, rg_sil 2 1), (101, rg_sil 6 2), (103, rg_s2i (fun x y => x + y)), (104, rg_sai), (105, rg_sjgt 111), (108, rg_sgo 209), (111, rg_sal 0 1), (112, rg_sil 2 1), (113, rg_sil 6 2), (115, rg_s2i (fun x y => x + y)), (116, rg_sic 389 3), (119, rg_scV 69 2 0 7), (122, rg_sic 0 1), (123, rg_sis 7 2), (125, rg_sK [true, true, true, true, true, true, true, true] (rg_sil 7 2)), (127, rg_sil 3 1), (128, rg_skge 196), (131, rg_sil 7 2), (133, rg_sil 5 2), (135, rg_skeq 190), (138, rg_sal 0 1), (139, rg_sgr 7 2)]
theorem rg_o81_2 : ∀ q ∈ rg_c81_2, rg_Ok 81 q.1 q.2 :=
  rg_fc (rg_ok_if_eq (off := 116) (by decide +kernel) (by decide +kernel)) <|
  rg_fc (rg_ok_aload_n (j := 0) (by decide +kernel) rfl) <|
  rg_fc (rg_ok_getr (idx := 17) rg_cok7 (by decide +kernel) rfl (by decide +kernel) rg_wf_M_17) <|
  rg_fc (rg_ok_iload_n (j := 2) (by decide +kernel) rfl) <|
  rg_fc (rg_ok_iload (i := 6) (by decide +kernel)) <|
  rg_fc (rg_ok_iadd (by decide +kernel)) <|
  rg_fc (rg_ok_iaload (by decide +kernel)) <|
  rg_fc (rg_ok_if_gt (off := 6) (by decide +kernel) (by decide +kernel)) <|
  rg_fc (rg_ok_goto (off := 101) (by decide +kernel) (by decide +kernel)) <|
  rg_fc (rg_ok_aload_n (j := 0) (by decide +kernel) rfl) <|
  rg_fc (rg_ok_iload_n (j := 2) (by decide +kernel) rfl) <|
  rg_fc (rg_ok_iload (i := 6) (by decide +kernel)) <|
  rg_fc (rg_ok_iadd (by decide +kernel)) <|
  rg_fc (rg_ok_sipush (n := 389) (by decide +kernel) (by decide +kernel)) <|
  rg_fc (rg_ok_callV (idx := 46) rg_cok7 (by decide +kernel) (by decide +kernel) rg_wm_M_46 rg_wj_69 rg_ws_69 rg_wz_7 rg_wd_69 ⟨by decide +kernel, by decide +kernel, by decide +kernel, by decide +kernel⟩ (by decide +kernel) (by decide +kernel)) <|
  rg_fc (rg_ok_iconst (n := 0) (by decide +kernel) (by decide +kernel)) <|
  rg_fc (rg_ok_istore (i := 7) (by decide +kernel) (by decide +kernel)) <|
  rg_fc (rg_okK _ (rg_ok_iload (i := 7) (by decide +kernel))) <|
  rg_fc (rg_ok_iload_n (j := 3) (by decide +kernel) rfl) <|
  rg_fc (rg_ok_icmp_ge (off := 68) (by decide +kernel) (by decide +kernel)) <|
  rg_fc (rg_ok_iload (i := 7) (by decide +kernel)) <|
  rg_fc (rg_ok_iload (i := 5) (by decide +kernel)) <|
  rg_fc (rg_ok_icmp_eq (off := 55) (by decide +kernel) (by decide +kernel)) <|
  rg_fc (rg_ok_aload_n (j := 0) (by decide +kernel) rfl) <|
  rg_fc (rg_ok_getr (idx := 17) rg_cok7 (by decide +kernel) rfl (by decide +kernel) rg_wf_M_17) <|
  fun _ h => absurd h List.not_mem_nil
def rg_c81_3 : List (Nat × rg_S) := [(142, rg_sil 2 1), (143, rg_sal 0 1), (144, rg_sil 1 1), (145, rg_sil 7 2), (147, rg_scV 68 2 1 7), (150, rg_s2i (fun x y => x + y)), (151, rg_sai), (152, rg_sjgt 158), (155, rg_sgo 190), (158, rg_sal 0 1), (159, rg_sic 389 3), (162, rg_sil 2 1), (163, rg_sic 40 2), (165, rg_s2i (fun x y => x + y)), (166, rg_sal 0 1), (167, rg_sil 1 1), (168, rg_sil 7 2), (170, rg_scV 68 2 1 7), (173, rg_s2i (fun x y => x + y)), (174, rg_sic 390 3), (177, rg_scV 71 3 0 7), (180, rg_sal 0 1), (181, rg_sic 390 3), (184, rg_sic 389 3), (187, rg_scV 69 2 0 7)]
theorem rg_o81_3 : ∀ q ∈ rg_c81_3, rg_Ok 81 q.1 q.2 :=
  rg_fc (rg_ok_iload_n (j := 2) (by decide +kernel) rfl) <|
  rg_fc (rg_ok_aload_n (j := 0) (by decide +kernel) rfl) <|
  rg_fc (rg_ok_iload_n (j := 1) (by decide +kernel) rfl) <|
  rg_fc (rg_ok_iload (i := 7) (by decide +kernel)) <|
  rg_fc (rg_ok_callV (idx := 110) rg_cok7 (by decide +kernel) (by decide +kernel) rg_wm_M_110 rg_wj_68 rg_ws_68 rg_wz_7 rg_wd_68 ⟨by decide +kernel, by decide +kernel, by decide +kernel, by decide +kernel⟩ (by decide +kernel) (by decide +kernel)) <|
  rg_fc (rg_ok_iadd (by decide +kernel)) <|
  rg_fc (rg_ok_iaload (by decide +kernel)) <|
  rg_fc (rg_ok_if_gt (off := 6) (by decide +kernel) (by decide +kernel)) <|
  rg_fc (rg_ok_goto (off := 35) (by decide +kernel) (by decide +kernel)) <|
  rg_fc (rg_ok_aload_n (j := 0) (by decide +kernel) rfl) <|
  rg_fc (rg_ok_sipush (n := 389) (by decide +kernel) (by decide +kernel)) <|
  rg_fc (rg_ok_iload_n (j := 2) (by decide +kernel) rfl) <|
  rg_fc (rg_ok_bipush (n := 40) (by decide +kernel) (by decide +kernel)) <|
  rg_fc (rg_ok_iadd (by decide +kernel)) <|
  rg_fc (rg_ok_aload_n (j := 0) (by decide +kernel) rfl) <|
  rg_fc (rg_ok_iload_n (j := 1) (by decide +kernel) rfl) <|
  rg_fc (rg_ok_iload (i := 7) (by decide +kernel)) <|
  rg_fc (rg_ok_callV (idx := 110) rg_cok7 (by decide +kernel) (by decide +kernel) rg_wm_M_110 rg_wj_68 rg_ws_68 rg_wz_7 rg_wd_68 ⟨by decide +kernel, by decide +kernel, by decide +kernel, by decide +kernel⟩ (by decide +kernel) (by decide +kernel)) <|
  rg_fc (rg_ok_iadd (by decide +kernel)) <|
  rg_fc (rg_ok_sipush (n := 390) (by decide +kernel) (by decide +kernel)) <|
  rg_fc (rg_ok_callV (idx := 64) rg_cok7 (by decide +kernel) (by decide +kernel) rg_wm_M_64 rg_wj_71 rg_ws_71 rg_wz_7 rg_wd_71 ⟨by decide +kernel, by decide +kernel, by decide +kernel, by decide +kernel⟩ (by decide +kernel) (by decide +kernel)) <|
  rg_fc (rg_ok_aload_n (j := 0) (by decide +kernel) rfl) <|
  rg_fc (rg_ok_sipush (n := 390) (by decide +kernel) (by decide +kernel)) <|
  rg_fc (rg_ok_sipush (n := 389) (by decide +kernel) (by decide +kernel)) <|
  rg_fc (rg_ok_callV (idx := 46) rg_cok7 (by decide +kernel) (by decide +kernel) rg_wm_M_46 rg_wj_69 rg_ws_69 rg_wz_7 rg_wd_69 ⟨by decide +kernel, by decide +kernel, by decide +kernel, by decide +kernel⟩ (by decide +kernel) (by decide +kernel)) <|
  fun _ h => absurd h List.not_mem_nil
def rg_c81_4 : List (Nat × rg_S) := [(190, rg_sK [true, true, true, true, true, true, true, true] (rg_sin 7 1)), (193, rg_sgo 125), (196, rg_sal 0 1), (197, rg_sic 389 3), (200, rg_sic 320 3), (203, rg_sil 6 2), (205, rg_s2i (fun x y => x + y)), (206, rg_scV 69 2 0 7), (209, rg_sK [true, true, true, true, true, true, false, false] (rg_sin 5 1)), (212, rg_sgo 56), (215, rg_sil 4 2), (217, rg_sjeq 225), (220, rg_sal 0 1), (221, rg_sil 1 1), (222, rg_scV 80 1 0 7), (225, rg_sK [true, true, false, true, false, false, false, false] (rg_sal 0 1)), (226, rg_sic 360 3), (229, rg_sil 1 1), (230, rg_s2i (fun x y => x + y)), (231, rg_slc 0 1), (232, rg_scV 11 2 0 7), (235, rg_sic 0 1), (236, rg_sis 5 2), (238, rg_sK [true, true, false, true, false, true, false, false] (rg_sil 5 2)), (240, rg_sil 3 1)]
theorem rg_o81_4 : ∀ q ∈ rg_c81_4, rg_Ok 81 q.1 q.2 :=
  rg_fc (rg_okK _ (rg_ok_iinc (n := 1) (by decide +kernel) (by decide +kernel) (by decide +kernel))) <|
  rg_fc (rg_ok_goto (off := (-68)) (by decide +kernel) (by decide +kernel)) <|
  rg_fc (rg_ok_aload_n (j := 0) (by decide +kernel) rfl) <|
  rg_fc (rg_ok_sipush (n := 389) (by decide +kernel) (by decide +kernel)) <|
  rg_fc (rg_ok_sipush (n := 320) (by decide +kernel) (by decide +kernel)) <|
  rg_fc (rg_ok_iload (i := 6) (by decide +kernel)) <|
  rg_fc (rg_ok_iadd (by decide +kernel)) <|
  rg_fc (rg_ok_callV (idx := 46) rg_cok7 (by decide +kernel) (by decide +kernel) rg_wm_M_46 rg_wj_69 rg_ws_69 rg_wz_7 rg_wd_69 ⟨by decide +kernel, by decide +kernel, by decide +kernel, by decide +kernel⟩ (by decide +kernel) (by decide +kernel)) <|
  rg_fc (rg_okK _ (rg_ok_iinc (n := 1) (by decide +kernel) (by decide +kernel) (by decide +kernel))) <|
  rg_fc (rg_ok_goto (off := (-156)) (by decide +kernel) (by decide +kernel)) <|
  rg_fc (rg_ok_iload (i := 4) (by decide +kernel)) <|
  rg_fc (rg_ok_if_eq (off := 8) (by decide +kernel) (by decide +kernel)) <|
  rg_fc (rg_ok_aload_n (j := 0) (by decide +kernel) rfl) <|
  rg_fc (rg_ok_iload_n (j := 1) (by decide +kernel) rfl) <|
  rg_fc (rg_ok_callV (idx := 113) rg_cok7 (by decide +kernel) (by decide +kernel) rg_wm_M_113 rg_wj_80 rg_ws_80 rg_wz_7 rg_wd_80 ⟨by decide +kernel, by decide +kernel, by decide +kernel, by decide +kernel⟩ (by decide +kernel) (by decide +kernel)) <|
  rg_fc (rg_okK _ (rg_ok_aload_n (j := 0) (by decide +kernel) rfl)) <|
  rg_fc (rg_ok_sipush (n := 360) (by decide +kernel) (by decide +kernel)) <|
  rg_fc (rg_ok_iload_n (j := 1) (by decide +kernel) rfl) <|
  rg_fc (rg_ok_iadd (by decide +kernel)) <|
  rg_fc (rg_ok_lconst (n := 0) (by decide +kernel) (by decide +kernel)) <|
  rg_fc (rg_ok_callV (idx := 27) rg_cok7 (by decide +kernel) (by decide +kernel) rg_wm_M_27 rg_wj_11 rg_ws_11 rg_wz_7 rg_wd_11 ⟨by decide +kernel, by decide +kernel, by decide +kernel, by decide +kernel⟩ (by decide +kernel) (by decide +kernel)) <|
  rg_fc (rg_ok_iconst (n := 0) (by decide +kernel) (by decide +kernel)) <|
  rg_fc (rg_ok_istore (i := 5) (by decide +kernel) (by decide +kernel)) <|
  rg_fc (rg_okK _ (rg_ok_iload (i := 5) (by decide +kernel))) <|
  rg_fc (rg_ok_iload_n (j := 3) (by decide +kernel) rfl) <|
  fun _ h => absurd h List.not_mem_nil
def rg_c81_5 : List (Nat × rg_S) := [(241, rg_skge 275), (244, rg_sal 0 1), (245, rg_sic 360 3), (248, rg_sil 1 1), (249, rg_s2i (fun x y => x + y)), (250, rg_sic 320 3), (253, rg_sal 0 1), (254, rg_sil 1 1), (255, rg_sil 5 2), (257, rg_scV 68 2 1 7), (260, rg_s2i (fun x y => x + y)), (261, rg_sic 360 3), (264, rg_sil 1 1), (265, rg_s2i (fun x y => x + y)), (266, rg_scV 78 3 0 7), (269, rg_sin 5 1), (272, rg_sgo 238), (275, rg_rv)]
theorem rg_o81_5 : ∀ q ∈ rg_c81_5, rg_Ok 81 q.1 q.2 :=
  rg_fc (rg_ok_icmp_ge (off := 34) (by decide +kernel) (by decide +kernel)) <|
  rg_fc (rg_ok_aload_n (j := 0) (by decide +kernel) rfl) <|
  rg_fc (rg_ok_sipush (n := 360) (by decide +kernel) (by decide +kernel)) <|
  rg_fc (rg_ok_iload_n (j := 1) (by decide +kernel) rfl) <|
  rg_fc (rg_ok_iadd (by decide +kernel)) <|
  rg_fc (rg_ok_sipush (n := 320) (by decide +kernel) (by decide +kernel)) <|
  rg_fc (rg_ok_aload_n (j := 0) (by decide +kernel) rfl) <|
  rg_fc (rg_ok_iload_n (j := 1) (by decide +kernel) rfl) <|
  rg_fc (rg_ok_iload (i := 5) (by decide +kernel)) <|
  rg_fc (rg_ok_callV (idx := 110) rg_cok7 (by decide +kernel) (by decide +kernel) rg_wm_M_110 rg_wj_68 rg_ws_68 rg_wz_7 rg_wd_68 ⟨by decide +kernel, by decide +kernel, by decide +kernel, by decide +kernel⟩ (by decide +kernel) (by decide +kernel)) <|
  rg_fc (rg_ok_iadd (by decide +kernel)) <|
  rg_fc (rg_ok_sipush (n := 360) (by decide +kernel) (by decide +kernel)) <|
  rg_fc (rg_ok_iload_n (j := 1) (by decide +kernel) rfl) <|
  rg_fc (rg_ok_iadd (by decide +kernel)) <|
  rg_fc (rg_ok_callV (idx := 61) rg_cok7 (by decide +kernel) (by decide +kernel) rg_wm_M_61 rg_wj_78 rg_ws_78 rg_wz_7 rg_wd_78 ⟨by decide +kernel, by decide +kernel, by decide +kernel, by decide +kernel⟩ (by decide +kernel) (by decide +kernel)) <|
  rg_fc (rg_ok_iinc (n := 1) (by decide +kernel) (by decide +kernel) (by decide +kernel)) <|
  rg_fc (rg_ok_goto (off := (-34)) (by decide +kernel) (by decide +kernel)) <|
  rg_fc (rg_ok_return (by decide +kernel) rfl) <|
  fun _ h => absurd h List.not_mem_nil
def rg_kd81 : List (List (Nat × rg_S)) := [rg_c81_0, rg_c81_1, rg_c81_2, rg_c81_3, rg_c81_4, rg_c81_5]
theorem rg_o81 : ∀ pc f, rg_lk2 rg_kd81 pc = some f → rg_Ok 81 pc f := rg_lk2_ok (rg_fd rg_o81_0 (rg_fd rg_o81_1 (rg_fd rg_o81_2 (rg_fd rg_o81_3 (rg_fd rg_o81_4 (rg_fd rg_o81_5 (fun _ h => absurd h List.not_mem_nil)))))))
def rg_c82_0 : List (Nat × rg_S) := [(0, rg_sil 1 1), (1, rg_sjne 17), (4, rg_sal 0 1), (5, rg_sgr 7 10), (8, rg_sic 5 1), (9, rg_sil 2 1), (10, rg_s2i (fun x y => x * y)), (11, rg_sil 3 1), (12, rg_s2i (fun x y => x + y)), (13, rg_sai), (14, rg_sgo 28), (17, rg_sal 0 1), (18, rg_sgr 7 10), (21, rg_sic 5 1), (22, rg_sil 3 1), (23, rg_s2i (fun x y => x * y)), (24, rg_sil 2 1), (25, rg_s2i (fun x y => x + y)), (26, rg_sai), (27, rg_s1i (fun x => -x)), (28, rg_sK [false, false, false, false] (rg_ri))]
theorem rg_o82_0 : ∀ q ∈ rg_c82_0, rg_Ok 82 q.1 q.2 :=
  rg_fc (rg_ok_iload_n (j := 1) (by decide +kernel) rfl) <|
  rg_fc (rg_ok_if_ne (off := 16) (by decide +kernel) (by decide +kernel)) <|
  rg_fc (rg_ok_aload_n (j := 0) (by decide +kernel) rfl) <|
  rg_fc (rg_ok_getr (idx := 20) rg_cok7 (by decide +kernel) rfl (by decide +kernel) rg_wf_M_20) <|
  rg_fc (rg_ok_iconst (n := 5) (by decide +kernel) (by decide +kernel)) <|
  rg_fc (rg_ok_iload_n (j := 2) (by decide +kernel) rfl) <|
  rg_fc (rg_ok_imul (by decide +kernel)) <|
  rg_fc (rg_ok_iload_n (j := 3) (by decide +kernel) rfl) <|
  rg_fc (rg_ok_iadd (by decide +kernel)) <|
  rg_fc (rg_ok_iaload (by decide +kernel)) <|
  rg_fc (rg_ok_goto (off := 14) (by decide +kernel) (by decide +kernel)) <|
  rg_fc (rg_ok_aload_n (j := 0) (by decide +kernel) rfl) <|
  rg_fc (rg_ok_getr (idx := 20) rg_cok7 (by decide +kernel) rfl (by decide +kernel) rg_wf_M_20) <|
  rg_fc (rg_ok_iconst (n := 5) (by decide +kernel) (by decide +kernel)) <|
  rg_fc (rg_ok_iload_n (j := 3) (by decide +kernel) rfl) <|
  rg_fc (rg_ok_imul (by decide +kernel)) <|
  rg_fc (rg_ok_iload_n (j := 2) (by decide +kernel) rfl) <|
  rg_fc (rg_ok_iadd (by decide +kernel)) <|
  rg_fc (rg_ok_iaload (by decide +kernel)) <|
  rg_fc (rg_ok_ineg (by decide +kernel)) <|
  rg_fc (rg_okK _ (rg_ok_ireturn (by decide +kernel) rfl)) <|
  fun _ h => absurd h List.not_mem_nil
def rg_kd82 : List (List (Nat × rg_S)) := [rg_c82_0]
theorem rg_o82 : ∀ pc f, rg_lk2 rg_kd82 pc = some f → rg_Ok 82 pc f := rg_lk2_ok (rg_fd rg_o82_0 (fun _ h => absurd h List.not_mem_nil))
def rg_c83_0 : List (Nat × rg_S) := [(0, rg_sal 0 1), (1, rg_sic 417 3), (4, rg_sll 2 1), (5, rg_scV 11 2 0 7), (8, rg_sal 0 1), (9, rg_sil 1 1), (10, rg_sic 417 3), (13, rg_sic 416 3), (16, rg_scV 71 3 0 7), (19, rg_sal 0 1), (20, rg_sic 416 3), (23, rg_sil 1 1), (24, rg_scV 69 2 0 7), (27, rg_rv)]
theorem rg_o83_0 : ∀ q ∈ rg_c83_0, rg_Ok 83 q.1 q.2 :=
  rg_fc (rg_ok_aload_n (j := 0) (by decide +kernel) rfl) <|
  rg_fc (rg_ok_sipush (n := 417) (by decide +kernel) (by decide +kernel)) <|
  rg_fc (rg_ok_lload_n (j := 2) (by decide +kernel) rfl) <|
  rg_fc (rg_ok_callV (idx := 27) rg_cok7 (by decide +kernel) (by decide +kernel) rg_wm_M_27 rg_wj_11 rg_ws_11 rg_wz_7 rg_wd_11 ⟨by decide +kernel, by decide +kernel, by decide +kernel, by decide +kernel⟩ (by decide +kernel) (by decide +kernel)) <|
  rg_fc (rg_ok_aload_n (j := 0) (by decide +kernel) rfl) <|
  rg_fc (rg_ok_iload_n (j := 1) (by decide +kernel) rfl) <|
  rg_fc (rg_ok_sipush (n := 417) (by decide +kernel) (by decide +kernel)) <|
  rg_fc (rg_ok_sipush (n := 416) (by decide +kernel) (by decide +kernel)) <|
  rg_fc (rg_ok_callV (idx := 64) rg_cok7 (by decide +kernel) (by decide +kernel) rg_wm_M_64 rg_wj_71 rg_ws_71 rg_wz_7 rg_wd_71 ⟨by decide +kernel, by decide +kernel, by decide +kernel, by decide +kernel⟩ (by decide +kernel) (by decide +kernel)) <|
  rg_fc (rg_ok_aload_n (j := 0) (by decide +kernel) rfl) <|
  rg_fc (rg_ok_sipush (n := 416) (by decide +kernel) (by decide +kernel)) <|
  rg_fc (rg_ok_iload_n (j := 1) (by decide +kernel) rfl) <|
  rg_fc (rg_ok_callV (idx := 46) rg_cok7 (by decide +kernel) (by decide +kernel) rg_wm_M_46 rg_wj_69 rg_ws_69 rg_wz_7 rg_wd_69 ⟨by decide +kernel, by decide +kernel, by decide +kernel, by decide +kernel⟩ (by decide +kernel) (by decide +kernel)) <|
  rg_fc (rg_ok_return (by decide +kernel) rfl) <|
  fun _ h => absurd h List.not_mem_nil
def rg_kd83 : List (List (Nat × rg_S)) := [rg_c83_0]
theorem rg_o83 : ∀ pc f, rg_lk2 rg_kd83 pc = some f → rg_Ok 83 pc f := rg_lk2_ok (rg_fd rg_o83_0 (fun _ h => absurd h List.not_mem_nil))
def rg_c84_0 : List (Nat × rg_S) := [(0, rg_sal 0 1), (1, rg_sgr 7 2), (4, rg_sil 2 1), (5, rg_sal 0 1), (6, rg_sgr 7 2), (9, rg_sil 2 1), (10, rg_sai), (11, rg_s1i (fun x => -x)), (12, rg_swi), (13, rg_sil 1 1), (14, rg_sil 2 1), (15, rg_skne 22), (18, rg_sic 1 1), (19, rg_sgo 23), (22, rg_sic 0 1), (23, rg_sK [true, true, true, true, false] (rg_sis 4 2)), (25, rg_sal 0 1), (26, rg_sil 1 1), (27, rg_sil 2 1), (28, rg_sil 3 1), (29, rg_scV 78 3 0 7), (32, rg_sil 4 2), (34, rg_sjeq 43), (37, rg_sal 0 1), (38, rg_sil 3 1)]
theorem rg_o84_0 : ∀ q ∈ rg_c84_0, rg_Ok 84 q.1 q.2 :=
  rg_fc (rg_ok_aload_n (j := 0) (by decide +kernel) rfl) <|
  rg_fc (rg_ok_getr (idx := 17) rg_cok7 (by decide +kernel) rfl (by decide +kernel) rg_wf_M_17) <|
  rg_fc (rg_ok_iload_n (j := 2) (by decide +kernel) rfl) <|
  rg_fc (rg_ok_aload_n (j := 0) (by decide +kernel) rfl) <|
  rg_fc (rg_ok_getr (idx := 17) rg_cok7 (by decide +kernel) rfl (by decide +kernel) rg_wf_M_17) <|
  rg_fc (rg_ok_iload_n (j := 2) (by decide +kernel) rfl) <|
  rg_fc (rg_ok_iaload (by decide +kernel)) <|
  rg_fc (rg_ok_ineg (by decide +kernel)) <|
  rg_fc (rg_ok_iastore (by decide +kernel)) <|
  rg_fc (rg_ok_iload_n (j := 1) (by decide +kernel) rfl) <|
  rg_fc (rg_ok_iload_n (j := 2) (by decide +kernel) rfl) <|
  rg_fc (rg_ok_icmp_ne (off := 7) (by decide +kernel) (by decide +kernel)) <|
  rg_fc (rg_ok_iconst (n := 1) (by decide +kernel) (by decide +kernel)) <|
  rg_fc (rg_ok_goto (off := 4) (by decide +kernel) (by decide +kernel)) <|
  rg_fc (rg_ok_iconst (n := 0) (by decide +kernel) (by decide +kernel)) <|
  rg_fc (rg_okK _ (rg_ok_istore (i := 4) (by decide +kernel) (by decide +kernel))) <|
  rg_fc (rg_ok_aload_n (j := 0) (by decide +kernel) rfl) <|
  rg_fc (rg_ok_iload_n (j := 1) (by decide +kernel) rfl) <|
  rg_fc (rg_ok_iload_n (j := 2) (by decide +kernel) rfl) <|
  rg_fc (rg_ok_iload_n (j := 3) (by decide +kernel) rfl) <|
  rg_fc (rg_ok_callV (idx := 61) rg_cok7 (by decide +kernel) (by decide +kernel) rg_wm_M_61 rg_wj_78 rg_ws_78 rg_wz_7 rg_wd_78 ⟨by decide +kernel, by decide +kernel, by decide +kernel, by decide +kernel⟩ (by decide +kernel) (by decide +kernel)) <|
  rg_fc (rg_ok_iload (i := 4) (by decide +kernel)) <|
  rg_fc (rg_ok_if_eq (off := 9) (by decide +kernel) (by decide +kernel)) <|
  rg_fc (rg_ok_aload_n (j := 0) (by decide +kernel) rfl) <|
  rg_fc (rg_ok_iload_n (j := 3) (by decide +kernel) rfl) <|
  fun _ h => absurd h List.not_mem_nil
def rg_c84_1 : List (Nat × rg_S) := [(39, rg_slc 0 1), (40, rg_scV 11 2 0 7), (43, rg_sK [true, false, true, true, false] (rg_sil 3 1)), (44, rg_sil 2 1), (45, rg_skeq 61), (48, rg_sal 0 1), (49, rg_sgr 7 2), (52, rg_sil 2 1), (53, rg_sal 0 1), (54, rg_sgr 7 2), (57, rg_sil 2 1), (58, rg_sai), (59, rg_s1i (fun x => -x)), (60, rg_swi), (61, rg_sK [false, false, false, false, false] (rg_rv))]
theorem rg_o84_1 : ∀ q ∈ rg_c84_1, rg_Ok 84 q.1 q.2 :=
  rg_fc (rg_ok_lconst (n := 0) (by decide +kernel) (by decide +kernel)) <|
  rg_fc (rg_ok_callV (idx := 27) rg_cok7 (by decide +kernel) (by decide +kernel) rg_wm_M_27 rg_wj_11 rg_ws_11 rg_wz_7 rg_wd_11 ⟨by decide +kernel, by decide +kernel, by decide +kernel, by decide +kernel⟩ (by decide +kernel) (by decide +kernel)) <|
  rg_fc (rg_okK _ (rg_ok_iload_n (j := 3) (by decide +kernel) rfl)) <|
  rg_fc (rg_ok_iload_n (j := 2) (by decide +kernel) rfl) <|
  rg_fc (rg_ok_icmp_eq (off := 16) (by decide +kernel) (by decide +kernel)) <|
  rg_fc (rg_ok_aload_n (j := 0) (by decide +kernel) rfl) <|
  rg_fc (rg_ok_getr (idx := 17) rg_cok7 (by decide +kernel) rfl (by decide +kernel) rg_wf_M_17) <|
  rg_fc (rg_ok_iload_n (j := 2) (by decide +kernel) rfl) <|
  rg_fc (rg_ok_aload_n (j := 0) (by decide +kernel) rfl) <|
  rg_fc (rg_ok_getr (idx := 17) rg_cok7 (by decide +kernel) rfl (by decide +kernel) rg_wf_M_17) <|
  rg_fc (rg_ok_iload_n (j := 2) (by decide +kernel) rfl) <|
  rg_fc (rg_ok_iaload (by decide +kernel)) <|
  rg_fc (rg_ok_ineg (by decide +kernel)) <|
  rg_fc (rg_ok_iastore (by decide +kernel)) <|
  rg_fc (rg_okK _ (rg_ok_return (by decide +kernel) rfl)) <|
  fun _ h => absurd h List.not_mem_nil
def rg_kd84 : List (List (Nat × rg_S)) := [rg_c84_0, rg_c84_1]
theorem rg_o84 : ∀ pc f, rg_lk2 rg_kd84 pc = some f → rg_Ok 84 pc f := rg_lk2_ok (rg_fd rg_o84_0 (rg_fd rg_o84_1 (fun _ h => absurd h List.not_mem_nil)))
def rg_c85_0 : List (Nat × rg_S) := [(0, rg_sal 0 1), (1, rg_sgr 7 1), (4, rg_sil 1 1), (5, rg_sai), (6, rg_sjne 16), (9, rg_sal 0 1), (10, rg_sil 2 1), (11, rg_slc 1 1), (12, rg_scV 11 2 0 7), (15, rg_rv), (16, rg_sal 0 1), (17, rg_sil 1 1), (18, rg_sil 2 1), (19, rg_scV 76 2 1 7), (22, rg_sis 3 1), (23, rg_sal 0 1), (24, rg_sil 1 1), (25, rg_sil 3 1), (26, rg_scV 79 2 0 7), (29, rg_sal 0 1), (30, rg_sil 2 1), (31, rg_sil 3 1), (32, rg_scV 79 2 0 7), (35, rg_rv)]
theorem rg_o85_0 : ∀ q ∈ rg_c85_0, rg_Ok 85 q.1 q.2 :=
  rg_fc (rg_ok_aload_n (j := 0) (by decide +kernel) rfl) <|
  rg_fc (rg_ok_getr (idx := 14) rg_cok7 (by decide +kernel) rfl (by decide +kernel) rg_wf_M_14) <|
  rg_fc (rg_ok_iload_n (j := 1) (by decide +kernel) rfl) <|
  rg_fc (rg_ok_iaload (by decide +kernel)) <|
  rg_fc (rg_ok_if_ne (off := 10) (by decide +kernel) (by decide +kernel)) <|
  rg_fc (rg_ok_aload_n (j := 0) (by decide +kernel) rfl) <|
  rg_fc (rg_ok_iload_n (j := 2) (by decide +kernel) rfl) <|
  rg_fc (rg_ok_lconst (n := 1) (by decide +kernel) (by decide +kernel)) <|
  rg_fc (rg_ok_callV (idx := 27) rg_cok7 (by decide +kernel) (by decide +kernel) rg_wm_M_27 rg_wj_11 rg_ws_11 rg_wz_7 rg_wd_11 ⟨by decide +kernel, by decide +kernel, by decide +kernel, by decide +kernel⟩ (by decide +kernel) (by decide +kernel)) <|
  rg_fc (rg_ok_return (by decide +kernel) rfl) <|
  rg_fc (rg_ok_aload_n (j := 0) (by decide +kernel) rfl) <|
  rg_fc (rg_ok_iload_n (j := 1) (by decide +kernel) rfl) <|
  rg_fc (rg_ok_iload_n (j := 2) (by decide +kernel) rfl) <|
  rg_fc (rg_ok_callV (idx := 73) rg_cok7 (by decide +kernel) (by decide +kernel) rg_wm_M_73 rg_wj_76 rg_ws_76 rg_wz_7 rg_wd_76 ⟨by decide +kernel, by decide +kernel, by decide +kernel, by decide +kernel⟩ (by decide +kernel) (by decide +kernel)) <|
  rg_fc (rg_ok_istore_n (j := 3) (by decide +kernel) rfl (by decide +kernel)) <|
  rg_fc (rg_ok_aload_n (j := 0) (by decide +kernel) rfl) <|
  rg_fc (rg_ok_iload_n (j := 1) (by decide +kernel) rfl) <|
  rg_fc (rg_ok_iload_n (j := 3) (by decide +kernel) rfl) <|
  rg_fc (rg_ok_callV (idx := 76) rg_cok7 (by decide +kernel) (by decide +kernel) rg_wm_M_76 rg_wj_79 rg_ws_79 rg_wz_7 rg_wd_79 ⟨by decide +kernel, by decide +kernel, by decide +kernel, by decide +kernel⟩ (by decide +kernel) (by decide +kernel)) <|
  rg_fc (rg_ok_aload_n (j := 0) (by decide +kernel) rfl) <|
  rg_fc (rg_ok_iload_n (j := 2) (by decide +kernel) rfl) <|
  rg_fc (rg_ok_iload_n (j := 3) (by decide +kernel) rfl) <|
  rg_fc (rg_ok_callV (idx := 76) rg_cok7 (by decide +kernel) (by decide +kernel) rg_wm_M_76 rg_wj_79 rg_ws_79 rg_wz_7 rg_wd_79 ⟨by decide +kernel, by decide +kernel, by decide +kernel, by decide +kernel⟩ (by decide +kernel) (by decide +kernel)) <|
  rg_fc (rg_ok_return (by decide +kernel) rfl) <|
  fun _ h => absurd h List.not_mem_nil
def rg_kd85 : List (List (Nat × rg_S)) := [rg_c85_0]
theorem rg_o85 : ∀ pc f, rg_lk2 rg_kd85 pc = some f → rg_Ok 85 pc f := rg_lk2_ok (rg_fd rg_o85_0 (fun _ h => absurd h List.not_mem_nil))
def rg_c86_0 : List (Nat × rg_S) := [(0, rg_sal 0 1), (1, rg_sgr 7 1), (4, rg_sil 1 1), (5, rg_sai), (6, rg_sjne 11), (9, rg_sic 0 1), (10, rg_ri), (11, rg_sic 32 2), (13, rg_sal 0 1), (14, rg_sgr 7 1), (17, rg_sil 1 1), (18, rg_sai), (19, rg_sic 1 1), (20, rg_s2i (fun x y => x - y)), (21, rg_s2i (fun x y => x * y)), (22, rg_sis 2 1), (23, rg_sal 0 1), (24, rg_sil 1 1), (25, rg_sal 0 1), (26, rg_sgr 7 1), (29, rg_sil 1 1), (30, rg_sai), (31, rg_sic 1 1), (32, rg_s2i (fun x y => x - y)), (33, rg_scV 70 2 2 7)]
theorem rg_o86_0 : ∀ q ∈ rg_c86_0, rg_Ok 86 q.1 q.2 :=
  rg_fc (rg_ok_aload_n (j := 0) (by decide +kernel) rfl) <|
  rg_fc (rg_ok_getr (idx := 14) rg_cok7 (by decide +kernel) rfl (by decide +kernel) rg_wf_M_14) <|
  rg_fc (rg_ok_iload_n (j := 1) (by decide +kernel) rfl) <|
  rg_fc (rg_ok_iaload (by decide +kernel)) <|
  rg_fc (rg_ok_if_ne (off := 5) (by decide +kernel) (by decide +kernel)) <|
  rg_fc (rg_ok_iconst (n := 0) (by decide +kernel) (by decide +kernel)) <|
  rg_fc (rg_ok_ireturn (by decide +kernel) rfl) <|
  rg_fc (rg_ok_bipush (n := 32) (by decide +kernel) (by decide +kernel)) <|
  rg_fc (rg_ok_aload_n (j := 0) (by decide +kernel) rfl) <|
  rg_fc (rg_ok_getr (idx := 14) rg_cok7 (by decide +kernel) rfl (by decide +kernel) rg_wf_M_14) <|
  rg_fc (rg_ok_iload_n (j := 1) (by decide +kernel) rfl) <|
  rg_fc (rg_ok_iaload (by decide +kernel)) <|
  rg_fc (rg_ok_iconst (n := 1) (by decide +kernel) (by decide +kernel)) <|
  rg_fc (rg_ok_isub (by decide +kernel)) <|
  rg_fc (rg_ok_imul (by decide +kernel)) <|
  rg_fc (rg_ok_istore_n (j := 2) (by decide +kernel) rfl (by decide +kernel)) <|
  rg_fc (rg_ok_aload_n (j := 0) (by decide +kernel) rfl) <|
  rg_fc (rg_ok_iload_n (j := 1) (by decide +kernel) rfl) <|
  rg_fc (rg_ok_aload_n (j := 0) (by decide +kernel) rfl) <|
  rg_fc (rg_ok_getr (idx := 14) rg_cok7 (by decide +kernel) rfl (by decide +kernel) rg_wf_M_14) <|
  rg_fc (rg_ok_iload_n (j := 1) (by decide +kernel) rfl) <|
  rg_fc (rg_ok_iaload (by decide +kernel)) <|
  rg_fc (rg_ok_iconst (n := 1) (by decide +kernel) (by decide +kernel)) <|
  rg_fc (rg_ok_isub (by decide +kernel)) <|
  rg_fc (rg_ok_callV (idx := 42) rg_cok7 (by decide +kernel) (by decide +kernel) rg_wm_M_42 rg_wj_70 rg_ws_70 rg_wz_7 rg_wd_70 ⟨by decide +kernel, by decide +kernel, by decide +kernel, by decide +kernel⟩ (by decide +kernel) (by decide +kernel)) <|
  fun _ h => absurd h List.not_mem_nil
def rg_c86_1 : List (Nat × rg_S) := [(36, rg_sls 3 1), (37, rg_sK [false, false, true, true, false] (rg_sll 3 1)), (38, rg_slc 0 1), (39, rg_scm), (40, rg_sjle 53), (43, rg_sin 2 1), (46, rg_sll 3 1), (47, rg_sic 1 1), (48, rg_ssh (fun x y => x >>> (y.toInt64 &&& 63))), (49, rg_sls 3 1), (50, rg_sgo 37), (53, rg_sil 2 1), (54, rg_ri)]
theorem rg_o86_1 : ∀ q ∈ rg_c86_1, rg_Ok 86 q.1 q.2 :=
  rg_fc (rg_ok_lstore_n (j := 3) (by decide +kernel) rfl (by decide +kernel)) <|
  rg_fc (rg_okK _ (rg_ok_lload_n (j := 3) (by decide +kernel) rfl)) <|
  rg_fc (rg_ok_lconst (n := 0) (by decide +kernel) (by decide +kernel)) <|
  rg_fc (rg_ok_lcmp (by decide +kernel)) <|
  rg_fc (rg_ok_if_le (off := 13) (by decide +kernel) (by decide +kernel)) <|
  rg_fc (rg_ok_iinc (n := 1) (by decide +kernel) (by decide +kernel) (by decide +kernel)) <|
  rg_fc (rg_ok_lload_n (j := 3) (by decide +kernel) rfl) <|
  rg_fc (rg_ok_iconst (n := 1) (by decide +kernel) (by decide +kernel)) <|
  rg_fc (rg_ok_lshr (by decide +kernel)) <|
  rg_fc (rg_ok_lstore_n (j := 3) (by decide +kernel) rfl (by decide +kernel)) <|
  rg_fc (rg_ok_goto (off := (-13)) (by decide +kernel) (by decide +kernel)) <|
  rg_fc (rg_ok_iload_n (j := 2) (by decide +kernel) rfl) <|
  rg_fc (rg_ok_ireturn (by decide +kernel) rfl) <|
  fun _ h => absurd h List.not_mem_nil
def rg_kd86 : List (List (Nat × rg_S)) := [rg_c86_0, rg_c86_1]
theorem rg_o86 : ∀ pc f, rg_lk2 rg_kd86 pc = some f → rg_Ok 86 pc f := rg_lk2_ok (rg_fd rg_o86_0 (rg_fd rg_o86_1 (fun _ h => absurd h List.not_mem_nil)))
def rg_c87_0 : List (Nat × rg_S) := [(0, rg_sal 0 1), (1, rg_sil 1 1), (2, rg_sil 2 1), (3, rg_s2i (fun x y => x + y)), (4, rg_sic 408 3), (7, rg_sic 389 3), (10, rg_scV 71 3 0 7), (13, rg_sal 0 1), (14, rg_sil 1 1), (15, rg_sic 40 2), (17, rg_s2i (fun x y => x + y)), (18, rg_sil 2 1), (19, rg_s2i (fun x y => x + y)), (20, rg_sic 407 3), (23, rg_sic 390 3), (26, rg_scV 71 3 0 7), (29, rg_sal 0 1), (30, rg_sic 389 3), (33, rg_sic 390 3), (36, rg_sic 391 3), (39, rg_scV 78 3 0 7), (42, rg_sal 0 1), (43, rg_sil 1 1), (44, rg_sic 40 2), (46, rg_s2i (fun x y => x + y))]
theorem rg_o87_0 : ∀ q ∈ rg_c87_0, rg_Ok 87 q.1 q.2 :=
  rg_fc (rg_ok_aload_n (j := 0) (by decide +kernel) rfl) <|
  rg_fc (rg_ok_iload_n (j := 1) (by decide +kernel) rfl) <|
  rg_fc (rg_ok_iload_n (j := 2) (by decide +kernel) rfl) <|
  rg_fc (rg_ok_iadd (by decide +kernel)) <|
  rg_fc (rg_ok_sipush (n := 408) (by decide +kernel) (by decide +kernel)) <|
  rg_fc (rg_ok_sipush (n := 389) (by decide +kernel) (by decide +kernel)) <|
  rg_fc (rg_ok_callV (idx := 64) rg_cok7 (by decide +kernel) (by decide +kernel) rg_wm_M_64 rg_wj_71 rg_ws_71 rg_wz_7 rg_wd_71 ⟨by decide +kernel, by decide +kernel, by decide +kernel, by decide +kernel⟩ (by decide +kernel) (by decide +kernel)) <|
  rg_fc (rg_ok_aload_n (j := 0) (by decide +kernel) rfl) <|
  rg_fc (rg_ok_iload_n (j := 1) (by decide +kernel) rfl) <|
  rg_fc (rg_ok_bipush (n := 40) (by decide +kernel) (by decide +kernel)) <|
  rg_fc (rg_ok_iadd (by decide +kernel)) <|
  rg_fc (rg_ok_iload_n (j := 2) (by decide +kernel) rfl) <|
  rg_fc (rg_ok_iadd (by decide +kernel)) <|
  rg_fc (rg_ok_sipush (n := 407) (by decide +kernel) (by decide +kernel)) <|
  rg_fc (rg_ok_sipush (n := 390) (by decide +kernel) (by decide +kernel)) <|
  rg_fc (rg_ok_callV (idx := 64) rg_cok7 (by decide +kernel) (by decide +kernel) rg_wm_M_64 rg_wj_71 rg_ws_71 rg_wz_7 rg_wd_71 ⟨by decide +kernel, by decide +kernel, by decide +kernel, by decide +kernel⟩ (by decide +kernel) (by decide +kernel)) <|
  rg_fc (rg_ok_aload_n (j := 0) (by decide +kernel) rfl) <|
  rg_fc (rg_ok_sipush (n := 389) (by decide +kernel) (by decide +kernel)) <|
  rg_fc (rg_ok_sipush (n := 390) (by decide +kernel) (by decide +kernel)) <|
  rg_fc (rg_ok_sipush (n := 391) (by decide +kernel) (by decide +kernel)) <|
  rg_fc (rg_ok_callV (idx := 61) rg_cok7 (by decide +kernel) (by decide +kernel) rg_wm_M_61 rg_wj_78 rg_ws_78 rg_wz_7 rg_wd_78 ⟨by decide +kernel, by decide +kernel, by decide +kernel, by decide +kernel⟩ (by decide +kernel) (by decide +kernel)) <|
  rg_fc (rg_ok_aload_n (j := 0) (by decide +kernel) rfl) <|
  rg_fc (rg_ok_iload_n (j := 1) (by decide +kernel) rfl) <|
  rg_fc (rg_ok_bipush (n := 40) (by decide +kernel) (by decide +kernel)) <|
  rg_fc (rg_ok_iadd (by decide +kernel)) <|
  fun _ h => absurd h List.not_mem_nil
def rg_c87_1 : List (Nat × rg_S) := [(47, rg_sil 2 1), (48, rg_s2i (fun x y => x + y)), (49, rg_sic 408 3), (52, rg_sic 392 3), (55, rg_scV 71 3 0 7), (58, rg_sal 0 1), (59, rg_sic 391 3), (62, rg_sic 392 3), (65, rg_scV 85 2 0 7), (68, rg_sal 0 1), (69, rg_sic 391 3), (72, rg_scV 86 1 1 7), (75, rg_sic 256 3), (78, rg_skgt 94), (81, rg_sal 0 1), (82, rg_sic 392 3), (85, rg_scV 86 1 1 7), (88, rg_sic 256 3), (91, rg_skle 96), (94, rg_sK [false, false, false] (rg_sic 0 1)), (95, rg_rz), (96, rg_sal 0 1), (97, rg_sic 391 3), (100, rg_sic 160 3), (103, rg_sil 1 1)]
theorem rg_o87_1 : ∀ q ∈ rg_c87_1, rg_Ok 87 q.1 q.2 :=
  rg_fc (rg_ok_iload_n (j := 2) (by decide +kernel) rfl) <|
  rg_fc (rg_ok_iadd (by decide +kernel)) <|
  rg_fc (rg_ok_sipush (n := 408) (by decide +kernel) (by decide +kernel)) <|
  rg_fc (rg_ok_sipush (n := 392) (by decide +kernel) (by decide +kernel)) <|
  rg_fc (rg_ok_callV (idx := 64) rg_cok7 (by decide +kernel) (by decide +kernel) rg_wm_M_64 rg_wj_71 rg_ws_71 rg_wz_7 rg_wd_71 ⟨by decide +kernel, by decide +kernel, by decide +kernel, by decide +kernel⟩ (by decide +kernel) (by decide +kernel)) <|
  rg_fc (rg_ok_aload_n (j := 0) (by decide +kernel) rfl) <|
  rg_fc (rg_ok_sipush (n := 391) (by decide +kernel) (by decide +kernel)) <|
  rg_fc (rg_ok_sipush (n := 392) (by decide +kernel) (by decide +kernel)) <|
  rg_fc (rg_ok_callV (idx := 116) rg_cok7 (by decide +kernel) (by decide +kernel) rg_wm_M_116 rg_wj_85 rg_ws_85 rg_wz_7 rg_wd_85 ⟨by decide +kernel, by decide +kernel, by decide +kernel, by decide +kernel⟩ (by decide +kernel) (by decide +kernel)) <|
  rg_fc (rg_ok_aload_n (j := 0) (by decide +kernel) rfl) <|
  rg_fc (rg_ok_sipush (n := 391) (by decide +kernel) (by decide +kernel)) <|
  rg_fc (rg_ok_callV (idx := 119) rg_cok7 (by decide +kernel) (by decide +kernel) rg_wm_M_119 rg_wj_86 rg_ws_86 rg_wz_7 rg_wd_86 ⟨by decide +kernel, by decide +kernel, by decide +kernel, by decide +kernel⟩ (by decide +kernel) (by decide +kernel)) <|
  rg_fc (rg_ok_sipush (n := 256) (by decide +kernel) (by decide +kernel)) <|
  rg_fc (rg_ok_icmp_gt (off := 16) (by decide +kernel) (by decide +kernel)) <|
  rg_fc (rg_ok_aload_n (j := 0) (by decide +kernel) rfl) <|
  rg_fc (rg_ok_sipush (n := 392) (by decide +kernel) (by decide +kernel)) <|
  rg_fc (rg_ok_callV (idx := 119) rg_cok7 (by decide +kernel) (by decide +kernel) rg_wm_M_119 rg_wj_86 rg_ws_86 rg_wz_7 rg_wd_86 ⟨by decide +kernel, by decide +kernel, by decide +kernel, by decide +kernel⟩ (by decide +kernel) (by decide +kernel)) <|
  rg_fc (rg_ok_sipush (n := 256) (by decide +kernel) (by decide +kernel)) <|
  rg_fc (rg_ok_icmp_le (off := 5) (by decide +kernel) (by decide +kernel)) <|
  rg_fc (rg_okK _ (rg_ok_iconst (n := 0) (by decide +kernel) (by decide +kernel))) <|
  rg_fc (rg_ok_zreturn (by decide +kernel) rfl) <|
  rg_fc (rg_ok_aload_n (j := 0) (by decide +kernel) rfl) <|
  rg_fc (rg_ok_sipush (n := 391) (by decide +kernel) (by decide +kernel)) <|
  rg_fc (rg_ok_sipush (n := 160) (by decide +kernel) (by decide +kernel)) <|
  rg_fc (rg_ok_iload_n (j := 1) (by decide +kernel) rfl) <|
  fun _ h => absurd h List.not_mem_nil
def rg_c87_2 : List (Nat × rg_S) := [(104, rg_s2i (fun x y => x + y)), (105, rg_sil 2 1), (106, rg_s2i (fun x y => x + y)), (107, rg_scV 69 2 0 7), (110, rg_sal 0 1), (111, rg_sic 392 3), (114, rg_sic 160 3), (117, rg_sil 1 1), (118, rg_s2i (fun x y => x + y)), (119, rg_sic 40 2), (121, rg_s2i (fun x y => x + y)), (122, rg_sil 2 1), (123, rg_s2i (fun x y => x + y)), (124, rg_scV 69 2 0 7), (127, rg_sic 1 1), (128, rg_rz)]
theorem rg_o87_2 : ∀ q ∈ rg_c87_2, rg_Ok 87 q.1 q.2 :=
  rg_fc (rg_ok_iadd (by decide +kernel)) <|
  rg_fc (rg_ok_iload_n (j := 2) (by decide +kernel) rfl) <|
  rg_fc (rg_ok_iadd (by decide +kernel)) <|
  rg_fc (rg_ok_callV (idx := 46) rg_cok7 (by decide +kernel) (by decide +kernel) rg_wm_M_46 rg_wj_69 rg_ws_69 rg_wz_7 rg_wd_69 ⟨by decide +kernel, by decide +kernel, by decide +kernel, by decide +kernel⟩ (by decide +kernel) (by decide +kernel)) <|
  rg_fc (rg_ok_aload_n (j := 0) (by decide +kernel) rfl) <|
  rg_fc (rg_ok_sipush (n := 392) (by decide +kernel) (by decide +kernel)) <|
  rg_fc (rg_ok_sipush (n := 160) (by decide +kernel) (by decide +kernel)) <|
  rg_fc (rg_ok_iload_n (j := 1) (by decide +kernel) rfl) <|
  rg_fc (rg_ok_iadd (by decide +kernel)) <|
  rg_fc (rg_ok_bipush (n := 40) (by decide +kernel) (by decide +kernel)) <|
  rg_fc (rg_ok_iadd (by decide +kernel)) <|
  rg_fc (rg_ok_iload_n (j := 2) (by decide +kernel) rfl) <|
  rg_fc (rg_ok_iadd (by decide +kernel)) <|
  rg_fc (rg_ok_callV (idx := 46) rg_cok7 (by decide +kernel) (by decide +kernel) rg_wm_M_46 rg_wj_69 rg_ws_69 rg_wz_7 rg_wd_69 ⟨by decide +kernel, by decide +kernel, by decide +kernel, by decide +kernel⟩ (by decide +kernel) (by decide +kernel)) <|
  rg_fc (rg_ok_iconst (n := 1) (by decide +kernel) (by decide +kernel)) <|
  rg_fc (rg_ok_zreturn (by decide +kernel) rfl) <|
  fun _ h => absurd h List.not_mem_nil
def rg_kd87 : List (List (Nat × rg_S)) := [rg_c87_0, rg_c87_1, rg_c87_2]
theorem rg_o87 : ∀ pc f, rg_lk2 rg_kd87 pc = some f → rg_Ok 87 pc f := rg_lk2_ok (rg_fd rg_o87_0 (rg_fd rg_o87_1 (rg_fd rg_o87_2 (fun _ h => absurd h List.not_mem_nil))))
def rg_c88_0 : List (Nat × rg_S) := [(0, rg_sic 1 1), (1, rg_sis 2 1), (2, rg_sic 0 1), (3, rg_sis 3 1), (4, rg_sK [true, true, true, true] (rg_sil 3 1)), (5, rg_sal 0 1), (6, rg_sil 1 1), (7, rg_scV 67 1 1 7), (10, rg_skge 71), (13, rg_sil 2 1), (14, rg_sjeq 71), (17, rg_sal 0 1), (18, rg_sic 320 3), (21, rg_sal 0 1), (22, rg_sil 1 1), (23, rg_sil 3 1), (24, rg_scV 68 2 1 7), (27, rg_s2i (fun x y => x + y)), (28, rg_sic 395 3), (31, rg_sic 407 3), (34, rg_scV 71 3 0 7), (37, rg_sal 0 1), (38, rg_sic 360 3), (41, rg_sil 1 1), (42, rg_s2i (fun x y => x + y))]
theorem rg_o88_0 : ∀ q ∈ rg_c88_0, rg_Ok 88 q.1 q.2 :=
  rg_fc (rg_ok_iconst (n := 1) (by decide +kernel) (by decide +kernel)) <|
  rg_fc (rg_ok_istore_n (j := 2) (by decide +kernel) rfl (by decide +kernel)) <|
  rg_fc (rg_ok_iconst (n := 0) (by decide +kernel) (by decide +kernel)) <|
  rg_fc (rg_ok_istore_n (j := 3) (by decide +kernel) rfl (by decide +kernel)) <|
  rg_fc (rg_okK _ (rg_ok_iload_n (j := 3) (by decide +kernel) rfl)) <|
  rg_fc (rg_ok_aload_n (j := 0) (by decide +kernel) rfl) <|
  rg_fc (rg_ok_iload_n (j := 1) (by decide +kernel) rfl) <|
  rg_fc (rg_ok_callV (idx := 107) rg_cok7 (by decide +kernel) (by decide +kernel) rg_wm_M_107 rg_wj_67 rg_ws_67 rg_wz_7 rg_wd_67 ⟨by decide +kernel, by decide +kernel, by decide +kernel, by decide +kernel⟩ (by decide +kernel) (by decide +kernel)) <|
  rg_fc (rg_ok_icmp_ge (off := 61) (by decide +kernel) (by decide +kernel)) <|
  rg_fc (rg_ok_iload_n (j := 2) (by decide +kernel) rfl) <|
  rg_fc (rg_ok_if_eq (off := 57) (by decide +kernel) (by decide +kernel)) <|
  rg_fc (rg_ok_aload_n (j := 0) (by decide +kernel) rfl) <|
  rg_fc (rg_ok_sipush (n := 320) (by decide +kernel) (by decide +kernel)) <|
  rg_fc (rg_ok_aload_n (j := 0) (by decide +kernel) rfl) <|
  rg_fc (rg_ok_iload_n (j := 1) (by decide +kernel) rfl) <|
  rg_fc (rg_ok_iload_n (j := 3) (by decide +kernel) rfl) <|
  rg_fc (rg_ok_callV (idx := 110) rg_cok7 (by decide +kernel) (by decide +kernel) rg_wm_M_110 rg_wj_68 rg_ws_68 rg_wz_7 rg_wd_68 ⟨by decide +kernel, by decide +kernel, by decide +kernel, by decide +kernel⟩ (by decide +kernel) (by decide +kernel)) <|
  rg_fc (rg_ok_iadd (by decide +kernel)) <|
  rg_fc (rg_ok_sipush (n := 395) (by decide +kernel) (by decide +kernel)) <|
  rg_fc (rg_ok_sipush (n := 407) (by decide +kernel) (by decide +kernel)) <|
  rg_fc (rg_ok_callV (idx := 64) rg_cok7 (by decide +kernel) (by decide +kernel) rg_wm_M_64 rg_wj_71 rg_ws_71 rg_wz_7 rg_wd_71 ⟨by decide +kernel, by decide +kernel, by decide +kernel, by decide +kernel⟩ (by decide +kernel) (by decide +kernel)) <|
  rg_fc (rg_ok_aload_n (j := 0) (by decide +kernel) rfl) <|
  rg_fc (rg_ok_sipush (n := 360) (by decide +kernel) (by decide +kernel)) <|
  rg_fc (rg_ok_iload_n (j := 1) (by decide +kernel) rfl) <|
  rg_fc (rg_ok_iadd (by decide +kernel)) <|
  fun _ h => absurd h List.not_mem_nil
def rg_c88_1 : List (Nat × rg_S) := [(43, rg_sic 396 3), (46, rg_sic 408 3), (49, rg_scV 71 3 0 7), (52, rg_sal 0 1), (53, rg_sic 80 2), (55, rg_sal 0 1), (56, rg_sil 1 1), (57, rg_sil 3 1), (58, rg_scV 68 2 1 7), (61, rg_scV 87 2 1 7), (64, rg_sis 2 1), (65, rg_sin 3 1), (68, rg_sgo 4), (71, rg_sK [false, false, true, false] (rg_sil 2 1)), (72, rg_rz)]
theorem rg_o88_1 : ∀ q ∈ rg_c88_1, rg_Ok 88 q.1 q.2 :=
  rg_fc (rg_ok_sipush (n := 396) (by decide +kernel) (by decide +kernel)) <|
  rg_fc (rg_ok_sipush (n := 408) (by decide +kernel) (by decide +kernel)) <|
  rg_fc (rg_ok_callV (idx := 64) rg_cok7 (by decide +kernel) (by decide +kernel) rg_wm_M_64 rg_wj_71 rg_ws_71 rg_wz_7 rg_wd_71 ⟨by decide +kernel, by decide +kernel, by decide +kernel, by decide +kernel⟩ (by decide +kernel) (by decide +kernel)) <|
  rg_fc (rg_ok_aload_n (j := 0) (by decide +kernel) rfl) <|
  rg_fc (rg_ok_bipush (n := 80) (by decide +kernel) (by decide +kernel)) <|
  rg_fc (rg_ok_aload_n (j := 0) (by decide +kernel) rfl) <|
  rg_fc (rg_ok_iload_n (j := 1) (by decide +kernel) rfl) <|
  rg_fc (rg_ok_iload_n (j := 3) (by decide +kernel) rfl) <|
  rg_fc (rg_ok_callV (idx := 110) rg_cok7 (by decide +kernel) (by decide +kernel) rg_wm_M_110 rg_wj_68 rg_ws_68 rg_wz_7 rg_wd_68 ⟨by decide +kernel, by decide +kernel, by decide +kernel, by decide +kernel⟩ (by decide +kernel) (by decide +kernel)) <|
  rg_fc (rg_ok_callV (idx := 122) rg_cok7 (by decide +kernel) (by decide +kernel) rg_wm_M_122 rg_wj_87 rg_ws_87 rg_wz_7 rg_wd_87 ⟨by decide +kernel, by decide +kernel, by decide +kernel, by decide +kernel⟩ (by decide +kernel) (by decide +kernel)) <|
  rg_fc (rg_ok_istore_n (j := 2) (by decide +kernel) rfl (by decide +kernel)) <|
  rg_fc (rg_ok_iinc (n := 1) (by decide +kernel) (by decide +kernel) (by decide +kernel)) <|
  rg_fc (rg_ok_goto (off := (-64)) (by decide +kernel) (by decide +kernel)) <|
  rg_fc (rg_okK _ (rg_ok_iload_n (j := 2) (by decide +kernel) rfl)) <|
  rg_fc (rg_ok_zreturn (by decide +kernel) rfl) <|
  fun _ h => absurd h List.not_mem_nil
def rg_kd88 : List (List (Nat × rg_S)) := [rg_c88_0, rg_c88_1]
theorem rg_o88 : ∀ pc f, rg_lk2 rg_kd88 pc = some f → rg_Ok 88 pc f := rg_lk2_ok (rg_fd rg_o88_0 (rg_fd rg_o88_1 (fun _ h => absurd h List.not_mem_nil)))
def rg_c89_0 : List (Nat × rg_S) := [(0, rg_sal 0 1), (1, rg_sil 1 1), (2, rg_sic 0 1), (3, rg_scV 81 2 0 7), (6, rg_sal 0 1), (7, rg_sic 409 3), (10, rg_slc 0 1), (11, rg_scV 11 2 0 7), (14, rg_sic 0 1), (15, rg_sis 3 1), (16, rg_sK [true, true, true, true, false] (rg_sil 3 1)), (17, rg_sal 0 1), (18, rg_sil 1 1), (19, rg_scV 67 1 1 7), (22, rg_skge 76), (25, rg_sal 0 1), (26, rg_sic 320 3), (29, rg_sal 0 1), (30, rg_sil 1 1), (31, rg_sil 3 1), (32, rg_scV 68 2 1 7), (35, rg_s2i (fun x y => x + y)), (36, rg_sic 410 3), (39, rg_scV 69 2 0 7), (42, rg_sal 0 1)]
theorem rg_o89_0 : ∀ q ∈ rg_c89_0, rg_Ok 89 q.1 q.2 :=
  rg_fc (rg_ok_aload_n (j := 0) (by decide +kernel) rfl) <|
  rg_fc (rg_ok_iload_n (j := 1) (by decide +kernel) rfl) <|
  rg_fc (rg_ok_iconst (n := 0) (by decide +kernel) (by decide +kernel)) <|
  rg_fc (rg_ok_callV (idx := 126) rg_cok7 (by decide +kernel) (by decide +kernel) rg_wm_M_126 rg_wj_81 rg_ws_81 rg_wz_7 rg_wd_81 ⟨by decide +kernel, by decide +kernel, by decide +kernel, by decide +kernel⟩ (by decide +kernel) (by decide +kernel)) <|
  rg_fc (rg_ok_aload_n (j := 0) (by decide +kernel) rfl) <|
  rg_fc (rg_ok_sipush (n := 409) (by decide +kernel) (by decide +kernel)) <|
  rg_fc (rg_ok_lconst (n := 0) (by decide +kernel) (by decide +kernel)) <|
  rg_fc (rg_ok_callV (idx := 27) rg_cok7 (by decide +kernel) (by decide +kernel) rg_wm_M_27 rg_wj_11 rg_ws_11 rg_wz_7 rg_wd_11 ⟨by decide +kernel, by decide +kernel, by decide +kernel, by decide +kernel⟩ (by decide +kernel) (by decide +kernel)) <|
  rg_fc (rg_ok_iconst (n := 0) (by decide +kernel) (by decide +kernel)) <|
  rg_fc (rg_ok_istore_n (j := 3) (by decide +kernel) rfl (by decide +kernel)) <|
  rg_fc (rg_okK _ (rg_ok_iload_n (j := 3) (by decide +kernel) rfl)) <|
  rg_fc (rg_ok_aload_n (j := 0) (by decide +kernel) rfl) <|
  rg_fc (rg_ok_iload_n (j := 1) (by decide +kernel) rfl) <|
  rg_fc (rg_ok_callV (idx := 107) rg_cok7 (by decide +kernel) (by decide +kernel) rg_wm_M_107 rg_wj_67 rg_ws_67 rg_wz_7 rg_wd_67 ⟨by decide +kernel, by decide +kernel, by decide +kernel, by decide +kernel⟩ (by decide +kernel) (by decide +kernel)) <|
  rg_fc (rg_ok_icmp_ge (off := 54) (by decide +kernel) (by decide +kernel)) <|
  rg_fc (rg_ok_aload_n (j := 0) (by decide +kernel) rfl) <|
  rg_fc (rg_ok_sipush (n := 320) (by decide +kernel) (by decide +kernel)) <|
  rg_fc (rg_ok_aload_n (j := 0) (by decide +kernel) rfl) <|
  rg_fc (rg_ok_iload_n (j := 1) (by decide +kernel) rfl) <|
  rg_fc (rg_ok_iload_n (j := 3) (by decide +kernel) rfl) <|
  rg_fc (rg_ok_callV (idx := 110) rg_cok7 (by decide +kernel) (by decide +kernel) rg_wm_M_110 rg_wj_68 rg_ws_68 rg_wz_7 rg_wd_68 ⟨by decide +kernel, by decide +kernel, by decide +kernel, by decide +kernel⟩ (by decide +kernel) (by decide +kernel)) <|
  rg_fc (rg_ok_iadd (by decide +kernel)) <|
  rg_fc (rg_ok_sipush (n := 410) (by decide +kernel) (by decide +kernel)) <|
  rg_fc (rg_ok_callV (idx := 46) rg_cok7 (by decide +kernel) (by decide +kernel) rg_wm_M_46 rg_wj_69 rg_ws_69 rg_wz_7 rg_wd_69 ⟨by decide +kernel, by decide +kernel, by decide +kernel, by decide +kernel⟩ (by decide +kernel) (by decide +kernel)) <|
  rg_fc (rg_ok_aload_n (j := 0) (by decide +kernel) rfl) <|
  fun _ h => absurd h List.not_mem_nil
def rg_c89_1 : List (Nat × rg_S) := [(43, rg_sic 410 3), (46, rg_sal 0 1), (47, rg_sil 1 1), (48, rg_sil 3 1), (49, rg_sil 2 1), (50, rg_scV 82 3 1 7), (53, rg_si2l), (54, rg_scV 83 2 0 7), (57, rg_sal 0 1), (58, rg_sic 409 3), (61, rg_sic 410 3), (64, rg_sic 409 3), (67, rg_scV 78 3 0 7), (70, rg_sin 3 1), (73, rg_sgo 16), (76, rg_sic 1 1), (77, rg_sis 3 1), (78, rg_sic 0 1), (79, rg_sis 4 2), (81, rg_sK [true, true, true, true, true] (rg_sil 4 2)), (83, rg_sal 0 1), (84, rg_sil 1 1), (85, rg_scV 67 1 1 7), (88, rg_skge 167), (91, rg_sil 3 1)]
theorem rg_o89_1 : ∀ q ∈ rg_c89_1, rg_Ok 89 q.1 q.2 :=
  rg_fc (rg_ok_sipush (n := 410) (by decide +kernel) (by decide +kernel)) <|
  rg_fc (rg_ok_aload_n (j := 0) (by decide +kernel) rfl) <|
  rg_fc (rg_ok_iload_n (j := 1) (by decide +kernel) rfl) <|
  rg_fc (rg_ok_iload_n (j := 3) (by decide +kernel) rfl) <|
  rg_fc (rg_ok_iload_n (j := 2) (by decide +kernel) rfl) <|
  rg_fc (rg_ok_callV (idx := 129) rg_cok7 (by decide +kernel) (by decide +kernel) rg_wm_M_129 rg_wj_82 rg_ws_82 rg_wz_7 rg_wd_82 ⟨by decide +kernel, by decide +kernel, by decide +kernel, by decide +kernel⟩ (by decide +kernel) (by decide +kernel)) <|
  rg_fc (rg_ok_i2l (by decide +kernel)) <|
  rg_fc (rg_ok_callV (idx := 133) rg_cok7 (by decide +kernel) (by decide +kernel) rg_wm_M_133 rg_wj_83 rg_ws_83 rg_wz_7 rg_wd_83 ⟨by decide +kernel, by decide +kernel, by decide +kernel, by decide +kernel⟩ (by decide +kernel) (by decide +kernel)) <|
  rg_fc (rg_ok_aload_n (j := 0) (by decide +kernel) rfl) <|
  rg_fc (rg_ok_sipush (n := 409) (by decide +kernel) (by decide +kernel)) <|
  rg_fc (rg_ok_sipush (n := 410) (by decide +kernel) (by decide +kernel)) <|
  rg_fc (rg_ok_sipush (n := 409) (by decide +kernel) (by decide +kernel)) <|
  rg_fc (rg_ok_callV (idx := 61) rg_cok7 (by decide +kernel) (by decide +kernel) rg_wm_M_61 rg_wj_78 rg_ws_78 rg_wz_7 rg_wd_78 ⟨by decide +kernel, by decide +kernel, by decide +kernel, by decide +kernel⟩ (by decide +kernel) (by decide +kernel)) <|
  rg_fc (rg_ok_iinc (n := 1) (by decide +kernel) (by decide +kernel) (by decide +kernel)) <|
  rg_fc (rg_ok_goto (off := (-57)) (by decide +kernel) (by decide +kernel)) <|
  rg_fc (rg_ok_iconst (n := 1) (by decide +kernel) (by decide +kernel)) <|
  rg_fc (rg_ok_istore_n (j := 3) (by decide +kernel) rfl (by decide +kernel)) <|
  rg_fc (rg_ok_iconst (n := 0) (by decide +kernel) (by decide +kernel)) <|
  rg_fc (rg_ok_istore (i := 4) (by decide +kernel) (by decide +kernel)) <|
  rg_fc (rg_okK _ (rg_ok_iload (i := 4) (by decide +kernel))) <|
  rg_fc (rg_ok_aload_n (j := 0) (by decide +kernel) rfl) <|
  rg_fc (rg_ok_iload_n (j := 1) (by decide +kernel) rfl) <|
  rg_fc (rg_ok_callV (idx := 107) rg_cok7 (by decide +kernel) (by decide +kernel) rg_wm_M_107 rg_wj_67 rg_ws_67 rg_wz_7 rg_wd_67 ⟨by decide +kernel, by decide +kernel, by decide +kernel, by decide +kernel⟩ (by decide +kernel) (by decide +kernel)) <|
  rg_fc (rg_ok_icmp_ge (off := 79) (by decide +kernel) (by decide +kernel)) <|
  rg_fc (rg_ok_iload_n (j := 3) (by decide +kernel) rfl) <|
  fun _ h => absurd h List.not_mem_nil
def rg_c89_2 : List (Nat × rg_S) := [(92, rg_sjeq 167), (95, rg_sal 0 1), (96, rg_sic 360 3), (99, rg_sil 1 1), (100, rg_s2i (fun x y => x + y)), (101, rg_sic 410 3), (104, rg_scV 69 2 0 7), (107, rg_sal 0 1), (108, rg_sic 410 3), (111, rg_sal 0 1), (112, rg_sil 1 1), (113, rg_sil 4 2), (115, rg_sil 2 1), (116, rg_scV 82 3 1 7), (119, rg_si2l), (120, rg_scV 83 2 0 7), (123, rg_sal 0 1), (124, rg_sic 410 3), (127, rg_sic 409 3), (130, rg_sic 407 3), (133, rg_scV 84 3 0 7), (136, rg_sal 0 1), (137, rg_sic 360 3), (140, rg_sil 1 1), (141, rg_s2i (fun x y => x + y))]
theorem rg_o89_2 : ∀ q ∈ rg_c89_2, rg_Ok 89 q.1 q.2 :=
  rg_fc (rg_ok_if_eq (off := 75) (by decide +kernel) (by decide +kernel)) <|
  rg_fc (rg_ok_aload_n (j := 0) (by decide +kernel) rfl) <|
  rg_fc (rg_ok_sipush (n := 360) (by decide +kernel) (by decide +kernel)) <|
  rg_fc (rg_ok_iload_n (j := 1) (by decide +kernel) rfl) <|
  rg_fc (rg_ok_iadd (by decide +kernel)) <|
  rg_fc (rg_ok_sipush (n := 410) (by decide +kernel) (by decide +kernel)) <|
  rg_fc (rg_ok_callV (idx := 46) rg_cok7 (by decide +kernel) (by decide +kernel) rg_wm_M_46 rg_wj_69 rg_ws_69 rg_wz_7 rg_wd_69 ⟨by decide +kernel, by decide +kernel, by decide +kernel, by decide +kernel⟩ (by decide +kernel) (by decide +kernel)) <|
  rg_fc (rg_ok_aload_n (j := 0) (by decide +kernel) rfl) <|
  rg_fc (rg_ok_sipush (n := 410) (by decide +kernel) (by decide +kernel)) <|
  rg_fc (rg_ok_aload_n (j := 0) (by decide +kernel) rfl) <|
  rg_fc (rg_ok_iload_n (j := 1) (by decide +kernel) rfl) <|
  rg_fc (rg_ok_iload (i := 4) (by decide +kernel)) <|
  rg_fc (rg_ok_iload_n (j := 2) (by decide +kernel) rfl) <|
  rg_fc (rg_ok_callV (idx := 129) rg_cok7 (by decide +kernel) (by decide +kernel) rg_wm_M_129 rg_wj_82 rg_ws_82 rg_wz_7 rg_wd_82 ⟨by decide +kernel, by decide +kernel, by decide +kernel, by decide +kernel⟩ (by decide +kernel) (by decide +kernel)) <|
  rg_fc (rg_ok_i2l (by decide +kernel)) <|
  rg_fc (rg_ok_callV (idx := 133) rg_cok7 (by decide +kernel) (by decide +kernel) rg_wm_M_133 rg_wj_83 rg_ws_83 rg_wz_7 rg_wd_83 ⟨by decide +kernel, by decide +kernel, by decide +kernel, by decide +kernel⟩ (by decide +kernel) (by decide +kernel)) <|
  rg_fc (rg_ok_aload_n (j := 0) (by decide +kernel) rfl) <|
  rg_fc (rg_ok_sipush (n := 410) (by decide +kernel) (by decide +kernel)) <|
  rg_fc (rg_ok_sipush (n := 409) (by decide +kernel) (by decide +kernel)) <|
  rg_fc (rg_ok_sipush (n := 407) (by decide +kernel) (by decide +kernel)) <|
  rg_fc (rg_ok_callV (idx := 136) rg_cok7 (by decide +kernel) (by decide +kernel) rg_wm_M_136 rg_wj_84 rg_ws_84 rg_wz_7 rg_wd_84 ⟨by decide +kernel, by decide +kernel, by decide +kernel, by decide +kernel⟩ (by decide +kernel) (by decide +kernel)) <|
  rg_fc (rg_ok_aload_n (j := 0) (by decide +kernel) rfl) <|
  rg_fc (rg_ok_sipush (n := 360) (by decide +kernel) (by decide +kernel)) <|
  rg_fc (rg_ok_iload_n (j := 1) (by decide +kernel) rfl) <|
  rg_fc (rg_ok_iadd (by decide +kernel)) <|
  fun _ h => absurd h List.not_mem_nil
def rg_c89_3 : List (Nat × rg_S) := [(142, rg_sic 408 3), (145, rg_scV 69 2 0 7), (148, rg_sal 0 1), (149, rg_sic 0 1), (150, rg_sal 0 1), (151, rg_sil 1 1), (152, rg_sil 4 2), (154, rg_scV 68 2 1 7), (157, rg_scV 87 2 1 7), (160, rg_sis 3 1), (161, rg_sin 4 1), (164, rg_sgo 81), (167, rg_sK [true, true, false, true, false] (rg_sal 0 1)), (168, rg_sic 395 3), (171, rg_slc 1 1), (172, rg_scV 11 2 0 7), (175, rg_sal 0 1), (176, rg_sic 396 3), (179, rg_slc 1 1), (180, rg_scV 11 2 0 7), (183, rg_sil 3 1), (184, rg_sjeq 199), (187, rg_sal 0 1), (188, rg_sil 1 1), (189, rg_scV 88 1 1 7)]
theorem rg_o89_3 : ∀ q ∈ rg_c89_3, rg_Ok 89 q.1 q.2 :=
  rg_fc (rg_ok_sipush (n := 408) (by decide +kernel) (by decide +kernel)) <|
  rg_fc (rg_ok_callV (idx := 46) rg_cok7 (by decide +kernel) (by decide +kernel) rg_wm_M_46 rg_wj_69 rg_ws_69 rg_wz_7 rg_wd_69 ⟨by decide +kernel, by decide +kernel, by decide +kernel, by decide +kernel⟩ (by decide +kernel) (by decide +kernel)) <|
  rg_fc (rg_ok_aload_n (j := 0) (by decide +kernel) rfl) <|
  rg_fc (rg_ok_iconst (n := 0) (by decide +kernel) (by decide +kernel)) <|
  rg_fc (rg_ok_aload_n (j := 0) (by decide +kernel) rfl) <|
  rg_fc (rg_ok_iload_n (j := 1) (by decide +kernel) rfl) <|
  rg_fc (rg_ok_iload (i := 4) (by decide +kernel)) <|
  rg_fc (rg_ok_callV (idx := 110) rg_cok7 (by decide +kernel) (by decide +kernel) rg_wm_M_110 rg_wj_68 rg_ws_68 rg_wz_7 rg_wd_68 ⟨by decide +kernel, by decide +kernel, by decide +kernel, by decide +kernel⟩ (by decide +kernel) (by decide +kernel)) <|
  rg_fc (rg_ok_callV (idx := 122) rg_cok7 (by decide +kernel) (by decide +kernel) rg_wm_M_122 rg_wj_87 rg_ws_87 rg_wz_7 rg_wd_87 ⟨by decide +kernel, by decide +kernel, by decide +kernel, by decide +kernel⟩ (by decide +kernel) (by decide +kernel)) <|
  rg_fc (rg_ok_istore_n (j := 3) (by decide +kernel) rfl (by decide +kernel)) <|
  rg_fc (rg_ok_iinc (n := 1) (by decide +kernel) (by decide +kernel) (by decide +kernel)) <|
  rg_fc (rg_ok_goto (off := (-83)) (by decide +kernel) (by decide +kernel)) <|
  rg_fc (rg_okK _ (rg_ok_aload_n (j := 0) (by decide +kernel) rfl)) <|
  rg_fc (rg_ok_sipush (n := 395) (by decide +kernel) (by decide +kernel)) <|
  rg_fc (rg_ok_lconst (n := 1) (by decide +kernel) (by decide +kernel)) <|
  rg_fc (rg_ok_callV (idx := 27) rg_cok7 (by decide +kernel) (by decide +kernel) rg_wm_M_27 rg_wj_11 rg_ws_11 rg_wz_7 rg_wd_11 ⟨by decide +kernel, by decide +kernel, by decide +kernel, by decide +kernel⟩ (by decide +kernel) (by decide +kernel)) <|
  rg_fc (rg_ok_aload_n (j := 0) (by decide +kernel) rfl) <|
  rg_fc (rg_ok_sipush (n := 396) (by decide +kernel) (by decide +kernel)) <|
  rg_fc (rg_ok_lconst (n := 1) (by decide +kernel) (by decide +kernel)) <|
  rg_fc (rg_ok_callV (idx := 27) rg_cok7 (by decide +kernel) (by decide +kernel) rg_wm_M_27 rg_wj_11 rg_ws_11 rg_wz_7 rg_wd_11 ⟨by decide +kernel, by decide +kernel, by decide +kernel, by decide +kernel⟩ (by decide +kernel) (by decide +kernel)) <|
  rg_fc (rg_ok_iload_n (j := 3) (by decide +kernel) rfl) <|
  rg_fc (rg_ok_if_eq (off := 15) (by decide +kernel) (by decide +kernel)) <|
  rg_fc (rg_ok_aload_n (j := 0) (by decide +kernel) rfl) <|
  rg_fc (rg_ok_iload_n (j := 1) (by decide +kernel) rfl) <|
  rg_fc (rg_ok_callV (idx := 139) rg_cok7 (by decide +kernel) (by decide +kernel) rg_wm_M_139 rg_wj_88 rg_ws_88 rg_wz_7 rg_wd_88 ⟨by decide +kernel, by decide +kernel, by decide +kernel, by decide +kernel⟩ (by decide +kernel) (by decide +kernel)) <|
  fun _ h => absurd h List.not_mem_nil
def rg_c89_4 : List (Nat × rg_S) := [(192, rg_sjeq 199), (195, rg_sic 1 1), (196, rg_sgo 200), (199, rg_sK [false, false, false, false, false] (rg_sic 0 1)), (200, rg_sK [false, false, false, false, false] (rg_rz))]
theorem rg_o89_4 : ∀ q ∈ rg_c89_4, rg_Ok 89 q.1 q.2 :=
  rg_fc (rg_ok_if_eq (off := 7) (by decide +kernel) (by decide +kernel)) <|
  rg_fc (rg_ok_iconst (n := 1) (by decide +kernel) (by decide +kernel)) <|
  rg_fc (rg_ok_goto (off := 4) (by decide +kernel) (by decide +kernel)) <|
  rg_fc (rg_okK _ (rg_ok_iconst (n := 0) (by decide +kernel) (by decide +kernel))) <|
  rg_fc (rg_okK _ (rg_ok_zreturn (by decide +kernel) rfl)) <|
  fun _ h => absurd h List.not_mem_nil
def rg_kd89 : List (List (Nat × rg_S)) := [rg_c89_0, rg_c89_1, rg_c89_2, rg_c89_3, rg_c89_4]
theorem rg_o89 : ∀ pc f, rg_lk2 rg_kd89 pc = some f → rg_Ok 89 pc f := rg_lk2_ok (rg_fd rg_o89_0 (rg_fd rg_o89_1 (rg_fd rg_o89_2 (rg_fd rg_o89_3 (rg_fd rg_o89_4 (fun _ h => absurd h List.not_mem_nil))))))
def rg_c90_0 : List (Nat × rg_S) := [(0, rg_sic 0 1), (1, rg_sis 2 1), (2, rg_sK [true, true, true, false] (rg_sil 2 1)), (3, rg_sal 0 1), (4, rg_sil 1 1), (5, rg_scV 67 1 1 7), (8, rg_skge 75), (11, rg_sal 0 1), (12, rg_sil 1 1), (13, rg_sil 2 1), (14, rg_scV 68 2 1 7), (17, rg_sis 3 1), (18, rg_sal 0 1), (19, rg_sic 160 3), (22, rg_sil 3 1), (23, rg_s2i (fun x y => x + y)), (24, rg_sic 0 1), (25, rg_sil 3 1), (26, rg_s2i (fun x y => x + y)), (27, rg_scV 69 2 0 7), (30, rg_sal 0 1), (31, rg_sic 200 3), (34, rg_sil 3 1), (35, rg_s2i (fun x y => x + y)), (36, rg_sic 40 2)]
theorem rg_o90_0 : ∀ q ∈ rg_c90_0, rg_Ok 90 q.1 q.2 :=
  rg_fc (rg_ok_iconst (n := 0) (by decide +kernel) (by decide +kernel)) <|
  rg_fc (rg_ok_istore_n (j := 2) (by decide +kernel) rfl (by decide +kernel)) <|
  rg_fc (rg_okK _ (rg_ok_iload_n (j := 2) (by decide +kernel) rfl)) <|
  rg_fc (rg_ok_aload_n (j := 0) (by decide +kernel) rfl) <|
  rg_fc (rg_ok_iload_n (j := 1) (by decide +kernel) rfl) <|
  rg_fc (rg_ok_callV (idx := 107) rg_cok7 (by decide +kernel) (by decide +kernel) rg_wm_M_107 rg_wj_67 rg_ws_67 rg_wz_7 rg_wd_67 ⟨by decide +kernel, by decide +kernel, by decide +kernel, by decide +kernel⟩ (by decide +kernel) (by decide +kernel)) <|
  rg_fc (rg_ok_icmp_ge (off := 67) (by decide +kernel) (by decide +kernel)) <|
  rg_fc (rg_ok_aload_n (j := 0) (by decide +kernel) rfl) <|
  rg_fc (rg_ok_iload_n (j := 1) (by decide +kernel) rfl) <|
  rg_fc (rg_ok_iload_n (j := 2) (by decide +kernel) rfl) <|
  rg_fc (rg_ok_callV (idx := 110) rg_cok7 (by decide +kernel) (by decide +kernel) rg_wm_M_110 rg_wj_68 rg_ws_68 rg_wz_7 rg_wd_68 ⟨by decide +kernel, by decide +kernel, by decide +kernel, by decide +kernel⟩ (by decide +kernel) (by decide +kernel)) <|
  rg_fc (rg_ok_istore_n (j := 3) (by decide +kernel) rfl (by decide +kernel)) <|
  rg_fc (rg_ok_aload_n (j := 0) (by decide +kernel) rfl) <|
  rg_fc (rg_ok_sipush (n := 160) (by decide +kernel) (by decide +kernel)) <|
  rg_fc (rg_ok_iload_n (j := 3) (by decide +kernel) rfl) <|
  rg_fc (rg_ok_iadd (by decide +kernel)) <|
  rg_fc (rg_ok_iconst (n := 0) (by decide +kernel) (by decide +kernel)) <|
  rg_fc (rg_ok_iload_n (j := 3) (by decide +kernel) rfl) <|
  rg_fc (rg_ok_iadd (by decide +kernel)) <|
  rg_fc (rg_ok_callV (idx := 46) rg_cok7 (by decide +kernel) (by decide +kernel) rg_wm_M_46 rg_wj_69 rg_ws_69 rg_wz_7 rg_wd_69 ⟨by decide +kernel, by decide +kernel, by decide +kernel, by decide +kernel⟩ (by decide +kernel) (by decide +kernel)) <|
  rg_fc (rg_ok_aload_n (j := 0) (by decide +kernel) rfl) <|
  rg_fc (rg_ok_sipush (n := 200) (by decide +kernel) (by decide +kernel)) <|
  rg_fc (rg_ok_iload_n (j := 3) (by decide +kernel) rfl) <|
  rg_fc (rg_ok_iadd (by decide +kernel)) <|
  rg_fc (rg_ok_bipush (n := 40) (by decide +kernel) (by decide +kernel)) <|
  fun _ h => absurd h List.not_mem_nil
def rg_c90_1 : List (Nat × rg_S) := [(38, rg_sil 3 1), (39, rg_s2i (fun x y => x + y)), (40, rg_scV 69 2 0 7), (43, rg_sal 0 1), (44, rg_sic 240 3), (47, rg_sil 3 1), (48, rg_s2i (fun x y => x + y)), (49, rg_sic 80 2), (51, rg_sil 3 1), (52, rg_s2i (fun x y => x + y)), (53, rg_scV 69 2 0 7), (56, rg_sal 0 1), (57, rg_sic 280 3), (60, rg_sil 3 1), (61, rg_s2i (fun x y => x + y)), (62, rg_sic 120 2), (64, rg_sil 3 1), (65, rg_s2i (fun x y => x + y)), (66, rg_scV 69 2 0 7), (69, rg_sin 2 1), (72, rg_sgo 2), (75, rg_rv)]
theorem rg_o90_1 : ∀ q ∈ rg_c90_1, rg_Ok 90 q.1 q.2 :=
  rg_fc (rg_ok_iload_n (j := 3) (by decide +kernel) rfl) <|
  rg_fc (rg_ok_iadd (by decide +kernel)) <|
  rg_fc (rg_ok_callV (idx := 46) rg_cok7 (by decide +kernel) (by decide +kernel) rg_wm_M_46 rg_wj_69 rg_ws_69 rg_wz_7 rg_wd_69 ⟨by decide +kernel, by decide +kernel, by decide +kernel, by decide +kernel⟩ (by decide +kernel) (by decide +kernel)) <|
  rg_fc (rg_ok_aload_n (j := 0) (by decide +kernel) rfl) <|
  rg_fc (rg_ok_sipush (n := 240) (by decide +kernel) (by decide +kernel)) <|
  rg_fc (rg_ok_iload_n (j := 3) (by decide +kernel) rfl) <|
  rg_fc (rg_ok_iadd (by decide +kernel)) <|
  rg_fc (rg_ok_bipush (n := 80) (by decide +kernel) (by decide +kernel)) <|
  rg_fc (rg_ok_iload_n (j := 3) (by decide +kernel) rfl) <|
  rg_fc (rg_ok_iadd (by decide +kernel)) <|
  rg_fc (rg_ok_callV (idx := 46) rg_cok7 (by decide +kernel) (by decide +kernel) rg_wm_M_46 rg_wj_69 rg_ws_69 rg_wz_7 rg_wd_69 ⟨by decide +kernel, by decide +kernel, by decide +kernel, by decide +kernel⟩ (by decide +kernel) (by decide +kernel)) <|
  rg_fc (rg_ok_aload_n (j := 0) (by decide +kernel) rfl) <|
  rg_fc (rg_ok_sipush (n := 280) (by decide +kernel) (by decide +kernel)) <|
  rg_fc (rg_ok_iload_n (j := 3) (by decide +kernel) rfl) <|
  rg_fc (rg_ok_iadd (by decide +kernel)) <|
  rg_fc (rg_ok_bipush (n := 120) (by decide +kernel) (by decide +kernel)) <|
  rg_fc (rg_ok_iload_n (j := 3) (by decide +kernel) rfl) <|
  rg_fc (rg_ok_iadd (by decide +kernel)) <|
  rg_fc (rg_ok_callV (idx := 46) rg_cok7 (by decide +kernel) (by decide +kernel) rg_wm_M_46 rg_wj_69 rg_ws_69 rg_wz_7 rg_wd_69 ⟨by decide +kernel, by decide +kernel, by decide +kernel, by decide +kernel⟩ (by decide +kernel) (by decide +kernel)) <|
  rg_fc (rg_ok_iinc (n := 1) (by decide +kernel) (by decide +kernel) (by decide +kernel)) <|
  rg_fc (rg_ok_goto (off := (-70)) (by decide +kernel) (by decide +kernel)) <|
  rg_fc (rg_ok_return (by decide +kernel) rfl) <|
  fun _ h => absurd h List.not_mem_nil
def rg_kd90 : List (List (Nat × rg_S)) := [rg_c90_0, rg_c90_1]
theorem rg_o90 : ∀ pc f, rg_lk2 rg_kd90 pc = some f → rg_Ok 90 pc f := rg_lk2_ok (rg_fd rg_o90_0 (rg_fd rg_o90_1 (fun _ h => absurd h List.not_mem_nil)))
def rg_c91_0 : List (Nat × rg_S) := [(0, rg_sal 0 1), (1, rg_sgr 7 11), (4, rg_sil 3 1), (5, rg_saz), (6, rg_sjeq 11), (9, rg_sic 0 1), (10, rg_rz), (11, rg_sal 0 1), (12, rg_sil 1 1), (13, rg_sil 2 1), (14, rg_scV 89 2 1 7), (17, rg_sjne 29), (20, rg_sal 0 1), (21, rg_sgr 7 11), (24, rg_sil 3 1), (25, rg_sic 1 1), (26, rg_swz), (27, rg_sic 0 1), (28, rg_rz), (29, rg_sal 0 1), (30, rg_sil 1 1), (31, rg_scV 90 1 0 7), (34, rg_sal 0 1), (35, rg_scV 19 0 0 7), (38, rg_sal 0 1)]
theorem rg_o91_0 : ∀ q ∈ rg_c91_0, rg_Ok 91 q.1 q.2 :=
  rg_fc (rg_ok_aload_n (j := 0) (by decide +kernel) rfl) <|
  rg_fc (rg_ok_getr (idx := 23) rg_cok7 (by decide +kernel) rfl (by decide +kernel) rg_wf_M_23) <|
  rg_fc (rg_ok_iload_n (j := 3) (by decide +kernel) rfl) <|
  rg_fc (rg_ok_baload (by decide +kernel)) <|
  rg_fc (rg_ok_if_eq (off := 5) (by decide +kernel) (by decide +kernel)) <|
  rg_fc (rg_ok_iconst (n := 0) (by decide +kernel) (by decide +kernel)) <|
  rg_fc (rg_ok_zreturn (by decide +kernel) rfl) <|
  rg_fc (rg_ok_aload_n (j := 0) (by decide +kernel) rfl) <|
  rg_fc (rg_ok_iload_n (j := 1) (by decide +kernel) rfl) <|
  rg_fc (rg_ok_iload_n (j := 2) (by decide +kernel) rfl) <|
  rg_fc (rg_ok_callV (idx := 143) rg_cok7 (by decide +kernel) (by decide +kernel) rg_wm_M_143 rg_wj_89 rg_ws_89 rg_wz_7 rg_wd_89 ⟨by decide +kernel, by decide +kernel, by decide +kernel, by decide +kernel⟩ (by decide +kernel) (by decide +kernel)) <|
  rg_fc (rg_ok_if_ne (off := 12) (by decide +kernel) (by decide +kernel)) <|
  rg_fc (rg_ok_aload_n (j := 0) (by decide +kernel) rfl) <|
  rg_fc (rg_ok_getr (idx := 23) rg_cok7 (by decide +kernel) rfl (by decide +kernel) rg_wf_M_23) <|
  rg_fc (rg_ok_iload_n (j := 3) (by decide +kernel) rfl) <|
  rg_fc (rg_ok_iconst (n := 1) (by decide +kernel) (by decide +kernel)) <|
  rg_fc (rg_ok_bastore (by decide +kernel)) <|
  rg_fc (rg_ok_iconst (n := 0) (by decide +kernel) (by decide +kernel)) <|
  rg_fc (rg_ok_zreturn (by decide +kernel) rfl) <|
  rg_fc (rg_ok_aload_n (j := 0) (by decide +kernel) rfl) <|
  rg_fc (rg_ok_iload_n (j := 1) (by decide +kernel) rfl) <|
  rg_fc (rg_ok_callV (idx := 146) rg_cok7 (by decide +kernel) (by decide +kernel) rg_wm_M_146 rg_wj_90 rg_ws_90 rg_wz_7 rg_wd_90 ⟨by decide +kernel, by decide +kernel, by decide +kernel, by decide +kernel⟩ (by decide +kernel) (by decide +kernel)) <|
  rg_fc (rg_ok_aload_n (j := 0) (by decide +kernel) rfl) <|
  rg_fc (rg_ok_callV (idx := 101) rg_cok7 (by decide +kernel) (by decide +kernel) rg_wm_M_101 rg_wj_19 rg_ws_19 rg_wz_7 rg_wd_19 ⟨by decide +kernel, by decide +kernel, by decide +kernel, by decide +kernel⟩ (by decide +kernel) (by decide +kernel)) <|
  rg_fc (rg_ok_aload_n (j := 0) (by decide +kernel) rfl) <|
  fun _ h => absurd h List.not_mem_nil
def rg_c91_1 : List (Nat × rg_S) := [(39, rg_sdu), (40, rg_sgi 7 7), (43, rg_sic 1 1), (44, rg_s2i (fun x y => x + y)), (45, rg_spi 7 7), (48, rg_sic 1 1), (49, rg_rz)]
theorem rg_o91_1 : ∀ q ∈ rg_c91_1, rg_Ok 91 q.1 q.2 :=
  rg_fc (rg_ok_dup (by decide +kernel)) <|
  rg_fc (rg_ok_geti (idx := 92) rg_cok7 (by decide +kernel) rfl (by decide +kernel) rg_wf_M_92) <|
  rg_fc (rg_ok_iconst (n := 1) (by decide +kernel) (by decide +kernel)) <|
  rg_fc (rg_ok_iadd (by decide +kernel)) <|
  rg_fc (rg_ok_puti (idx := 92) rg_cok7 (by decide +kernel) rfl rfl rfl (by decide +kernel) rg_wf_M_92) <|
  rg_fc (rg_ok_iconst (n := 1) (by decide +kernel) (by decide +kernel)) <|
  rg_fc (rg_ok_zreturn (by decide +kernel) rfl) <|
  fun _ h => absurd h List.not_mem_nil
def rg_kd91 : List (List (Nat × rg_S)) := [rg_c91_0, rg_c91_1]
theorem rg_o91 : ∀ pc f, rg_lk2 rg_kd91 pc = some f → rg_Ok 91 pc f := rg_lk2_ok (rg_fd rg_o91_0 (rg_fd rg_o91_1 (fun _ h => absurd h List.not_mem_nil)))
def rg_c92_0 : List (Nat × rg_S) := [(0, rg_sal 0 1), (1, rg_sgi 7 3), (4, rg_sic 1 1), (5, rg_skne 30), (8, rg_sil 1 1), (9, rg_sjlt 30), (12, rg_sil 1 1), (13, rg_sal 0 1), (14, rg_sgi 7 5), (17, rg_skge 30), (20, rg_sal 0 1), (21, rg_sic 0 1), (22, rg_sil 1 1), (23, rg_sil 1 1), (24, rg_scV 91 3 1 7), (27, rg_sjne 32), (30, rg_sK [false, false] (rg_sic 0 1)), (31, rg_rz), (32, rg_sal 0 1), (33, rg_sdu), (34, rg_sgi 7 8), (37, rg_sic 1 1), (38, rg_s2i (fun x y => x + y)), (39, rg_spi 7 8), (42, rg_sic 1 1)]
theorem rg_o92_0 : ∀ q ∈ rg_c92_0, rg_Ok 92 q.1 q.2 :=
  rg_fc (rg_ok_aload_n (j := 0) (by decide +kernel) rfl) <|
  rg_fc (rg_ok_geti (idx := 79) rg_cok7 (by decide +kernel) rfl (by decide +kernel) rg_wf_M_79) <|
  rg_fc (rg_ok_iconst (n := 1) (by decide +kernel) (by decide +kernel)) <|
  rg_fc (rg_ok_icmp_ne (off := 25) (by decide +kernel) (by decide +kernel)) <|
  rg_fc (rg_ok_iload_n (j := 1) (by decide +kernel) rfl) <|
  rg_fc (rg_ok_if_lt (off := 21) (by decide +kernel) (by decide +kernel)) <|
  rg_fc (rg_ok_iload_n (j := 1) (by decide +kernel) rfl) <|
  rg_fc (rg_ok_aload_n (j := 0) (by decide +kernel) rfl) <|
  rg_fc (rg_ok_geti (idx := 89) rg_cok7 (by decide +kernel) rfl (by decide +kernel) rg_wf_M_89) <|
  rg_fc (rg_ok_icmp_ge (off := 13) (by decide +kernel) (by decide +kernel)) <|
  rg_fc (rg_ok_aload_n (j := 0) (by decide +kernel) rfl) <|
  rg_fc (rg_ok_iconst (n := 0) (by decide +kernel) (by decide +kernel)) <|
  rg_fc (rg_ok_iload_n (j := 1) (by decide +kernel) rfl) <|
  rg_fc (rg_ok_iload_n (j := 1) (by decide +kernel) rfl) <|
  rg_fc (rg_ok_callV (idx := 149) rg_cok7 (by decide +kernel) (by decide +kernel) rg_wm_M_149 rg_wj_91 rg_ws_91 rg_wz_7 rg_wd_91 ⟨by decide +kernel, by decide +kernel, by decide +kernel, by decide +kernel⟩ (by decide +kernel) (by decide +kernel)) <|
  rg_fc (rg_ok_if_ne (off := 5) (by decide +kernel) (by decide +kernel)) <|
  rg_fc (rg_okK _ (rg_ok_iconst (n := 0) (by decide +kernel) (by decide +kernel))) <|
  rg_fc (rg_ok_zreturn (by decide +kernel) rfl) <|
  rg_fc (rg_ok_aload_n (j := 0) (by decide +kernel) rfl) <|
  rg_fc (rg_ok_dup (by decide +kernel)) <|
  rg_fc (rg_ok_geti (idx := 95) rg_cok7 (by decide +kernel) rfl (by decide +kernel) rg_wf_M_95) <|
  rg_fc (rg_ok_iconst (n := 1) (by decide +kernel) (by decide +kernel)) <|
  rg_fc (rg_ok_iadd (by decide +kernel)) <|
  rg_fc (rg_ok_puti (idx := 95) rg_cok7 (by decide +kernel) rfl rfl rfl (by decide +kernel) rg_wf_M_95) <|
  rg_fc (rg_ok_iconst (n := 1) (by decide +kernel) (by decide +kernel)) <|
  fun _ h => absurd h List.not_mem_nil
def rg_c92_1 : List (Nat × rg_S) := [(43, rg_rz)]
theorem rg_o92_1 : ∀ q ∈ rg_c92_1, rg_Ok 92 q.1 q.2 :=
  rg_fc (rg_ok_zreturn (by decide +kernel) rfl) <|
  fun _ h => absurd h List.not_mem_nil
def rg_kd92 : List (List (Nat × rg_S)) := [rg_c92_0, rg_c92_1]
theorem rg_o92 : ∀ pc f, rg_lk2 rg_kd92 pc = some f → rg_Ok 92 pc f := rg_lk2_ok (rg_fd rg_o92_0 (rg_fd rg_o92_1 (fun _ h => absurd h List.not_mem_nil)))
def rg_c94_0 : List (Nat × rg_S) := [(0, rg_sal 0 1), (1, rg_sgi 7 3), (4, rg_sic 1 1), (5, rg_skne 32), (8, rg_sil 1 1), (9, rg_sjlt 32), (12, rg_sil 1 1), (13, rg_sal 0 1), (14, rg_sgi 7 4), (17, rg_skge 32), (20, rg_sal 0 1), (21, rg_sic 1 1), (22, rg_sil 1 1), (23, rg_sic 5 1), (24, rg_sil 1 1), (25, rg_s2i (fun x y => x + y)), (26, rg_scV 91 3 1 7), (29, rg_sjne 34), (32, rg_sK [false, false] (rg_sic 0 1)), (33, rg_rz), (34, rg_sal 0 1), (35, rg_sdu), (36, rg_sgi 7 9), (39, rg_sic 1 1), (40, rg_s2i (fun x y => x + y))]
theorem rg_o94_0 : ∀ q ∈ rg_c94_0, rg_Ok 94 q.1 q.2 :=
  rg_fc (rg_ok_aload_n (j := 0) (by decide +kernel) rfl) <|
  rg_fc (rg_ok_geti (idx := 79) rg_cok7 (by decide +kernel) rfl (by decide +kernel) rg_wf_M_79) <|
  rg_fc (rg_ok_iconst (n := 1) (by decide +kernel) (by decide +kernel)) <|
  rg_fc (rg_ok_icmp_ne (off := 27) (by decide +kernel) (by decide +kernel)) <|
  rg_fc (rg_ok_iload_n (j := 1) (by decide +kernel) rfl) <|
  rg_fc (rg_ok_if_lt (off := 23) (by decide +kernel) (by decide +kernel)) <|
  rg_fc (rg_ok_iload_n (j := 1) (by decide +kernel) rfl) <|
  rg_fc (rg_ok_aload_n (j := 0) (by decide +kernel) rfl) <|
  rg_fc (rg_ok_geti (idx := 86) rg_cok7 (by decide +kernel) rfl (by decide +kernel) rg_wf_M_86) <|
  rg_fc (rg_ok_icmp_ge (off := 15) (by decide +kernel) (by decide +kernel)) <|
  rg_fc (rg_ok_aload_n (j := 0) (by decide +kernel) rfl) <|
  rg_fc (rg_ok_iconst (n := 1) (by decide +kernel) (by decide +kernel)) <|
  rg_fc (rg_ok_iload_n (j := 1) (by decide +kernel) rfl) <|
  rg_fc (rg_ok_iconst (n := 5) (by decide +kernel) (by decide +kernel)) <|
  rg_fc (rg_ok_iload_n (j := 1) (by decide +kernel) rfl) <|
  rg_fc (rg_ok_iadd (by decide +kernel)) <|
  rg_fc (rg_ok_callV (idx := 149) rg_cok7 (by decide +kernel) (by decide +kernel) rg_wm_M_149 rg_wj_91 rg_ws_91 rg_wz_7 rg_wd_91 ⟨by decide +kernel, by decide +kernel, by decide +kernel, by decide +kernel⟩ (by decide +kernel) (by decide +kernel)) <|
  rg_fc (rg_ok_if_ne (off := 5) (by decide +kernel) (by decide +kernel)) <|
  rg_fc (rg_okK _ (rg_ok_iconst (n := 0) (by decide +kernel) (by decide +kernel))) <|
  rg_fc (rg_ok_zreturn (by decide +kernel) rfl) <|
  rg_fc (rg_ok_aload_n (j := 0) (by decide +kernel) rfl) <|
  rg_fc (rg_ok_dup (by decide +kernel)) <|
  rg_fc (rg_ok_geti (idx := 98) rg_cok7 (by decide +kernel) rfl (by decide +kernel) rg_wf_M_98) <|
  rg_fc (rg_ok_iconst (n := 1) (by decide +kernel) (by decide +kernel)) <|
  rg_fc (rg_ok_iadd (by decide +kernel)) <|
  fun _ h => absurd h List.not_mem_nil
def rg_c94_1 : List (Nat × rg_S) := [(41, rg_spi 7 9), (44, rg_sic 1 1), (45, rg_rz)]
theorem rg_o94_1 : ∀ q ∈ rg_c94_1, rg_Ok 94 q.1 q.2 :=
  rg_fc (rg_ok_puti (idx := 98) rg_cok7 (by decide +kernel) rfl rfl rfl (by decide +kernel) rg_wf_M_98) <|
  rg_fc (rg_ok_iconst (n := 1) (by decide +kernel) (by decide +kernel)) <|
  rg_fc (rg_ok_zreturn (by decide +kernel) rfl) <|
  fun _ h => absurd h List.not_mem_nil
def rg_kd94 : List (List (Nat × rg_S)) := [rg_c94_0, rg_c94_1]
theorem rg_o94 : ∀ pc f, rg_lk2 rg_kd94 pc = some f → rg_Ok 94 pc f := rg_lk2_ok (rg_fd rg_o94_0 (rg_fd rg_o94_1 (fun _ h => absurd h List.not_mem_nil)))
def rg_c105_0 : List (Nat × rg_S) := [(0, rg_sic 1 1), (1, rg_sil 1 1), (2, rg_s2i (fun x y => x - y)), (3, rg_sis 3 1), (4, rg_sic 0 1), (5, rg_sis 4 2), (7, rg_sK [true, true, true, true, true, false] (rg_sil 4 2)), (9, rg_sal 0 1), (10, rg_sil 1 1), (11, rg_scV 67 1 1 7), (14, rg_skge 101), (17, rg_sal 0 1), (18, rg_sil 2 1), (19, rg_sil 4 2), (21, rg_s2i (fun x y => x + y)), (22, rg_slc 0 1), (23, rg_scV 11 2 0 7), (26, rg_sic 0 1), (27, rg_sis 5 2), (29, rg_sK [true, true, true, true, true, true] (rg_sil 5 2)), (31, rg_sal 0 1), (32, rg_sil 3 1), (33, rg_scV 67 1 1 7), (36, rg_skge 95), (39, rg_sal 0 1)]
theorem rg_o105_0 : ∀ q ∈ rg_c105_0, rg_Ok 105 q.1 q.2 :=
  rg_fc (rg_ok_iconst (n := 1) (by decide +kernel) (by decide +kernel)) <|
  rg_fc (rg_ok_iload_n (j := 1) (by decide +kernel) rfl) <|
  rg_fc (rg_ok_isub (by decide +kernel)) <|
  rg_fc (rg_ok_istore_n (j := 3) (by decide +kernel) rfl (by decide +kernel)) <|
  rg_fc (rg_ok_iconst (n := 0) (by decide +kernel) (by decide +kernel)) <|
  rg_fc (rg_ok_istore (i := 4) (by decide +kernel) (by decide +kernel)) <|
  rg_fc (rg_okK _ (rg_ok_iload (i := 4) (by decide +kernel))) <|
  rg_fc (rg_ok_aload_n (j := 0) (by decide +kernel) rfl) <|
  rg_fc (rg_ok_iload_n (j := 1) (by decide +kernel) rfl) <|
  rg_fc (rg_ok_callV (idx := 107) rg_cok7 (by decide +kernel) (by decide +kernel) rg_wm_M_107 rg_wj_67 rg_ws_67 rg_wz_7 rg_wd_67 ⟨by decide +kernel, by decide +kernel, by decide +kernel, by decide +kernel⟩ (by decide +kernel) (by decide +kernel)) <|
  rg_fc (rg_ok_icmp_ge (off := 87) (by decide +kernel) (by decide +kernel)) <|
  rg_fc (rg_ok_aload_n (j := 0) (by decide +kernel) rfl) <|
  rg_fc (rg_ok_iload_n (j := 2) (by decide +kernel) rfl) <|
  rg_fc (rg_ok_iload (i := 4) (by decide +kernel)) <|
  rg_fc (rg_ok_iadd (by decide +kernel)) <|
  rg_fc (rg_ok_lconst (n := 0) (by decide +kernel) (by decide +kernel)) <|
  rg_fc (rg_ok_callV (idx := 27) rg_cok7 (by decide +kernel) (by decide +kernel) rg_wm_M_27 rg_wj_11 rg_ws_11 rg_wz_7 rg_wd_11 ⟨by decide +kernel, by decide +kernel, by decide +kernel, by decide +kernel⟩ (by decide +kernel) (by decide +kernel)) <|
  rg_fc (rg_ok_iconst (n := 0) (by decide +kernel) (by decide +kernel)) <|
  rg_fc (rg_ok_istore (i := 5) (by decide +kernel) (by decide +kernel)) <|
  rg_fc (rg_okK _ (rg_ok_iload (i := 5) (by decide +kernel))) <|
  rg_fc (rg_ok_aload_n (j := 0) (by decide +kernel) rfl) <|
  rg_fc (rg_ok_iload_n (j := 3) (by decide +kernel) rfl) <|
  rg_fc (rg_ok_callV (idx := 107) rg_cok7 (by decide +kernel) (by decide +kernel) rg_wm_M_107 rg_wj_67 rg_ws_67 rg_wz_7 rg_wd_67 ⟨by decide +kernel, by decide +kernel, by decide +kernel, by decide +kernel⟩ (by decide +kernel) (by decide +kernel)) <|
  rg_fc (rg_ok_icmp_ge (off := 59) (by decide +kernel) (by decide +kernel)) <|
  rg_fc (rg_ok_aload_n (j := 0) (by decide +kernel) rfl) <|
  fun _ h => absurd h List.not_mem_nil
def rg_c105_1 : List (Nat × rg_S) := [(40, rg_sic 320 3), (43, rg_sal 0 1), (44, rg_sil 3 1), (45, rg_sil 5 2), (47, rg_scV 68 2 1 7), (50, rg_s2i (fun x y => x + y)), (51, rg_sic 410 3), (54, rg_scV 69 2 0 7), (57, rg_sal 0 1), (58, rg_sic 410 3), (61, rg_sal 0 1), (62, rg_sil 1 1), (63, rg_sil 4 2), (65, rg_sil 5 2), (67, rg_scV 82 3 1 7), (70, rg_si2l), (71, rg_scV 83 2 0 7), (74, rg_sal 0 1), (75, rg_sil 2 1), (76, rg_sil 4 2), (78, rg_s2i (fun x y => x + y)), (79, rg_sic 410 3), (82, rg_sil 2 1), (83, rg_sil 4 2), (85, rg_s2i (fun x y => x + y))]
theorem rg_o105_1 : ∀ q ∈ rg_c105_1, rg_Ok 105 q.1 q.2 :=
  rg_fc (rg_ok_sipush (n := 320) (by decide +kernel) (by decide +kernel)) <|
  rg_fc (rg_ok_aload_n (j := 0) (by decide +kernel) rfl) <|
  rg_fc (rg_ok_iload_n (j := 3) (by decide +kernel) rfl) <|
  rg_fc (rg_ok_iload (i := 5) (by decide +kernel)) <|
  rg_fc (rg_ok_callV (idx := 110) rg_cok7 (by decide +kernel) (by decide +kernel) rg_wm_M_110 rg_wj_68 rg_ws_68 rg_wz_7 rg_wd_68 ⟨by decide +kernel, by decide +kernel, by decide +kernel, by decide +kernel⟩ (by decide +kernel) (by decide +kernel)) <|
  rg_fc (rg_ok_iadd (by decide +kernel)) <|
  rg_fc (rg_ok_sipush (n := 410) (by decide +kernel) (by decide +kernel)) <|
  rg_fc (rg_ok_callV (idx := 46) rg_cok7 (by decide +kernel) (by decide +kernel) rg_wm_M_46 rg_wj_69 rg_ws_69 rg_wz_7 rg_wd_69 ⟨by decide +kernel, by decide +kernel, by decide +kernel, by decide +kernel⟩ (by decide +kernel) (by decide +kernel)) <|
  rg_fc (rg_ok_aload_n (j := 0) (by decide +kernel) rfl) <|
  rg_fc (rg_ok_sipush (n := 410) (by decide +kernel) (by decide +kernel)) <|
  rg_fc (rg_ok_aload_n (j := 0) (by decide +kernel) rfl) <|
  rg_fc (rg_ok_iload_n (j := 1) (by decide +kernel) rfl) <|
  rg_fc (rg_ok_iload (i := 4) (by decide +kernel)) <|
  rg_fc (rg_ok_iload (i := 5) (by decide +kernel)) <|
  rg_fc (rg_ok_callV (idx := 129) rg_cok7 (by decide +kernel) (by decide +kernel) rg_wm_M_129 rg_wj_82 rg_ws_82 rg_wz_7 rg_wd_82 ⟨by decide +kernel, by decide +kernel, by decide +kernel, by decide +kernel⟩ (by decide +kernel) (by decide +kernel)) <|
  rg_fc (rg_ok_i2l (by decide +kernel)) <|
  rg_fc (rg_ok_callV (idx := 133) rg_cok7 (by decide +kernel) (by decide +kernel) rg_wm_M_133 rg_wj_83 rg_ws_83 rg_wz_7 rg_wd_83 ⟨by decide +kernel, by decide +kernel, by decide +kernel, by decide +kernel⟩ (by decide +kernel) (by decide +kernel)) <|
  rg_fc (rg_ok_aload_n (j := 0) (by decide +kernel) rfl) <|
  rg_fc (rg_ok_iload_n (j := 2) (by decide +kernel) rfl) <|
  rg_fc (rg_ok_iload (i := 4) (by decide +kernel)) <|
  rg_fc (rg_ok_iadd (by decide +kernel)) <|
  rg_fc (rg_ok_sipush (n := 410) (by decide +kernel) (by decide +kernel)) <|
  rg_fc (rg_ok_iload_n (j := 2) (by decide +kernel) rfl) <|
  rg_fc (rg_ok_iload (i := 4) (by decide +kernel)) <|
  rg_fc (rg_ok_iadd (by decide +kernel)) <|
  fun _ h => absurd h List.not_mem_nil
def rg_c105_2 : List (Nat × rg_S) := [(86, rg_scV 78 3 0 7), (89, rg_sin 5 1), (92, rg_sgo 29), (95, rg_sin 4 1), (98, rg_sgo 7), (101, rg_rv)]
theorem rg_o105_2 : ∀ q ∈ rg_c105_2, rg_Ok 105 q.1 q.2 :=
  rg_fc (rg_ok_callV (idx := 61) rg_cok7 (by decide +kernel) (by decide +kernel) rg_wm_M_61 rg_wj_78 rg_ws_78 rg_wz_7 rg_wd_78 ⟨by decide +kernel, by decide +kernel, by decide +kernel, by decide +kernel⟩ (by decide +kernel) (by decide +kernel)) <|
  rg_fc (rg_ok_iinc (n := 1) (by decide +kernel) (by decide +kernel) (by decide +kernel)) <|
  rg_fc (rg_ok_goto (off := (-63)) (by decide +kernel) (by decide +kernel)) <|
  rg_fc (rg_ok_iinc (n := 1) (by decide +kernel) (by decide +kernel) (by decide +kernel)) <|
  rg_fc (rg_ok_goto (off := (-91)) (by decide +kernel) (by decide +kernel)) <|
  rg_fc (rg_ok_return (by decide +kernel) rfl) <|
  fun _ h => absurd h List.not_mem_nil
def rg_kd105 : List (List (Nat × rg_S)) := [rg_c105_0, rg_c105_1, rg_c105_2]
theorem rg_o105 : ∀ pc f, rg_lk2 rg_kd105 pc = some f → rg_Ok 105 pc f := rg_lk2_ok (rg_fd rg_o105_0 (rg_fd rg_o105_1 (rg_fd rg_o105_2 (fun _ h => absurd h List.not_mem_nil))))
def rg_c106_0 : List (Nat × rg_S) := [(0, rg_sal 0 1), (1, rg_sic 0 1), (2, rg_sic 0 1), (3, rg_scV 81 2 0 7), (6, rg_sal 0 1), (7, rg_sic 1 1), (8, rg_sic 0 1), (9, rg_scV 81 2 0 7), (12, rg_sal 0 1), (13, rg_sic 0 1), (14, rg_sic 397 3), (17, rg_scV 105 2 0 7), (20, rg_sal 0 1), (21, rg_sic 1 1), (22, rg_sic 402 3), (25, rg_scV 105 2 0 7), (28, rg_sic 1 1), (29, rg_sis 1 1), (30, rg_sic 0 1), (31, rg_sis 2 1), (32, rg_sK [true, true, true, false, false] (rg_sil 2 1)), (33, rg_sic 2 1), (34, rg_skge 245), (37, rg_sil 1 1), (38, rg_sjeq 245)]
theorem rg_o106_0 : ∀ q ∈ rg_c106_0, rg_Ok 106 q.1 q.2 :=
  rg_fc (rg_ok_aload_n (j := 0) (by decide +kernel) rfl) <|
  rg_fc (rg_ok_iconst (n := 0) (by decide +kernel) (by decide +kernel)) <|
  rg_fc (rg_ok_iconst (n := 0) (by decide +kernel) (by decide +kernel)) <|
  rg_fc (rg_ok_callV (idx := 126) rg_cok7 (by decide +kernel) (by decide +kernel) rg_wm_M_126 rg_wj_81 rg_ws_81 rg_wz_7 rg_wd_81 ⟨by decide +kernel, by decide +kernel, by decide +kernel, by decide +kernel⟩ (by decide +kernel) (by decide +kernel)) <|
  rg_fc (rg_ok_aload_n (j := 0) (by decide +kernel) rfl) <|
  rg_fc (rg_ok_iconst (n := 1) (by decide +kernel) (by decide +kernel)) <|
  rg_fc (rg_ok_iconst (n := 0) (by decide +kernel) (by decide +kernel)) <|
  rg_fc (rg_ok_callV (idx := 126) rg_cok7 (by decide +kernel) (by decide +kernel) rg_wm_M_126 rg_wj_81 rg_ws_81 rg_wz_7 rg_wd_81 ⟨by decide +kernel, by decide +kernel, by decide +kernel, by decide +kernel⟩ (by decide +kernel) (by decide +kernel)) <|
  rg_fc (rg_ok_aload_n (j := 0) (by decide +kernel) rfl) <|
  rg_fc (rg_ok_iconst (n := 0) (by decide +kernel) (by decide +kernel)) <|
  rg_fc (rg_ok_sipush (n := 397) (by decide +kernel) (by decide +kernel)) <|
  rg_fc (rg_ok_callV (idx := 153) rg_cok7 (by decide +kernel) (by decide +kernel) rg_wm_M_153 rg_wj_105 rg_ws_105 rg_wz_7 rg_wd_105 ⟨by decide +kernel, by decide +kernel, by decide +kernel, by decide +kernel⟩ (by decide +kernel) (by decide +kernel)) <|
  rg_fc (rg_ok_aload_n (j := 0) (by decide +kernel) rfl) <|
  rg_fc (rg_ok_iconst (n := 1) (by decide +kernel) (by decide +kernel)) <|
  rg_fc (rg_ok_sipush (n := 402) (by decide +kernel) (by decide +kernel)) <|
  rg_fc (rg_ok_callV (idx := 153) rg_cok7 (by decide +kernel) (by decide +kernel) rg_wm_M_153 rg_wj_105 rg_ws_105 rg_wz_7 rg_wd_105 ⟨by decide +kernel, by decide +kernel, by decide +kernel, by decide +kernel⟩ (by decide +kernel) (by decide +kernel)) <|
  rg_fc (rg_ok_iconst (n := 1) (by decide +kernel) (by decide +kernel)) <|
  rg_fc (rg_ok_istore_n (j := 1) (by decide +kernel) rfl (by decide +kernel)) <|
  rg_fc (rg_ok_iconst (n := 0) (by decide +kernel) (by decide +kernel)) <|
  rg_fc (rg_ok_istore_n (j := 2) (by decide +kernel) rfl (by decide +kernel)) <|
  rg_fc (rg_okK _ (rg_ok_iload_n (j := 2) (by decide +kernel) rfl)) <|
  rg_fc (rg_ok_iconst (n := 2) (by decide +kernel) (by decide +kernel)) <|
  rg_fc (rg_ok_icmp_ge (off := 211) (by decide +kernel) (by decide +kernel)) <|
  rg_fc (rg_ok_iload_n (j := 1) (by decide +kernel) rfl) <|
  rg_fc (rg_ok_if_eq (off := 207) (by decide +kernel) (by decide +kernel)) <|
  fun _ h => absurd h List.not_mem_nil
def rg_c106_1 : List (Nat × rg_S) := [(41, rg_sil 2 1), (42, rg_sjne 51), (45, rg_sic 397 3), (48, rg_sgo 54), (51, rg_sic 402 3), (54, rg_sK [true, true, true, false, false] (rg_sis 3 1)), (55, rg_sal 0 1), (56, rg_sic 409 3), (59, rg_slc 0 1), (60, rg_scV 11 2 0 7), (63, rg_sic 0 1), (64, rg_sis 4 2), (66, rg_sK [true, true, true, true, true] (rg_sil 4 2)), (68, rg_sal 0 1), (69, rg_sil 2 1), (70, rg_scV 67 1 1 7), (73, rg_skge 117), (76, rg_sal 0 1), (77, rg_sic 320 3), (80, rg_sal 0 1), (81, rg_sil 2 1), (82, rg_sil 4 2), (84, rg_scV 68 2 1 7), (87, rg_s2i (fun x y => x + y)), (88, rg_sil 3 1)]
theorem rg_o106_1 : ∀ q ∈ rg_c106_1, rg_Ok 106 q.1 q.2 :=
  rg_fc (rg_ok_iload_n (j := 2) (by decide +kernel) rfl) <|
  rg_fc (rg_ok_if_ne (off := 9) (by decide +kernel) (by decide +kernel)) <|
  rg_fc (rg_ok_sipush (n := 397) (by decide +kernel) (by decide +kernel)) <|
  rg_fc (rg_ok_goto (off := 6) (by decide +kernel) (by decide +kernel)) <|
  rg_fc (rg_ok_sipush (n := 402) (by decide +kernel) (by decide +kernel)) <|
  rg_fc (rg_okK _ (rg_ok_istore_n (j := 3) (by decide +kernel) rfl (by decide +kernel))) <|
  rg_fc (rg_ok_aload_n (j := 0) (by decide +kernel) rfl) <|
  rg_fc (rg_ok_sipush (n := 409) (by decide +kernel) (by decide +kernel)) <|
  rg_fc (rg_ok_lconst (n := 0) (by decide +kernel) (by decide +kernel)) <|
  rg_fc (rg_ok_callV (idx := 27) rg_cok7 (by decide +kernel) (by decide +kernel) rg_wm_M_27 rg_wj_11 rg_ws_11 rg_wz_7 rg_wd_11 ⟨by decide +kernel, by decide +kernel, by decide +kernel, by decide +kernel⟩ (by decide +kernel) (by decide +kernel)) <|
  rg_fc (rg_ok_iconst (n := 0) (by decide +kernel) (by decide +kernel)) <|
  rg_fc (rg_ok_istore (i := 4) (by decide +kernel) (by decide +kernel)) <|
  rg_fc (rg_okK _ (rg_ok_iload (i := 4) (by decide +kernel))) <|
  rg_fc (rg_ok_aload_n (j := 0) (by decide +kernel) rfl) <|
  rg_fc (rg_ok_iload_n (j := 2) (by decide +kernel) rfl) <|
  rg_fc (rg_ok_callV (idx := 107) rg_cok7 (by decide +kernel) (by decide +kernel) rg_wm_M_107 rg_wj_67 rg_ws_67 rg_wz_7 rg_wd_67 ⟨by decide +kernel, by decide +kernel, by decide +kernel, by decide +kernel⟩ (by decide +kernel) (by decide +kernel)) <|
  rg_fc (rg_ok_icmp_ge (off := 44) (by decide +kernel) (by decide +kernel)) <|
  rg_fc (rg_ok_aload_n (j := 0) (by decide +kernel) rfl) <|
  rg_fc (rg_ok_sipush (n := 320) (by decide +kernel) (by decide +kernel)) <|
  rg_fc (rg_ok_aload_n (j := 0) (by decide +kernel) rfl) <|
  rg_fc (rg_ok_iload_n (j := 2) (by decide +kernel) rfl) <|
  rg_fc (rg_ok_iload (i := 4) (by decide +kernel)) <|
  rg_fc (rg_ok_callV (idx := 110) rg_cok7 (by decide +kernel) (by decide +kernel) rg_wm_M_110 rg_wj_68 rg_ws_68 rg_wz_7 rg_wd_68 ⟨by decide +kernel, by decide +kernel, by decide +kernel, by decide +kernel⟩ (by decide +kernel) (by decide +kernel)) <|
  rg_fc (rg_ok_iadd (by decide +kernel)) <|
  rg_fc (rg_ok_iload_n (j := 3) (by decide +kernel) rfl) <|
  fun _ h => absurd h List.not_mem_nil
def rg_c106_2 : List (Nat × rg_S) := [(89, rg_sil 4 2), (91, rg_s2i (fun x y => x + y)), (92, rg_sic 410 3), (95, rg_scV 71 3 0 7), (98, rg_sal 0 1), (99, rg_sic 409 3), (102, rg_sic 410 3), (105, rg_sic 409 3), (108, rg_scV 78 3 0 7), (111, rg_sin 4 1), (114, rg_sgo 66), (117, rg_sal 0 1), (118, rg_sic 360 3), (121, rg_sic 361 3), (124, rg_sic 411 3), (127, rg_scV 71 3 0 7), (130, rg_sic 0 1), (131, rg_sis 4 2), (133, rg_sK [true, true, true, true, true] (rg_sil 4 2)), (135, rg_sal 0 1), (136, rg_sil 2 1), (137, rg_scV 67 1 1 7), (140, rg_skge 205), (143, rg_sil 1 1), (144, rg_sjeq 205)]
theorem rg_o106_2 : ∀ q ∈ rg_c106_2, rg_Ok 106 q.1 q.2 :=
  rg_fc (rg_ok_iload (i := 4) (by decide +kernel)) <|
  rg_fc (rg_ok_iadd (by decide +kernel)) <|
  rg_fc (rg_ok_sipush (n := 410) (by decide +kernel) (by decide +kernel)) <|
  rg_fc (rg_ok_callV (idx := 64) rg_cok7 (by decide +kernel) (by decide +kernel) rg_wm_M_64 rg_wj_71 rg_ws_71 rg_wz_7 rg_wd_71 ⟨by decide +kernel, by decide +kernel, by decide +kernel, by decide +kernel⟩ (by decide +kernel) (by decide +kernel)) <|
  rg_fc (rg_ok_aload_n (j := 0) (by decide +kernel) rfl) <|
  rg_fc (rg_ok_sipush (n := 409) (by decide +kernel) (by decide +kernel)) <|
  rg_fc (rg_ok_sipush (n := 410) (by decide +kernel) (by decide +kernel)) <|
  rg_fc (rg_ok_sipush (n := 409) (by decide +kernel) (by decide +kernel)) <|
  rg_fc (rg_ok_callV (idx := 61) rg_cok7 (by decide +kernel) (by decide +kernel) rg_wm_M_61 rg_wj_78 rg_ws_78 rg_wz_7 rg_wd_78 ⟨by decide +kernel, by decide +kernel, by decide +kernel, by decide +kernel⟩ (by decide +kernel) (by decide +kernel)) <|
  rg_fc (rg_ok_iinc (n := 1) (by decide +kernel) (by decide +kernel) (by decide +kernel)) <|
  rg_fc (rg_ok_goto (off := (-48)) (by decide +kernel) (by decide +kernel)) <|
  rg_fc (rg_ok_aload_n (j := 0) (by decide +kernel) rfl) <|
  rg_fc (rg_ok_sipush (n := 360) (by decide +kernel) (by decide +kernel)) <|
  rg_fc (rg_ok_sipush (n := 361) (by decide +kernel) (by decide +kernel)) <|
  rg_fc (rg_ok_sipush (n := 411) (by decide +kernel) (by decide +kernel)) <|
  rg_fc (rg_ok_callV (idx := 64) rg_cok7 (by decide +kernel) (by decide +kernel) rg_wm_M_64 rg_wj_71 rg_ws_71 rg_wz_7 rg_wd_71 ⟨by decide +kernel, by decide +kernel, by decide +kernel, by decide +kernel⟩ (by decide +kernel) (by decide +kernel)) <|
  rg_fc (rg_ok_iconst (n := 0) (by decide +kernel) (by decide +kernel)) <|
  rg_fc (rg_ok_istore (i := 4) (by decide +kernel) (by decide +kernel)) <|
  rg_fc (rg_okK _ (rg_ok_iload (i := 4) (by decide +kernel))) <|
  rg_fc (rg_ok_aload_n (j := 0) (by decide +kernel) rfl) <|
  rg_fc (rg_ok_iload_n (j := 2) (by decide +kernel) rfl) <|
  rg_fc (rg_ok_callV (idx := 107) rg_cok7 (by decide +kernel) (by decide +kernel) rg_wm_M_107 rg_wj_67 rg_ws_67 rg_wz_7 rg_wd_67 ⟨by decide +kernel, by decide +kernel, by decide +kernel, by decide +kernel⟩ (by decide +kernel) (by decide +kernel)) <|
  rg_fc (rg_ok_icmp_ge (off := 65) (by decide +kernel) (by decide +kernel)) <|
  rg_fc (rg_ok_iload_n (j := 1) (by decide +kernel) rfl) <|
  rg_fc (rg_ok_if_eq (off := 61) (by decide +kernel) (by decide +kernel)) <|
  fun _ h => absurd h List.not_mem_nil
def rg_c106_3 : List (Nat × rg_S) := [(147, rg_sal 0 1), (148, rg_sic 360 3), (151, rg_sil 2 1), (152, rg_s2i (fun x y => x + y)), (153, rg_sil 3 1), (154, rg_sil 4 2), (156, rg_s2i (fun x y => x + y)), (157, rg_sic 410 3), (160, rg_scV 71 3 0 7), (163, rg_sal 0 1), (164, rg_sic 410 3), (167, rg_sic 409 3), (170, rg_sic 407 3), (173, rg_scV 84 3 0 7), (176, rg_sal 0 1), (177, rg_sic 411 3), (180, rg_sic 408 3), (183, rg_scV 69 2 0 7), (186, rg_sal 0 1), (187, rg_sic 0 1), (188, rg_sal 0 1), (189, rg_sil 2 1), (190, rg_sil 4 2), (192, rg_scV 68 2 1 7), (195, rg_scV 87 2 1 7)]
theorem rg_o106_3 : ∀ q ∈ rg_c106_3, rg_Ok 106 q.1 q.2 :=
  rg_fc (rg_ok_aload_n (j := 0) (by decide +kernel) rfl) <|
  rg_fc (rg_ok_sipush (n := 360) (by decide +kernel) (by decide +kernel)) <|
  rg_fc (rg_ok_iload_n (j := 2) (by decide +kernel) rfl) <|
  rg_fc (rg_ok_iadd (by decide +kernel)) <|
  rg_fc (rg_ok_iload_n (j := 3) (by decide +kernel) rfl) <|
  rg_fc (rg_ok_iload (i := 4) (by decide +kernel)) <|
  rg_fc (rg_ok_iadd (by decide +kernel)) <|
  rg_fc (rg_ok_sipush (n := 410) (by decide +kernel) (by decide +kernel)) <|
  rg_fc (rg_ok_callV (idx := 64) rg_cok7 (by decide +kernel) (by decide +kernel) rg_wm_M_64 rg_wj_71 rg_ws_71 rg_wz_7 rg_wd_71 ⟨by decide +kernel, by decide +kernel, by decide +kernel, by decide +kernel⟩ (by decide +kernel) (by decide +kernel)) <|
  rg_fc (rg_ok_aload_n (j := 0) (by decide +kernel) rfl) <|
  rg_fc (rg_ok_sipush (n := 410) (by decide +kernel) (by decide +kernel)) <|
  rg_fc (rg_ok_sipush (n := 409) (by decide +kernel) (by decide +kernel)) <|
  rg_fc (rg_ok_sipush (n := 407) (by decide +kernel) (by decide +kernel)) <|
  rg_fc (rg_ok_callV (idx := 136) rg_cok7 (by decide +kernel) (by decide +kernel) rg_wm_M_136 rg_wj_84 rg_ws_84 rg_wz_7 rg_wd_84 ⟨by decide +kernel, by decide +kernel, by decide +kernel, by decide +kernel⟩ (by decide +kernel) (by decide +kernel)) <|
  rg_fc (rg_ok_aload_n (j := 0) (by decide +kernel) rfl) <|
  rg_fc (rg_ok_sipush (n := 411) (by decide +kernel) (by decide +kernel)) <|
  rg_fc (rg_ok_sipush (n := 408) (by decide +kernel) (by decide +kernel)) <|
  rg_fc (rg_ok_callV (idx := 46) rg_cok7 (by decide +kernel) (by decide +kernel) rg_wm_M_46 rg_wj_69 rg_ws_69 rg_wz_7 rg_wd_69 ⟨by decide +kernel, by decide +kernel, by decide +kernel, by decide +kernel⟩ (by decide +kernel) (by decide +kernel)) <|
  rg_fc (rg_ok_aload_n (j := 0) (by decide +kernel) rfl) <|
  rg_fc (rg_ok_iconst (n := 0) (by decide +kernel) (by decide +kernel)) <|
  rg_fc (rg_ok_aload_n (j := 0) (by decide +kernel) rfl) <|
  rg_fc (rg_ok_iload_n (j := 2) (by decide +kernel) rfl) <|
  rg_fc (rg_ok_iload (i := 4) (by decide +kernel)) <|
  rg_fc (rg_ok_callV (idx := 110) rg_cok7 (by decide +kernel) (by decide +kernel) rg_wm_M_110 rg_wj_68 rg_ws_68 rg_wz_7 rg_wd_68 ⟨by decide +kernel, by decide +kernel, by decide +kernel, by decide +kernel⟩ (by decide +kernel) (by decide +kernel)) <|
  rg_fc (rg_ok_callV (idx := 122) rg_cok7 (by decide +kernel) (by decide +kernel) rg_wm_M_122 rg_wj_87 rg_ws_87 rg_wz_7 rg_wd_87 ⟨by decide +kernel, by decide +kernel, by decide +kernel, by decide +kernel⟩ (by decide +kernel) (by decide +kernel)) <|
  fun _ h => absurd h List.not_mem_nil
def rg_c106_4 : List (Nat × rg_S) := [(198, rg_sis 1 1), (199, rg_sin 4 1), (202, rg_sgo 133), (205, rg_sK [true, true, true, false, false] (rg_sal 0 1)), (206, rg_sic 395 3), (209, rg_slc 1 1), (210, rg_scV 11 2 0 7), (213, rg_sal 0 1), (214, rg_sic 396 3), (217, rg_slc 1 1), (218, rg_scV 11 2 0 7), (221, rg_sil 1 1), (222, rg_sjeq 237), (225, rg_sal 0 1), (226, rg_sil 2 1), (227, rg_scV 88 1 1 7), (230, rg_sjeq 237), (233, rg_sic 1 1), (234, rg_sgo 238), (237, rg_sK [true, false, true, false, false] (rg_sic 0 1)), (238, rg_sK [true, false, true, false, false] (rg_sis 1 1)), (239, rg_sin 2 1), (242, rg_sgo 32), (245, rg_sK [false, true, false, false, false] (rg_sil 1 1)), (246, rg_rz)]
theorem rg_o106_4 : ∀ q ∈ rg_c106_4, rg_Ok 106 q.1 q.2 :=
  rg_fc (rg_ok_istore_n (j := 1) (by decide +kernel) rfl (by decide +kernel)) <|
  rg_fc (rg_ok_iinc (n := 1) (by decide +kernel) (by decide +kernel) (by decide +kernel)) <|
  rg_fc (rg_ok_goto (off := (-69)) (by decide +kernel) (by decide +kernel)) <|
  rg_fc (rg_okK _ (rg_ok_aload_n (j := 0) (by decide +kernel) rfl)) <|
  rg_fc (rg_ok_sipush (n := 395) (by decide +kernel) (by decide +kernel)) <|
  rg_fc (rg_ok_lconst (n := 1) (by decide +kernel) (by decide +kernel)) <|
  rg_fc (rg_ok_callV (idx := 27) rg_cok7 (by decide +kernel) (by decide +kernel) rg_wm_M_27 rg_wj_11 rg_ws_11 rg_wz_7 rg_wd_11 ⟨by decide +kernel, by decide +kernel, by decide +kernel, by decide +kernel⟩ (by decide +kernel) (by decide +kernel)) <|
  rg_fc (rg_ok_aload_n (j := 0) (by decide +kernel) rfl) <|
  rg_fc (rg_ok_sipush (n := 396) (by decide +kernel) (by decide +kernel)) <|
  rg_fc (rg_ok_lconst (n := 1) (by decide +kernel) (by decide +kernel)) <|
  rg_fc (rg_ok_callV (idx := 27) rg_cok7 (by decide +kernel) (by decide +kernel) rg_wm_M_27 rg_wj_11 rg_ws_11 rg_wz_7 rg_wd_11 ⟨by decide +kernel, by decide +kernel, by decide +kernel, by decide +kernel⟩ (by decide +kernel) (by decide +kernel)) <|
  rg_fc (rg_ok_iload_n (j := 1) (by decide +kernel) rfl) <|
  rg_fc (rg_ok_if_eq (off := 15) (by decide +kernel) (by decide +kernel)) <|
  rg_fc (rg_ok_aload_n (j := 0) (by decide +kernel) rfl) <|
  rg_fc (rg_ok_iload_n (j := 2) (by decide +kernel) rfl) <|
  rg_fc (rg_ok_callV (idx := 139) rg_cok7 (by decide +kernel) (by decide +kernel) rg_wm_M_139 rg_wj_88 rg_ws_88 rg_wz_7 rg_wd_88 ⟨by decide +kernel, by decide +kernel, by decide +kernel, by decide +kernel⟩ (by decide +kernel) (by decide +kernel)) <|
  rg_fc (rg_ok_if_eq (off := 7) (by decide +kernel) (by decide +kernel)) <|
  rg_fc (rg_ok_iconst (n := 1) (by decide +kernel) (by decide +kernel)) <|
  rg_fc (rg_ok_goto (off := 4) (by decide +kernel) (by decide +kernel)) <|
  rg_fc (rg_okK _ (rg_ok_iconst (n := 0) (by decide +kernel) (by decide +kernel))) <|
  rg_fc (rg_okK _ (rg_ok_istore_n (j := 1) (by decide +kernel) rfl (by decide +kernel))) <|
  rg_fc (rg_ok_iinc (n := 1) (by decide +kernel) (by decide +kernel) (by decide +kernel)) <|
  rg_fc (rg_ok_goto (off := (-210)) (by decide +kernel) (by decide +kernel)) <|
  rg_fc (rg_okK _ (rg_ok_iload_n (j := 1) (by decide +kernel) rfl)) <|
  rg_fc (rg_ok_zreturn (by decide +kernel) rfl) <|
  fun _ h => absurd h List.not_mem_nil
def rg_kd106 : List (List (Nat × rg_S)) := [rg_c106_0, rg_c106_1, rg_c106_2, rg_c106_3, rg_c106_4]
theorem rg_o106 : ∀ pc f, rg_lk2 rg_kd106 pc = some f → rg_Ok 106 pc f := rg_lk2_ok (rg_fd rg_o106_0 (rg_fd rg_o106_1 (rg_fd rg_o106_2 (rg_fd rg_o106_3 (rg_fd rg_o106_4 (fun _ h => absurd h List.not_mem_nil))))))
def rg_c107_0 : List (Nat × rg_S) := [(0, rg_sal 0 1), (1, rg_sil 1 1), (2, rg_slc 0 1), (3, rg_scV 11 2 0 7), (6, rg_sal 0 1), (7, rg_sil 2 1), (8, rg_slc 1 1), (9, rg_scV 11 2 0 7), (12, rg_rv)]
theorem rg_o107_0 : ∀ q ∈ rg_c107_0, rg_Ok 107 q.1 q.2 :=
  rg_fc (rg_ok_aload_n (j := 0) (by decide +kernel) rfl) <|
  rg_fc (rg_ok_iload_n (j := 1) (by decide +kernel) rfl) <|
  rg_fc (rg_ok_lconst (n := 0) (by decide +kernel) (by decide +kernel)) <|
  rg_fc (rg_ok_callV (idx := 27) rg_cok7 (by decide +kernel) (by decide +kernel) rg_wm_M_27 rg_wj_11 rg_ws_11 rg_wz_7 rg_wd_11 ⟨by decide +kernel, by decide +kernel, by decide +kernel, by decide +kernel⟩ (by decide +kernel) (by decide +kernel)) <|
  rg_fc (rg_ok_aload_n (j := 0) (by decide +kernel) rfl) <|
  rg_fc (rg_ok_iload_n (j := 2) (by decide +kernel) rfl) <|
  rg_fc (rg_ok_lconst (n := 1) (by decide +kernel) (by decide +kernel)) <|
  rg_fc (rg_ok_callV (idx := 27) rg_cok7 (by decide +kernel) (by decide +kernel) rg_wm_M_27 rg_wj_11 rg_ws_11 rg_wz_7 rg_wd_11 ⟨by decide +kernel, by decide +kernel, by decide +kernel, by decide +kernel⟩ (by decide +kernel) (by decide +kernel)) <|
  rg_fc (rg_ok_return (by decide +kernel) rfl) <|
  fun _ h => absurd h List.not_mem_nil
def rg_kd107 : List (List (Nat × rg_S)) := [rg_c107_0]
theorem rg_o107 : ∀ pc f, rg_lk2 rg_kd107 pc = some f → rg_Ok 107 pc f := rg_lk2_ok (rg_fd rg_o107_0 (fun _ h => absurd h List.not_mem_nil))
def rg_c108_0 : List (Nat × rg_S) := [(0, rg_sil 0 1), (1, rg_sil 1 1), (2, rg_skle 9), (5, rg_sic 1 1), (6, rg_sgo 10), (9, rg_sic (-1) 1), (10, rg_sK [false, false] (rg_ri))]
theorem rg_o108_0 : ∀ q ∈ rg_c108_0, rg_Ok 108 q.1 q.2 :=
  rg_fc (rg_ok_iload_n (j := 0) (by decide +kernel) rfl) <|
  rg_fc (rg_ok_iload_n (j := 1) (by decide +kernel) rfl) <|
  rg_fc (rg_ok_icmp_le (off := 7) (by decide +kernel) (by decide +kernel)) <|
  rg_fc (rg_ok_iconst (n := 1) (by decide +kernel) (by decide +kernel)) <|
  rg_fc (rg_ok_goto (off := 4) (by decide +kernel) (by decide +kernel)) <|
  rg_fc (rg_ok_iconst (n := (-1)) (by decide +kernel) (by decide +kernel)) <|
  rg_fc (rg_okK _ (rg_ok_ireturn (by decide +kernel) rfl)) <|
  fun _ h => absurd h List.not_mem_nil
def rg_kd108 : List (List (Nat × rg_S)) := [rg_c108_0]
theorem rg_o108 : ∀ pc f, rg_lk2 rg_kd108 pc = some f → rg_Ok 108 pc f := rg_lk2_ok (rg_fd rg_o108_0 (fun _ h => absurd h List.not_mem_nil))
def rg_c109_0 : List (Nat × rg_S) := [(0, rg_sic 4 1), (1, rg_sil 0 1), (2, rg_s2i (fun x y => x * y)), (3, rg_sic 3 1), (4, rg_s2i (fun x y => x + y)), (5, rg_ri)]
theorem rg_o109_0 : ∀ q ∈ rg_c109_0, rg_Ok 109 q.1 q.2 :=
  rg_fc (rg_ok_iconst (n := 4) (by decide +kernel) (by decide +kernel)) <|
  rg_fc (rg_ok_iload_n (j := 0) (by decide +kernel) rfl) <|
  rg_fc (rg_ok_imul (by decide +kernel)) <|
  rg_fc (rg_ok_iconst (n := 3) (by decide +kernel) (by decide +kernel)) <|
  rg_fc (rg_ok_iadd (by decide +kernel)) <|
  rg_fc (rg_ok_ireturn (by decide +kernel) rfl) <|
  fun _ h => absurd h List.not_mem_nil
def rg_kd109 : List (List (Nat × rg_S)) := [rg_c109_0]
theorem rg_o109 : ∀ pc f, rg_lk2 rg_kd109 pc = some f → rg_Ok 109 pc f := rg_lk2_ok (rg_fd rg_o109_0 (fun _ h => absurd h List.not_mem_nil))
def rg_c110_0 : List (Nat × rg_S) := [(0, rg_sic 320 3), (3, rg_sic 2 1), (4, rg_sil 1 1), (5, rg_s2i (fun x y => x * y)), (6, rg_s2i (fun x y => x + y)), (7, rg_sil 2 1), (8, rg_s2i (fun x y => x + y)), (9, rg_ri)]
theorem rg_o110_0 : ∀ q ∈ rg_c110_0, rg_Ok 110 q.1 q.2 :=
  rg_fc (rg_ok_sipush (n := 320) (by decide +kernel) (by decide +kernel)) <|
  rg_fc (rg_ok_iconst (n := 2) (by decide +kernel) (by decide +kernel)) <|
  rg_fc (rg_ok_iload_n (j := 1) (by decide +kernel) rfl) <|
  rg_fc (rg_ok_imul (by decide +kernel)) <|
  rg_fc (rg_ok_iadd (by decide +kernel)) <|
  rg_fc (rg_ok_iload_n (j := 2) (by decide +kernel) rfl) <|
  rg_fc (rg_ok_iadd (by decide +kernel)) <|
  rg_fc (rg_ok_ireturn (by decide +kernel) rfl) <|
  fun _ h => absurd h List.not_mem_nil
def rg_kd110 : List (List (Nat × rg_S)) := [rg_c110_0]
theorem rg_o110 : ∀ pc f, rg_lk2 rg_kd110 pc = some f → rg_Ok 110 pc f := rg_lk2_ok (rg_fd rg_o110_0 (fun _ h => absurd h List.not_mem_nil))
def rg_c111_0 : List (Nat × rg_S) := [(0, rg_sal 0 1), (1, rg_sil 1 1), (2, rg_sic 394 3), (5, rg_sic 389 3), (8, rg_scV 71 3 0 7), (11, rg_sal 0 1), (12, rg_sic 393 3), (15, rg_sil 2 1), (16, rg_sic 390 3), (19, rg_scV 71 3 0 7), (22, rg_sal 0 1), (23, rg_sic 389 3), (26, rg_sic 390 3), (29, rg_sil 1 1), (30, rg_scV 78 3 0 7), (33, rg_sal 0 1), (34, rg_sil 2 1), (35, rg_sic 394 3), (38, rg_sic 389 3), (41, rg_scV 71 3 0 7), (44, rg_sal 0 1), (45, rg_sic 389 3), (48, rg_sil 2 1), (49, rg_scV 69 2 0 7), (52, rg_rv)]
theorem rg_o111_0 : ∀ q ∈ rg_c111_0, rg_Ok 111 q.1 q.2 :=
  rg_fc (rg_ok_aload_n (j := 0) (by decide +kernel) rfl) <|
  rg_fc (rg_ok_iload_n (j := 1) (by decide +kernel) rfl) <|
  rg_fc (rg_ok_sipush (n := 394) (by decide +kernel) (by decide +kernel)) <|
  rg_fc (rg_ok_sipush (n := 389) (by decide +kernel) (by decide +kernel)) <|
  rg_fc (rg_ok_callV (idx := 64) rg_cok7 (by decide +kernel) (by decide +kernel) rg_wm_M_64 rg_wj_71 rg_ws_71 rg_wz_7 rg_wd_71 ⟨by decide +kernel, by decide +kernel, by decide +kernel, by decide +kernel⟩ (by decide +kernel) (by decide +kernel)) <|
  rg_fc (rg_ok_aload_n (j := 0) (by decide +kernel) rfl) <|
  rg_fc (rg_ok_sipush (n := 393) (by decide +kernel) (by decide +kernel)) <|
  rg_fc (rg_ok_iload_n (j := 2) (by decide +kernel) rfl) <|
  rg_fc (rg_ok_sipush (n := 390) (by decide +kernel) (by decide +kernel)) <|
  rg_fc (rg_ok_callV (idx := 64) rg_cok7 (by decide +kernel) (by decide +kernel) rg_wm_M_64 rg_wj_71 rg_ws_71 rg_wz_7 rg_wd_71 ⟨by decide +kernel, by decide +kernel, by decide +kernel, by decide +kernel⟩ (by decide +kernel) (by decide +kernel)) <|
  rg_fc (rg_ok_aload_n (j := 0) (by decide +kernel) rfl) <|
  rg_fc (rg_ok_sipush (n := 389) (by decide +kernel) (by decide +kernel)) <|
  rg_fc (rg_ok_sipush (n := 390) (by decide +kernel) (by decide +kernel)) <|
  rg_fc (rg_ok_iload_n (j := 1) (by decide +kernel) rfl) <|
  rg_fc (rg_ok_callV (idx := 61) rg_cok7 (by decide +kernel) (by decide +kernel) rg_wm_M_61 rg_wj_78 rg_ws_78 rg_wz_7 rg_wd_78 ⟨by decide +kernel, by decide +kernel, by decide +kernel, by decide +kernel⟩ (by decide +kernel) (by decide +kernel)) <|
  rg_fc (rg_ok_aload_n (j := 0) (by decide +kernel) rfl) <|
  rg_fc (rg_ok_iload_n (j := 2) (by decide +kernel) rfl) <|
  rg_fc (rg_ok_sipush (n := 394) (by decide +kernel) (by decide +kernel)) <|
  rg_fc (rg_ok_sipush (n := 389) (by decide +kernel) (by decide +kernel)) <|
  rg_fc (rg_ok_callV (idx := 64) rg_cok7 (by decide +kernel) (by decide +kernel) rg_wm_M_64 rg_wj_71 rg_ws_71 rg_wz_7 rg_wd_71 ⟨by decide +kernel, by decide +kernel, by decide +kernel, by decide +kernel⟩ (by decide +kernel) (by decide +kernel)) <|
  rg_fc (rg_ok_aload_n (j := 0) (by decide +kernel) rfl) <|
  rg_fc (rg_ok_sipush (n := 389) (by decide +kernel) (by decide +kernel)) <|
  rg_fc (rg_ok_iload_n (j := 2) (by decide +kernel) rfl) <|
  rg_fc (rg_ok_callV (idx := 46) rg_cok7 (by decide +kernel) (by decide +kernel) rg_wm_M_46 rg_wj_69 rg_ws_69 rg_wz_7 rg_wd_69 ⟨by decide +kernel, by decide +kernel, by decide +kernel, by decide +kernel⟩ (by decide +kernel) (by decide +kernel)) <|
  rg_fc (rg_ok_return (by decide +kernel) rfl) <|
  fun _ h => absurd h List.not_mem_nil
def rg_kd111 : List (List (Nat × rg_S)) := [rg_c111_0]
theorem rg_o111 : ∀ pc f, rg_lk2 rg_kd111 pc = some f → rg_Ok 111 pc f := rg_lk2_ok (rg_fd rg_o111_0 (fun _ h => absurd h List.not_mem_nil))
def rg_c112_0 : List (Nat × rg_S) := [(0, rg_sic 4 1), (1, rg_sil 2 1), (2, rg_s2i (fun x y => x * y)), (3, rg_sic 1 1), (4, rg_s2i (fun x y => x + y)), (5, rg_sis 4 2), (7, rg_sal 0 1), (8, rg_sic 360 3), (11, rg_sil 1 1), (12, rg_scS 109 1 1), (15, rg_s2i (fun x y => x + y)), (16, rg_sic 395 3), (19, rg_scV 69 2 0 7), (22, rg_sal 0 1), (23, rg_sic 395 3), (26, rg_sil 3 1), (27, rg_si2l), (28, rg_scV 83 2 0 7), (31, rg_sal 0 1), (32, rg_sal 0 1), (33, rg_sil 4 2), (35, rg_sic 0 1), (36, rg_scV 110 2 1 7), (39, rg_sic 395 3), (42, rg_sic 393 3)]
theorem rg_o112_0 : ∀ q ∈ rg_c112_0, rg_Ok 112 q.1 q.2 :=
  rg_fc (rg_ok_iconst (n := 4) (by decide +kernel) (by decide +kernel)) <|
  rg_fc (rg_ok_iload_n (j := 2) (by decide +kernel) rfl) <|
  rg_fc (rg_ok_imul (by decide +kernel)) <|
  rg_fc (rg_ok_iconst (n := 1) (by decide +kernel) (by decide +kernel)) <|
  rg_fc (rg_ok_iadd (by decide +kernel)) <|
  rg_fc (rg_ok_istore (i := 4) (by decide +kernel) (by decide +kernel)) <|
  rg_fc (rg_ok_aload_n (j := 0) (by decide +kernel) rfl) <|
  rg_fc (rg_ok_sipush (n := 360) (by decide +kernel) (by decide +kernel)) <|
  rg_fc (rg_ok_iload_n (j := 1) (by decide +kernel) rfl) <|
  rg_fc (rg_ok_callS (idx := 188) (by decide +kernel) (by decide +kernel) rg_wm_M_188 rg_wt_109 rg_wy_109 rg_wd_109 ⟨by decide +kernel, by decide +kernel, by decide +kernel⟩ (by decide +kernel) (by decide +kernel)) <|
  rg_fc (rg_ok_iadd (by decide +kernel)) <|
  rg_fc (rg_ok_sipush (n := 395) (by decide +kernel) (by decide +kernel)) <|
  rg_fc (rg_ok_callV (idx := 46) rg_cok7 (by decide +kernel) (by decide +kernel) rg_wm_M_46 rg_wj_69 rg_ws_69 rg_wz_7 rg_wd_69 ⟨by decide +kernel, by decide +kernel, by decide +kernel, by decide +kernel⟩ (by decide +kernel) (by decide +kernel)) <|
  rg_fc (rg_ok_aload_n (j := 0) (by decide +kernel) rfl) <|
  rg_fc (rg_ok_sipush (n := 395) (by decide +kernel) (by decide +kernel)) <|
  rg_fc (rg_ok_iload_n (j := 3) (by decide +kernel) rfl) <|
  rg_fc (rg_ok_i2l (by decide +kernel)) <|
  rg_fc (rg_ok_callV (idx := 133) rg_cok7 (by decide +kernel) (by decide +kernel) rg_wm_M_133 rg_wj_83 rg_ws_83 rg_wz_7 rg_wd_83 ⟨by decide +kernel, by decide +kernel, by decide +kernel, by decide +kernel⟩ (by decide +kernel) (by decide +kernel)) <|
  rg_fc (rg_ok_aload_n (j := 0) (by decide +kernel) rfl) <|
  rg_fc (rg_ok_aload_n (j := 0) (by decide +kernel) rfl) <|
  rg_fc (rg_ok_iload (i := 4) (by decide +kernel)) <|
  rg_fc (rg_ok_iconst (n := 0) (by decide +kernel) (by decide +kernel)) <|
  rg_fc (rg_ok_callV (idx := 179) rg_cok7 (by decide +kernel) (by decide +kernel) rg_wm_M_179 rg_wj_110 rg_ws_110 rg_wz_7 rg_wd_110 ⟨by decide +kernel, by decide +kernel, by decide +kernel, by decide +kernel⟩ (by decide +kernel) (by decide +kernel)) <|
  rg_fc (rg_ok_sipush (n := 395) (by decide +kernel) (by decide +kernel)) <|
  rg_fc (rg_ok_sipush (n := 393) (by decide +kernel) (by decide +kernel)) <|
  fun _ h => absurd h List.not_mem_nil
def rg_c112_1 : List (Nat × rg_S) := [(45, rg_scV 71 3 0 7), (48, rg_sal 0 1), (49, rg_sal 0 1), (50, rg_sil 1 1), (51, rg_scS 109 1 1), (54, rg_sic 1 1), (55, rg_scV 110 2 1 7), (58, rg_sic 395 3), (61, rg_scV 69 2 0 7), (64, rg_sal 0 1), (65, rg_sic 395 3), (68, rg_sic 2 1), (69, rg_sil 3 1), (70, rg_s2i (fun x y => x * y)), (71, rg_si2l), (72, rg_scV 83 2 0 7), (75, rg_sal 0 1), (76, rg_sic 395 3), (79, rg_sal 0 1), (80, rg_sil 1 1), (81, rg_scS 109 1 1), (84, rg_sic 0 1), (85, rg_scV 110 2 1 7), (88, rg_sic 396 3), (91, rg_scV 84 3 0 7)]
theorem rg_o112_1 : ∀ q ∈ rg_c112_1, rg_Ok 112 q.1 q.2 :=
  rg_fc (rg_ok_callV (idx := 64) rg_cok7 (by decide +kernel) (by decide +kernel) rg_wm_M_64 rg_wj_71 rg_ws_71 rg_wz_7 rg_wd_71 ⟨by decide +kernel, by decide +kernel, by decide +kernel, by decide +kernel⟩ (by decide +kernel) (by decide +kernel)) <|
  rg_fc (rg_ok_aload_n (j := 0) (by decide +kernel) rfl) <|
  rg_fc (rg_ok_aload_n (j := 0) (by decide +kernel) rfl) <|
  rg_fc (rg_ok_iload_n (j := 1) (by decide +kernel) rfl) <|
  rg_fc (rg_ok_callS (idx := 188) (by decide +kernel) (by decide +kernel) rg_wm_M_188 rg_wt_109 rg_wy_109 rg_wd_109 ⟨by decide +kernel, by decide +kernel, by decide +kernel⟩ (by decide +kernel) (by decide +kernel)) <|
  rg_fc (rg_ok_iconst (n := 1) (by decide +kernel) (by decide +kernel)) <|
  rg_fc (rg_ok_callV (idx := 179) rg_cok7 (by decide +kernel) (by decide +kernel) rg_wm_M_179 rg_wj_110 rg_ws_110 rg_wz_7 rg_wd_110 ⟨by decide +kernel, by decide +kernel, by decide +kernel, by decide +kernel⟩ (by decide +kernel) (by decide +kernel)) <|
  rg_fc (rg_ok_sipush (n := 395) (by decide +kernel) (by decide +kernel)) <|
  rg_fc (rg_ok_callV (idx := 46) rg_cok7 (by decide +kernel) (by decide +kernel) rg_wm_M_46 rg_wj_69 rg_ws_69 rg_wz_7 rg_wd_69 ⟨by decide +kernel, by decide +kernel, by decide +kernel, by decide +kernel⟩ (by decide +kernel) (by decide +kernel)) <|
  rg_fc (rg_ok_aload_n (j := 0) (by decide +kernel) rfl) <|
  rg_fc (rg_ok_sipush (n := 395) (by decide +kernel) (by decide +kernel)) <|
  rg_fc (rg_ok_iconst (n := 2) (by decide +kernel) (by decide +kernel)) <|
  rg_fc (rg_ok_iload_n (j := 3) (by decide +kernel) rfl) <|
  rg_fc (rg_ok_imul (by decide +kernel)) <|
  rg_fc (rg_ok_i2l (by decide +kernel)) <|
  rg_fc (rg_ok_callV (idx := 133) rg_cok7 (by decide +kernel) (by decide +kernel) rg_wm_M_133 rg_wj_83 rg_ws_83 rg_wz_7 rg_wd_83 ⟨by decide +kernel, by decide +kernel, by decide +kernel, by decide +kernel⟩ (by decide +kernel) (by decide +kernel)) <|
  rg_fc (rg_ok_aload_n (j := 0) (by decide +kernel) rfl) <|
  rg_fc (rg_ok_sipush (n := 395) (by decide +kernel) (by decide +kernel)) <|
  rg_fc (rg_ok_aload_n (j := 0) (by decide +kernel) rfl) <|
  rg_fc (rg_ok_iload_n (j := 1) (by decide +kernel) rfl) <|
  rg_fc (rg_ok_callS (idx := 188) (by decide +kernel) (by decide +kernel) rg_wm_M_188 rg_wt_109 rg_wy_109 rg_wd_109 ⟨by decide +kernel, by decide +kernel, by decide +kernel⟩ (by decide +kernel) (by decide +kernel)) <|
  rg_fc (rg_ok_iconst (n := 0) (by decide +kernel) (by decide +kernel)) <|
  rg_fc (rg_ok_callV (idx := 179) rg_cok7 (by decide +kernel) (by decide +kernel) rg_wm_M_179 rg_wj_110 rg_ws_110 rg_wz_7 rg_wd_110 ⟨by decide +kernel, by decide +kernel, by decide +kernel, by decide +kernel⟩ (by decide +kernel) (by decide +kernel)) <|
  rg_fc (rg_ok_sipush (n := 396) (by decide +kernel) (by decide +kernel)) <|
  rg_fc (rg_ok_callV (idx := 136) rg_cok7 (by decide +kernel) (by decide +kernel) rg_wm_M_136 rg_wj_84 rg_ws_84 rg_wz_7 rg_wd_84 ⟨by decide +kernel, by decide +kernel, by decide +kernel, by decide +kernel⟩ (by decide +kernel) (by decide +kernel)) <|
  fun _ h => absurd h List.not_mem_nil
def rg_c112_2 : List (Nat × rg_S) := [(94, rg_sal 0 1), (95, rg_sal 0 1), (96, rg_sil 4 2), (98, rg_sic 1 1), (99, rg_scV 110 2 1 7), (102, rg_sic 396 3), (105, rg_sic 395 3), (108, rg_scV 71 3 0 7), (111, rg_sal 0 1), (112, rg_sic 393 3), (115, rg_sic 395 3), (118, rg_sic 393 3), (121, rg_scV 78 3 0 7), (124, rg_sal 0 1), (125, rg_sic 360 3), (128, rg_sil 4 2), (130, rg_s2i (fun x y => x + y)), (131, rg_sic 394 3), (134, rg_scV 69 2 0 7), (137, rg_sal 0 1), (138, rg_sic 382 3), (141, rg_sic 383 3), (144, rg_scV 111 2 0 7), (147, rg_sal 0 1), (148, rg_sal 0 1)]
theorem rg_o112_2 : ∀ q ∈ rg_c112_2, rg_Ok 112 q.1 q.2 :=
  rg_fc (rg_ok_aload_n (j := 0) (by decide +kernel) rfl) <|
  rg_fc (rg_ok_aload_n (j := 0) (by decide +kernel) rfl) <|
  rg_fc (rg_ok_iload (i := 4) (by decide +kernel)) <|
  rg_fc (rg_ok_iconst (n := 1) (by decide +kernel) (by decide +kernel)) <|
  rg_fc (rg_ok_callV (idx := 179) rg_cok7 (by decide +kernel) (by decide +kernel) rg_wm_M_179 rg_wj_110 rg_ws_110 rg_wz_7 rg_wd_110 ⟨by decide +kernel, by decide +kernel, by decide +kernel, by decide +kernel⟩ (by decide +kernel) (by decide +kernel)) <|
  rg_fc (rg_ok_sipush (n := 396) (by decide +kernel) (by decide +kernel)) <|
  rg_fc (rg_ok_sipush (n := 395) (by decide +kernel) (by decide +kernel)) <|
  rg_fc (rg_ok_callV (idx := 64) rg_cok7 (by decide +kernel) (by decide +kernel) rg_wm_M_64 rg_wj_71 rg_ws_71 rg_wz_7 rg_wd_71 ⟨by decide +kernel, by decide +kernel, by decide +kernel, by decide +kernel⟩ (by decide +kernel) (by decide +kernel)) <|
  rg_fc (rg_ok_aload_n (j := 0) (by decide +kernel) rfl) <|
  rg_fc (rg_ok_sipush (n := 393) (by decide +kernel) (by decide +kernel)) <|
  rg_fc (rg_ok_sipush (n := 395) (by decide +kernel) (by decide +kernel)) <|
  rg_fc (rg_ok_sipush (n := 393) (by decide +kernel) (by decide +kernel)) <|
  rg_fc (rg_ok_callV (idx := 61) rg_cok7 (by decide +kernel) (by decide +kernel) rg_wm_M_61 rg_wj_78 rg_ws_78 rg_wz_7 rg_wd_78 ⟨by decide +kernel, by decide +kernel, by decide +kernel, by decide +kernel⟩ (by decide +kernel) (by decide +kernel)) <|
  rg_fc (rg_ok_aload_n (j := 0) (by decide +kernel) rfl) <|
  rg_fc (rg_ok_sipush (n := 360) (by decide +kernel) (by decide +kernel)) <|
  rg_fc (rg_ok_iload (i := 4) (by decide +kernel)) <|
  rg_fc (rg_ok_iadd (by decide +kernel)) <|
  rg_fc (rg_ok_sipush (n := 394) (by decide +kernel) (by decide +kernel)) <|
  rg_fc (rg_ok_callV (idx := 46) rg_cok7 (by decide +kernel) (by decide +kernel) rg_wm_M_46 rg_wj_69 rg_ws_69 rg_wz_7 rg_wd_69 ⟨by decide +kernel, by decide +kernel, by decide +kernel, by decide +kernel⟩ (by decide +kernel) (by decide +kernel)) <|
  rg_fc (rg_ok_aload_n (j := 0) (by decide +kernel) rfl) <|
  rg_fc (rg_ok_sipush (n := 382) (by decide +kernel) (by decide +kernel)) <|
  rg_fc (rg_ok_sipush (n := 383) (by decide +kernel) (by decide +kernel)) <|
  rg_fc (rg_ok_callV (idx := 185) rg_cok7 (by decide +kernel) (by decide +kernel) rg_wm_M_185 rg_wj_111 rg_ws_111 rg_wz_7 rg_wd_111 ⟨by decide +kernel, by decide +kernel, by decide +kernel, by decide +kernel⟩ (by decide +kernel) (by decide +kernel)) <|
  rg_fc (rg_ok_aload_n (j := 0) (by decide +kernel) rfl) <|
  rg_fc (rg_ok_aload_n (j := 0) (by decide +kernel) rfl) <|
  fun _ h => absurd h List.not_mem_nil
def rg_c112_3 : List (Nat × rg_S) := [(149, rg_sil 4 2), (151, rg_sic 1 1), (152, rg_s2i (fun x y => x + y)), (153, rg_sic 1 1), (154, rg_scV 110 2 1 7), (157, rg_sic 395 3), (160, rg_scV 69 2 0 7), (163, rg_sal 0 1), (164, rg_sic 395 3), (167, rg_sic 2 1), (168, rg_sil 3 1), (169, rg_s2i (fun x y => x * y)), (170, rg_si2l), (171, rg_scV 83 2 0 7), (174, rg_sal 0 1), (175, rg_sic 395 3), (178, rg_sal 0 1), (179, rg_sil 4 2), (181, rg_sic 1 1), (182, rg_s2i (fun x y => x + y)), (183, rg_sic 0 1), (184, rg_scV 110 2 1 7), (187, rg_sic 393 3), (190, rg_scV 78 3 0 7), (193, rg_sal 0 1)]
theorem rg_o112_3 : ∀ q ∈ rg_c112_3, rg_Ok 112 q.1 q.2 :=
  rg_fc (rg_ok_iload (i := 4) (by decide +kernel)) <|
  rg_fc (rg_ok_iconst (n := 1) (by decide +kernel) (by decide +kernel)) <|
  rg_fc (rg_ok_iadd (by decide +kernel)) <|
  rg_fc (rg_ok_iconst (n := 1) (by decide +kernel) (by decide +kernel)) <|
  rg_fc (rg_ok_callV (idx := 179) rg_cok7 (by decide +kernel) (by decide +kernel) rg_wm_M_179 rg_wj_110 rg_ws_110 rg_wz_7 rg_wd_110 ⟨by decide +kernel, by decide +kernel, by decide +kernel, by decide +kernel⟩ (by decide +kernel) (by decide +kernel)) <|
  rg_fc (rg_ok_sipush (n := 395) (by decide +kernel) (by decide +kernel)) <|
  rg_fc (rg_ok_callV (idx := 46) rg_cok7 (by decide +kernel) (by decide +kernel) rg_wm_M_46 rg_wj_69 rg_ws_69 rg_wz_7 rg_wd_69 ⟨by decide +kernel, by decide +kernel, by decide +kernel, by decide +kernel⟩ (by decide +kernel) (by decide +kernel)) <|
  rg_fc (rg_ok_aload_n (j := 0) (by decide +kernel) rfl) <|
  rg_fc (rg_ok_sipush (n := 395) (by decide +kernel) (by decide +kernel)) <|
  rg_fc (rg_ok_iconst (n := 2) (by decide +kernel) (by decide +kernel)) <|
  rg_fc (rg_ok_iload_n (j := 3) (by decide +kernel) rfl) <|
  rg_fc (rg_ok_imul (by decide +kernel)) <|
  rg_fc (rg_ok_i2l (by decide +kernel)) <|
  rg_fc (rg_ok_callV (idx := 133) rg_cok7 (by decide +kernel) (by decide +kernel) rg_wm_M_133 rg_wj_83 rg_ws_83 rg_wz_7 rg_wd_83 ⟨by decide +kernel, by decide +kernel, by decide +kernel, by decide +kernel⟩ (by decide +kernel) (by decide +kernel)) <|
  rg_fc (rg_ok_aload_n (j := 0) (by decide +kernel) rfl) <|
  rg_fc (rg_ok_sipush (n := 395) (by decide +kernel) (by decide +kernel)) <|
  rg_fc (rg_ok_aload_n (j := 0) (by decide +kernel) rfl) <|
  rg_fc (rg_ok_iload (i := 4) (by decide +kernel)) <|
  rg_fc (rg_ok_iconst (n := 1) (by decide +kernel) (by decide +kernel)) <|
  rg_fc (rg_ok_iadd (by decide +kernel)) <|
  rg_fc (rg_ok_iconst (n := 0) (by decide +kernel) (by decide +kernel)) <|
  rg_fc (rg_ok_callV (idx := 179) rg_cok7 (by decide +kernel) (by decide +kernel) rg_wm_M_179 rg_wj_110 rg_ws_110 rg_wz_7 rg_wd_110 ⟨by decide +kernel, by decide +kernel, by decide +kernel, by decide +kernel⟩ (by decide +kernel) (by decide +kernel)) <|
  rg_fc (rg_ok_sipush (n := 393) (by decide +kernel) (by decide +kernel)) <|
  rg_fc (rg_ok_callV (idx := 61) rg_cok7 (by decide +kernel) (by decide +kernel) rg_wm_M_61 rg_wj_78 rg_ws_78 rg_wz_7 rg_wd_78 ⟨by decide +kernel, by decide +kernel, by decide +kernel, by decide +kernel⟩ (by decide +kernel) (by decide +kernel)) <|
  rg_fc (rg_ok_aload_n (j := 0) (by decide +kernel) rfl) <|
  fun _ h => absurd h List.not_mem_nil
def rg_c112_4 : List (Nat × rg_S) := [(194, rg_sic 360 3), (197, rg_sil 4 2), (199, rg_s2i (fun x y => x + y)), (200, rg_sic 1 1), (201, rg_s2i (fun x y => x + y)), (202, rg_sic 394 3), (205, rg_scV 69 2 0 7), (208, rg_sal 0 1), (209, rg_sic 384 3), (212, rg_sic 385 3), (215, rg_scV 111 2 0 7), (218, rg_rv)]
theorem rg_o112_4 : ∀ q ∈ rg_c112_4, rg_Ok 112 q.1 q.2 :=
  rg_fc (rg_ok_sipush (n := 360) (by decide +kernel) (by decide +kernel)) <|
  rg_fc (rg_ok_iload (i := 4) (by decide +kernel)) <|
  rg_fc (rg_ok_iadd (by decide +kernel)) <|
  rg_fc (rg_ok_iconst (n := 1) (by decide +kernel) (by decide +kernel)) <|
  rg_fc (rg_ok_iadd (by decide +kernel)) <|
  rg_fc (rg_ok_sipush (n := 394) (by decide +kernel) (by decide +kernel)) <|
  rg_fc (rg_ok_callV (idx := 46) rg_cok7 (by decide +kernel) (by decide +kernel) rg_wm_M_46 rg_wj_69 rg_ws_69 rg_wz_7 rg_wd_69 ⟨by decide +kernel, by decide +kernel, by decide +kernel, by decide +kernel⟩ (by decide +kernel) (by decide +kernel)) <|
  rg_fc (rg_ok_aload_n (j := 0) (by decide +kernel) rfl) <|
  rg_fc (rg_ok_sipush (n := 384) (by decide +kernel) (by decide +kernel)) <|
  rg_fc (rg_ok_sipush (n := 385) (by decide +kernel) (by decide +kernel)) <|
  rg_fc (rg_ok_callV (idx := 185) rg_cok7 (by decide +kernel) (by decide +kernel) rg_wm_M_185 rg_wj_111 rg_ws_111 rg_wz_7 rg_wd_111 ⟨by decide +kernel, by decide +kernel, by decide +kernel, by decide +kernel⟩ (by decide +kernel) (by decide +kernel)) <|
  rg_fc (rg_ok_return (by decide +kernel) rfl) <|
  fun _ h => absurd h List.not_mem_nil
def rg_kd112 : List (List (Nat × rg_S)) := [rg_c112_0, rg_c112_1, rg_c112_2, rg_c112_3, rg_c112_4]
theorem rg_o112 : ∀ pc f, rg_lk2 rg_kd112 pc = some f → rg_Ok 112 pc f := rg_lk2_ok (rg_fd rg_o112_0 (rg_fd rg_o112_1 (rg_fd rg_o112_2 (rg_fd rg_o112_3 (rg_fd rg_o112_4 (fun _ h => absurd h List.not_mem_nil))))))
def rg_c113_0 : List (Nat × rg_S) := [(0, rg_sic 4 1), (1, rg_sil 0 1), (2, rg_s2i (fun x y => x * y)), (3, rg_ri)]
theorem rg_o113_0 : ∀ q ∈ rg_c113_0, rg_Ok 113 q.1 q.2 :=
  rg_fc (rg_ok_iconst (n := 4) (by decide +kernel) (by decide +kernel)) <|
  rg_fc (rg_ok_iload_n (j := 0) (by decide +kernel) rfl) <|
  rg_fc (rg_ok_imul (by decide +kernel)) <|
  rg_fc (rg_ok_ireturn (by decide +kernel) rfl) <|
  fun _ h => absurd h List.not_mem_nil
def rg_kd113 : List (List (Nat × rg_S)) := [rg_c113_0]
theorem rg_o113 : ∀ pc f, rg_lk2 rg_kd113 pc = some f → rg_Ok 113 pc f := rg_lk2_ok (rg_fd rg_o113_0 (fun _ h => absurd h List.not_mem_nil))
def rg_c114_0 : List (Nat × rg_S) := [(0, rg_sal 0 1), (1, rg_sic 360 3), (4, rg_sil 1 1), (5, rg_scS 109 1 1), (8, rg_s2i (fun x y => x + y)), (9, rg_sic 395 3), (12, rg_scV 69 2 0 7), (15, rg_sal 0 1), (16, rg_sic 395 3), (19, rg_sil 2 1), (20, rg_si2l), (21, rg_scV 83 2 0 7), (24, rg_sal 0 1), (25, rg_sic 395 3), (28, rg_sal 0 1), (29, rg_sil 1 1), (30, rg_scS 109 1 1), (33, rg_sic 0 1), (34, rg_scV 110 2 1 7), (37, rg_sic 396 3), (40, rg_scV 84 3 0 7), (43, rg_sal 0 1), (44, rg_sal 0 1), (45, rg_sil 1 1), (46, rg_scS 109 1 1)]
theorem rg_o114_0 : ∀ q ∈ rg_c114_0, rg_Ok 114 q.1 q.2 :=
  rg_fc (rg_ok_aload_n (j := 0) (by decide +kernel) rfl) <|
  rg_fc (rg_ok_sipush (n := 360) (by decide +kernel) (by decide +kernel)) <|
  rg_fc (rg_ok_iload_n (j := 1) (by decide +kernel) rfl) <|
  rg_fc (rg_ok_callS (idx := 188) (by decide +kernel) (by decide +kernel) rg_wm_M_188 rg_wt_109 rg_wy_109 rg_wd_109 ⟨by decide +kernel, by decide +kernel, by decide +kernel⟩ (by decide +kernel) (by decide +kernel)) <|
  rg_fc (rg_ok_iadd (by decide +kernel)) <|
  rg_fc (rg_ok_sipush (n := 395) (by decide +kernel) (by decide +kernel)) <|
  rg_fc (rg_ok_callV (idx := 46) rg_cok7 (by decide +kernel) (by decide +kernel) rg_wm_M_46 rg_wj_69 rg_ws_69 rg_wz_7 rg_wd_69 ⟨by decide +kernel, by decide +kernel, by decide +kernel, by decide +kernel⟩ (by decide +kernel) (by decide +kernel)) <|
  rg_fc (rg_ok_aload_n (j := 0) (by decide +kernel) rfl) <|
  rg_fc (rg_ok_sipush (n := 395) (by decide +kernel) (by decide +kernel)) <|
  rg_fc (rg_ok_iload_n (j := 2) (by decide +kernel) rfl) <|
  rg_fc (rg_ok_i2l (by decide +kernel)) <|
  rg_fc (rg_ok_callV (idx := 133) rg_cok7 (by decide +kernel) (by decide +kernel) rg_wm_M_133 rg_wj_83 rg_ws_83 rg_wz_7 rg_wd_83 ⟨by decide +kernel, by decide +kernel, by decide +kernel, by decide +kernel⟩ (by decide +kernel) (by decide +kernel)) <|
  rg_fc (rg_ok_aload_n (j := 0) (by decide +kernel) rfl) <|
  rg_fc (rg_ok_sipush (n := 395) (by decide +kernel) (by decide +kernel)) <|
  rg_fc (rg_ok_aload_n (j := 0) (by decide +kernel) rfl) <|
  rg_fc (rg_ok_iload_n (j := 1) (by decide +kernel) rfl) <|
  rg_fc (rg_ok_callS (idx := 188) (by decide +kernel) (by decide +kernel) rg_wm_M_188 rg_wt_109 rg_wy_109 rg_wd_109 ⟨by decide +kernel, by decide +kernel, by decide +kernel⟩ (by decide +kernel) (by decide +kernel)) <|
  rg_fc (rg_ok_iconst (n := 0) (by decide +kernel) (by decide +kernel)) <|
  rg_fc (rg_ok_callV (idx := 179) rg_cok7 (by decide +kernel) (by decide +kernel) rg_wm_M_179 rg_wj_110 rg_ws_110 rg_wz_7 rg_wd_110 ⟨by decide +kernel, by decide +kernel, by decide +kernel, by decide +kernel⟩ (by decide +kernel) (by decide +kernel)) <|
  rg_fc (rg_ok_sipush (n := 396) (by decide +kernel) (by decide +kernel)) <|
  rg_fc (rg_ok_callV (idx := 136) rg_cok7 (by decide +kernel) (by decide +kernel) rg_wm_M_136 rg_wj_84 rg_ws_84 rg_wz_7 rg_wd_84 ⟨by decide +kernel, by decide +kernel, by decide +kernel, by decide +kernel⟩ (by decide +kernel) (by decide +kernel)) <|
  rg_fc (rg_ok_aload_n (j := 0) (by decide +kernel) rfl) <|
  rg_fc (rg_ok_aload_n (j := 0) (by decide +kernel) rfl) <|
  rg_fc (rg_ok_iload_n (j := 1) (by decide +kernel) rfl) <|
  rg_fc (rg_ok_callS (idx := 188) (by decide +kernel) (by decide +kernel) rg_wm_M_188 rg_wt_109 rg_wy_109 rg_wd_109 ⟨by decide +kernel, by decide +kernel, by decide +kernel⟩ (by decide +kernel) (by decide +kernel)) <|
  fun _ h => absurd h List.not_mem_nil
def rg_c114_1 : List (Nat × rg_S) := [(49, rg_sic 1 1), (50, rg_scV 110 2 1 7), (53, rg_sic 395 3), (56, rg_scV 69 2 0 7), (59, rg_sal 0 1), (60, rg_sic 395 3), (63, rg_sic 2 1), (64, rg_sil 2 1), (65, rg_s2i (fun x y => x * y)), (66, rg_si2l), (67, rg_scV 83 2 0 7), (70, rg_sal 0 1), (71, rg_sic 396 3), (74, rg_sic 395 3), (77, rg_sic 396 3), (80, rg_scV 84 3 0 7), (83, rg_sal 0 1), (84, rg_sal 0 1), (85, rg_sil 1 1), (86, rg_scS 113 1 1), (89, rg_sic 0 1), (90, rg_scV 110 2 1 7), (93, rg_sic 396 3), (96, rg_sic 393 3), (99, rg_scV 71 3 0 7)]
theorem rg_o114_1 : ∀ q ∈ rg_c114_1, rg_Ok 114 q.1 q.2 :=
  rg_fc (rg_ok_iconst (n := 1) (by decide +kernel) (by decide +kernel)) <|
  rg_fc (rg_ok_callV (idx := 179) rg_cok7 (by decide +kernel) (by decide +kernel) rg_wm_M_179 rg_wj_110 rg_ws_110 rg_wz_7 rg_wd_110 ⟨by decide +kernel, by decide +kernel, by decide +kernel, by decide +kernel⟩ (by decide +kernel) (by decide +kernel)) <|
  rg_fc (rg_ok_sipush (n := 395) (by decide +kernel) (by decide +kernel)) <|
  rg_fc (rg_ok_callV (idx := 46) rg_cok7 (by decide +kernel) (by decide +kernel) rg_wm_M_46 rg_wj_69 rg_ws_69 rg_wz_7 rg_wd_69 ⟨by decide +kernel, by decide +kernel, by decide +kernel, by decide +kernel⟩ (by decide +kernel) (by decide +kernel)) <|
  rg_fc (rg_ok_aload_n (j := 0) (by decide +kernel) rfl) <|
  rg_fc (rg_ok_sipush (n := 395) (by decide +kernel) (by decide +kernel)) <|
  rg_fc (rg_ok_iconst (n := 2) (by decide +kernel) (by decide +kernel)) <|
  rg_fc (rg_ok_iload_n (j := 2) (by decide +kernel) rfl) <|
  rg_fc (rg_ok_imul (by decide +kernel)) <|
  rg_fc (rg_ok_i2l (by decide +kernel)) <|
  rg_fc (rg_ok_callV (idx := 133) rg_cok7 (by decide +kernel) (by decide +kernel) rg_wm_M_133 rg_wj_83 rg_ws_83 rg_wz_7 rg_wd_83 ⟨by decide +kernel, by decide +kernel, by decide +kernel, by decide +kernel⟩ (by decide +kernel) (by decide +kernel)) <|
  rg_fc (rg_ok_aload_n (j := 0) (by decide +kernel) rfl) <|
  rg_fc (rg_ok_sipush (n := 396) (by decide +kernel) (by decide +kernel)) <|
  rg_fc (rg_ok_sipush (n := 395) (by decide +kernel) (by decide +kernel)) <|
  rg_fc (rg_ok_sipush (n := 396) (by decide +kernel) (by decide +kernel)) <|
  rg_fc (rg_ok_callV (idx := 136) rg_cok7 (by decide +kernel) (by decide +kernel) rg_wm_M_136 rg_wj_84 rg_ws_84 rg_wz_7 rg_wd_84 ⟨by decide +kernel, by decide +kernel, by decide +kernel, by decide +kernel⟩ (by decide +kernel) (by decide +kernel)) <|
  rg_fc (rg_ok_aload_n (j := 0) (by decide +kernel) rfl) <|
  rg_fc (rg_ok_aload_n (j := 0) (by decide +kernel) rfl) <|
  rg_fc (rg_ok_iload_n (j := 1) (by decide +kernel) rfl) <|
  rg_fc (rg_ok_callS (idx := 182) (by decide +kernel) (by decide +kernel) rg_wm_M_182 rg_wt_113 rg_wy_113 rg_wd_113 ⟨by decide +kernel, by decide +kernel, by decide +kernel⟩ (by decide +kernel) (by decide +kernel)) <|
  rg_fc (rg_ok_iconst (n := 0) (by decide +kernel) (by decide +kernel)) <|
  rg_fc (rg_ok_callV (idx := 179) rg_cok7 (by decide +kernel) (by decide +kernel) rg_wm_M_179 rg_wj_110 rg_ws_110 rg_wz_7 rg_wd_110 ⟨by decide +kernel, by decide +kernel, by decide +kernel, by decide +kernel⟩ (by decide +kernel) (by decide +kernel)) <|
  rg_fc (rg_ok_sipush (n := 396) (by decide +kernel) (by decide +kernel)) <|
  rg_fc (rg_ok_sipush (n := 393) (by decide +kernel) (by decide +kernel)) <|
  rg_fc (rg_ok_callV (idx := 64) rg_cok7 (by decide +kernel) (by decide +kernel) rg_wm_M_64 rg_wj_71 rg_ws_71 rg_wz_7 rg_wd_71 ⟨by decide +kernel, by decide +kernel, by decide +kernel, by decide +kernel⟩ (by decide +kernel) (by decide +kernel)) <|
  fun _ h => absurd h List.not_mem_nil
def rg_c114_2 : List (Nat × rg_S) := [(102, rg_sal 0 1), (103, rg_sic 360 3), (106, rg_sil 1 1), (107, rg_scS 113 1 1), (110, rg_s2i (fun x y => x + y)), (111, rg_sic 360 3), (114, rg_sil 1 1), (115, rg_scS 109 1 1), (118, rg_s2i (fun x y => x + y)), (119, rg_sic 394 3), (122, rg_scV 71 3 0 7), (125, rg_sal 0 1), (126, rg_sic 382 3), (129, rg_sic 383 3), (132, rg_scV 111 2 0 7), (135, rg_rv)]
theorem rg_o114_2 : ∀ q ∈ rg_c114_2, rg_Ok 114 q.1 q.2 :=
  rg_fc (rg_ok_aload_n (j := 0) (by decide +kernel) rfl) <|
  rg_fc (rg_ok_sipush (n := 360) (by decide +kernel) (by decide +kernel)) <|
  rg_fc (rg_ok_iload_n (j := 1) (by decide +kernel) rfl) <|
  rg_fc (rg_ok_callS (idx := 182) (by decide +kernel) (by decide +kernel) rg_wm_M_182 rg_wt_113 rg_wy_113 rg_wd_113 ⟨by decide +kernel, by decide +kernel, by decide +kernel⟩ (by decide +kernel) (by decide +kernel)) <|
  rg_fc (rg_ok_iadd (by decide +kernel)) <|
  rg_fc (rg_ok_sipush (n := 360) (by decide +kernel) (by decide +kernel)) <|
  rg_fc (rg_ok_iload_n (j := 1) (by decide +kernel) rfl) <|
  rg_fc (rg_ok_callS (idx := 188) (by decide +kernel) (by decide +kernel) rg_wm_M_188 rg_wt_109 rg_wy_109 rg_wd_109 ⟨by decide +kernel, by decide +kernel, by decide +kernel⟩ (by decide +kernel) (by decide +kernel)) <|
  rg_fc (rg_ok_iadd (by decide +kernel)) <|
  rg_fc (rg_ok_sipush (n := 394) (by decide +kernel) (by decide +kernel)) <|
  rg_fc (rg_ok_callV (idx := 64) rg_cok7 (by decide +kernel) (by decide +kernel) rg_wm_M_64 rg_wj_71 rg_ws_71 rg_wz_7 rg_wd_71 ⟨by decide +kernel, by decide +kernel, by decide +kernel, by decide +kernel⟩ (by decide +kernel) (by decide +kernel)) <|
  rg_fc (rg_ok_aload_n (j := 0) (by decide +kernel) rfl) <|
  rg_fc (rg_ok_sipush (n := 382) (by decide +kernel) (by decide +kernel)) <|
  rg_fc (rg_ok_sipush (n := 383) (by decide +kernel) (by decide +kernel)) <|
  rg_fc (rg_ok_callV (idx := 185) rg_cok7 (by decide +kernel) (by decide +kernel) rg_wm_M_185 rg_wj_111 rg_ws_111 rg_wz_7 rg_wd_111 ⟨by decide +kernel, by decide +kernel, by decide +kernel, by decide +kernel⟩ (by decide +kernel) (by decide +kernel)) <|
  rg_fc (rg_ok_return (by decide +kernel) rfl) <|
  fun _ h => absurd h List.not_mem_nil
def rg_kd114 : List (List (Nat × rg_S)) := [rg_c114_0, rg_c114_1, rg_c114_2]
theorem rg_o114 : ∀ pc f, rg_lk2 rg_kd114 pc = some f → rg_Ok 114 pc f := rg_lk2_ok (rg_fd rg_o114_0 (rg_fd rg_o114_1 (rg_fd rg_o114_2 (fun _ h => absurd h List.not_mem_nil))))
def rg_c115_0 : List (Nat × rg_S) := [(0, rg_sil 1 1), (1, rg_sic 4 1), (2, rg_sdi (fun x y => x / y)), (3, rg_sis 2 1), (4, rg_sal 0 1), (5, rg_sic 382 3), (8, rg_sic 383 3), (11, rg_scV 107 2 0 7), (14, rg_sal 0 1), (15, rg_sic 384 3), (18, rg_sic 385 3), (21, rg_scV 107 2 0 7), (24, rg_sic 0 1), (25, rg_sis 3 1), (26, rg_sK [true, true, true, true, false] (rg_sil 3 1)), (27, rg_sal 0 1), (28, rg_sgi 7 6), (31, rg_skge 179), (34, rg_sil 3 1), (35, rg_sil 2 1), (36, rg_skne 42), (39, rg_sgo 173), (42, rg_sil 2 1), (43, rg_sil 3 1), (44, rg_scS 108 2 1)]
theorem rg_o115_0 : ∀ q ∈ rg_c115_0, rg_Ok 115 q.1 q.2 :=
  rg_fc (rg_ok_iload_n (j := 1) (by decide +kernel) rfl) <|
  rg_fc (rg_ok_iconst (n := 4) (by decide +kernel) (by decide +kernel)) <|
  rg_fc (rg_ok_idiv (by decide +kernel)) <|
  rg_fc (rg_ok_istore_n (j := 2) (by decide +kernel) rfl (by decide +kernel)) <|
  rg_fc (rg_ok_aload_n (j := 0) (by decide +kernel) rfl) <|
  rg_fc (rg_ok_sipush (n := 382) (by decide +kernel) (by decide +kernel)) <|
  rg_fc (rg_ok_sipush (n := 383) (by decide +kernel) (by decide +kernel)) <|
  rg_fc (rg_ok_callV (idx := 167) rg_cok7 (by decide +kernel) (by decide +kernel) rg_wm_M_167 rg_wj_107 rg_ws_107 rg_wz_7 rg_wd_107 ⟨by decide +kernel, by decide +kernel, by decide +kernel, by decide +kernel⟩ (by decide +kernel) (by decide +kernel)) <|
  rg_fc (rg_ok_aload_n (j := 0) (by decide +kernel) rfl) <|
  rg_fc (rg_ok_sipush (n := 384) (by decide +kernel) (by decide +kernel)) <|
  rg_fc (rg_ok_sipush (n := 385) (by decide +kernel) (by decide +kernel)) <|
  rg_fc (rg_ok_callV (idx := 167) rg_cok7 (by decide +kernel) (by decide +kernel) rg_wm_M_167 rg_wj_107 rg_ws_107 rg_wz_7 rg_wd_107 ⟨by decide +kernel, by decide +kernel, by decide +kernel, by decide +kernel⟩ (by decide +kernel) (by decide +kernel)) <|
  rg_fc (rg_ok_iconst (n := 0) (by decide +kernel) (by decide +kernel)) <|
  rg_fc (rg_ok_istore_n (j := 3) (by decide +kernel) rfl (by decide +kernel)) <|
  rg_fc (rg_okK _ (rg_ok_iload_n (j := 3) (by decide +kernel) rfl)) <|
  rg_fc (rg_ok_aload_n (j := 0) (by decide +kernel) rfl) <|
  rg_fc (rg_ok_geti (idx := 83) rg_cok7 (by decide +kernel) rfl (by decide +kernel) rg_wf_M_83) <|
  rg_fc (rg_ok_icmp_ge (off := 148) (by decide +kernel) (by decide +kernel)) <|
  rg_fc (rg_ok_iload_n (j := 3) (by decide +kernel) rfl) <|
  rg_fc (rg_ok_iload_n (j := 2) (by decide +kernel) rfl) <|
  rg_fc (rg_ok_icmp_ne (off := 6) (by decide +kernel) (by decide +kernel)) <|
  rg_fc (rg_ok_goto (off := 134) (by decide +kernel) (by decide +kernel)) <|
  rg_fc (rg_ok_iload_n (j := 2) (by decide +kernel) rfl) <|
  rg_fc (rg_ok_iload_n (j := 3) (by decide +kernel) rfl) <|
  rg_fc (rg_ok_callS (idx := 170) (by decide +kernel) (by decide +kernel) rg_wm_M_170 rg_wt_108 rg_wy_108 rg_wd_108 ⟨by decide +kernel, by decide +kernel, by decide +kernel⟩ (by decide +kernel) (by decide +kernel)) <|
  fun _ h => absurd h List.not_mem_nil
def rg_c115_1 : List (Nat × rg_S) := [(47, rg_sis 4 2), (49, rg_sil 1 1), (50, rg_sic 4 1), (51, rg_sdi (fun x y => x - x / y * y)), (52, rg_sjne 66), (55, rg_sal 0 1), (56, rg_sil 2 1), (57, rg_sil 3 1), (58, rg_sil 4 2), (60, rg_scV 112 3 0 7), (63, rg_sgo 173), (66, rg_sil 1 1), (67, rg_sic 4 1), (68, rg_sdi (fun x y => x - x / y * y)), (69, rg_sic 1 1), (70, rg_skne 83), (73, rg_sal 0 1), (74, rg_sil 3 1), (75, rg_sil 4 2), (77, rg_scV 114 2 0 7), (80, rg_sgo 173), (83, rg_sal 0 1), (84, rg_sil 1 1), (85, rg_sic 4 1), (86, rg_sdi (fun x y => x - x / y * y))]
theorem rg_o115_1 : ∀ q ∈ rg_c115_1, rg_Ok 115 q.1 q.2 :=
  rg_fc (rg_ok_istore (i := 4) (by decide +kernel) (by decide +kernel)) <|
  rg_fc (rg_ok_iload_n (j := 1) (by decide +kernel) rfl) <|
  rg_fc (rg_ok_iconst (n := 4) (by decide +kernel) (by decide +kernel)) <|
  rg_fc (rg_ok_irem (by decide +kernel)) <|
  rg_fc (rg_ok_if_ne (off := 14) (by decide +kernel) (by decide +kernel)) <|
  rg_fc (rg_ok_aload_n (j := 0) (by decide +kernel) rfl) <|
  rg_fc (rg_ok_iload_n (j := 2) (by decide +kernel) rfl) <|
  rg_fc (rg_ok_iload_n (j := 3) (by decide +kernel) rfl) <|
  rg_fc (rg_ok_iload (i := 4) (by decide +kernel)) <|
  rg_fc (rg_ok_callV (idx := 173) rg_cok7 (by decide +kernel) (by decide +kernel) rg_wm_M_173 rg_wj_112 rg_ws_112 rg_wz_7 rg_wd_112 ⟨by decide +kernel, by decide +kernel, by decide +kernel, by decide +kernel⟩ (by decide +kernel) (by decide +kernel)) <|
  rg_fc (rg_ok_goto (off := 110) (by decide +kernel) (by decide +kernel)) <|
  rg_fc (rg_ok_iload_n (j := 1) (by decide +kernel) rfl) <|
  rg_fc (rg_ok_iconst (n := 4) (by decide +kernel) (by decide +kernel)) <|
  rg_fc (rg_ok_irem (by decide +kernel)) <|
  rg_fc (rg_ok_iconst (n := 1) (by decide +kernel) (by decide +kernel)) <|
  rg_fc (rg_ok_icmp_ne (off := 13) (by decide +kernel) (by decide +kernel)) <|
  rg_fc (rg_ok_aload_n (j := 0) (by decide +kernel) rfl) <|
  rg_fc (rg_ok_iload_n (j := 3) (by decide +kernel) rfl) <|
  rg_fc (rg_ok_iload (i := 4) (by decide +kernel)) <|
  rg_fc (rg_ok_callV (idx := 176) rg_cok7 (by decide +kernel) (by decide +kernel) rg_wm_M_176 rg_wj_114 rg_ws_114 rg_wz_7 rg_wd_114 ⟨by decide +kernel, by decide +kernel, by decide +kernel, by decide +kernel⟩ (by decide +kernel) (by decide +kernel)) <|
  rg_fc (rg_ok_goto (off := 93) (by decide +kernel) (by decide +kernel)) <|
  rg_fc (rg_ok_aload_n (j := 0) (by decide +kernel) rfl) <|
  rg_fc (rg_ok_iload_n (j := 1) (by decide +kernel) rfl) <|
  rg_fc (rg_ok_iconst (n := 4) (by decide +kernel) (by decide +kernel)) <|
  rg_fc (rg_ok_irem (by decide +kernel)) <|
  fun _ h => absurd h List.not_mem_nil
def rg_c115_2 : List (Nat × rg_S) := [(87, rg_sic 3 1), (88, rg_skne 104), (91, rg_sal 0 1), (92, rg_sic 4 1), (93, rg_sil 3 1), (94, rg_s2i (fun x y => x * y)), (95, rg_sic 1 1), (96, rg_s2i (fun x y => x + y)), (97, rg_sic 1 1), (98, rg_scV 110 2 1 7), (101, rg_sgo 113), (104, rg_sal 0 1), (105, rg_sil 3 1), (106, rg_scS 113 1 1), (109, rg_sic 1 1), (110, rg_scV 110 2 1 7), (113, rg_sK [true, true, true, true, true] (rg_sic 393 3)), (116, rg_scV 69 2 0 7), (119, rg_sal 0 1), (120, rg_sic 393 3), (123, rg_sic (-1) 1), (124, rg_sic 2 1), (125, rg_sil 4 2), (127, rg_s2i (fun x y => x * y)), (128, rg_s2i (fun x y => x - y))]
theorem rg_o115_2 : ∀ q ∈ rg_c115_2, rg_Ok 115 q.1 q.2 :=
  rg_fc (rg_ok_iconst (n := 3) (by decide +kernel) (by decide +kernel)) <|
  rg_fc (rg_ok_icmp_ne (off := 16) (by decide +kernel) (by decide +kernel)) <|
  rg_fc (rg_ok_aload_n (j := 0) (by decide +kernel) rfl) <|
  rg_fc (rg_ok_iconst (n := 4) (by decide +kernel) (by decide +kernel)) <|
  rg_fc (rg_ok_iload_n (j := 3) (by decide +kernel) rfl) <|
  rg_fc (rg_ok_imul (by decide +kernel)) <|
  rg_fc (rg_ok_iconst (n := 1) (by decide +kernel) (by decide +kernel)) <|
  rg_fc (rg_ok_iadd (by decide +kernel)) <|
  rg_fc (rg_ok_iconst (n := 1) (by decide +kernel) (by decide +kernel)) <|
  rg_fc (rg_ok_callV (idx := 179) rg_cok7 (by decide +kernel) (by decide +kernel) rg_wm_M_179 rg_wj_110 rg_ws_110 rg_wz_7 rg_wd_110 ⟨by decide +kernel, by decide +kernel, by decide +kernel, by decide +kernel⟩ (by decide +kernel) (by decide +kernel)) <|
  rg_fc (rg_ok_goto (off := 12) (by decide +kernel) (by decide +kernel)) <|
  rg_fc (rg_ok_aload_n (j := 0) (by decide +kernel) rfl) <|
  rg_fc (rg_ok_iload_n (j := 3) (by decide +kernel) rfl) <|
  rg_fc (rg_ok_callS (idx := 182) (by decide +kernel) (by decide +kernel) rg_wm_M_182 rg_wt_113 rg_wy_113 rg_wd_113 ⟨by decide +kernel, by decide +kernel, by decide +kernel⟩ (by decide +kernel) (by decide +kernel)) <|
  rg_fc (rg_ok_iconst (n := 1) (by decide +kernel) (by decide +kernel)) <|
  rg_fc (rg_ok_callV (idx := 179) rg_cok7 (by decide +kernel) (by decide +kernel) rg_wm_M_179 rg_wj_110 rg_ws_110 rg_wz_7 rg_wd_110 ⟨by decide +kernel, by decide +kernel, by decide +kernel, by decide +kernel⟩ (by decide +kernel) (by decide +kernel)) <|
  rg_fc (rg_okK _ (rg_ok_sipush (n := 393) (by decide +kernel) (by decide +kernel))) <|
  rg_fc (rg_ok_callV (idx := 46) rg_cok7 (by decide +kernel) (by decide +kernel) rg_wm_M_46 rg_wj_69 rg_ws_69 rg_wz_7 rg_wd_69 ⟨by decide +kernel, by decide +kernel, by decide +kernel, by decide +kernel⟩ (by decide +kernel) (by decide +kernel)) <|
  rg_fc (rg_ok_aload_n (j := 0) (by decide +kernel) rfl) <|
  rg_fc (rg_ok_sipush (n := 393) (by decide +kernel) (by decide +kernel)) <|
  rg_fc (rg_ok_iconst (n := (-1)) (by decide +kernel) (by decide +kernel)) <|
  rg_fc (rg_ok_iconst (n := 2) (by decide +kernel) (by decide +kernel)) <|
  rg_fc (rg_ok_iload (i := 4) (by decide +kernel)) <|
  rg_fc (rg_ok_imul (by decide +kernel)) <|
  rg_fc (rg_ok_isub (by decide +kernel)) <|
  fun _ h => absurd h List.not_mem_nil
def rg_c115_3 : List (Nat × rg_S) := [(129, rg_si2l), (130, rg_scV 83 2 0 7), (133, rg_sal 0 1), (134, rg_sic 360 3), (137, rg_sil 1 1), (138, rg_sic 4 1), (139, rg_sdi (fun x y => x - x / y * y)), (140, rg_sic 3 1), (141, rg_skne 152), (144, rg_sic 4 1), (145, rg_sil 3 1), (146, rg_s2i (fun x y => x * y)), (147, rg_sic 1 1), (148, rg_s2i (fun x y => x + y)), (149, rg_sgo 156), (152, rg_sil 3 1), (153, rg_scS 113 1 1), (156, rg_sK [true, true, true, true, false] (rg_s2i (fun x y => x + y))), (157, rg_sic 394 3), (160, rg_scV 69 2 0 7), (163, rg_sal 0 1), (164, rg_sic 382 3), (167, rg_sic 383 3), (170, rg_scV 111 2 0 7), (173, rg_sK [true, true, true, true, false] (rg_sin 3 1))]
theorem rg_o115_3 : ∀ q ∈ rg_c115_3, rg_Ok 115 q.1 q.2 :=
  rg_fc (rg_ok_i2l (by decide +kernel)) <|
  rg_fc (rg_ok_callV (idx := 133) rg_cok7 (by decide +kernel) (by decide +kernel) rg_wm_M_133 rg_wj_83 rg_ws_83 rg_wz_7 rg_wd_83 ⟨by decide +kernel, by decide +kernel, by decide +kernel, by decide +kernel⟩ (by decide +kernel) (by decide +kernel)) <|
  rg_fc (rg_ok_aload_n (j := 0) (by decide +kernel) rfl) <|
  rg_fc (rg_ok_sipush (n := 360) (by decide +kernel) (by decide +kernel)) <|
  rg_fc (rg_ok_iload_n (j := 1) (by decide +kernel) rfl) <|
  rg_fc (rg_ok_iconst (n := 4) (by decide +kernel) (by decide +kernel)) <|
  rg_fc (rg_ok_irem (by decide +kernel)) <|
  rg_fc (rg_ok_iconst (n := 3) (by decide +kernel) (by decide +kernel)) <|
  rg_fc (rg_ok_icmp_ne (off := 11) (by decide +kernel) (by decide +kernel)) <|
  rg_fc (rg_ok_iconst (n := 4) (by decide +kernel) (by decide +kernel)) <|
  rg_fc (rg_ok_iload_n (j := 3) (by decide +kernel) rfl) <|
  rg_fc (rg_ok_imul (by decide +kernel)) <|
  rg_fc (rg_ok_iconst (n := 1) (by decide +kernel) (by decide +kernel)) <|
  rg_fc (rg_ok_iadd (by decide +kernel)) <|
  rg_fc (rg_ok_goto (off := 7) (by decide +kernel) (by decide +kernel)) <|
  rg_fc (rg_ok_iload_n (j := 3) (by decide +kernel) rfl) <|
  rg_fc (rg_ok_callS (idx := 182) (by decide +kernel) (by decide +kernel) rg_wm_M_182 rg_wt_113 rg_wy_113 rg_wd_113 ⟨by decide +kernel, by decide +kernel, by decide +kernel⟩ (by decide +kernel) (by decide +kernel)) <|
  rg_fc (rg_okK _ (rg_ok_iadd (by decide +kernel))) <|
  rg_fc (rg_ok_sipush (n := 394) (by decide +kernel) (by decide +kernel)) <|
  rg_fc (rg_ok_callV (idx := 46) rg_cok7 (by decide +kernel) (by decide +kernel) rg_wm_M_46 rg_wj_69 rg_ws_69 rg_wz_7 rg_wd_69 ⟨by decide +kernel, by decide +kernel, by decide +kernel, by decide +kernel⟩ (by decide +kernel) (by decide +kernel)) <|
  rg_fc (rg_ok_aload_n (j := 0) (by decide +kernel) rfl) <|
  rg_fc (rg_ok_sipush (n := 382) (by decide +kernel) (by decide +kernel)) <|
  rg_fc (rg_ok_sipush (n := 383) (by decide +kernel) (by decide +kernel)) <|
  rg_fc (rg_ok_callV (idx := 185) rg_cok7 (by decide +kernel) (by decide +kernel) rg_wm_M_185 rg_wj_111 rg_ws_111 rg_wz_7 rg_wd_111 ⟨by decide +kernel, by decide +kernel, by decide +kernel, by decide +kernel⟩ (by decide +kernel) (by decide +kernel)) <|
  rg_fc (rg_okK _ (rg_ok_iinc (n := 1) (by decide +kernel) (by decide +kernel) (by decide +kernel))) <|
  fun _ h => absurd h List.not_mem_nil
def rg_c115_4 : List (Nat × rg_S) := [(176, rg_sgo 26), (179, rg_sil 1 1), (180, rg_sic 4 1), (181, rg_sdi (fun x y => x - x / y * y)), (182, rg_sjne 260), (185, rg_sal 0 1), (186, rg_sic 383 3), (189, rg_sic 360 3), (192, rg_sil 2 1), (193, rg_scS 109 1 1), (196, rg_s2i (fun x y => x + y)), (197, rg_sic 389 3), (200, rg_scV 71 3 0 7), (203, rg_sal 0 1), (204, rg_sic 389 3), (207, rg_sic 383 3), (210, rg_scV 69 2 0 7), (213, rg_sal 0 1), (214, rg_sic 384 3), (217, rg_sic 393 3), (220, rg_scV 69 2 0 7), (223, rg_sal 0 1), (224, rg_sgr 7 2), (227, rg_sic 393 3), (230, rg_sal 0 1)]
theorem rg_o115_4 : ∀ q ∈ rg_c115_4, rg_Ok 115 q.1 q.2 :=
  rg_fc (rg_ok_goto (off := (-150)) (by decide +kernel) (by decide +kernel)) <|
  rg_fc (rg_ok_iload_n (j := 1) (by decide +kernel) rfl) <|
  rg_fc (rg_ok_iconst (n := 4) (by decide +kernel) (by decide +kernel)) <|
  rg_fc (rg_ok_irem (by decide +kernel)) <|
  rg_fc (rg_ok_if_ne (off := 78) (by decide +kernel) (by decide +kernel)) <|
  rg_fc (rg_ok_aload_n (j := 0) (by decide +kernel) rfl) <|
  rg_fc (rg_ok_sipush (n := 383) (by decide +kernel) (by decide +kernel)) <|
  rg_fc (rg_ok_sipush (n := 360) (by decide +kernel) (by decide +kernel)) <|
  rg_fc (rg_ok_iload_n (j := 2) (by decide +kernel) rfl) <|
  rg_fc (rg_ok_callS (idx := 188) (by decide +kernel) (by decide +kernel) rg_wm_M_188 rg_wt_109 rg_wy_109 rg_wd_109 ⟨by decide +kernel, by decide +kernel, by decide +kernel⟩ (by decide +kernel) (by decide +kernel)) <|
  rg_fc (rg_ok_iadd (by decide +kernel)) <|
  rg_fc (rg_ok_sipush (n := 389) (by decide +kernel) (by decide +kernel)) <|
  rg_fc (rg_ok_callV (idx := 64) rg_cok7 (by decide +kernel) (by decide +kernel) rg_wm_M_64 rg_wj_71 rg_ws_71 rg_wz_7 rg_wd_71 ⟨by decide +kernel, by decide +kernel, by decide +kernel, by decide +kernel⟩ (by decide +kernel) (by decide +kernel)) <|
  rg_fc (rg_ok_aload_n (j := 0) (by decide +kernel) rfl) <|
  rg_fc (rg_ok_sipush (n := 389) (by decide +kernel) (by decide +kernel)) <|
  rg_fc (rg_ok_sipush (n := 383) (by decide +kernel) (by decide +kernel)) <|
  rg_fc (rg_ok_callV (idx := 46) rg_cok7 (by decide +kernel) (by decide +kernel) rg_wm_M_46 rg_wj_69 rg_ws_69 rg_wz_7 rg_wd_69 ⟨by decide +kernel, by decide +kernel, by decide +kernel, by decide +kernel⟩ (by decide +kernel) (by decide +kernel)) <|
  rg_fc (rg_ok_aload_n (j := 0) (by decide +kernel) rfl) <|
  rg_fc (rg_ok_sipush (n := 384) (by decide +kernel) (by decide +kernel)) <|
  rg_fc (rg_ok_sipush (n := 393) (by decide +kernel) (by decide +kernel)) <|
  rg_fc (rg_ok_callV (idx := 46) rg_cok7 (by decide +kernel) (by decide +kernel) rg_wm_M_46 rg_wj_69 rg_ws_69 rg_wz_7 rg_wd_69 ⟨by decide +kernel, by decide +kernel, by decide +kernel, by decide +kernel⟩ (by decide +kernel) (by decide +kernel)) <|
  rg_fc (rg_ok_aload_n (j := 0) (by decide +kernel) rfl) <|
  rg_fc (rg_ok_getr (idx := 17) rg_cok7 (by decide +kernel) rfl (by decide +kernel) rg_wf_M_17) <|
  rg_fc (rg_ok_sipush (n := 393) (by decide +kernel) (by decide +kernel)) <|
  rg_fc (rg_ok_aload_n (j := 0) (by decide +kernel) rfl) <|
  fun _ h => absurd h List.not_mem_nil
def rg_c115_5 : List (Nat × rg_S) := [(231, rg_sgr 7 2), (234, rg_sic 393 3), (237, rg_sai), (238, rg_s1i (fun x => -x)), (239, rg_swi), (240, rg_sal 0 1), (241, rg_sic 385 3), (244, rg_sic 394 3), (247, rg_scV 69 2 0 7), (250, rg_sal 0 1), (251, rg_sic 382 3), (254, rg_sic 383 3), (257, rg_scV 111 2 0 7), (260, rg_sK [true, false, false, false, false] (rg_sal 0 1)), (261, rg_sic 383 3), (264, rg_sal 0 1), (265, rg_sgi 7 6), (268, rg_si2l), (269, rg_sal 0 1), (270, rg_sgi 7 6), (273, rg_sic 1 1), (274, rg_s2i (fun x y => x - y)), (275, rg_si2l), (276, rg_s2l (fun x y => x * y)), (277, rg_scV 83 2 0 7)]
theorem rg_o115_5 : ∀ q ∈ rg_c115_5, rg_Ok 115 q.1 q.2 :=
  rg_fc (rg_ok_getr (idx := 17) rg_cok7 (by decide +kernel) rfl (by decide +kernel) rg_wf_M_17) <|
  rg_fc (rg_ok_sipush (n := 393) (by decide +kernel) (by decide +kernel)) <|
  rg_fc (rg_ok_iaload (by decide +kernel)) <|
  rg_fc (rg_ok_ineg (by decide +kernel)) <|
  rg_fc (rg_ok_iastore (by decide +kernel)) <|
  rg_fc (rg_ok_aload_n (j := 0) (by decide +kernel) rfl) <|
  rg_fc (rg_ok_sipush (n := 385) (by decide +kernel) (by decide +kernel)) <|
  rg_fc (rg_ok_sipush (n := 394) (by decide +kernel) (by decide +kernel)) <|
  rg_fc (rg_ok_callV (idx := 46) rg_cok7 (by decide +kernel) (by decide +kernel) rg_wm_M_46 rg_wj_69 rg_ws_69 rg_wz_7 rg_wd_69 ⟨by decide +kernel, by decide +kernel, by decide +kernel, by decide +kernel⟩ (by decide +kernel) (by decide +kernel)) <|
  rg_fc (rg_ok_aload_n (j := 0) (by decide +kernel) rfl) <|
  rg_fc (rg_ok_sipush (n := 382) (by decide +kernel) (by decide +kernel)) <|
  rg_fc (rg_ok_sipush (n := 383) (by decide +kernel) (by decide +kernel)) <|
  rg_fc (rg_ok_callV (idx := 185) rg_cok7 (by decide +kernel) (by decide +kernel) rg_wm_M_185 rg_wj_111 rg_ws_111 rg_wz_7 rg_wd_111 ⟨by decide +kernel, by decide +kernel, by decide +kernel, by decide +kernel⟩ (by decide +kernel) (by decide +kernel)) <|
  rg_fc (rg_okK _ (rg_ok_aload_n (j := 0) (by decide +kernel) rfl)) <|
  rg_fc (rg_ok_sipush (n := 383) (by decide +kernel) (by decide +kernel)) <|
  rg_fc (rg_ok_aload_n (j := 0) (by decide +kernel) rfl) <|
  rg_fc (rg_ok_geti (idx := 83) rg_cok7 (by decide +kernel) rfl (by decide +kernel) rg_wf_M_83) <|
  rg_fc (rg_ok_i2l (by decide +kernel)) <|
  rg_fc (rg_ok_aload_n (j := 0) (by decide +kernel) rfl) <|
  rg_fc (rg_ok_geti (idx := 83) rg_cok7 (by decide +kernel) rfl (by decide +kernel) rg_wf_M_83) <|
  rg_fc (rg_ok_iconst (n := 1) (by decide +kernel) (by decide +kernel)) <|
  rg_fc (rg_ok_isub (by decide +kernel)) <|
  rg_fc (rg_ok_i2l (by decide +kernel)) <|
  rg_fc (rg_ok_lmul (by decide +kernel)) <|
  rg_fc (rg_ok_callV (idx := 133) rg_cok7 (by decide +kernel) (by decide +kernel) rg_wm_M_133 rg_wj_83 rg_ws_83 rg_wz_7 rg_wd_83 ⟨by decide +kernel, by decide +kernel, by decide +kernel, by decide +kernel⟩ (by decide +kernel) (by decide +kernel)) <|
  fun _ h => absurd h List.not_mem_nil
def rg_c115_6 : List (Nat × rg_S) := [(280, rg_sal 0 1), (281, rg_sic 382 3), (284, rg_sic 383 3), (287, rg_scV 85 2 0 7), (290, rg_rv)]
theorem rg_o115_6 : ∀ q ∈ rg_c115_6, rg_Ok 115 q.1 q.2 :=
  rg_fc (rg_ok_aload_n (j := 0) (by decide +kernel) rfl) <|
  rg_fc (rg_ok_sipush (n := 382) (by decide +kernel) (by decide +kernel)) <|
  rg_fc (rg_ok_sipush (n := 383) (by decide +kernel) (by decide +kernel)) <|
  rg_fc (rg_ok_callV (idx := 116) rg_cok7 (by decide +kernel) (by decide +kernel) rg_wm_M_116 rg_wj_85 rg_ws_85 rg_wz_7 rg_wd_85 ⟨by decide +kernel, by decide +kernel, by decide +kernel, by decide +kernel⟩ (by decide +kernel) (by decide +kernel)) <|
  rg_fc (rg_ok_return (by decide +kernel) rfl) <|
  fun _ h => absurd h List.not_mem_nil
def rg_kd115 : List (List (Nat × rg_S)) := [rg_c115_0, rg_c115_1, rg_c115_2, rg_c115_3, rg_c115_4, rg_c115_5, rg_c115_6]
theorem rg_o115 : ∀ pc f, rg_lk2 rg_kd115 pc = some f → rg_Ok 115 pc f := rg_lk2_ok (rg_fd rg_o115_0 (rg_fd rg_o115_1 (rg_fd rg_o115_2 (rg_fd rg_o115_3 (rg_fd rg_o115_4 (rg_fd rg_o115_5 (rg_fd rg_o115_6 (fun _ h => absurd h List.not_mem_nil))))))))
def rg_c116_0 : List (Nat × rg_S) := [(0, rg_sic 0 1), (1, rg_sis 1 1), (2, rg_sK [true, true, false, false] (rg_sil 1 1)), (3, rg_sic 4 1), (4, rg_sal 0 1), (5, rg_sgi 7 6), (8, rg_s2i (fun x y => x * y)), (9, rg_skge 24), (12, rg_sal 0 1), (13, rg_sil 1 1), (14, rg_sic 0 1), (15, rg_scV 81 2 0 7), (18, rg_sin 1 1), (21, rg_sgo 2), (24, rg_sic 1 1), (25, rg_sis 1 1), (26, rg_sic 0 1), (27, rg_sis 2 1), (28, rg_sK [true, true, true, false] (rg_sil 2 1)), (29, rg_sic 4 1), (30, rg_sal 0 1), (31, rg_sgi 7 6), (34, rg_s2i (fun x y => x * y)), (35, rg_skge 226), (38, rg_sil 1 1)]
theorem rg_o116_0 : ∀ q ∈ rg_c116_0, rg_Ok 116 q.1 q.2 :=
  rg_fc (rg_ok_iconst (n := 0) (by decide +kernel) (by decide +kernel)) <|
  rg_fc (rg_ok_istore_n (j := 1) (by decide +kernel) rfl (by decide +kernel)) <|
  rg_fc (rg_okK _ (rg_ok_iload_n (j := 1) (by decide +kernel) rfl)) <|
  rg_fc (rg_ok_iconst (n := 4) (by decide +kernel) (by decide +kernel)) <|
  rg_fc (rg_ok_aload_n (j := 0) (by decide +kernel) rfl) <|
  rg_fc (rg_ok_geti (idx := 83) rg_cok7 (by decide +kernel) rfl (by decide +kernel) rg_wf_M_83) <|
  rg_fc (rg_ok_imul (by decide +kernel)) <|
  rg_fc (rg_ok_icmp_ge (off := 15) (by decide +kernel) (by decide +kernel)) <|
  rg_fc (rg_ok_aload_n (j := 0) (by decide +kernel) rfl) <|
  rg_fc (rg_ok_iload_n (j := 1) (by decide +kernel) rfl) <|
  rg_fc (rg_ok_iconst (n := 0) (by decide +kernel) (by decide +kernel)) <|
  rg_fc (rg_ok_callV (idx := 126) rg_cok7 (by decide +kernel) (by decide +kernel) rg_wm_M_126 rg_wj_81 rg_ws_81 rg_wz_7 rg_wd_81 ⟨by decide +kernel, by decide +kernel, by decide +kernel, by decide +kernel⟩ (by decide +kernel) (by decide +kernel)) <|
  rg_fc (rg_ok_iinc (n := 1) (by decide +kernel) (by decide +kernel) (by decide +kernel)) <|
  rg_fc (rg_ok_goto (off := (-19)) (by decide +kernel) (by decide +kernel)) <|
  rg_fc (rg_ok_iconst (n := 1) (by decide +kernel) (by decide +kernel)) <|
  rg_fc (rg_ok_istore_n (j := 1) (by decide +kernel) rfl (by decide +kernel)) <|
  rg_fc (rg_ok_iconst (n := 0) (by decide +kernel) (by decide +kernel)) <|
  rg_fc (rg_ok_istore_n (j := 2) (by decide +kernel) rfl (by decide +kernel)) <|
  rg_fc (rg_okK _ (rg_ok_iload_n (j := 2) (by decide +kernel) rfl)) <|
  rg_fc (rg_ok_iconst (n := 4) (by decide +kernel) (by decide +kernel)) <|
  rg_fc (rg_ok_aload_n (j := 0) (by decide +kernel) rfl) <|
  rg_fc (rg_ok_geti (idx := 83) rg_cok7 (by decide +kernel) rfl (by decide +kernel) rg_wf_M_83) <|
  rg_fc (rg_ok_imul (by decide +kernel)) <|
  rg_fc (rg_ok_icmp_ge (off := 191) (by decide +kernel) (by decide +kernel)) <|
  rg_fc (rg_ok_iload_n (j := 1) (by decide +kernel) rfl) <|
  fun _ h => absurd h List.not_mem_nil
def rg_c116_1 : List (Nat × rg_S) := [(39, rg_sjeq 226), (42, rg_sal 0 1), (43, rg_sil 2 1), (44, rg_scV 115 1 0 7), (47, rg_sic 0 1), (48, rg_sis 3 1), (49, rg_sK [true, true, true, true] (rg_sil 3 1)), (50, rg_sic 2 1), (51, rg_skge 130), (54, rg_sil 1 1), (55, rg_sjeq 130), (58, rg_sal 0 1), (59, rg_sic 382 3), (62, rg_sal 0 1), (63, rg_sil 2 1), (64, rg_sic 1 1), (65, rg_sil 3 1), (66, rg_s2i (fun x y => x - y)), (67, rg_scV 110 2 1 7), (70, rg_sic 407 3), (73, rg_scV 71 3 0 7), (76, rg_sil 3 1), (77, rg_sic 1 1), (78, rg_skne 98), (81, rg_sal 0 1)]
theorem rg_o116_1 : ∀ q ∈ rg_c116_1, rg_Ok 116 q.1 q.2 :=
  rg_fc (rg_ok_if_eq (off := 187) (by decide +kernel) (by decide +kernel)) <|
  rg_fc (rg_ok_aload_n (j := 0) (by decide +kernel) rfl) <|
  rg_fc (rg_ok_iload_n (j := 2) (by decide +kernel) rfl) <|
  rg_fc (rg_ok_callV (idx := 191) rg_cok7 (by decide +kernel) (by decide +kernel) rg_wm_M_191 rg_wj_115 rg_ws_115 rg_wz_7 rg_wd_115 ⟨by decide +kernel, by decide +kernel, by decide +kernel, by decide +kernel⟩ (by decide +kernel) (by decide +kernel)) <|
  rg_fc (rg_ok_iconst (n := 0) (by decide +kernel) (by decide +kernel)) <|
  rg_fc (rg_ok_istore_n (j := 3) (by decide +kernel) rfl (by decide +kernel)) <|
  rg_fc (rg_okK _ (rg_ok_iload_n (j := 3) (by decide +kernel) rfl)) <|
  rg_fc (rg_ok_iconst (n := 2) (by decide +kernel) (by decide +kernel)) <|
  rg_fc (rg_ok_icmp_ge (off := 79) (by decide +kernel) (by decide +kernel)) <|
  rg_fc (rg_ok_iload_n (j := 1) (by decide +kernel) rfl) <|
  rg_fc (rg_ok_if_eq (off := 75) (by decide +kernel) (by decide +kernel)) <|
  rg_fc (rg_ok_aload_n (j := 0) (by decide +kernel) rfl) <|
  rg_fc (rg_ok_sipush (n := 382) (by decide +kernel) (by decide +kernel)) <|
  rg_fc (rg_ok_aload_n (j := 0) (by decide +kernel) rfl) <|
  rg_fc (rg_ok_iload_n (j := 2) (by decide +kernel) rfl) <|
  rg_fc (rg_ok_iconst (n := 1) (by decide +kernel) (by decide +kernel)) <|
  rg_fc (rg_ok_iload_n (j := 3) (by decide +kernel) rfl) <|
  rg_fc (rg_ok_isub (by decide +kernel)) <|
  rg_fc (rg_ok_callV (idx := 179) rg_cok7 (by decide +kernel) (by decide +kernel) rg_wm_M_179 rg_wj_110 rg_ws_110 rg_wz_7 rg_wd_110 ⟨by decide +kernel, by decide +kernel, by decide +kernel, by decide +kernel⟩ (by decide +kernel) (by decide +kernel)) <|
  rg_fc (rg_ok_sipush (n := 407) (by decide +kernel) (by decide +kernel)) <|
  rg_fc (rg_ok_callV (idx := 64) rg_cok7 (by decide +kernel) (by decide +kernel) rg_wm_M_64 rg_wj_71 rg_ws_71 rg_wz_7 rg_wd_71 ⟨by decide +kernel, by decide +kernel, by decide +kernel, by decide +kernel⟩ (by decide +kernel) (by decide +kernel)) <|
  rg_fc (rg_ok_iload_n (j := 3) (by decide +kernel) rfl) <|
  rg_fc (rg_ok_iconst (n := 1) (by decide +kernel) (by decide +kernel)) <|
  rg_fc (rg_ok_icmp_ne (off := 20) (by decide +kernel) (by decide +kernel)) <|
  rg_fc (rg_ok_aload_n (j := 0) (by decide +kernel) rfl) <|
  fun _ h => absurd h List.not_mem_nil
def rg_c116_2 : List (Nat × rg_S) := [(82, rg_sgr 7 2), (85, rg_sic 407 3), (88, rg_sal 0 1), (89, rg_sgr 7 2), (92, rg_sic 407 3), (95, rg_sai), (96, rg_s1i (fun x => -x)), (97, rg_swi), (98, rg_sK [true, false, true, true] (rg_sal 0 1)), (99, rg_sic 383 3), (102, rg_sic 360 3), (105, rg_sil 2 1), (106, rg_s2i (fun x y => x + y)), (107, rg_sic 408 3), (110, rg_scV 71 3 0 7), (113, rg_sal 0 1), (114, rg_sic 0 1), (115, rg_sic 2 1), (116, rg_sil 2 1), (117, rg_s2i (fun x y => x * y)), (118, rg_sil 3 1), (119, rg_s2i (fun x y => x + y)), (120, rg_scV 87 2 1 7), (123, rg_sis 1 1), (124, rg_sin 3 1)]
theorem rg_o116_2 : ∀ q ∈ rg_c116_2, rg_Ok 116 q.1 q.2 :=
  rg_fc (rg_ok_getr (idx := 17) rg_cok7 (by decide +kernel) rfl (by decide +kernel) rg_wf_M_17) <|
  rg_fc (rg_ok_sipush (n := 407) (by decide +kernel) (by decide +kernel)) <|
  rg_fc (rg_ok_aload_n (j := 0) (by decide +kernel) rfl) <|
  rg_fc (rg_ok_getr (idx := 17) rg_cok7 (by decide +kernel) rfl (by decide +kernel) rg_wf_M_17) <|
  rg_fc (rg_ok_sipush (n := 407) (by decide +kernel) (by decide +kernel)) <|
  rg_fc (rg_ok_iaload (by decide +kernel)) <|
  rg_fc (rg_ok_ineg (by decide +kernel)) <|
  rg_fc (rg_ok_iastore (by decide +kernel)) <|
  rg_fc (rg_okK _ (rg_ok_aload_n (j := 0) (by decide +kernel) rfl)) <|
  rg_fc (rg_ok_sipush (n := 383) (by decide +kernel) (by decide +kernel)) <|
  rg_fc (rg_ok_sipush (n := 360) (by decide +kernel) (by decide +kernel)) <|
  rg_fc (rg_ok_iload_n (j := 2) (by decide +kernel) rfl) <|
  rg_fc (rg_ok_iadd (by decide +kernel)) <|
  rg_fc (rg_ok_sipush (n := 408) (by decide +kernel) (by decide +kernel)) <|
  rg_fc (rg_ok_callV (idx := 64) rg_cok7 (by decide +kernel) (by decide +kernel) rg_wm_M_64 rg_wj_71 rg_ws_71 rg_wz_7 rg_wd_71 ⟨by decide +kernel, by decide +kernel, by decide +kernel, by decide +kernel⟩ (by decide +kernel) (by decide +kernel)) <|
  rg_fc (rg_ok_aload_n (j := 0) (by decide +kernel) rfl) <|
  rg_fc (rg_ok_iconst (n := 0) (by decide +kernel) (by decide +kernel)) <|
  rg_fc (rg_ok_iconst (n := 2) (by decide +kernel) (by decide +kernel)) <|
  rg_fc (rg_ok_iload_n (j := 2) (by decide +kernel) rfl) <|
  rg_fc (rg_ok_imul (by decide +kernel)) <|
  rg_fc (rg_ok_iload_n (j := 3) (by decide +kernel) rfl) <|
  rg_fc (rg_ok_iadd (by decide +kernel)) <|
  rg_fc (rg_ok_callV (idx := 122) rg_cok7 (by decide +kernel) (by decide +kernel) rg_wm_M_122 rg_wj_87 rg_ws_87 rg_wz_7 rg_wd_87 ⟨by decide +kernel, by decide +kernel, by decide +kernel, by decide +kernel⟩ (by decide +kernel) (by decide +kernel)) <|
  rg_fc (rg_ok_istore_n (j := 1) (by decide +kernel) rfl (by decide +kernel)) <|
  rg_fc (rg_ok_iinc (n := 1) (by decide +kernel) (by decide +kernel) (by decide +kernel)) <|
  fun _ h => absurd h List.not_mem_nil
def rg_c116_3 : List (Nat × rg_S) := [(127, rg_sgo 49), (130, rg_sK [true, true, true, false] (rg_sil 2 1)), (131, rg_sic 4 1), (132, rg_sdi (fun x y => x - x / y * y)), (133, rg_sic 3 1), (134, rg_skne 141), (137, rg_sic 1 1), (138, rg_sgo 142), (141, rg_sic 0 1), (142, rg_sK [true, true, true, false] (rg_sis 3 1)), (143, rg_sil 3 1), (144, rg_sjeq 165), (147, rg_sal 0 1), (148, rg_sal 0 1), (149, rg_sil 2 1), (150, rg_sic 3 1), (151, rg_s2i (fun x y => x - y)), (152, rg_sic 0 1), (153, rg_scV 110 2 1 7), (156, rg_sic 395 3), (159, rg_scV 69 2 0 7), (162, rg_sgo 173), (165, rg_sal 0 1), (166, rg_sic 395 3), (169, rg_slc 1 1)]
theorem rg_o116_3 : ∀ q ∈ rg_c116_3, rg_Ok 116 q.1 q.2 :=
  rg_fc (rg_ok_goto (off := (-78)) (by decide +kernel) (by decide +kernel)) <|
  rg_fc (rg_okK _ (rg_ok_iload_n (j := 2) (by decide +kernel) rfl)) <|
  rg_fc (rg_ok_iconst (n := 4) (by decide +kernel) (by decide +kernel)) <|
  rg_fc (rg_ok_irem (by decide +kernel)) <|
  rg_fc (rg_ok_iconst (n := 3) (by decide +kernel) (by decide +kernel)) <|
  rg_fc (rg_ok_icmp_ne (off := 7) (by decide +kernel) (by decide +kernel)) <|
  rg_fc (rg_ok_iconst (n := 1) (by decide +kernel) (by decide +kernel)) <|
  rg_fc (rg_ok_goto (off := 4) (by decide +kernel) (by decide +kernel)) <|
  rg_fc (rg_ok_iconst (n := 0) (by decide +kernel) (by decide +kernel)) <|
  rg_fc (rg_okK _ (rg_ok_istore_n (j := 3) (by decide +kernel) rfl (by decide +kernel))) <|
  rg_fc (rg_ok_iload_n (j := 3) (by decide +kernel) rfl) <|
  rg_fc (rg_ok_if_eq (off := 21) (by decide +kernel) (by decide +kernel)) <|
  rg_fc (rg_ok_aload_n (j := 0) (by decide +kernel) rfl) <|
  rg_fc (rg_ok_aload_n (j := 0) (by decide +kernel) rfl) <|
  rg_fc (rg_ok_iload_n (j := 2) (by decide +kernel) rfl) <|
  rg_fc (rg_ok_iconst (n := 3) (by decide +kernel) (by decide +kernel)) <|
  rg_fc (rg_ok_isub (by decide +kernel)) <|
  rg_fc (rg_ok_iconst (n := 0) (by decide +kernel) (by decide +kernel)) <|
  rg_fc (rg_ok_callV (idx := 179) rg_cok7 (by decide +kernel) (by decide +kernel) rg_wm_M_179 rg_wj_110 rg_ws_110 rg_wz_7 rg_wd_110 ⟨by decide +kernel, by decide +kernel, by decide +kernel, by decide +kernel⟩ (by decide +kernel) (by decide +kernel)) <|
  rg_fc (rg_ok_sipush (n := 395) (by decide +kernel) (by decide +kernel)) <|
  rg_fc (rg_ok_callV (idx := 46) rg_cok7 (by decide +kernel) (by decide +kernel) rg_wm_M_46 rg_wj_69 rg_ws_69 rg_wz_7 rg_wd_69 ⟨by decide +kernel, by decide +kernel, by decide +kernel, by decide +kernel⟩ (by decide +kernel) (by decide +kernel)) <|
  rg_fc (rg_ok_goto (off := 11) (by decide +kernel) (by decide +kernel)) <|
  rg_fc (rg_ok_aload_n (j := 0) (by decide +kernel) rfl) <|
  rg_fc (rg_ok_sipush (n := 395) (by decide +kernel) (by decide +kernel)) <|
  rg_fc (rg_ok_lconst (n := 1) (by decide +kernel) (by decide +kernel)) <|
  fun _ h => absurd h List.not_mem_nil
def rg_c116_4 : List (Nat × rg_S) := [(170, rg_scV 11 2 0 7), (173, rg_sK [true, true, true, true] (rg_sil 3 1)), (174, rg_sjeq 194), (177, rg_sal 0 1), (178, rg_sic 360 3), (181, rg_sil 2 1), (182, rg_s2i (fun x y => x + y)), (183, rg_sic 3 1), (184, rg_s2i (fun x y => x - y)), (185, rg_sic 396 3), (188, rg_scV 69 2 0 7), (191, rg_sgo 202), (194, rg_sal 0 1), (195, rg_sic 396 3), (198, rg_slc 1 1), (199, rg_scV 11 2 0 7), (202, rg_sK [true, true, true, false] (rg_sil 1 1)), (203, rg_sjeq 218), (206, rg_sal 0 1), (207, rg_sil 2 1), (208, rg_scV 88 1 1 7), (211, rg_sjeq 218), (214, rg_sic 1 1), (215, rg_sgo 219), (218, rg_sK [true, false, true, false] (rg_sic 0 1))]
theorem rg_o116_4 : ∀ q ∈ rg_c116_4, rg_Ok 116 q.1 q.2 :=
  rg_fc (rg_ok_callV (idx := 27) rg_cok7 (by decide +kernel) (by decide +kernel) rg_wm_M_27 rg_wj_11 rg_ws_11 rg_wz_7 rg_wd_11 ⟨by decide +kernel, by decide +kernel, by decide +kernel, by decide +kernel⟩ (by decide +kernel) (by decide +kernel)) <|
  rg_fc (rg_okK _ (rg_ok_iload_n (j := 3) (by decide +kernel) rfl)) <|
  rg_fc (rg_ok_if_eq (off := 20) (by decide +kernel) (by decide +kernel)) <|
  rg_fc (rg_ok_aload_n (j := 0) (by decide +kernel) rfl) <|
  rg_fc (rg_ok_sipush (n := 360) (by decide +kernel) (by decide +kernel)) <|
  rg_fc (rg_ok_iload_n (j := 2) (by decide +kernel) rfl) <|
  rg_fc (rg_ok_iadd (by decide +kernel)) <|
  rg_fc (rg_ok_iconst (n := 3) (by decide +kernel) (by decide +kernel)) <|
  rg_fc (rg_ok_isub (by decide +kernel)) <|
  rg_fc (rg_ok_sipush (n := 396) (by decide +kernel) (by decide +kernel)) <|
  rg_fc (rg_ok_callV (idx := 46) rg_cok7 (by decide +kernel) (by decide +kernel) rg_wm_M_46 rg_wj_69 rg_ws_69 rg_wz_7 rg_wd_69 ⟨by decide +kernel, by decide +kernel, by decide +kernel, by decide +kernel⟩ (by decide +kernel) (by decide +kernel)) <|
  rg_fc (rg_ok_goto (off := 11) (by decide +kernel) (by decide +kernel)) <|
  rg_fc (rg_ok_aload_n (j := 0) (by decide +kernel) rfl) <|
  rg_fc (rg_ok_sipush (n := 396) (by decide +kernel) (by decide +kernel)) <|
  rg_fc (rg_ok_lconst (n := 1) (by decide +kernel) (by decide +kernel)) <|
  rg_fc (rg_ok_callV (idx := 27) rg_cok7 (by decide +kernel) (by decide +kernel) rg_wm_M_27 rg_wj_11 rg_ws_11 rg_wz_7 rg_wd_11 ⟨by decide +kernel, by decide +kernel, by decide +kernel, by decide +kernel⟩ (by decide +kernel) (by decide +kernel)) <|
  rg_fc (rg_okK _ (rg_ok_iload_n (j := 1) (by decide +kernel) rfl)) <|
  rg_fc (rg_ok_if_eq (off := 15) (by decide +kernel) (by decide +kernel)) <|
  rg_fc (rg_ok_aload_n (j := 0) (by decide +kernel) rfl) <|
  rg_fc (rg_ok_iload_n (j := 2) (by decide +kernel) rfl) <|
  rg_fc (rg_ok_callV (idx := 139) rg_cok7 (by decide +kernel) (by decide +kernel) rg_wm_M_139 rg_wj_88 rg_ws_88 rg_wz_7 rg_wd_88 ⟨by decide +kernel, by decide +kernel, by decide +kernel, by decide +kernel⟩ (by decide +kernel) (by decide +kernel)) <|
  rg_fc (rg_ok_if_eq (off := 7) (by decide +kernel) (by decide +kernel)) <|
  rg_fc (rg_ok_iconst (n := 1) (by decide +kernel) (by decide +kernel)) <|
  rg_fc (rg_ok_goto (off := 4) (by decide +kernel) (by decide +kernel)) <|
  rg_fc (rg_okK _ (rg_ok_iconst (n := 0) (by decide +kernel) (by decide +kernel))) <|
  fun _ h => absurd h List.not_mem_nil
def rg_c116_5 : List (Nat × rg_S) := [(219, rg_sK [true, false, true, false] (rg_sis 1 1)), (220, rg_sin 2 1), (223, rg_sgo 28), (226, rg_sK [false, true, false, false] (rg_sil 1 1)), (227, rg_rz)]
theorem rg_o116_5 : ∀ q ∈ rg_c116_5, rg_Ok 116 q.1 q.2 :=
  rg_fc (rg_okK _ (rg_ok_istore_n (j := 1) (by decide +kernel) rfl (by decide +kernel))) <|
  rg_fc (rg_ok_iinc (n := 1) (by decide +kernel) (by decide +kernel) (by decide +kernel)) <|
  rg_fc (rg_ok_goto (off := (-195)) (by decide +kernel) (by decide +kernel)) <|
  rg_fc (rg_okK _ (rg_ok_iload_n (j := 1) (by decide +kernel) rfl)) <|
  rg_fc (rg_ok_zreturn (by decide +kernel) rfl) <|
  fun _ h => absurd h List.not_mem_nil
def rg_kd116 : List (List (Nat × rg_S)) := [rg_c116_0, rg_c116_1, rg_c116_2, rg_c116_3, rg_c116_4, rg_c116_5]
theorem rg_o116 : ∀ pc f, rg_lk2 rg_kd116 pc = some f → rg_Ok 116 pc f := rg_lk2_ok (rg_fd rg_o116_0 (rg_fd rg_o116_1 (rg_fd rg_o116_2 (rg_fd rg_o116_3 (rg_fd rg_o116_4 (rg_fd rg_o116_5 (fun _ h => absurd h List.not_mem_nil)))))))

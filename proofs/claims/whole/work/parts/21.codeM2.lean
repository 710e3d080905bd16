def rg_c117_0 : List (Nat × rg_S) := [(0, rg_sal 0 1), (1, rg_sgi 7 3), (4, rg_sic 1 1), (5, rg_skne 12), (8, rg_sic 2 1), (9, rg_sgo 30), (12, rg_sal 0 1), (13, rg_sgi 7 3), (16, rg_sic 2 1), (17, rg_skne 29), (20, rg_sic 4 1), (21, rg_sal 0 1), (22, rg_sgi 7 6), (25, rg_s2i (fun x y => x * y)), (26, rg_sgo 30), (29, rg_sic 0 1), (30, rg_sK [false] (rg_ri))]
theorem rg_o117_0 : ∀ q ∈ rg_c117_0, rg_Ok 117 q.1 q.2 :=
  rg_fc (rg_ok_aload_n (j := 0) (by decide +kernel) rfl) <|
  rg_fc (rg_ok_geti (idx := 79) rg_cok7 (by decide +kernel) rfl (by decide +kernel) rg_wf_M_79) <|
  rg_fc (rg_ok_iconst (n := 1) (by decide +kernel) (by decide +kernel)) <|
  rg_fc (rg_ok_icmp_ne (off := 7) (by decide +kernel) (by decide +kernel)) <|
  rg_fc (rg_ok_iconst (n := 2) (by decide +kernel) (by decide +kernel)) <|
  rg_fc (rg_ok_goto (off := 21) (by decide +kernel) (by decide +kernel)) <|
  rg_fc (rg_ok_aload_n (j := 0) (by decide +kernel) rfl) <|
  rg_fc (rg_ok_geti (idx := 79) rg_cok7 (by decide +kernel) rfl (by decide +kernel) rg_wf_M_79) <|
  rg_fc (rg_ok_iconst (n := 2) (by decide +kernel) (by decide +kernel)) <|
  rg_fc (rg_ok_icmp_ne (off := 12) (by decide +kernel) (by decide +kernel)) <|
  rg_fc (rg_ok_iconst (n := 4) (by decide +kernel) (by decide +kernel)) <|
  rg_fc (rg_ok_aload_n (j := 0) (by decide +kernel) rfl) <|
  rg_fc (rg_ok_geti (idx := 83) rg_cok7 (by decide +kernel) rfl (by decide +kernel) rg_wf_M_83) <|
  rg_fc (rg_ok_imul (by decide +kernel)) <|
  rg_fc (rg_ok_goto (off := 4) (by decide +kernel) (by decide +kernel)) <|
  rg_fc (rg_ok_iconst (n := 0) (by decide +kernel) (by decide +kernel)) <|
  rg_fc (rg_okK _ (rg_ok_ireturn (by decide +kernel) rfl)) <|
  fun _ h => absurd h List.not_mem_nil
def rg_kd117 : List (List (Nat × rg_S)) := [rg_c117_0]
theorem rg_o117 : ∀ pc f, rg_lk2 rg_kd117 pc = some f → rg_Ok 117 pc f := rg_lk2_ok (rg_fd rg_o117_0 (fun _ h => absurd h List.not_mem_nil))
def rg_c118_0 : List (Nat × rg_S) := [(0, rg_sal 0 1), (1, rg_sgi 7 3), (4, rg_sjeq 17), (7, rg_sal 0 1), (8, rg_sgr 7 11), (11, rg_sic 10 2), (13, rg_saz), (14, rg_sjeq 19), (17, rg_sK [false, false] (rg_sic (-1) 1)), (18, rg_ri), (19, rg_sal 0 1), (20, rg_sgi 7 3), (23, rg_sic 1 1), (24, rg_skne 37), (27, rg_sal 0 1), (28, rg_scV 106 0 1 7), (31, rg_sjne 54), (34, rg_sgo 44), (37, rg_sal 0 1), (38, rg_scV 116 0 1 7), (41, rg_sjne 54), (44, rg_sK [true, false] (rg_sal 0 1)), (45, rg_sgr 7 11), (48, rg_sic 10 2), (50, rg_sic 1 1)]
theorem rg_o118_0 : ∀ q ∈ rg_c118_0, rg_Ok 118 q.1 q.2 :=
  rg_fc (rg_ok_aload_n (j := 0) (by decide +kernel) rfl) <|
  rg_fc (rg_ok_geti (idx := 79) rg_cok7 (by decide +kernel) rfl (by decide +kernel) rg_wf_M_79) <|
  rg_fc (rg_ok_if_eq (off := 13) (by decide +kernel) (by decide +kernel)) <|
  rg_fc (rg_ok_aload_n (j := 0) (by decide +kernel) rfl) <|
  rg_fc (rg_ok_getr (idx := 23) rg_cok7 (by decide +kernel) rfl (by decide +kernel) rg_wf_M_23) <|
  rg_fc (rg_ok_bipush (n := 10) (by decide +kernel) (by decide +kernel)) <|
  rg_fc (rg_ok_baload (by decide +kernel)) <|
  rg_fc (rg_ok_if_eq (off := 5) (by decide +kernel) (by decide +kernel)) <|
  rg_fc (rg_okK _ (rg_ok_iconst (n := (-1)) (by decide +kernel) (by decide +kernel))) <|
  rg_fc (rg_ok_ireturn (by decide +kernel) rfl) <|
  rg_fc (rg_ok_aload_n (j := 0) (by decide +kernel) rfl) <|
  rg_fc (rg_ok_geti (idx := 79) rg_cok7 (by decide +kernel) rfl (by decide +kernel) rg_wf_M_79) <|
  rg_fc (rg_ok_iconst (n := 1) (by decide +kernel) (by decide +kernel)) <|
  rg_fc (rg_ok_icmp_ne (off := 13) (by decide +kernel) (by decide +kernel)) <|
  rg_fc (rg_ok_aload_n (j := 0) (by decide +kernel) rfl) <|
  rg_fc (rg_ok_callV (idx := 156) rg_cok7 (by decide +kernel) (by decide +kernel) rg_wm_M_156 rg_wj_106 rg_ws_106 rg_wz_7 rg_wd_106 ⟨by decide +kernel, by decide +kernel, by decide +kernel, by decide +kernel⟩ (by decide +kernel) (by decide +kernel)) <|
  rg_fc (rg_ok_if_ne (off := 23) (by decide +kernel) (by decide +kernel)) <|
  rg_fc (rg_ok_goto (off := 10) (by decide +kernel) (by decide +kernel)) <|
  rg_fc (rg_ok_aload_n (j := 0) (by decide +kernel) rfl) <|
  rg_fc (rg_ok_callV (idx := 160) rg_cok7 (by decide +kernel) (by decide +kernel) rg_wm_M_160 rg_wj_116 rg_ws_116 rg_wz_7 rg_wd_116 ⟨by decide +kernel, by decide +kernel, by decide +kernel, by decide +kernel⟩ (by decide +kernel) (by decide +kernel)) <|
  rg_fc (rg_ok_if_ne (off := 13) (by decide +kernel) (by decide +kernel)) <|
  rg_fc (rg_okK _ (rg_ok_aload_n (j := 0) (by decide +kernel) rfl)) <|
  rg_fc (rg_ok_getr (idx := 23) rg_cok7 (by decide +kernel) rfl (by decide +kernel) rg_wf_M_23) <|
  rg_fc (rg_ok_bipush (n := 10) (by decide +kernel) (by decide +kernel)) <|
  rg_fc (rg_ok_iconst (n := 1) (by decide +kernel) (by decide +kernel)) <|
  fun _ h => absurd h List.not_mem_nil
def rg_c118_1 : List (Nat × rg_S) := [(51, rg_swz), (52, rg_sic (-1) 1), (53, rg_ri), (54, rg_sK [true, false] (rg_sic 0 1)), (55, rg_sis 1 1), (56, rg_sK [true, true] (rg_sil 1 1)), (57, rg_sal 0 1), (58, rg_scV 117 0 1 7), (61, rg_skge 75), (64, rg_sal 0 1), (65, rg_sil 1 1), (66, rg_scV 90 1 0 7), (69, rg_sin 1 1), (72, rg_sgo 56), (75, rg_sal 0 1), (76, rg_scV 19 0 0 7), (79, rg_sal 0 1), (80, rg_sdu), (81, rg_sgi 7 7), (84, rg_sic 1 1), (85, rg_s2i (fun x y => x + y)), (86, rg_spi 7 7), (89, rg_sal 0 1), (90, rg_sgi 7 7), (93, rg_ri)]
theorem rg_o118_1 : ∀ q ∈ rg_c118_1, rg_Ok 118 q.1 q.2 :=
  rg_fc (rg_ok_bastore (by decide +kernel)) <|
  rg_fc (rg_ok_iconst (n := (-1)) (by decide +kernel) (by decide +kernel)) <|
  rg_fc (rg_ok_ireturn (by decide +kernel) rfl) <|
  rg_fc (rg_okK _ (rg_ok_iconst (n := 0) (by decide +kernel) (by decide +kernel))) <|
  rg_fc (rg_ok_istore_n (j := 1) (by decide +kernel) rfl (by decide +kernel)) <|
  rg_fc (rg_okK _ (rg_ok_iload_n (j := 1) (by decide +kernel) rfl)) <|
  rg_fc (rg_ok_aload_n (j := 0) (by decide +kernel) rfl) <|
  rg_fc (rg_ok_callV (idx := 163) rg_cok7 (by decide +kernel) (by decide +kernel) rg_wm_M_163 rg_wj_117 rg_ws_117 rg_wz_7 rg_wd_117 ⟨by decide +kernel, by decide +kernel, by decide +kernel, by decide +kernel⟩ (by decide +kernel) (by decide +kernel)) <|
  rg_fc (rg_ok_icmp_ge (off := 14) (by decide +kernel) (by decide +kernel)) <|
  rg_fc (rg_ok_aload_n (j := 0) (by decide +kernel) rfl) <|
  rg_fc (rg_ok_iload_n (j := 1) (by decide +kernel) rfl) <|
  rg_fc (rg_ok_callV (idx := 146) rg_cok7 (by decide +kernel) (by decide +kernel) rg_wm_M_146 rg_wj_90 rg_ws_90 rg_wz_7 rg_wd_90 ⟨by decide +kernel, by decide +kernel, by decide +kernel, by decide +kernel⟩ (by decide +kernel) (by decide +kernel)) <|
  rg_fc (rg_ok_iinc (n := 1) (by decide +kernel) (by decide +kernel) (by decide +kernel)) <|
  rg_fc (rg_ok_goto (off := (-16)) (by decide +kernel) (by decide +kernel)) <|
  rg_fc (rg_ok_aload_n (j := 0) (by decide +kernel) rfl) <|
  rg_fc (rg_ok_callV (idx := 101) rg_cok7 (by decide +kernel) (by decide +kernel) rg_wm_M_101 rg_wj_19 rg_ws_19 rg_wz_7 rg_wd_19 ⟨by decide +kernel, by decide +kernel, by decide +kernel, by decide +kernel⟩ (by decide +kernel) (by decide +kernel)) <|
  rg_fc (rg_ok_aload_n (j := 0) (by decide +kernel) rfl) <|
  rg_fc (rg_ok_dup (by decide +kernel)) <|
  rg_fc (rg_ok_geti (idx := 92) rg_cok7 (by decide +kernel) rfl (by decide +kernel) rg_wf_M_92) <|
  rg_fc (rg_ok_iconst (n := 1) (by decide +kernel) (by decide +kernel)) <|
  rg_fc (rg_ok_iadd (by decide +kernel)) <|
  rg_fc (rg_ok_puti (idx := 92) rg_cok7 (by decide +kernel) rfl rfl rfl (by decide +kernel) rg_wf_M_92) <|
  rg_fc (rg_ok_aload_n (j := 0) (by decide +kernel) rfl) <|
  rg_fc (rg_ok_geti (idx := 92) rg_cok7 (by decide +kernel) rfl (by decide +kernel) rg_wf_M_92) <|
  rg_fc (rg_ok_ireturn (by decide +kernel) rfl) <|
  fun _ h => absurd h List.not_mem_nil
def rg_kd118 : List (List (Nat × rg_S)) := [rg_c118_0, rg_c118_1]
theorem rg_o118 : ∀ pc f, rg_lk2 rg_kd118 pc = some f → rg_Ok 118 pc f := rg_lk2_ok (rg_fd rg_o118_0 (rg_fd rg_o118_1 (fun _ h => absurd h List.not_mem_nil)))
def rg_c127_0 : List (Nat × rg_S) := [(0, rg_sal 0 1), (1, rg_sil 1 1), (2, rg_sil 4 2), (4, rg_sic 389 3), (7, rg_scV 71 3 0 7), (10, rg_sal 0 1), (11, rg_sil 3 1), (12, rg_sil 2 1), (13, rg_sic 390 3), (16, rg_scV 71 3 0 7), (19, rg_sal 0 1), (20, rg_sic 389 3), (23, rg_sic 390 3), (26, rg_sic 391 3), (29, rg_scV 84 3 0 7), (32, rg_sal 0 1), (33, rg_sgr 7 2), (36, rg_sic 391 3), (39, rg_sai), (40, rg_sjle 47), (43, rg_sic 1 1), (44, rg_sgo 48), (47, rg_sic 0 1), (48, rg_sK [false, false, false, false, false] (rg_rz))]
theorem rg_o127_0 : ∀ q ∈ rg_c127_0, rg_Ok 127 q.1 q.2 :=
  rg_fc (rg_ok_aload_n (j := 0) (by decide +kernel) rfl) <|
  rg_fc (rg_ok_iload_n (j := 1) (by decide +kernel) rfl) <|
  rg_fc (rg_ok_iload (i := 4) (by decide +kernel)) <|
  rg_fc (rg_ok_sipush (n := 389) (by decide +kernel) (by decide +kernel)) <|
  rg_fc (rg_ok_callV (idx := 64) rg_cok7 (by decide +kernel) (by decide +kernel) rg_wm_M_64 rg_wj_71 rg_ws_71 rg_wz_7 rg_wd_71 ⟨by decide +kernel, by decide +kernel, by decide +kernel, by decide +kernel⟩ (by decide +kernel) (by decide +kernel)) <|
  rg_fc (rg_ok_aload_n (j := 0) (by decide +kernel) rfl) <|
  rg_fc (rg_ok_iload_n (j := 3) (by decide +kernel) rfl) <|
  rg_fc (rg_ok_iload_n (j := 2) (by decide +kernel) rfl) <|
  rg_fc (rg_ok_sipush (n := 390) (by decide +kernel) (by decide +kernel)) <|
  rg_fc (rg_ok_callV (idx := 64) rg_cok7 (by decide +kernel) (by decide +kernel) rg_wm_M_64 rg_wj_71 rg_ws_71 rg_wz_7 rg_wd_71 ⟨by decide +kernel, by decide +kernel, by decide +kernel, by decide +kernel⟩ (by decide +kernel) (by decide +kernel)) <|
  rg_fc (rg_ok_aload_n (j := 0) (by decide +kernel) rfl) <|
  rg_fc (rg_ok_sipush (n := 389) (by decide +kernel) (by decide +kernel)) <|
  rg_fc (rg_ok_sipush (n := 390) (by decide +kernel) (by decide +kernel)) <|
  rg_fc (rg_ok_sipush (n := 391) (by decide +kernel) (by decide +kernel)) <|
  rg_fc (rg_ok_callV (idx := 136) rg_cok7 (by decide +kernel) (by decide +kernel) rg_wm_M_136 rg_wj_84 rg_ws_84 rg_wz_7 rg_wd_84 ⟨by decide +kernel, by decide +kernel, by decide +kernel, by decide +kernel⟩ (by decide +kernel) (by decide +kernel)) <|
  rg_fc (rg_ok_aload_n (j := 0) (by decide +kernel) rfl) <|
  rg_fc (rg_ok_getr (idx := 17) rg_cok7 (by decide +kernel) rfl (by decide +kernel) rg_wf_M_17) <|
  rg_fc (rg_ok_sipush (n := 391) (by decide +kernel) (by decide +kernel)) <|
  rg_fc (rg_ok_iaload (by decide +kernel)) <|
  rg_fc (rg_ok_if_le (off := 7) (by decide +kernel) (by decide +kernel)) <|
  rg_fc (rg_ok_iconst (n := 1) (by decide +kernel) (by decide +kernel)) <|
  rg_fc (rg_ok_goto (off := 4) (by decide +kernel) (by decide +kernel)) <|
  rg_fc (rg_ok_iconst (n := 0) (by decide +kernel) (by decide +kernel)) <|
  rg_fc (rg_okK _ (rg_ok_zreturn (by decide +kernel) rfl)) <|
  fun _ h => absurd h List.not_mem_nil
def rg_kd127 : List (List (Nat × rg_S)) := [rg_c127_0]
theorem rg_o127 : ∀ pc f, rg_lk2 rg_kd127 pc = some f → rg_Ok 127 pc f := rg_lk2_ok (rg_fd rg_o127_0 (fun _ h => absurd h List.not_mem_nil))
def rg_c128_0 : List (Nat × rg_S) := [(0, rg_sal 0 1), (1, rg_sic 411 3), (4, rg_sic 412 3), (7, rg_scV 107 2 0 7), (10, rg_sal 0 1), (11, rg_sic 384 3), (14, rg_sic 385 3), (17, rg_scV 107 2 0 7), (20, rg_sic 0 1), (21, rg_sis 3 1), (22, rg_sK [true, true, true, true, false] (rg_sil 3 1)), (23, rg_sal 0 1), (24, rg_sgi 7 6), (27, rg_skge 155), (30, rg_sil 3 1), (31, rg_sil 1 1), (32, rg_skne 38), (35, rg_sgo 149), (38, rg_sil 2 1), (39, rg_sjeq 50), (42, rg_sic 4 1), (43, rg_sil 3 1), (44, rg_s2i (fun x y => x * y)), (45, rg_sic 1 1), (46, rg_s2i (fun x y => x + y))]
theorem rg_o128_0 : ∀ q ∈ rg_c128_0, rg_Ok 128 q.1 q.2 :=
  rg_fc (rg_ok_aload_n (j := 0) (by decide +kernel) rfl) <|
  rg_fc (rg_ok_sipush (n := 411) (by decide +kernel) (by decide +kernel)) <|
  rg_fc (rg_ok_sipush (n := 412) (by decide +kernel) (by decide +kernel)) <|
  rg_fc (rg_ok_callV (idx := 167) rg_cok7 (by decide +kernel) (by decide +kernel) rg_wm_M_167 rg_wj_107 rg_ws_107 rg_wz_7 rg_wd_107 ⟨by decide +kernel, by decide +kernel, by decide +kernel, by decide +kernel⟩ (by decide +kernel) (by decide +kernel)) <|
  rg_fc (rg_ok_aload_n (j := 0) (by decide +kernel) rfl) <|
  rg_fc (rg_ok_sipush (n := 384) (by decide +kernel) (by decide +kernel)) <|
  rg_fc (rg_ok_sipush (n := 385) (by decide +kernel) (by decide +kernel)) <|
  rg_fc (rg_ok_callV (idx := 167) rg_cok7 (by decide +kernel) (by decide +kernel) rg_wm_M_167 rg_wj_107 rg_ws_107 rg_wz_7 rg_wd_107 ⟨by decide +kernel, by decide +kernel, by decide +kernel, by decide +kernel⟩ (by decide +kernel) (by decide +kernel)) <|
  rg_fc (rg_ok_iconst (n := 0) (by decide +kernel) (by decide +kernel)) <|
  rg_fc (rg_ok_istore_n (j := 3) (by decide +kernel) rfl (by decide +kernel)) <|
  rg_fc (rg_okK _ (rg_ok_iload_n (j := 3) (by decide +kernel) rfl)) <|
  rg_fc (rg_ok_aload_n (j := 0) (by decide +kernel) rfl) <|
  rg_fc (rg_ok_geti (idx := 83) rg_cok7 (by decide +kernel) rfl (by decide +kernel) rg_wf_M_83) <|
  rg_fc (rg_ok_icmp_ge (off := 128) (by decide +kernel) (by decide +kernel)) <|
  rg_fc (rg_ok_iload_n (j := 3) (by decide +kernel) rfl) <|
  rg_fc (rg_ok_iload_n (j := 1) (by decide +kernel) rfl) <|
  rg_fc (rg_ok_icmp_ne (off := 6) (by decide +kernel) (by decide +kernel)) <|
  rg_fc (rg_ok_goto (off := 114) (by decide +kernel) (by decide +kernel)) <|
  rg_fc (rg_ok_iload_n (j := 2) (by decide +kernel) rfl) <|
  rg_fc (rg_ok_if_eq (off := 11) (by decide +kernel) (by decide +kernel)) <|
  rg_fc (rg_ok_iconst (n := 4) (by decide +kernel) (by decide +kernel)) <|
  rg_fc (rg_ok_iload_n (j := 3) (by decide +kernel) rfl) <|
  rg_fc (rg_ok_imul (by decide +kernel)) <|
  rg_fc (rg_ok_iconst (n := 1) (by decide +kernel) (by decide +kernel)) <|
  rg_fc (rg_ok_iadd (by decide +kernel)) <|
  fun _ h => absurd h List.not_mem_nil
def rg_c128_1 : List (Nat × rg_S) := [(47, rg_sgo 54), (50, rg_sil 3 1), (51, rg_scS 113 1 1), (54, rg_sK [true, true, true, true, false] (rg_sis 4 2)), (56, rg_sal 0 1), (57, rg_sal 0 1), (58, rg_sil 4 2), (60, rg_sic 1 1), (61, rg_scV 110 2 1 7), (64, rg_sic 393 3), (67, rg_scV 69 2 0 7), (70, rg_sal 0 1), (71, rg_sgr 7 2), (74, rg_sic 393 3), (77, rg_sal 0 1), (78, rg_sgr 7 2), (81, rg_sic 393 3), (84, rg_sai), (85, rg_s1i (fun x => -x)), (86, rg_swi), (87, rg_sal 0 1), (88, rg_sic 360 3), (91, rg_sil 4 2), (93, rg_s2i (fun x y => x + y)), (94, rg_sic 394 3)]
theorem rg_o128_1 : ∀ q ∈ rg_c128_1, rg_Ok 128 q.1 q.2 :=
  rg_fc (rg_ok_goto (off := 7) (by decide +kernel) (by decide +kernel)) <|
  rg_fc (rg_ok_iload_n (j := 3) (by decide +kernel) rfl) <|
  rg_fc (rg_ok_callS (idx := 182) (by decide +kernel) (by decide +kernel) rg_wm_M_182 rg_wt_113 rg_wy_113 rg_wd_113 ⟨by decide +kernel, by decide +kernel, by decide +kernel⟩ (by decide +kernel) (by decide +kernel)) <|
  rg_fc (rg_okK _ (rg_ok_istore (i := 4) (by decide +kernel) (by decide +kernel))) <|
  rg_fc (rg_ok_aload_n (j := 0) (by decide +kernel) rfl) <|
  rg_fc (rg_ok_aload_n (j := 0) (by decide +kernel) rfl) <|
  rg_fc (rg_ok_iload (i := 4) (by decide +kernel)) <|
  rg_fc (rg_ok_iconst (n := 1) (by decide +kernel) (by decide +kernel)) <|
  rg_fc (rg_ok_callV (idx := 179) rg_cok7 (by decide +kernel) (by decide +kernel) rg_wm_M_179 rg_wj_110 rg_ws_110 rg_wz_7 rg_wd_110 ⟨by decide +kernel, by decide +kernel, by decide +kernel, by decide +kernel⟩ (by decide +kernel) (by decide +kernel)) <|
  rg_fc (rg_ok_sipush (n := 393) (by decide +kernel) (by decide +kernel)) <|
  rg_fc (rg_ok_callV (idx := 46) rg_cok7 (by decide +kernel) (by decide +kernel) rg_wm_M_46 rg_wj_69 rg_ws_69 rg_wz_7 rg_wd_69 ⟨by decide +kernel, by decide +kernel, by decide +kernel, by decide +kernel⟩ (by decide +kernel) (by decide +kernel)) <|
  rg_fc (rg_ok_aload_n (j := 0) (by decide +kernel) rfl) <|
  rg_fc (rg_ok_getr (idx := 17) rg_cok7 (by decide +kernel) rfl (by decide +kernel) rg_wf_M_17) <|
  rg_fc (rg_ok_sipush (n := 393) (by decide +kernel) (by decide +kernel)) <|
  rg_fc (rg_ok_aload_n (j := 0) (by decide +kernel) rfl) <|
  rg_fc (rg_ok_getr (idx := 17) rg_cok7 (by decide +kernel) rfl (by decide +kernel) rg_wf_M_17) <|
  rg_fc (rg_ok_sipush (n := 393) (by decide +kernel) (by decide +kernel)) <|
  rg_fc (rg_ok_iaload (by decide +kernel)) <|
  rg_fc (rg_ok_ineg (by decide +kernel)) <|
  rg_fc (rg_ok_iastore (by decide +kernel)) <|
  rg_fc (rg_ok_aload_n (j := 0) (by decide +kernel) rfl) <|
  rg_fc (rg_ok_sipush (n := 360) (by decide +kernel) (by decide +kernel)) <|
  rg_fc (rg_ok_iload (i := 4) (by decide +kernel)) <|
  rg_fc (rg_ok_iadd (by decide +kernel)) <|
  rg_fc (rg_ok_sipush (n := 394) (by decide +kernel) (by decide +kernel)) <|
  fun _ h => absurd h List.not_mem_nil
def rg_c128_2 : List (Nat × rg_S) := [(97, rg_scV 69 2 0 7), (100, rg_sal 0 1), (101, rg_sic 411 3), (104, rg_sic 412 3), (107, rg_scV 111 2 0 7), (110, rg_sal 0 1), (111, rg_sal 0 1), (112, rg_sil 4 2), (114, rg_sic 1 1), (115, rg_scV 110 2 1 7), (118, rg_sic 393 3), (121, rg_scV 69 2 0 7), (124, rg_sal 0 1), (125, rg_sic 393 3), (128, rg_sic 2 1), (129, rg_sil 1 1), (130, rg_sil 3 1), (131, rg_scS 108 2 1), (134, rg_s2i (fun x y => x * y)), (135, rg_si2l), (136, rg_scV 83 2 0 7), (139, rg_sal 0 1), (140, rg_sic 384 3), (143, rg_sic 385 3), (146, rg_scV 111 2 0 7)]
theorem rg_o128_2 : ∀ q ∈ rg_c128_2, rg_Ok 128 q.1 q.2 :=
  rg_fc (rg_ok_callV (idx := 46) rg_cok7 (by decide +kernel) (by decide +kernel) rg_wm_M_46 rg_wj_69 rg_ws_69 rg_wz_7 rg_wd_69 ⟨by decide +kernel, by decide +kernel, by decide +kernel, by decide +kernel⟩ (by decide +kernel) (by decide +kernel)) <|
  rg_fc (rg_ok_aload_n (j := 0) (by decide +kernel) rfl) <|
  rg_fc (rg_ok_sipush (n := 411) (by decide +kernel) (by decide +kernel)) <|
  rg_fc (rg_ok_sipush (n := 412) (by decide +kernel) (by decide +kernel)) <|
  rg_fc (rg_ok_callV (idx := 185) rg_cok7 (by decide +kernel) (by decide +kernel) rg_wm_M_185 rg_wj_111 rg_ws_111 rg_wz_7 rg_wd_111 ⟨by decide +kernel, by decide +kernel, by decide +kernel, by decide +kernel⟩ (by decide +kernel) (by decide +kernel)) <|
  rg_fc (rg_ok_aload_n (j := 0) (by decide +kernel) rfl) <|
  rg_fc (rg_ok_aload_n (j := 0) (by decide +kernel) rfl) <|
  rg_fc (rg_ok_iload (i := 4) (by decide +kernel)) <|
  rg_fc (rg_ok_iconst (n := 1) (by decide +kernel) (by decide +kernel)) <|
  rg_fc (rg_ok_callV (idx := 179) rg_cok7 (by decide +kernel) (by decide +kernel) rg_wm_M_179 rg_wj_110 rg_ws_110 rg_wz_7 rg_wd_110 ⟨by decide +kernel, by decide +kernel, by decide +kernel, by decide +kernel⟩ (by decide +kernel) (by decide +kernel)) <|
  rg_fc (rg_ok_sipush (n := 393) (by decide +kernel) (by decide +kernel)) <|
  rg_fc (rg_ok_callV (idx := 46) rg_cok7 (by decide +kernel) (by decide +kernel) rg_wm_M_46 rg_wj_69 rg_ws_69 rg_wz_7 rg_wd_69 ⟨by decide +kernel, by decide +kernel, by decide +kernel, by decide +kernel⟩ (by decide +kernel) (by decide +kernel)) <|
  rg_fc (rg_ok_aload_n (j := 0) (by decide +kernel) rfl) <|
  rg_fc (rg_ok_sipush (n := 393) (by decide +kernel) (by decide +kernel)) <|
  rg_fc (rg_ok_iconst (n := 2) (by decide +kernel) (by decide +kernel)) <|
  rg_fc (rg_ok_iload_n (j := 1) (by decide +kernel) rfl) <|
  rg_fc (rg_ok_iload_n (j := 3) (by decide +kernel) rfl) <|
  rg_fc (rg_ok_callS (idx := 170) (by decide +kernel) (by decide +kernel) rg_wm_M_170 rg_wt_108 rg_wy_108 rg_wd_108 ⟨by decide +kernel, by decide +kernel, by decide +kernel⟩ (by decide +kernel) (by decide +kernel)) <|
  rg_fc (rg_ok_imul (by decide +kernel)) <|
  rg_fc (rg_ok_i2l (by decide +kernel)) <|
  rg_fc (rg_ok_callV (idx := 133) rg_cok7 (by decide +kernel) (by decide +kernel) rg_wm_M_133 rg_wj_83 rg_ws_83 rg_wz_7 rg_wd_83 ⟨by decide +kernel, by decide +kernel, by decide +kernel, by decide +kernel⟩ (by decide +kernel) (by decide +kernel)) <|
  rg_fc (rg_ok_aload_n (j := 0) (by decide +kernel) rfl) <|
  rg_fc (rg_ok_sipush (n := 384) (by decide +kernel) (by decide +kernel)) <|
  rg_fc (rg_ok_sipush (n := 385) (by decide +kernel) (by decide +kernel)) <|
  rg_fc (rg_ok_callV (idx := 185) rg_cok7 (by decide +kernel) (by decide +kernel) rg_wm_M_185 rg_wj_111 rg_ws_111 rg_wz_7 rg_wd_111 ⟨by decide +kernel, by decide +kernel, by decide +kernel, by decide +kernel⟩ (by decide +kernel) (by decide +kernel)) <|
  fun _ h => absurd h List.not_mem_nil
def rg_c128_3 : List (Nat × rg_S) := [(149, rg_sK [true, true, true, true, false] (rg_sin 3 1)), (152, rg_sgo 22), (155, rg_sal 0 1), (156, rg_sic 384 3), (159, rg_sic 385 3), (162, rg_sic 411 3), (165, rg_sic 412 3), (168, rg_scV 127 4 1 7), (171, rg_sjne 175), (174, rg_rv), (175, rg_sal 0 1), (176, rg_sic 384 3), (179, rg_sic 411 3), (182, rg_scV 69 2 0 7), (185, rg_sal 0 1), (186, rg_sic 385 3), (189, rg_sic 412 3), (192, rg_scV 69 2 0 7), (195, rg_rv)]
theorem rg_o128_3 : ∀ q ∈ rg_c128_3, rg_Ok 128 q.1 q.2 :=
  rg_fc (rg_okK _ (rg_ok_iinc (n := 1) (by decide +kernel) (by decide +kernel) (by decide +kernel))) <|
  rg_fc (rg_ok_goto (off := (-130)) (by decide +kernel) (by decide +kernel)) <|
  rg_fc (rg_ok_aload_n (j := 0) (by decide +kernel) rfl) <|
  rg_fc (rg_ok_sipush (n := 384) (by decide +kernel) (by decide +kernel)) <|
  rg_fc (rg_ok_sipush (n := 385) (by decide +kernel) (by decide +kernel)) <|
  rg_fc (rg_ok_sipush (n := 411) (by decide +kernel) (by decide +kernel)) <|
  rg_fc (rg_ok_sipush (n := 412) (by decide +kernel) (by decide +kernel)) <|
  rg_fc (rg_ok_callV (idx := 200) rg_cok7 (by decide +kernel) (by decide +kernel) rg_wm_M_200 rg_wj_127 rg_ws_127 rg_wz_7 rg_wd_127 ⟨by decide +kernel, by decide +kernel, by decide +kernel, by decide +kernel⟩ (by decide +kernel) (by decide +kernel)) <|
  rg_fc (rg_ok_if_ne (off := 4) (by decide +kernel) (by decide +kernel)) <|
  rg_fc (rg_ok_return (by decide +kernel) rfl) <|
  rg_fc (rg_ok_aload_n (j := 0) (by decide +kernel) rfl) <|
  rg_fc (rg_ok_sipush (n := 384) (by decide +kernel) (by decide +kernel)) <|
  rg_fc (rg_ok_sipush (n := 411) (by decide +kernel) (by decide +kernel)) <|
  rg_fc (rg_ok_callV (idx := 46) rg_cok7 (by decide +kernel) (by decide +kernel) rg_wm_M_46 rg_wj_69 rg_ws_69 rg_wz_7 rg_wd_69 ⟨by decide +kernel, by decide +kernel, by decide +kernel, by decide +kernel⟩ (by decide +kernel) (by decide +kernel)) <|
  rg_fc (rg_ok_aload_n (j := 0) (by decide +kernel) rfl) <|
  rg_fc (rg_ok_sipush (n := 385) (by decide +kernel) (by decide +kernel)) <|
  rg_fc (rg_ok_sipush (n := 412) (by decide +kernel) (by decide +kernel)) <|
  rg_fc (rg_ok_callV (idx := 46) rg_cok7 (by decide +kernel) (by decide +kernel) rg_wm_M_46 rg_wj_69 rg_ws_69 rg_wz_7 rg_wd_69 ⟨by decide +kernel, by decide +kernel, by decide +kernel, by decide +kernel⟩ (by decide +kernel) (by decide +kernel)) <|
  rg_fc (rg_ok_return (by decide +kernel) rfl) <|
  fun _ h => absurd h List.not_mem_nil
def rg_kd128 : List (List (Nat × rg_S)) := [rg_c128_0, rg_c128_1, rg_c128_2, rg_c128_3]
theorem rg_o128 : ∀ pc f, rg_lk2 rg_kd128 pc = some f → rg_Ok 128 pc f := rg_lk2_ok (rg_fd rg_o128_0 (rg_fd rg_o128_1 (rg_fd rg_o128_2 (rg_fd rg_o128_3 (fun _ h => absurd h List.not_mem_nil)))))
def rg_c129_0 : List (Nat × rg_S) := [(0, rg_sal 0 1), (1, rg_sic 382 3), (4, rg_sic 383 3), (7, rg_scV 85 2 0 7), (10, rg_sal 0 1), (11, rg_sic 382 3), (14, rg_sic 393 3), (17, rg_scV 69 2 0 7), (20, rg_sal 0 1), (21, rg_sic 383 3), (24, rg_sic 394 3), (27, rg_scV 69 2 0 7), (30, rg_sal 0 1), (31, rg_sic 409 3), (34, rg_sic 410 3), (37, rg_scV 111 2 0 7), (40, rg_sal 0 1), (41, rg_sic 409 3), (44, rg_sic 410 3), (47, rg_scV 85 2 0 7), (50, rg_rv)]
theorem rg_o129_0 : ∀ q ∈ rg_c129_0, rg_Ok 129 q.1 q.2 :=
  rg_fc (rg_ok_aload_n (j := 0) (by decide +kernel) rfl) <|
  rg_fc (rg_ok_sipush (n := 382) (by decide +kernel) (by decide +kernel)) <|
  rg_fc (rg_ok_sipush (n := 383) (by decide +kernel) (by decide +kernel)) <|
  rg_fc (rg_ok_callV (idx := 116) rg_cok7 (by decide +kernel) (by decide +kernel) rg_wm_M_116 rg_wj_85 rg_ws_85 rg_wz_7 rg_wd_85 ⟨by decide +kernel, by decide +kernel, by decide +kernel, by decide +kernel⟩ (by decide +kernel) (by decide +kernel)) <|
  rg_fc (rg_ok_aload_n (j := 0) (by decide +kernel) rfl) <|
  rg_fc (rg_ok_sipush (n := 382) (by decide +kernel) (by decide +kernel)) <|
  rg_fc (rg_ok_sipush (n := 393) (by decide +kernel) (by decide +kernel)) <|
  rg_fc (rg_ok_callV (idx := 46) rg_cok7 (by decide +kernel) (by decide +kernel) rg_wm_M_46 rg_wj_69 rg_ws_69 rg_wz_7 rg_wd_69 ⟨by decide +kernel, by decide +kernel, by decide +kernel, by decide +kernel⟩ (by decide +kernel) (by decide +kernel)) <|
  rg_fc (rg_ok_aload_n (j := 0) (by decide +kernel) rfl) <|
  rg_fc (rg_ok_sipush (n := 383) (by decide +kernel) (by decide +kernel)) <|
  rg_fc (rg_ok_sipush (n := 394) (by decide +kernel) (by decide +kernel)) <|
  rg_fc (rg_ok_callV (idx := 46) rg_cok7 (by decide +kernel) (by decide +kernel) rg_wm_M_46 rg_wj_69 rg_ws_69 rg_wz_7 rg_wd_69 ⟨by decide +kernel, by decide +kernel, by decide +kernel, by decide +kernel⟩ (by decide +kernel) (by decide +kernel)) <|
  rg_fc (rg_ok_aload_n (j := 0) (by decide +kernel) rfl) <|
  rg_fc (rg_ok_sipush (n := 409) (by decide +kernel) (by decide +kernel)) <|
  rg_fc (rg_ok_sipush (n := 410) (by decide +kernel) (by decide +kernel)) <|
  rg_fc (rg_ok_callV (idx := 185) rg_cok7 (by decide +kernel) (by decide +kernel) rg_wm_M_185 rg_wj_111 rg_ws_111 rg_wz_7 rg_wd_111 ⟨by decide +kernel, by decide +kernel, by decide +kernel, by decide +kernel⟩ (by decide +kernel) (by decide +kernel)) <|
  rg_fc (rg_ok_aload_n (j := 0) (by decide +kernel) rfl) <|
  rg_fc (rg_ok_sipush (n := 409) (by decide +kernel) (by decide +kernel)) <|
  rg_fc (rg_ok_sipush (n := 410) (by decide +kernel) (by decide +kernel)) <|
  rg_fc (rg_ok_callV (idx := 116) rg_cok7 (by decide +kernel) (by decide +kernel) rg_wm_M_116 rg_wj_85 rg_ws_85 rg_wz_7 rg_wd_85 ⟨by decide +kernel, by decide +kernel, by decide +kernel, by decide +kernel⟩ (by decide +kernel) (by decide +kernel)) <|
  rg_fc (rg_ok_return (by decide +kernel) rfl) <|
  fun _ h => absurd h List.not_mem_nil
def rg_kd129 : List (List (Nat × rg_S)) := [rg_c129_0]
theorem rg_o129 : ∀ pc f, rg_lk2 rg_kd129 pc = some f → rg_Ok 129 pc f := rg_lk2_ok (rg_fd rg_o129_0 (fun _ h => absurd h List.not_mem_nil))
def rg_c130_0 : List (Nat × rg_S) := [(0, rg_sal 0 1), (1, rg_sil 1 1), (2, rg_sic 1 1), (3, rg_scV 128 2 0 7), (6, rg_sal 0 1), (7, rg_sic 411 3), (10, rg_sic 412 3), (13, rg_scV 85 2 0 7), (16, rg_sal 0 1), (17, rg_sic 382 3), (20, rg_sic 383 3), (23, rg_scV 107 2 0 7), (26, rg_sal 0 1), (27, rg_sic 384 3), (30, rg_sic 385 3), (33, rg_scV 107 2 0 7), (36, rg_sic 0 1), (37, rg_sis 2 1), (38, rg_sK [true, true, true, false] (rg_sil 2 1)), (39, rg_sal 0 1), (40, rg_sgi 7 6), (43, rg_skge 192), (46, rg_sil 2 1), (47, rg_sil 1 1), (48, rg_skne 54)]
theorem rg_o130_0 : ∀ q ∈ rg_c130_0, rg_Ok 130 q.1 q.2 :=
  rg_fc (rg_ok_aload_n (j := 0) (by decide +kernel) rfl) <|
  rg_fc (rg_ok_iload_n (j := 1) (by decide +kernel) rfl) <|
  rg_fc (rg_ok_iconst (n := 1) (by decide +kernel) (by decide +kernel)) <|
  rg_fc (rg_ok_callV (idx := 204) rg_cok7 (by decide +kernel) (by decide +kernel) rg_wm_M_204 rg_wj_128 rg_ws_128 rg_wz_7 rg_wd_128 ⟨by decide +kernel, by decide +kernel, by decide +kernel, by decide +kernel⟩ (by decide +kernel) (by decide +kernel)) <|
  rg_fc (rg_ok_aload_n (j := 0) (by decide +kernel) rfl) <|
  rg_fc (rg_ok_sipush (n := 411) (by decide +kernel) (by decide +kernel)) <|
  rg_fc (rg_ok_sipush (n := 412) (by decide +kernel) (by decide +kernel)) <|
  rg_fc (rg_ok_callV (idx := 116) rg_cok7 (by decide +kernel) (by decide +kernel) rg_wm_M_116 rg_wj_85 rg_ws_85 rg_wz_7 rg_wd_85 ⟨by decide +kernel, by decide +kernel, by decide +kernel, by decide +kernel⟩ (by decide +kernel) (by decide +kernel)) <|
  rg_fc (rg_ok_aload_n (j := 0) (by decide +kernel) rfl) <|
  rg_fc (rg_ok_sipush (n := 382) (by decide +kernel) (by decide +kernel)) <|
  rg_fc (rg_ok_sipush (n := 383) (by decide +kernel) (by decide +kernel)) <|
  rg_fc (rg_ok_callV (idx := 167) rg_cok7 (by decide +kernel) (by decide +kernel) rg_wm_M_167 rg_wj_107 rg_ws_107 rg_wz_7 rg_wd_107 ⟨by decide +kernel, by decide +kernel, by decide +kernel, by decide +kernel⟩ (by decide +kernel) (by decide +kernel)) <|
  rg_fc (rg_ok_aload_n (j := 0) (by decide +kernel) rfl) <|
  rg_fc (rg_ok_sipush (n := 384) (by decide +kernel) (by decide +kernel)) <|
  rg_fc (rg_ok_sipush (n := 385) (by decide +kernel) (by decide +kernel)) <|
  rg_fc (rg_ok_callV (idx := 167) rg_cok7 (by decide +kernel) (by decide +kernel) rg_wm_M_167 rg_wj_107 rg_ws_107 rg_wz_7 rg_wd_107 ⟨by decide +kernel, by decide +kernel, by decide +kernel, by decide +kernel⟩ (by decide +kernel) (by decide +kernel)) <|
  rg_fc (rg_ok_iconst (n := 0) (by decide +kernel) (by decide +kernel)) <|
  rg_fc (rg_ok_istore_n (j := 2) (by decide +kernel) rfl (by decide +kernel)) <|
  rg_fc (rg_okK _ (rg_ok_iload_n (j := 2) (by decide +kernel) rfl)) <|
  rg_fc (rg_ok_aload_n (j := 0) (by decide +kernel) rfl) <|
  rg_fc (rg_ok_geti (idx := 83) rg_cok7 (by decide +kernel) rfl (by decide +kernel) rg_wf_M_83) <|
  rg_fc (rg_ok_icmp_ge (off := 149) (by decide +kernel) (by decide +kernel)) <|
  rg_fc (rg_ok_iload_n (j := 2) (by decide +kernel) rfl) <|
  rg_fc (rg_ok_iload_n (j := 1) (by decide +kernel) rfl) <|
  rg_fc (rg_ok_icmp_ne (off := 6) (by decide +kernel) (by decide +kernel)) <|
  fun _ h => absurd h List.not_mem_nil
def rg_c130_1 : List (Nat × rg_S) := [(51, rg_sgo 186), (54, rg_sil 1 1), (55, rg_sil 2 1), (56, rg_scS 108 2 1), (59, rg_sis 3 1), (60, rg_sal 0 1), (61, rg_sal 0 1), (62, rg_sic 4 1), (63, rg_sil 2 1), (64, rg_s2i (fun x y => x * y)), (65, rg_sic 1 1), (66, rg_s2i (fun x y => x + y)), (67, rg_sic 0 1), (68, rg_scV 110 2 1 7), (71, rg_sic 393 3), (74, rg_scV 69 2 0 7), (77, rg_sal 0 1), (78, rg_sic 393 3), (81, rg_sil 3 1), (82, rg_si2l), (83, rg_scV 83 2 0 7), (86, rg_sal 0 1), (87, rg_sic 360 3), (90, rg_sic 4 1), (91, rg_sil 2 1)]
theorem rg_o130_1 : ∀ q ∈ rg_c130_1, rg_Ok 130 q.1 q.2 :=
  rg_fc (rg_ok_goto (off := 135) (by decide +kernel) (by decide +kernel)) <|
  rg_fc (rg_ok_iload_n (j := 1) (by decide +kernel) rfl) <|
  rg_fc (rg_ok_iload_n (j := 2) (by decide +kernel) rfl) <|
  rg_fc (rg_ok_callS (idx := 170) (by decide +kernel) (by decide +kernel) rg_wm_M_170 rg_wt_108 rg_wy_108 rg_wd_108 ⟨by decide +kernel, by decide +kernel, by decide +kernel⟩ (by decide +kernel) (by decide +kernel)) <|
  rg_fc (rg_ok_istore_n (j := 3) (by decide +kernel) rfl (by decide +kernel)) <|
  rg_fc (rg_ok_aload_n (j := 0) (by decide +kernel) rfl) <|
  rg_fc (rg_ok_aload_n (j := 0) (by decide +kernel) rfl) <|
  rg_fc (rg_ok_iconst (n := 4) (by decide +kernel) (by decide +kernel)) <|
  rg_fc (rg_ok_iload_n (j := 2) (by decide +kernel) rfl) <|
  rg_fc (rg_ok_imul (by decide +kernel)) <|
  rg_fc (rg_ok_iconst (n := 1) (by decide +kernel) (by decide +kernel)) <|
  rg_fc (rg_ok_iadd (by decide +kernel)) <|
  rg_fc (rg_ok_iconst (n := 0) (by decide +kernel) (by decide +kernel)) <|
  rg_fc (rg_ok_callV (idx := 179) rg_cok7 (by decide +kernel) (by decide +kernel) rg_wm_M_179 rg_wj_110 rg_ws_110 rg_wz_7 rg_wd_110 ⟨by decide +kernel, by decide +kernel, by decide +kernel, by decide +kernel⟩ (by decide +kernel) (by decide +kernel)) <|
  rg_fc (rg_ok_sipush (n := 393) (by decide +kernel) (by decide +kernel)) <|
  rg_fc (rg_ok_callV (idx := 46) rg_cok7 (by decide +kernel) (by decide +kernel) rg_wm_M_46 rg_wj_69 rg_ws_69 rg_wz_7 rg_wd_69 ⟨by decide +kernel, by decide +kernel, by decide +kernel, by decide +kernel⟩ (by decide +kernel) (by decide +kernel)) <|
  rg_fc (rg_ok_aload_n (j := 0) (by decide +kernel) rfl) <|
  rg_fc (rg_ok_sipush (n := 393) (by decide +kernel) (by decide +kernel)) <|
  rg_fc (rg_ok_iload_n (j := 3) (by decide +kernel) rfl) <|
  rg_fc (rg_ok_i2l (by decide +kernel)) <|
  rg_fc (rg_ok_callV (idx := 133) rg_cok7 (by decide +kernel) (by decide +kernel) rg_wm_M_133 rg_wj_83 rg_ws_83 rg_wz_7 rg_wd_83 ⟨by decide +kernel, by decide +kernel, by decide +kernel, by decide +kernel⟩ (by decide +kernel) (by decide +kernel)) <|
  rg_fc (rg_ok_aload_n (j := 0) (by decide +kernel) rfl) <|
  rg_fc (rg_ok_sipush (n := 360) (by decide +kernel) (by decide +kernel)) <|
  rg_fc (rg_ok_iconst (n := 4) (by decide +kernel) (by decide +kernel)) <|
  rg_fc (rg_ok_iload_n (j := 2) (by decide +kernel) rfl) <|
  fun _ h => absurd h List.not_mem_nil
def rg_c130_2 : List (Nat × rg_S) := [(92, rg_s2i (fun x y => x * y)), (93, rg_s2i (fun x y => x + y)), (94, rg_sic 1 1), (95, rg_s2i (fun x y => x + y)), (96, rg_sic 394 3), (99, rg_scV 69 2 0 7), (102, rg_sal 0 1), (103, rg_sic 382 3), (106, rg_sic 383 3), (109, rg_scV 111 2 0 7), (112, rg_sal 0 1), (113, rg_sal 0 1), (114, rg_sic 4 1), (115, rg_sil 2 1), (116, rg_s2i (fun x y => x * y)), (117, rg_sic 2 1), (118, rg_s2i (fun x y => x + y)), (119, rg_sic 1 1), (120, rg_scV 110 2 1 7), (123, rg_sic 395 3), (126, rg_scV 69 2 0 7), (129, rg_sal 0 1), (130, rg_sic 395 3), (133, rg_sic 2 1), (134, rg_sil 3 1)]
theorem rg_o130_2 : ∀ q ∈ rg_c130_2, rg_Ok 130 q.1 q.2 :=
  rg_fc (rg_ok_imul (by decide +kernel)) <|
  rg_fc (rg_ok_iadd (by decide +kernel)) <|
  rg_fc (rg_ok_iconst (n := 1) (by decide +kernel) (by decide +kernel)) <|
  rg_fc (rg_ok_iadd (by decide +kernel)) <|
  rg_fc (rg_ok_sipush (n := 394) (by decide +kernel) (by decide +kernel)) <|
  rg_fc (rg_ok_callV (idx := 46) rg_cok7 (by decide +kernel) (by decide +kernel) rg_wm_M_46 rg_wj_69 rg_ws_69 rg_wz_7 rg_wd_69 ⟨by decide +kernel, by decide +kernel, by decide +kernel, by decide +kernel⟩ (by decide +kernel) (by decide +kernel)) <|
  rg_fc (rg_ok_aload_n (j := 0) (by decide +kernel) rfl) <|
  rg_fc (rg_ok_sipush (n := 382) (by decide +kernel) (by decide +kernel)) <|
  rg_fc (rg_ok_sipush (n := 383) (by decide +kernel) (by decide +kernel)) <|
  rg_fc (rg_ok_callV (idx := 185) rg_cok7 (by decide +kernel) (by decide +kernel) rg_wm_M_185 rg_wj_111 rg_ws_111 rg_wz_7 rg_wd_111 ⟨by decide +kernel, by decide +kernel, by decide +kernel, by decide +kernel⟩ (by decide +kernel) (by decide +kernel)) <|
  rg_fc (rg_ok_aload_n (j := 0) (by decide +kernel) rfl) <|
  rg_fc (rg_ok_aload_n (j := 0) (by decide +kernel) rfl) <|
  rg_fc (rg_ok_iconst (n := 4) (by decide +kernel) (by decide +kernel)) <|
  rg_fc (rg_ok_iload_n (j := 2) (by decide +kernel) rfl) <|
  rg_fc (rg_ok_imul (by decide +kernel)) <|
  rg_fc (rg_ok_iconst (n := 2) (by decide +kernel) (by decide +kernel)) <|
  rg_fc (rg_ok_iadd (by decide +kernel)) <|
  rg_fc (rg_ok_iconst (n := 1) (by decide +kernel) (by decide +kernel)) <|
  rg_fc (rg_ok_callV (idx := 179) rg_cok7 (by decide +kernel) (by decide +kernel) rg_wm_M_179 rg_wj_110 rg_ws_110 rg_wz_7 rg_wd_110 ⟨by decide +kernel, by decide +kernel, by decide +kernel, by decide +kernel⟩ (by decide +kernel) (by decide +kernel)) <|
  rg_fc (rg_ok_sipush (n := 395) (by decide +kernel) (by decide +kernel)) <|
  rg_fc (rg_ok_callV (idx := 46) rg_cok7 (by decide +kernel) (by decide +kernel) rg_wm_M_46 rg_wj_69 rg_ws_69 rg_wz_7 rg_wd_69 ⟨by decide +kernel, by decide +kernel, by decide +kernel, by decide +kernel⟩ (by decide +kernel) (by decide +kernel)) <|
  rg_fc (rg_ok_aload_n (j := 0) (by decide +kernel) rfl) <|
  rg_fc (rg_ok_sipush (n := 395) (by decide +kernel) (by decide +kernel)) <|
  rg_fc (rg_ok_iconst (n := 2) (by decide +kernel) (by decide +kernel)) <|
  rg_fc (rg_ok_iload_n (j := 3) (by decide +kernel) rfl) <|
  fun _ h => absurd h List.not_mem_nil
def rg_c130_3 : List (Nat × rg_S) := [(135, rg_s2i (fun x y => x * y)), (136, rg_si2l), (137, rg_scV 83 2 0 7), (140, rg_sal 0 1), (141, rg_sic 395 3), (144, rg_sal 0 1), (145, rg_sic 4 1), (146, rg_sil 2 1), (147, rg_s2i (fun x y => x * y)), (148, rg_sic 2 1), (149, rg_s2i (fun x y => x + y)), (150, rg_sic 0 1), (151, rg_scV 110 2 1 7), (154, rg_sic 393 3), (157, rg_scV 78 3 0 7), (160, rg_sal 0 1), (161, rg_sic 360 3), (164, rg_sic 4 1), (165, rg_sil 2 1), (166, rg_s2i (fun x y => x * y)), (167, rg_s2i (fun x y => x + y)), (168, rg_sic 2 1), (169, rg_s2i (fun x y => x + y)), (170, rg_sic 394 3), (173, rg_scV 69 2 0 7)]
theorem rg_o130_3 : ∀ q ∈ rg_c130_3, rg_Ok 130 q.1 q.2 :=
  rg_fc (rg_ok_imul (by decide +kernel)) <|
  rg_fc (rg_ok_i2l (by decide +kernel)) <|
  rg_fc (rg_ok_callV (idx := 133) rg_cok7 (by decide +kernel) (by decide +kernel) rg_wm_M_133 rg_wj_83 rg_ws_83 rg_wz_7 rg_wd_83 ⟨by decide +kernel, by decide +kernel, by decide +kernel, by decide +kernel⟩ (by decide +kernel) (by decide +kernel)) <|
  rg_fc (rg_ok_aload_n (j := 0) (by decide +kernel) rfl) <|
  rg_fc (rg_ok_sipush (n := 395) (by decide +kernel) (by decide +kernel)) <|
  rg_fc (rg_ok_aload_n (j := 0) (by decide +kernel) rfl) <|
  rg_fc (rg_ok_iconst (n := 4) (by decide +kernel) (by decide +kernel)) <|
  rg_fc (rg_ok_iload_n (j := 2) (by decide +kernel) rfl) <|
  rg_fc (rg_ok_imul (by decide +kernel)) <|
  rg_fc (rg_ok_iconst (n := 2) (by decide +kernel) (by decide +kernel)) <|
  rg_fc (rg_ok_iadd (by decide +kernel)) <|
  rg_fc (rg_ok_iconst (n := 0) (by decide +kernel) (by decide +kernel)) <|
  rg_fc (rg_ok_callV (idx := 179) rg_cok7 (by decide +kernel) (by decide +kernel) rg_wm_M_179 rg_wj_110 rg_ws_110 rg_wz_7 rg_wd_110 ⟨by decide +kernel, by decide +kernel, by decide +kernel, by decide +kernel⟩ (by decide +kernel) (by decide +kernel)) <|
  rg_fc (rg_ok_sipush (n := 393) (by decide +kernel) (by decide +kernel)) <|
  rg_fc (rg_ok_callV (idx := 61) rg_cok7 (by decide +kernel) (by decide +kernel) rg_wm_M_61 rg_wj_78 rg_ws_78 rg_wz_7 rg_wd_78 ⟨by decide +kernel, by decide +kernel, by decide +kernel, by decide +kernel⟩ (by decide +kernel) (by decide +kernel)) <|
  rg_fc (rg_ok_aload_n (j := 0) (by decide +kernel) rfl) <|
  rg_fc (rg_ok_sipush (n := 360) (by decide +kernel) (by decide +kernel)) <|
  rg_fc (rg_ok_iconst (n := 4) (by decide +kernel) (by decide +kernel)) <|
  rg_fc (rg_ok_iload_n (j := 2) (by decide +kernel) rfl) <|
  rg_fc (rg_ok_imul (by decide +kernel)) <|
  rg_fc (rg_ok_iadd (by decide +kernel)) <|
  rg_fc (rg_ok_iconst (n := 2) (by decide +kernel) (by decide +kernel)) <|
  rg_fc (rg_ok_iadd (by decide +kernel)) <|
  rg_fc (rg_ok_sipush (n := 394) (by decide +kernel) (by decide +kernel)) <|
  rg_fc (rg_ok_callV (idx := 46) rg_cok7 (by decide +kernel) (by decide +kernel) rg_wm_M_46 rg_wj_69 rg_ws_69 rg_wz_7 rg_wd_69 ⟨by decide +kernel, by decide +kernel, by decide +kernel, by decide +kernel⟩ (by decide +kernel) (by decide +kernel)) <|
  fun _ h => absurd h List.not_mem_nil
def rg_c130_4 : List (Nat × rg_S) := [(176, rg_sal 0 1), (177, rg_sic 384 3), (180, rg_sic 385 3), (183, rg_scV 111 2 0 7), (186, rg_sK [true, true, true, false] (rg_sin 2 1)), (189, rg_sgo 38), (192, rg_sal 0 1), (193, rg_sic 411 3), (196, rg_sic 393 3), (199, rg_scV 69 2 0 7), (202, rg_sal 0 1), (203, rg_sic 412 3), (206, rg_sic 394 3), (209, rg_scV 69 2 0 7), (212, rg_sal 0 1), (213, rg_sic 382 3), (216, rg_sic 383 3), (219, rg_scV 111 2 0 7), (222, rg_sal 0 1), (223, rg_sic 384 3), (226, rg_sic 385 3), (229, rg_sic 382 3), (232, rg_sic 383 3), (235, rg_scV 127 4 1 7), (238, rg_sjeq 261)]
theorem rg_o130_4 : ∀ q ∈ rg_c130_4, rg_Ok 130 q.1 q.2 :=
  rg_fc (rg_ok_aload_n (j := 0) (by decide +kernel) rfl) <|
  rg_fc (rg_ok_sipush (n := 384) (by decide +kernel) (by decide +kernel)) <|
  rg_fc (rg_ok_sipush (n := 385) (by decide +kernel) (by decide +kernel)) <|
  rg_fc (rg_ok_callV (idx := 185) rg_cok7 (by decide +kernel) (by decide +kernel) rg_wm_M_185 rg_wj_111 rg_ws_111 rg_wz_7 rg_wd_111 ⟨by decide +kernel, by decide +kernel, by decide +kernel, by decide +kernel⟩ (by decide +kernel) (by decide +kernel)) <|
  rg_fc (rg_okK _ (rg_ok_iinc (n := 1) (by decide +kernel) (by decide +kernel) (by decide +kernel))) <|
  rg_fc (rg_ok_goto (off := (-151)) (by decide +kernel) (by decide +kernel)) <|
  rg_fc (rg_ok_aload_n (j := 0) (by decide +kernel) rfl) <|
  rg_fc (rg_ok_sipush (n := 411) (by decide +kernel) (by decide +kernel)) <|
  rg_fc (rg_ok_sipush (n := 393) (by decide +kernel) (by decide +kernel)) <|
  rg_fc (rg_ok_callV (idx := 46) rg_cok7 (by decide +kernel) (by decide +kernel) rg_wm_M_46 rg_wj_69 rg_ws_69 rg_wz_7 rg_wd_69 ⟨by decide +kernel, by decide +kernel, by decide +kernel, by decide +kernel⟩ (by decide +kernel) (by decide +kernel)) <|
  rg_fc (rg_ok_aload_n (j := 0) (by decide +kernel) rfl) <|
  rg_fc (rg_ok_sipush (n := 412) (by decide +kernel) (by decide +kernel)) <|
  rg_fc (rg_ok_sipush (n := 394) (by decide +kernel) (by decide +kernel)) <|
  rg_fc (rg_ok_callV (idx := 46) rg_cok7 (by decide +kernel) (by decide +kernel) rg_wm_M_46 rg_wj_69 rg_ws_69 rg_wz_7 rg_wd_69 ⟨by decide +kernel, by decide +kernel, by decide +kernel, by decide +kernel⟩ (by decide +kernel) (by decide +kernel)) <|
  rg_fc (rg_ok_aload_n (j := 0) (by decide +kernel) rfl) <|
  rg_fc (rg_ok_sipush (n := 382) (by decide +kernel) (by decide +kernel)) <|
  rg_fc (rg_ok_sipush (n := 383) (by decide +kernel) (by decide +kernel)) <|
  rg_fc (rg_ok_callV (idx := 185) rg_cok7 (by decide +kernel) (by decide +kernel) rg_wm_M_185 rg_wj_111 rg_ws_111 rg_wz_7 rg_wd_111 ⟨by decide +kernel, by decide +kernel, by decide +kernel, by decide +kernel⟩ (by decide +kernel) (by decide +kernel)) <|
  rg_fc (rg_ok_aload_n (j := 0) (by decide +kernel) rfl) <|
  rg_fc (rg_ok_sipush (n := 384) (by decide +kernel) (by decide +kernel)) <|
  rg_fc (rg_ok_sipush (n := 385) (by decide +kernel) (by decide +kernel)) <|
  rg_fc (rg_ok_sipush (n := 382) (by decide +kernel) (by decide +kernel)) <|
  rg_fc (rg_ok_sipush (n := 383) (by decide +kernel) (by decide +kernel)) <|
  rg_fc (rg_ok_callV (idx := 200) rg_cok7 (by decide +kernel) (by decide +kernel) rg_wm_M_200 rg_wj_127 rg_ws_127 rg_wz_7 rg_wd_127 ⟨by decide +kernel, by decide +kernel, by decide +kernel, by decide +kernel⟩ (by decide +kernel) (by decide +kernel)) <|
  rg_fc (rg_ok_if_eq (off := 23) (by decide +kernel) (by decide +kernel)) <|
  fun _ h => absurd h List.not_mem_nil
def rg_c130_5 : List (Nat × rg_S) := [(241, rg_sal 0 1), (242, rg_sic 384 3), (245, rg_sic 382 3), (248, rg_scV 69 2 0 7), (251, rg_sal 0 1), (252, rg_sic 385 3), (255, rg_sic 383 3), (258, rg_scV 69 2 0 7), (261, rg_sK [true, false, false, false] (rg_sal 0 1)), (262, rg_scV 129 0 0 7), (265, rg_rv)]
theorem rg_o130_5 : ∀ q ∈ rg_c130_5, rg_Ok 130 q.1 q.2 :=
  rg_fc (rg_ok_aload_n (j := 0) (by decide +kernel) rfl) <|
  rg_fc (rg_ok_sipush (n := 384) (by decide +kernel) (by decide +kernel)) <|
  rg_fc (rg_ok_sipush (n := 382) (by decide +kernel) (by decide +kernel)) <|
  rg_fc (rg_ok_callV (idx := 46) rg_cok7 (by decide +kernel) (by decide +kernel) rg_wm_M_46 rg_wj_69 rg_ws_69 rg_wz_7 rg_wd_69 ⟨by decide +kernel, by decide +kernel, by decide +kernel, by decide +kernel⟩ (by decide +kernel) (by decide +kernel)) <|
  rg_fc (rg_ok_aload_n (j := 0) (by decide +kernel) rfl) <|
  rg_fc (rg_ok_sipush (n := 385) (by decide +kernel) (by decide +kernel)) <|
  rg_fc (rg_ok_sipush (n := 383) (by decide +kernel) (by decide +kernel)) <|
  rg_fc (rg_ok_callV (idx := 46) rg_cok7 (by decide +kernel) (by decide +kernel) rg_wm_M_46 rg_wj_69 rg_ws_69 rg_wz_7 rg_wd_69 ⟨by decide +kernel, by decide +kernel, by decide +kernel, by decide +kernel⟩ (by decide +kernel) (by decide +kernel)) <|
  rg_fc (rg_okK _ (rg_ok_aload_n (j := 0) (by decide +kernel) rfl)) <|
  rg_fc (rg_ok_callV (idx := 208) rg_cok7 (by decide +kernel) (by decide +kernel) rg_wm_M_208 rg_wj_129 rg_ws_129 rg_wz_7 rg_wd_129 ⟨by decide +kernel, by decide +kernel, by decide +kernel, by decide +kernel⟩ (by decide +kernel) (by decide +kernel)) <|
  rg_fc (rg_ok_return (by decide +kernel) rfl) <|
  fun _ h => absurd h List.not_mem_nil
def rg_kd130 : List (List (Nat × rg_S)) := [rg_c130_0, rg_c130_1, rg_c130_2, rg_c130_3, rg_c130_4, rg_c130_5]
theorem rg_o130 : ∀ pc f, rg_lk2 rg_kd130 pc = some f → rg_Ok 130 pc f := rg_lk2_ok (rg_fd rg_o130_0 (rg_fd rg_o130_1 (rg_fd rg_o130_2 (rg_fd rg_o130_3 (rg_fd rg_o130_4 (rg_fd rg_o130_5 (fun _ h => absurd h List.not_mem_nil)))))))
def rg_c131_0 : List (Nat × rg_S) := [(0, rg_sal 0 1), (1, rg_sil 1 1), (2, rg_sic 0 1), (3, rg_scV 128 2 0 7), (6, rg_sal 0 1), (7, rg_sic 411 3), (10, rg_sic 382 3), (13, rg_scV 69 2 0 7), (16, rg_sal 0 1), (17, rg_sic 412 3), (20, rg_sic 383 3), (23, rg_scV 69 2 0 7), (26, rg_sal 0 1), (27, rg_scV 129 0 0 7), (30, rg_sal 0 1), (31, rg_sic 382 3), (34, rg_sic 383 3), (37, rg_scV 107 2 0 7), (40, rg_sal 0 1), (41, rg_sic 384 3), (44, rg_sic 385 3), (47, rg_scV 107 2 0 7), (50, rg_sic 0 1), (51, rg_sis 2 1), (52, rg_sK [true, true, true, false] (rg_sil 2 1))]
theorem rg_o131_0 : ∀ q ∈ rg_c131_0, rg_Ok 131 q.1 q.2 :=
  rg_fc (rg_ok_aload_n (j := 0) (by decide +kernel) rfl) <|
  rg_fc (rg_ok_iload_n (j := 1) (by decide +kernel) rfl) <|
  rg_fc (rg_ok_iconst (n := 0) (by decide +kernel) (by decide +kernel)) <|
  rg_fc (rg_ok_callV (idx := 204) rg_cok7 (by decide +kernel) (by decide +kernel) rg_wm_M_204 rg_wj_128 rg_ws_128 rg_wz_7 rg_wd_128 ⟨by decide +kernel, by decide +kernel, by decide +kernel, by decide +kernel⟩ (by decide +kernel) (by decide +kernel)) <|
  rg_fc (rg_ok_aload_n (j := 0) (by decide +kernel) rfl) <|
  rg_fc (rg_ok_sipush (n := 411) (by decide +kernel) (by decide +kernel)) <|
  rg_fc (rg_ok_sipush (n := 382) (by decide +kernel) (by decide +kernel)) <|
  rg_fc (rg_ok_callV (idx := 46) rg_cok7 (by decide +kernel) (by decide +kernel) rg_wm_M_46 rg_wj_69 rg_ws_69 rg_wz_7 rg_wd_69 ⟨by decide +kernel, by decide +kernel, by decide +kernel, by decide +kernel⟩ (by decide +kernel) (by decide +kernel)) <|
  rg_fc (rg_ok_aload_n (j := 0) (by decide +kernel) rfl) <|
  rg_fc (rg_ok_sipush (n := 412) (by decide +kernel) (by decide +kernel)) <|
  rg_fc (rg_ok_sipush (n := 383) (by decide +kernel) (by decide +kernel)) <|
  rg_fc (rg_ok_callV (idx := 46) rg_cok7 (by decide +kernel) (by decide +kernel) rg_wm_M_46 rg_wj_69 rg_ws_69 rg_wz_7 rg_wd_69 ⟨by decide +kernel, by decide +kernel, by decide +kernel, by decide +kernel⟩ (by decide +kernel) (by decide +kernel)) <|
  rg_fc (rg_ok_aload_n (j := 0) (by decide +kernel) rfl) <|
  rg_fc (rg_ok_callV (idx := 208) rg_cok7 (by decide +kernel) (by decide +kernel) rg_wm_M_208 rg_wj_129 rg_ws_129 rg_wz_7 rg_wd_129 ⟨by decide +kernel, by decide +kernel, by decide +kernel, by decide +kernel⟩ (by decide +kernel) (by decide +kernel)) <|
  rg_fc (rg_ok_aload_n (j := 0) (by decide +kernel) rfl) <|
  rg_fc (rg_ok_sipush (n := 382) (by decide +kernel) (by decide +kernel)) <|
  rg_fc (rg_ok_sipush (n := 383) (by decide +kernel) (by decide +kernel)) <|
  rg_fc (rg_ok_callV (idx := 167) rg_cok7 (by decide +kernel) (by decide +kernel) rg_wm_M_167 rg_wj_107 rg_ws_107 rg_wz_7 rg_wd_107 ⟨by decide +kernel, by decide +kernel, by decide +kernel, by decide +kernel⟩ (by decide +kernel) (by decide +kernel)) <|
  rg_fc (rg_ok_aload_n (j := 0) (by decide +kernel) rfl) <|
  rg_fc (rg_ok_sipush (n := 384) (by decide +kernel) (by decide +kernel)) <|
  rg_fc (rg_ok_sipush (n := 385) (by decide +kernel) (by decide +kernel)) <|
  rg_fc (rg_ok_callV (idx := 167) rg_cok7 (by decide +kernel) (by decide +kernel) rg_wm_M_167 rg_wj_107 rg_ws_107 rg_wz_7 rg_wd_107 ⟨by decide +kernel, by decide +kernel, by decide +kernel, by decide +kernel⟩ (by decide +kernel) (by decide +kernel)) <|
  rg_fc (rg_ok_iconst (n := 0) (by decide +kernel) (by decide +kernel)) <|
  rg_fc (rg_ok_istore_n (j := 2) (by decide +kernel) rfl (by decide +kernel)) <|
  rg_fc (rg_okK _ (rg_ok_iload_n (j := 2) (by decide +kernel) rfl)) <|
  fun _ h => absurd h List.not_mem_nil
def rg_c131_1 : List (Nat × rg_S) := [(53, rg_sal 0 1), (54, rg_sgi 7 6), (57, rg_skge 228), (60, rg_sil 2 1), (61, rg_sil 1 1), (62, rg_skne 68), (65, rg_sgo 222), (68, rg_sil 1 1), (69, rg_sil 2 1), (70, rg_scS 108 2 1), (73, rg_sis 3 1), (74, rg_sal 0 1), (75, rg_sal 0 1), (76, rg_sil 2 1), (77, rg_scS 113 1 1), (80, rg_sic 0 1), (81, rg_scV 110 2 1 7), (84, rg_sic 393 3), (87, rg_scV 69 2 0 7), (90, rg_sal 0 1), (91, rg_sic 393 3), (94, rg_sil 3 1), (95, rg_si2l), (96, rg_scV 83 2 0 7), (99, rg_sal 0 1)]
theorem rg_o131_1 : ∀ q ∈ rg_c131_1, rg_Ok 131 q.1 q.2 :=
  rg_fc (rg_ok_aload_n (j := 0) (by decide +kernel) rfl) <|
  rg_fc (rg_ok_geti (idx := 83) rg_cok7 (by decide +kernel) rfl (by decide +kernel) rg_wf_M_83) <|
  rg_fc (rg_ok_icmp_ge (off := 171) (by decide +kernel) (by decide +kernel)) <|
  rg_fc (rg_ok_iload_n (j := 2) (by decide +kernel) rfl) <|
  rg_fc (rg_ok_iload_n (j := 1) (by decide +kernel) rfl) <|
  rg_fc (rg_ok_icmp_ne (off := 6) (by decide +kernel) (by decide +kernel)) <|
  rg_fc (rg_ok_goto (off := 157) (by decide +kernel) (by decide +kernel)) <|
  rg_fc (rg_ok_iload_n (j := 1) (by decide +kernel) rfl) <|
  rg_fc (rg_ok_iload_n (j := 2) (by decide +kernel) rfl) <|
  rg_fc (rg_ok_callS (idx := 170) (by decide +kernel) (by decide +kernel) rg_wm_M_170 rg_wt_108 rg_wy_108 rg_wd_108 ⟨by decide +kernel, by decide +kernel, by decide +kernel⟩ (by decide +kernel) (by decide +kernel)) <|
  rg_fc (rg_ok_istore_n (j := 3) (by decide +kernel) rfl (by decide +kernel)) <|
  rg_fc (rg_ok_aload_n (j := 0) (by decide +kernel) rfl) <|
  rg_fc (rg_ok_aload_n (j := 0) (by decide +kernel) rfl) <|
  rg_fc (rg_ok_iload_n (j := 2) (by decide +kernel) rfl) <|
  rg_fc (rg_ok_callS (idx := 182) (by decide +kernel) (by decide +kernel) rg_wm_M_182 rg_wt_113 rg_wy_113 rg_wd_113 ⟨by decide +kernel, by decide +kernel, by decide +kernel⟩ (by decide +kernel) (by decide +kernel)) <|
  rg_fc (rg_ok_iconst (n := 0) (by decide +kernel) (by decide +kernel)) <|
  rg_fc (rg_ok_callV (idx := 179) rg_cok7 (by decide +kernel) (by decide +kernel) rg_wm_M_179 rg_wj_110 rg_ws_110 rg_wz_7 rg_wd_110 ⟨by decide +kernel, by decide +kernel, by decide +kernel, by decide +kernel⟩ (by decide +kernel) (by decide +kernel)) <|
  rg_fc (rg_ok_sipush (n := 393) (by decide +kernel) (by decide +kernel)) <|
  rg_fc (rg_ok_callV (idx := 46) rg_cok7 (by decide +kernel) (by decide +kernel) rg_wm_M_46 rg_wj_69 rg_ws_69 rg_wz_7 rg_wd_69 ⟨by decide +kernel, by decide +kernel, by decide +kernel, by decide +kernel⟩ (by decide +kernel) (by decide +kernel)) <|
  rg_fc (rg_ok_aload_n (j := 0) (by decide +kernel) rfl) <|
  rg_fc (rg_ok_sipush (n := 393) (by decide +kernel) (by decide +kernel)) <|
  rg_fc (rg_ok_iload_n (j := 3) (by decide +kernel) rfl) <|
  rg_fc (rg_ok_i2l (by decide +kernel)) <|
  rg_fc (rg_ok_callV (idx := 133) rg_cok7 (by decide +kernel) (by decide +kernel) rg_wm_M_133 rg_wj_83 rg_ws_83 rg_wz_7 rg_wd_83 ⟨by decide +kernel, by decide +kernel, by decide +kernel, by decide +kernel⟩ (by decide +kernel) (by decide +kernel)) <|
  rg_fc (rg_ok_aload_n (j := 0) (by decide +kernel) rfl) <|
  fun _ h => absurd h List.not_mem_nil
def rg_c131_2 : List (Nat × rg_S) := [(100, rg_sic 360 3), (103, rg_sil 2 1), (104, rg_scS 113 1 1), (107, rg_s2i (fun x y => x + y)), (108, rg_sic 394 3), (111, rg_scV 69 2 0 7), (114, rg_sal 0 1), (115, rg_sic 382 3), (118, rg_sic 383 3), (121, rg_scV 111 2 0 7), (124, rg_sal 0 1), (125, rg_sal 0 1), (126, rg_sil 2 1), (127, rg_scS 109 1 1), (130, rg_sic 1 1), (131, rg_scV 110 2 1 7), (134, rg_sic 395 3), (137, rg_scV 69 2 0 7), (140, rg_sal 0 1), (141, rg_sic 395 3), (144, rg_sic 2 1), (145, rg_sil 3 1), (146, rg_s2i (fun x y => x * y)), (147, rg_si2l), (148, rg_scV 83 2 0 7)]
theorem rg_o131_2 : ∀ q ∈ rg_c131_2, rg_Ok 131 q.1 q.2 :=
  rg_fc (rg_ok_sipush (n := 360) (by decide +kernel) (by decide +kernel)) <|
  rg_fc (rg_ok_iload_n (j := 2) (by decide +kernel) rfl) <|
  rg_fc (rg_ok_callS (idx := 182) (by decide +kernel) (by decide +kernel) rg_wm_M_182 rg_wt_113 rg_wy_113 rg_wd_113 ⟨by decide +kernel, by decide +kernel, by decide +kernel⟩ (by decide +kernel) (by decide +kernel)) <|
  rg_fc (rg_ok_iadd (by decide +kernel)) <|
  rg_fc (rg_ok_sipush (n := 394) (by decide +kernel) (by decide +kernel)) <|
  rg_fc (rg_ok_callV (idx := 46) rg_cok7 (by decide +kernel) (by decide +kernel) rg_wm_M_46 rg_wj_69 rg_ws_69 rg_wz_7 rg_wd_69 ⟨by decide +kernel, by decide +kernel, by decide +kernel, by decide +kernel⟩ (by decide +kernel) (by decide +kernel)) <|
  rg_fc (rg_ok_aload_n (j := 0) (by decide +kernel) rfl) <|
  rg_fc (rg_ok_sipush (n := 382) (by decide +kernel) (by decide +kernel)) <|
  rg_fc (rg_ok_sipush (n := 383) (by decide +kernel) (by decide +kernel)) <|
  rg_fc (rg_ok_callV (idx := 185) rg_cok7 (by decide +kernel) (by decide +kernel) rg_wm_M_185 rg_wj_111 rg_ws_111 rg_wz_7 rg_wd_111 ⟨by decide +kernel, by decide +kernel, by decide +kernel, by decide +kernel⟩ (by decide +kernel) (by decide +kernel)) <|
  rg_fc (rg_ok_aload_n (j := 0) (by decide +kernel) rfl) <|
  rg_fc (rg_ok_aload_n (j := 0) (by decide +kernel) rfl) <|
  rg_fc (rg_ok_iload_n (j := 2) (by decide +kernel) rfl) <|
  rg_fc (rg_ok_callS (idx := 188) (by decide +kernel) (by decide +kernel) rg_wm_M_188 rg_wt_109 rg_wy_109 rg_wd_109 ⟨by decide +kernel, by decide +kernel, by decide +kernel⟩ (by decide +kernel) (by decide +kernel)) <|
  rg_fc (rg_ok_iconst (n := 1) (by decide +kernel) (by decide +kernel)) <|
  rg_fc (rg_ok_callV (idx := 179) rg_cok7 (by decide +kernel) (by decide +kernel) rg_wm_M_179 rg_wj_110 rg_ws_110 rg_wz_7 rg_wd_110 ⟨by decide +kernel, by decide +kernel, by decide +kernel, by decide +kernel⟩ (by decide +kernel) (by decide +kernel)) <|
  rg_fc (rg_ok_sipush (n := 395) (by decide +kernel) (by decide +kernel)) <|
  rg_fc (rg_ok_callV (idx := 46) rg_cok7 (by decide +kernel) (by decide +kernel) rg_wm_M_46 rg_wj_69 rg_ws_69 rg_wz_7 rg_wd_69 ⟨by decide +kernel, by decide +kernel, by decide +kernel, by decide +kernel⟩ (by decide +kernel) (by decide +kernel)) <|
  rg_fc (rg_ok_aload_n (j := 0) (by decide +kernel) rfl) <|
  rg_fc (rg_ok_sipush (n := 395) (by decide +kernel) (by decide +kernel)) <|
  rg_fc (rg_ok_iconst (n := 2) (by decide +kernel) (by decide +kernel)) <|
  rg_fc (rg_ok_iload_n (j := 3) (by decide +kernel) rfl) <|
  rg_fc (rg_ok_imul (by decide +kernel)) <|
  rg_fc (rg_ok_i2l (by decide +kernel)) <|
  rg_fc (rg_ok_callV (idx := 133) rg_cok7 (by decide +kernel) (by decide +kernel) rg_wm_M_133 rg_wj_83 rg_ws_83 rg_wz_7 rg_wd_83 ⟨by decide +kernel, by decide +kernel, by decide +kernel, by decide +kernel⟩ (by decide +kernel) (by decide +kernel)) <|
  fun _ h => absurd h List.not_mem_nil
def rg_c131_3 : List (Nat × rg_S) := [(151, rg_sal 0 1), (152, rg_sic 395 3), (155, rg_sal 0 1), (156, rg_sil 2 1), (157, rg_scS 109 1 1), (160, rg_sic 0 1), (161, rg_scV 110 2 1 7), (164, rg_sic 396 3), (167, rg_scV 78 3 0 7), (170, rg_sal 0 1), (171, rg_sal 0 1), (172, rg_sil 2 1), (173, rg_scS 113 1 1), (176, rg_sic 0 1), (177, rg_scV 110 2 1 7), (180, rg_sic 396 3), (183, rg_sic 393 3), (186, rg_scV 71 3 0 7), (189, rg_sal 0 1), (190, rg_sic 360 3), (193, rg_sil 2 1), (194, rg_scS 113 1 1), (197, rg_s2i (fun x y => x + y)), (198, rg_sic 360 3), (201, rg_sil 2 1)]
theorem rg_o131_3 : ∀ q ∈ rg_c131_3, rg_Ok 131 q.1 q.2 :=
  rg_fc (rg_ok_aload_n (j := 0) (by decide +kernel) rfl) <|
  rg_fc (rg_ok_sipush (n := 395) (by decide +kernel) (by decide +kernel)) <|
  rg_fc (rg_ok_aload_n (j := 0) (by decide +kernel) rfl) <|
  rg_fc (rg_ok_iload_n (j := 2) (by decide +kernel) rfl) <|
  rg_fc (rg_ok_callS (idx := 188) (by decide +kernel) (by decide +kernel) rg_wm_M_188 rg_wt_109 rg_wy_109 rg_wd_109 ⟨by decide +kernel, by decide +kernel, by decide +kernel⟩ (by decide +kernel) (by decide +kernel)) <|
  rg_fc (rg_ok_iconst (n := 0) (by decide +kernel) (by decide +kernel)) <|
  rg_fc (rg_ok_callV (idx := 179) rg_cok7 (by decide +kernel) (by decide +kernel) rg_wm_M_179 rg_wj_110 rg_ws_110 rg_wz_7 rg_wd_110 ⟨by decide +kernel, by decide +kernel, by decide +kernel, by decide +kernel⟩ (by decide +kernel) (by decide +kernel)) <|
  rg_fc (rg_ok_sipush (n := 396) (by decide +kernel) (by decide +kernel)) <|
  rg_fc (rg_ok_callV (idx := 61) rg_cok7 (by decide +kernel) (by decide +kernel) rg_wm_M_61 rg_wj_78 rg_ws_78 rg_wz_7 rg_wd_78 ⟨by decide +kernel, by decide +kernel, by decide +kernel, by decide +kernel⟩ (by decide +kernel) (by decide +kernel)) <|
  rg_fc (rg_ok_aload_n (j := 0) (by decide +kernel) rfl) <|
  rg_fc (rg_ok_aload_n (j := 0) (by decide +kernel) rfl) <|
  rg_fc (rg_ok_iload_n (j := 2) (by decide +kernel) rfl) <|
  rg_fc (rg_ok_callS (idx := 182) (by decide +kernel) (by decide +kernel) rg_wm_M_182 rg_wt_113 rg_wy_113 rg_wd_113 ⟨by decide +kernel, by decide +kernel, by decide +kernel⟩ (by decide +kernel) (by decide +kernel)) <|
  rg_fc (rg_ok_iconst (n := 0) (by decide +kernel) (by decide +kernel)) <|
  rg_fc (rg_ok_callV (idx := 179) rg_cok7 (by decide +kernel) (by decide +kernel) rg_wm_M_179 rg_wj_110 rg_ws_110 rg_wz_7 rg_wd_110 ⟨by decide +kernel, by decide +kernel, by decide +kernel, by decide +kernel⟩ (by decide +kernel) (by decide +kernel)) <|
  rg_fc (rg_ok_sipush (n := 396) (by decide +kernel) (by decide +kernel)) <|
  rg_fc (rg_ok_sipush (n := 393) (by decide +kernel) (by decide +kernel)) <|
  rg_fc (rg_ok_callV (idx := 64) rg_cok7 (by decide +kernel) (by decide +kernel) rg_wm_M_64 rg_wj_71 rg_ws_71 rg_wz_7 rg_wd_71 ⟨by decide +kernel, by decide +kernel, by decide +kernel, by decide +kernel⟩ (by decide +kernel) (by decide +kernel)) <|
  rg_fc (rg_ok_aload_n (j := 0) (by decide +kernel) rfl) <|
  rg_fc (rg_ok_sipush (n := 360) (by decide +kernel) (by decide +kernel)) <|
  rg_fc (rg_ok_iload_n (j := 2) (by decide +kernel) rfl) <|
  rg_fc (rg_ok_callS (idx := 182) (by decide +kernel) (by decide +kernel) rg_wm_M_182 rg_wt_113 rg_wy_113 rg_wd_113 ⟨by decide +kernel, by decide +kernel, by decide +kernel⟩ (by decide +kernel) (by decide +kernel)) <|
  rg_fc (rg_ok_iadd (by decide +kernel)) <|
  rg_fc (rg_ok_sipush (n := 360) (by decide +kernel) (by decide +kernel)) <|
  rg_fc (rg_ok_iload_n (j := 2) (by decide +kernel) rfl) <|
  fun _ h => absurd h List.not_mem_nil
def rg_c131_4 : List (Nat × rg_S) := [(202, rg_scS 109 1 1), (205, rg_s2i (fun x y => x + y)), (206, rg_sic 394 3), (209, rg_scV 71 3 0 7), (212, rg_sal 0 1), (213, rg_sic 384 3), (216, rg_sic 385 3), (219, rg_scV 111 2 0 7), (222, rg_sK [true, true, true, false] (rg_sin 2 1)), (225, rg_sgo 52), (228, rg_sal 0 1), (229, rg_sic 384 3), (232, rg_sic 385 3), (235, rg_sic 382 3), (238, rg_sic 383 3), (241, rg_scV 127 4 1 7), (244, rg_sjeq 267), (247, rg_sal 0 1), (248, rg_sic 384 3), (251, rg_sic 382 3), (254, rg_scV 69 2 0 7), (257, rg_sal 0 1), (258, rg_sic 385 3), (261, rg_sic 383 3), (264, rg_scV 69 2 0 7)]
theorem rg_o131_4 : ∀ q ∈ rg_c131_4, rg_Ok 131 q.1 q.2 :=
  rg_fc (rg_ok_callS (idx := 188) (by decide +kernel) (by decide +kernel) rg_wm_M_188 rg_wt_109 rg_wy_109 rg_wd_109 ⟨by decide +kernel, by decide +kernel, by decide +kernel⟩ (by decide +kernel) (by decide +kernel)) <|
  rg_fc (rg_ok_iadd (by decide +kernel)) <|
  rg_fc (rg_ok_sipush (n := 394) (by decide +kernel) (by decide +kernel)) <|
  rg_fc (rg_ok_callV (idx := 64) rg_cok7 (by decide +kernel) (by decide +kernel) rg_wm_M_64 rg_wj_71 rg_ws_71 rg_wz_7 rg_wd_71 ⟨by decide +kernel, by decide +kernel, by decide +kernel, by decide +kernel⟩ (by decide +kernel) (by decide +kernel)) <|
  rg_fc (rg_ok_aload_n (j := 0) (by decide +kernel) rfl) <|
  rg_fc (rg_ok_sipush (n := 384) (by decide +kernel) (by decide +kernel)) <|
  rg_fc (rg_ok_sipush (n := 385) (by decide +kernel) (by decide +kernel)) <|
  rg_fc (rg_ok_callV (idx := 185) rg_cok7 (by decide +kernel) (by decide +kernel) rg_wm_M_185 rg_wj_111 rg_ws_111 rg_wz_7 rg_wd_111 ⟨by decide +kernel, by decide +kernel, by decide +kernel, by decide +kernel⟩ (by decide +kernel) (by decide +kernel)) <|
  rg_fc (rg_okK _ (rg_ok_iinc (n := 1) (by decide +kernel) (by decide +kernel) (by decide +kernel))) <|
  rg_fc (rg_ok_goto (off := (-173)) (by decide +kernel) (by decide +kernel)) <|
  rg_fc (rg_ok_aload_n (j := 0) (by decide +kernel) rfl) <|
  rg_fc (rg_ok_sipush (n := 384) (by decide +kernel) (by decide +kernel)) <|
  rg_fc (rg_ok_sipush (n := 385) (by decide +kernel) (by decide +kernel)) <|
  rg_fc (rg_ok_sipush (n := 382) (by decide +kernel) (by decide +kernel)) <|
  rg_fc (rg_ok_sipush (n := 383) (by decide +kernel) (by decide +kernel)) <|
  rg_fc (rg_ok_callV (idx := 200) rg_cok7 (by decide +kernel) (by decide +kernel) rg_wm_M_200 rg_wj_127 rg_ws_127 rg_wz_7 rg_wd_127 ⟨by decide +kernel, by decide +kernel, by decide +kernel, by decide +kernel⟩ (by decide +kernel) (by decide +kernel)) <|
  rg_fc (rg_ok_if_eq (off := 23) (by decide +kernel) (by decide +kernel)) <|
  rg_fc (rg_ok_aload_n (j := 0) (by decide +kernel) rfl) <|
  rg_fc (rg_ok_sipush (n := 384) (by decide +kernel) (by decide +kernel)) <|
  rg_fc (rg_ok_sipush (n := 382) (by decide +kernel) (by decide +kernel)) <|
  rg_fc (rg_ok_callV (idx := 46) rg_cok7 (by decide +kernel) (by decide +kernel) rg_wm_M_46 rg_wj_69 rg_ws_69 rg_wz_7 rg_wd_69 ⟨by decide +kernel, by decide +kernel, by decide +kernel, by decide +kernel⟩ (by decide +kernel) (by decide +kernel)) <|
  rg_fc (rg_ok_aload_n (j := 0) (by decide +kernel) rfl) <|
  rg_fc (rg_ok_sipush (n := 385) (by decide +kernel) (by decide +kernel)) <|
  rg_fc (rg_ok_sipush (n := 383) (by decide +kernel) (by decide +kernel)) <|
  rg_fc (rg_ok_callV (idx := 46) rg_cok7 (by decide +kernel) (by decide +kernel) rg_wm_M_46 rg_wj_69 rg_ws_69 rg_wz_7 rg_wd_69 ⟨by decide +kernel, by decide +kernel, by decide +kernel, by decide +kernel⟩ (by decide +kernel) (by decide +kernel)) <|
  fun _ h => absurd h List.not_mem_nil
def rg_c131_5 : List (Nat × rg_S) := [(267, rg_sK [true, false, false, false] (rg_sal 0 1)), (268, rg_scV 129 0 0 7), (271, rg_rv)]
theorem rg_o131_5 : ∀ q ∈ rg_c131_5, rg_Ok 131 q.1 q.2 :=
  rg_fc (rg_okK _ (rg_ok_aload_n (j := 0) (by decide +kernel) rfl)) <|
  rg_fc (rg_ok_callV (idx := 208) rg_cok7 (by decide +kernel) (by decide +kernel) rg_wm_M_208 rg_wj_129 rg_ws_129 rg_wz_7 rg_wd_129 ⟨by decide +kernel, by decide +kernel, by decide +kernel, by decide +kernel⟩ (by decide +kernel) (by decide +kernel)) <|
  rg_fc (rg_ok_return (by decide +kernel) rfl) <|
  fun _ h => absurd h List.not_mem_nil
def rg_kd131 : List (List (Nat × rg_S)) := [rg_c131_0, rg_c131_1, rg_c131_2, rg_c131_3, rg_c131_4, rg_c131_5]
theorem rg_o131 : ∀ pc f, rg_lk2 rg_kd131 pc = some f → rg_Ok 131 pc f := rg_lk2_ok (rg_fd rg_o131_0 (rg_fd rg_o131_1 (rg_fd rg_o131_2 (rg_fd rg_o131_3 (rg_fd rg_o131_4 (rg_fd rg_o131_5 (fun _ h => absurd h List.not_mem_nil)))))))
def rg_c132_0 : List (Nat × rg_S) := [(0, rg_sal 0 1), (1, rg_sgi 7 3), (4, rg_sic 2 1), (5, rg_skne 107), (8, rg_sic 0 1), (9, rg_sis 2 1), (10, rg_sK [true, true, true] (rg_sil 2 1)), (11, rg_sic 4 1), (12, rg_sal 0 1), (13, rg_sgi 7 6), (16, rg_s2i (fun x y => x * y)), (17, rg_skge 33), (20, rg_sal 0 1), (21, rg_sil 2 1), (22, rg_sic 80 2), (24, rg_scV 81 2 0 7), (27, rg_sin 2 1), (30, rg_sgo 10), (33, rg_sal 0 1), (34, rg_sic 409 3), (37, rg_sic 410 3), (40, rg_scV 107 2 0 7), (43, rg_sic 0 1), (44, rg_sis 2 1), (45, rg_sK [true, true, true] (rg_sil 2 1))]
theorem rg_o132_0 : ∀ q ∈ rg_c132_0, rg_Ok 132 q.1 q.2 :=
  rg_fc (rg_ok_aload_n (j := 0) (by decide +kernel) rfl) <|
  rg_fc (rg_ok_geti (idx := 79) rg_cok7 (by decide +kernel) rfl (by decide +kernel) rg_wf_M_79) <|
  rg_fc (rg_ok_iconst (n := 2) (by decide +kernel) (by decide +kernel)) <|
  rg_fc (rg_ok_icmp_ne (off := 102) (by decide +kernel) (by decide +kernel)) <|
  rg_fc (rg_ok_iconst (n := 0) (by decide +kernel) (by decide +kernel)) <|
  rg_fc (rg_ok_istore_n (j := 2) (by decide +kernel) rfl (by decide +kernel)) <|
  rg_fc (rg_okK _ (rg_ok_iload_n (j := 2) (by decide +kernel) rfl)) <|
  rg_fc (rg_ok_iconst (n := 4) (by decide +kernel) (by decide +kernel)) <|
  rg_fc (rg_ok_aload_n (j := 0) (by decide +kernel) rfl) <|
  rg_fc (rg_ok_geti (idx := 83) rg_cok7 (by decide +kernel) rfl (by decide +kernel) rg_wf_M_83) <|
  rg_fc (rg_ok_imul (by decide +kernel)) <|
  rg_fc (rg_ok_icmp_ge (off := 16) (by decide +kernel) (by decide +kernel)) <|
  rg_fc (rg_ok_aload_n (j := 0) (by decide +kernel) rfl) <|
  rg_fc (rg_ok_iload_n (j := 2) (by decide +kernel) rfl) <|
  rg_fc (rg_ok_bipush (n := 80) (by decide +kernel) (by decide +kernel)) <|
  rg_fc (rg_ok_callV (idx := 126) rg_cok7 (by decide +kernel) (by decide +kernel) rg_wm_M_126 rg_wj_81 rg_ws_81 rg_wz_7 rg_wd_81 ⟨by decide +kernel, by decide +kernel, by decide +kernel, by decide +kernel⟩ (by decide +kernel) (by decide +kernel)) <|
  rg_fc (rg_ok_iinc (n := 1) (by decide +kernel) (by decide +kernel) (by decide +kernel)) <|
  rg_fc (rg_ok_goto (off := (-20)) (by decide +kernel) (by decide +kernel)) <|
  rg_fc (rg_ok_aload_n (j := 0) (by decide +kernel) rfl) <|
  rg_fc (rg_ok_sipush (n := 409) (by decide +kernel) (by decide +kernel)) <|
  rg_fc (rg_ok_sipush (n := 410) (by decide +kernel) (by decide +kernel)) <|
  rg_fc (rg_ok_callV (idx := 167) rg_cok7 (by decide +kernel) (by decide +kernel) rg_wm_M_167 rg_wj_107 rg_ws_107 rg_wz_7 rg_wd_107 ⟨by decide +kernel, by decide +kernel, by decide +kernel, by decide +kernel⟩ (by decide +kernel) (by decide +kernel)) <|
  rg_fc (rg_ok_iconst (n := 0) (by decide +kernel) (by decide +kernel)) <|
  rg_fc (rg_ok_istore_n (j := 2) (by decide +kernel) rfl (by decide +kernel)) <|
  rg_fc (rg_okK _ (rg_ok_iload_n (j := 2) (by decide +kernel) rfl)) <|
  fun _ h => absurd h List.not_mem_nil
def rg_c132_1 : List (Nat × rg_S) := [(46, rg_sal 0 1), (47, rg_sgi 7 6), (50, rg_skge 76), (53, rg_sil 1 1), (54, rg_sjne 65), (57, rg_sal 0 1), (58, rg_sil 2 1), (59, rg_scV 130 1 0 7), (62, rg_sgo 70), (65, rg_sal 0 1), (66, rg_sil 2 1), (67, rg_scV 131 1 0 7), (70, rg_sK [true, true, true] (rg_sin 2 1)), (73, rg_sgo 45), (76, rg_sal 0 1), (77, rg_sic 410 3), (80, rg_sal 0 1), (81, rg_sgi 7 6), (84, rg_si2l), (85, rg_sal 0 1), (86, rg_sgi 7 6), (89, rg_sic 1 1), (90, rg_s2i (fun x y => x - y)), (91, rg_si2l), (92, rg_s2l (fun x y => x * y))]
theorem rg_o132_1 : ∀ q ∈ rg_c132_1, rg_Ok 132 q.1 q.2 :=
  rg_fc (rg_ok_aload_n (j := 0) (by decide +kernel) rfl) <|
  rg_fc (rg_ok_geti (idx := 83) rg_cok7 (by decide +kernel) rfl (by decide +kernel) rg_wf_M_83) <|
  rg_fc (rg_ok_icmp_ge (off := 26) (by decide +kernel) (by decide +kernel)) <|
  rg_fc (rg_ok_iload_n (j := 1) (by decide +kernel) rfl) <|
  rg_fc (rg_ok_if_ne (off := 11) (by decide +kernel) (by decide +kernel)) <|
  rg_fc (rg_ok_aload_n (j := 0) (by decide +kernel) rfl) <|
  rg_fc (rg_ok_iload_n (j := 2) (by decide +kernel) rfl) <|
  rg_fc (rg_ok_callV (idx := 194) rg_cok7 (by decide +kernel) (by decide +kernel) rg_wm_M_194 rg_wj_130 rg_ws_130 rg_wz_7 rg_wd_130 ⟨by decide +kernel, by decide +kernel, by decide +kernel, by decide +kernel⟩ (by decide +kernel) (by decide +kernel)) <|
  rg_fc (rg_ok_goto (off := 8) (by decide +kernel) (by decide +kernel)) <|
  rg_fc (rg_ok_aload_n (j := 0) (by decide +kernel) rfl) <|
  rg_fc (rg_ok_iload_n (j := 2) (by decide +kernel) rfl) <|
  rg_fc (rg_ok_callV (idx := 197) rg_cok7 (by decide +kernel) (by decide +kernel) rg_wm_M_197 rg_wj_131 rg_ws_131 rg_wz_7 rg_wd_131 ⟨by decide +kernel, by decide +kernel, by decide +kernel, by decide +kernel⟩ (by decide +kernel) (by decide +kernel)) <|
  rg_fc (rg_okK _ (rg_ok_iinc (n := 1) (by decide +kernel) (by decide +kernel) (by decide +kernel))) <|
  rg_fc (rg_ok_goto (off := (-28)) (by decide +kernel) (by decide +kernel)) <|
  rg_fc (rg_ok_aload_n (j := 0) (by decide +kernel) rfl) <|
  rg_fc (rg_ok_sipush (n := 410) (by decide +kernel) (by decide +kernel)) <|
  rg_fc (rg_ok_aload_n (j := 0) (by decide +kernel) rfl) <|
  rg_fc (rg_ok_geti (idx := 83) rg_cok7 (by decide +kernel) rfl (by decide +kernel) rg_wf_M_83) <|
  rg_fc (rg_ok_i2l (by decide +kernel)) <|
  rg_fc (rg_ok_aload_n (j := 0) (by decide +kernel) rfl) <|
  rg_fc (rg_ok_geti (idx := 83) rg_cok7 (by decide +kernel) rfl (by decide +kernel) rg_wf_M_83) <|
  rg_fc (rg_ok_iconst (n := 1) (by decide +kernel) (by decide +kernel)) <|
  rg_fc (rg_ok_isub (by decide +kernel)) <|
  rg_fc (rg_ok_i2l (by decide +kernel)) <|
  rg_fc (rg_ok_lmul (by decide +kernel)) <|
  fun _ h => absurd h List.not_mem_nil
def rg_c132_2 : List (Nat × rg_S) := [(93, rg_scV 83 2 0 7), (96, rg_sal 0 1), (97, rg_sic 409 3), (100, rg_sic 410 3), (103, rg_scV 85 2 0 7), (106, rg_rv), (107, rg_sal 0 1), (108, rg_sic 0 1), (109, rg_sic 80 2), (111, rg_scV 81 2 0 7), (114, rg_sal 0 1), (115, rg_sic 1 1), (116, rg_sic 80 2), (118, rg_scV 81 2 0 7), (121, rg_sal 0 1), (122, rg_sil 1 1), (123, rg_sic 397 3), (126, rg_scV 105 2 0 7), (129, rg_sal 0 1), (130, rg_sic 397 3), (133, rg_sic 409 3), (136, rg_scV 69 2 0 7), (139, rg_sic 1 1), (140, rg_sis 2 1), (141, rg_sK [true, true, true] (rg_sil 2 1))]
theorem rg_o132_2 : ∀ q ∈ rg_c132_2, rg_Ok 132 q.1 q.2 :=
  rg_fc (rg_ok_callV (idx := 133) rg_cok7 (by decide +kernel) (by decide +kernel) rg_wm_M_133 rg_wj_83 rg_ws_83 rg_wz_7 rg_wd_83 ⟨by decide +kernel, by decide +kernel, by decide +kernel, by decide +kernel⟩ (by decide +kernel) (by decide +kernel)) <|
  rg_fc (rg_ok_aload_n (j := 0) (by decide +kernel) rfl) <|
  rg_fc (rg_ok_sipush (n := 409) (by decide +kernel) (by decide +kernel)) <|
  rg_fc (rg_ok_sipush (n := 410) (by decide +kernel) (by decide +kernel)) <|
  rg_fc (rg_ok_callV (idx := 116) rg_cok7 (by decide +kernel) (by decide +kernel) rg_wm_M_116 rg_wj_85 rg_ws_85 rg_wz_7 rg_wd_85 ⟨by decide +kernel, by decide +kernel, by decide +kernel, by decide +kernel⟩ (by decide +kernel) (by decide +kernel)) <|
  rg_fc (rg_ok_return (by decide +kernel) rfl) <|
  rg_fc (rg_ok_aload_n (j := 0) (by decide +kernel) rfl) <|
  rg_fc (rg_ok_iconst (n := 0) (by decide +kernel) (by decide +kernel)) <|
  rg_fc (rg_ok_bipush (n := 80) (by decide +kernel) (by decide +kernel)) <|
  rg_fc (rg_ok_callV (idx := 126) rg_cok7 (by decide +kernel) (by decide +kernel) rg_wm_M_126 rg_wj_81 rg_ws_81 rg_wz_7 rg_wd_81 ⟨by decide +kernel, by decide +kernel, by decide +kernel, by decide +kernel⟩ (by decide +kernel) (by decide +kernel)) <|
  rg_fc (rg_ok_aload_n (j := 0) (by decide +kernel) rfl) <|
  rg_fc (rg_ok_iconst (n := 1) (by decide +kernel) (by decide +kernel)) <|
  rg_fc (rg_ok_bipush (n := 80) (by decide +kernel) (by decide +kernel)) <|
  rg_fc (rg_ok_callV (idx := 126) rg_cok7 (by decide +kernel) (by decide +kernel) rg_wm_M_126 rg_wj_81 rg_ws_81 rg_wz_7 rg_wd_81 ⟨by decide +kernel, by decide +kernel, by decide +kernel, by decide +kernel⟩ (by decide +kernel) (by decide +kernel)) <|
  rg_fc (rg_ok_aload_n (j := 0) (by decide +kernel) rfl) <|
  rg_fc (rg_ok_iload_n (j := 1) (by decide +kernel) rfl) <|
  rg_fc (rg_ok_sipush (n := 397) (by decide +kernel) (by decide +kernel)) <|
  rg_fc (rg_ok_callV (idx := 153) rg_cok7 (by decide +kernel) (by decide +kernel) rg_wm_M_153 rg_wj_105 rg_ws_105 rg_wz_7 rg_wd_105 ⟨by decide +kernel, by decide +kernel, by decide +kernel, by decide +kernel⟩ (by decide +kernel) (by decide +kernel)) <|
  rg_fc (rg_ok_aload_n (j := 0) (by decide +kernel) rfl) <|
  rg_fc (rg_ok_sipush (n := 397) (by decide +kernel) (by decide +kernel)) <|
  rg_fc (rg_ok_sipush (n := 409) (by decide +kernel) (by decide +kernel)) <|
  rg_fc (rg_ok_callV (idx := 46) rg_cok7 (by decide +kernel) (by decide +kernel) rg_wm_M_46 rg_wj_69 rg_ws_69 rg_wz_7 rg_wd_69 ⟨by decide +kernel, by decide +kernel, by decide +kernel, by decide +kernel⟩ (by decide +kernel) (by decide +kernel)) <|
  rg_fc (rg_ok_iconst (n := 1) (by decide +kernel) (by decide +kernel)) <|
  rg_fc (rg_ok_istore_n (j := 2) (by decide +kernel) rfl (by decide +kernel)) <|
  rg_fc (rg_okK _ (rg_ok_iload_n (j := 2) (by decide +kernel) rfl)) <|
  fun _ h => absurd h List.not_mem_nil
def rg_c132_3 : List (Nat × rg_S) := [(142, rg_sal 0 1), (143, rg_sil 1 1), (144, rg_scV 67 1 1 7), (147, rg_skge 189), (150, rg_sal 0 1), (151, rg_sic 397 3), (154, rg_sil 2 1), (155, rg_s2i (fun x y => x + y)), (156, rg_sic 413 3), (159, rg_sic 409 3), (162, rg_sic 413 3), (165, rg_scV 127 4 1 7), (168, rg_sjeq 183), (171, rg_sal 0 1), (172, rg_sic 397 3), (175, rg_sil 2 1), (176, rg_s2i (fun x y => x + y)), (177, rg_sic 409 3), (180, rg_scV 69 2 0 7), (183, rg_sK [true, true, true] (rg_sin 2 1)), (186, rg_sgo 141), (189, rg_sal 0 1), (190, rg_sic 361 3), (193, rg_sil 1 1), (194, rg_s2i (fun x y => x - y))]
theorem rg_o132_3 : ∀ q ∈ rg_c132_3, rg_Ok 132 q.1 q.2 :=
  rg_fc (rg_ok_aload_n (j := 0) (by decide +kernel) rfl) <|
  rg_fc (rg_ok_iload_n (j := 1) (by decide +kernel) rfl) <|
  rg_fc (rg_ok_callV (idx := 107) rg_cok7 (by decide +kernel) (by decide +kernel) rg_wm_M_107 rg_wj_67 rg_ws_67 rg_wz_7 rg_wd_67 ⟨by decide +kernel, by decide +kernel, by decide +kernel, by decide +kernel⟩ (by decide +kernel) (by decide +kernel)) <|
  rg_fc (rg_ok_icmp_ge (off := 42) (by decide +kernel) (by decide +kernel)) <|
  rg_fc (rg_ok_aload_n (j := 0) (by decide +kernel) rfl) <|
  rg_fc (rg_ok_sipush (n := 397) (by decide +kernel) (by decide +kernel)) <|
  rg_fc (rg_ok_iload_n (j := 2) (by decide +kernel) rfl) <|
  rg_fc (rg_ok_iadd (by decide +kernel)) <|
  rg_fc (rg_ok_sipush (n := 413) (by decide +kernel) (by decide +kernel)) <|
  rg_fc (rg_ok_sipush (n := 409) (by decide +kernel) (by decide +kernel)) <|
  rg_fc (rg_ok_sipush (n := 413) (by decide +kernel) (by decide +kernel)) <|
  rg_fc (rg_ok_callV (idx := 200) rg_cok7 (by decide +kernel) (by decide +kernel) rg_wm_M_200 rg_wj_127 rg_ws_127 rg_wz_7 rg_wd_127 ⟨by decide +kernel, by decide +kernel, by decide +kernel, by decide +kernel⟩ (by decide +kernel) (by decide +kernel)) <|
  rg_fc (rg_ok_if_eq (off := 15) (by decide +kernel) (by decide +kernel)) <|
  rg_fc (rg_ok_aload_n (j := 0) (by decide +kernel) rfl) <|
  rg_fc (rg_ok_sipush (n := 397) (by decide +kernel) (by decide +kernel)) <|
  rg_fc (rg_ok_iload_n (j := 2) (by decide +kernel) rfl) <|
  rg_fc (rg_ok_iadd (by decide +kernel)) <|
  rg_fc (rg_ok_sipush (n := 409) (by decide +kernel) (by decide +kernel)) <|
  rg_fc (rg_ok_callV (idx := 46) rg_cok7 (by decide +kernel) (by decide +kernel) rg_wm_M_46 rg_wj_69 rg_ws_69 rg_wz_7 rg_wd_69 ⟨by decide +kernel, by decide +kernel, by decide +kernel, by decide +kernel⟩ (by decide +kernel) (by decide +kernel)) <|
  rg_fc (rg_okK _ (rg_ok_iinc (n := 1) (by decide +kernel) (by decide +kernel) (by decide +kernel))) <|
  rg_fc (rg_ok_goto (off := (-45)) (by decide +kernel) (by decide +kernel)) <|
  rg_fc (rg_ok_aload_n (j := 0) (by decide +kernel) rfl) <|
  rg_fc (rg_ok_sipush (n := 361) (by decide +kernel) (by decide +kernel)) <|
  rg_fc (rg_ok_iload_n (j := 1) (by decide +kernel) rfl) <|
  rg_fc (rg_ok_isub (by decide +kernel)) <|
  fun _ h => absurd h List.not_mem_nil
def rg_c132_4 : List (Nat × rg_S) := [(195, rg_sic 410 3), (198, rg_scV 69 2 0 7), (201, rg_sal 0 1), (202, rg_sic 409 3), (205, rg_sic 410 3), (208, rg_scV 85 2 0 7), (211, rg_rv)]
theorem rg_o132_4 : ∀ q ∈ rg_c132_4, rg_Ok 132 q.1 q.2 :=
  rg_fc (rg_ok_sipush (n := 410) (by decide +kernel) (by decide +kernel)) <|
  rg_fc (rg_ok_callV (idx := 46) rg_cok7 (by decide +kernel) (by decide +kernel) rg_wm_M_46 rg_wj_69 rg_ws_69 rg_wz_7 rg_wd_69 ⟨by decide +kernel, by decide +kernel, by decide +kernel, by decide +kernel⟩ (by decide +kernel) (by decide +kernel)) <|
  rg_fc (rg_ok_aload_n (j := 0) (by decide +kernel) rfl) <|
  rg_fc (rg_ok_sipush (n := 409) (by decide +kernel) (by decide +kernel)) <|
  rg_fc (rg_ok_sipush (n := 410) (by decide +kernel) (by decide +kernel)) <|
  rg_fc (rg_ok_callV (idx := 116) rg_cok7 (by decide +kernel) (by decide +kernel) rg_wm_M_116 rg_wj_85 rg_ws_85 rg_wz_7 rg_wd_85 ⟨by decide +kernel, by decide +kernel, by decide +kernel, by decide +kernel⟩ (by decide +kernel) (by decide +kernel)) <|
  rg_fc (rg_ok_return (by decide +kernel) rfl) <|
  fun _ h => absurd h List.not_mem_nil
def rg_kd132 : List (List (Nat × rg_S)) := [rg_c132_0, rg_c132_1, rg_c132_2, rg_c132_3, rg_c132_4]
theorem rg_o132 : ∀ pc f, rg_lk2 rg_kd132 pc = some f → rg_Ok 132 pc f := rg_lk2_ok (rg_fd rg_o132_0 (rg_fd rg_o132_1 (rg_fd rg_o132_2 (rg_fd rg_o132_3 (rg_fd rg_o132_4 (fun _ h => absurd h List.not_mem_nil))))))
def rg_c133_0 : List (Nat × rg_S) := [(0, rg_sal 0 1), (1, rg_sic 0 1), (2, rg_scV 132 1 0 7), (5, rg_sal 0 1), (6, rg_sic 409 3), (9, rg_sic 414 3), (12, rg_scV 69 2 0 7), (15, rg_sal 0 1), (16, rg_sic 410 3), (19, rg_sic 415 3), (22, rg_scV 69 2 0 7), (25, rg_sal 0 1), (26, rg_sic 1 1), (27, rg_scV 132 1 0 7), (30, rg_sal 0 1), (31, rg_sic 414 3), (34, rg_sic 393 3), (37, rg_scV 69 2 0 7), (40, rg_sal 0 1), (41, rg_sic 415 3), (44, rg_sic 394 3), (47, rg_scV 69 2 0 7), (50, rg_sal 0 1), (51, rg_sic 409 3), (54, rg_sic 410 3)]
theorem rg_o133_0 : ∀ q ∈ rg_c133_0, rg_Ok 133 q.1 q.2 :=
  rg_fc (rg_ok_aload_n (j := 0) (by decide +kernel) rfl) <|
  rg_fc (rg_ok_iconst (n := 0) (by decide +kernel) (by decide +kernel)) <|
  rg_fc (rg_ok_callV (idx := 211) rg_cok7 (by decide +kernel) (by decide +kernel) rg_wm_M_211 rg_wj_132 rg_ws_132 rg_wz_7 rg_wd_132 ⟨by decide +kernel, by decide +kernel, by decide +kernel, by decide +kernel⟩ (by decide +kernel) (by decide +kernel)) <|
  rg_fc (rg_ok_aload_n (j := 0) (by decide +kernel) rfl) <|
  rg_fc (rg_ok_sipush (n := 409) (by decide +kernel) (by decide +kernel)) <|
  rg_fc (rg_ok_sipush (n := 414) (by decide +kernel) (by decide +kernel)) <|
  rg_fc (rg_ok_callV (idx := 46) rg_cok7 (by decide +kernel) (by decide +kernel) rg_wm_M_46 rg_wj_69 rg_ws_69 rg_wz_7 rg_wd_69 ⟨by decide +kernel, by decide +kernel, by decide +kernel, by decide +kernel⟩ (by decide +kernel) (by decide +kernel)) <|
  rg_fc (rg_ok_aload_n (j := 0) (by decide +kernel) rfl) <|
  rg_fc (rg_ok_sipush (n := 410) (by decide +kernel) (by decide +kernel)) <|
  rg_fc (rg_ok_sipush (n := 415) (by decide +kernel) (by decide +kernel)) <|
  rg_fc (rg_ok_callV (idx := 46) rg_cok7 (by decide +kernel) (by decide +kernel) rg_wm_M_46 rg_wj_69 rg_ws_69 rg_wz_7 rg_wd_69 ⟨by decide +kernel, by decide +kernel, by decide +kernel, by decide +kernel⟩ (by decide +kernel) (by decide +kernel)) <|
  rg_fc (rg_ok_aload_n (j := 0) (by decide +kernel) rfl) <|
  rg_fc (rg_ok_iconst (n := 1) (by decide +kernel) (by decide +kernel)) <|
  rg_fc (rg_ok_callV (idx := 211) rg_cok7 (by decide +kernel) (by decide +kernel) rg_wm_M_211 rg_wj_132 rg_ws_132 rg_wz_7 rg_wd_132 ⟨by decide +kernel, by decide +kernel, by decide +kernel, by decide +kernel⟩ (by decide +kernel) (by decide +kernel)) <|
  rg_fc (rg_ok_aload_n (j := 0) (by decide +kernel) rfl) <|
  rg_fc (rg_ok_sipush (n := 414) (by decide +kernel) (by decide +kernel)) <|
  rg_fc (rg_ok_sipush (n := 393) (by decide +kernel) (by decide +kernel)) <|
  rg_fc (rg_ok_callV (idx := 46) rg_cok7 (by decide +kernel) (by decide +kernel) rg_wm_M_46 rg_wj_69 rg_ws_69 rg_wz_7 rg_wd_69 ⟨by decide +kernel, by decide +kernel, by decide +kernel, by decide +kernel⟩ (by decide +kernel) (by decide +kernel)) <|
  rg_fc (rg_ok_aload_n (j := 0) (by decide +kernel) rfl) <|
  rg_fc (rg_ok_sipush (n := 415) (by decide +kernel) (by decide +kernel)) <|
  rg_fc (rg_ok_sipush (n := 394) (by decide +kernel) (by decide +kernel)) <|
  rg_fc (rg_ok_callV (idx := 46) rg_cok7 (by decide +kernel) (by decide +kernel) rg_wm_M_46 rg_wj_69 rg_ws_69 rg_wz_7 rg_wd_69 ⟨by decide +kernel, by decide +kernel, by decide +kernel, by decide +kernel⟩ (by decide +kernel) (by decide +kernel)) <|
  rg_fc (rg_ok_aload_n (j := 0) (by decide +kernel) rfl) <|
  rg_fc (rg_ok_sipush (n := 409) (by decide +kernel) (by decide +kernel)) <|
  rg_fc (rg_ok_sipush (n := 410) (by decide +kernel) (by decide +kernel)) <|
  fun _ h => absurd h List.not_mem_nil
def rg_c133_1 : List (Nat × rg_S) := [(57, rg_scV 111 2 0 7), (60, rg_sal 0 1), (61, rg_sic 409 3), (64, rg_sic 410 3), (67, rg_scV 85 2 0 7), (70, rg_rv)]
theorem rg_o133_1 : ∀ q ∈ rg_c133_1, rg_Ok 133 q.1 q.2 :=
  rg_fc (rg_ok_callV (idx := 185) rg_cok7 (by decide +kernel) (by decide +kernel) rg_wm_M_185 rg_wj_111 rg_ws_111 rg_wz_7 rg_wd_111 ⟨by decide +kernel, by decide +kernel, by decide +kernel, by decide +kernel⟩ (by decide +kernel) (by decide +kernel)) <|
  rg_fc (rg_ok_aload_n (j := 0) (by decide +kernel) rfl) <|
  rg_fc (rg_ok_sipush (n := 409) (by decide +kernel) (by decide +kernel)) <|
  rg_fc (rg_ok_sipush (n := 410) (by decide +kernel) (by decide +kernel)) <|
  rg_fc (rg_ok_callV (idx := 116) rg_cok7 (by decide +kernel) (by decide +kernel) rg_wm_M_116 rg_wj_85 rg_ws_85 rg_wz_7 rg_wd_85 ⟨by decide +kernel, by decide +kernel, by decide +kernel, by decide +kernel⟩ (by decide +kernel) (by decide +kernel)) <|
  rg_fc (rg_ok_return (by decide +kernel) rfl) <|
  fun _ h => absurd h List.not_mem_nil
def rg_kd133 : List (List (Nat × rg_S)) := [rg_c133_0, rg_c133_1]
theorem rg_o133 : ∀ pc f, rg_lk2 rg_kd133 pc = some f → rg_Ok 133 pc f := rg_lk2_ok (rg_fd rg_o133_0 (rg_fd rg_o133_1 (fun _ h => absurd h List.not_mem_nil)))
def rg_c134_0 : List (Nat × rg_S) := [(0, rg_sal 0 1), (1, rg_sgi 7 3), (4, rg_sjeq 20), (7, rg_sil 1 1), (8, rg_sjlt 20), (11, rg_sil 1 1), (12, rg_sic 5 1), (13, rg_skgt 20), (16, rg_sil 3 1), (17, rg_sjge 22), (20, rg_sK [false, false, false, false, false, false] (rg_sic 0 1)), (21, rg_rz), (22, rg_sil 1 1), (23, rg_sic 4 1), (24, rg_skge 56), (27, rg_sil 2 1), (28, rg_sjlt 52), (31, rg_sil 2 1), (32, rg_sal 0 1), (33, rg_scV 117 0 1 7), (36, rg_skge 52), (39, rg_sil 3 1), (40, rg_sal 0 1), (41, rg_sil 2 1), (42, rg_scV 67 1 1 7)]
theorem rg_o134_0 : ∀ q ∈ rg_c134_0, rg_Ok 134 q.1 q.2 :=
  rg_fc (rg_ok_aload_n (j := 0) (by decide +kernel) rfl) <|
  rg_fc (rg_ok_geti (idx := 79) rg_cok7 (by decide +kernel) rfl (by decide +kernel) rg_wf_M_79) <|
  rg_fc (rg_ok_if_eq (off := 16) (by decide +kernel) (by decide +kernel)) <|
  rg_fc (rg_ok_iload_n (j := 1) (by decide +kernel) rfl) <|
  rg_fc (rg_ok_if_lt (off := 12) (by decide +kernel) (by decide +kernel)) <|
  rg_fc (rg_ok_iload_n (j := 1) (by decide +kernel) rfl) <|
  rg_fc (rg_ok_iconst (n := 5) (by decide +kernel) (by decide +kernel)) <|
  rg_fc (rg_ok_icmp_gt (off := 7) (by decide +kernel) (by decide +kernel)) <|
  rg_fc (rg_ok_iload_n (j := 3) (by decide +kernel) rfl) <|
  rg_fc (rg_ok_if_ge (off := 5) (by decide +kernel) (by decide +kernel)) <|
  rg_fc (rg_okK _ (rg_ok_iconst (n := 0) (by decide +kernel) (by decide +kernel))) <|
  rg_fc (rg_ok_zreturn (by decide +kernel) rfl) <|
  rg_fc (rg_ok_iload_n (j := 1) (by decide +kernel) rfl) <|
  rg_fc (rg_ok_iconst (n := 4) (by decide +kernel) (by decide +kernel)) <|
  rg_fc (rg_ok_icmp_ge (off := 32) (by decide +kernel) (by decide +kernel)) <|
  rg_fc (rg_ok_iload_n (j := 2) (by decide +kernel) rfl) <|
  rg_fc (rg_ok_if_lt (off := 24) (by decide +kernel) (by decide +kernel)) <|
  rg_fc (rg_ok_iload_n (j := 2) (by decide +kernel) rfl) <|
  rg_fc (rg_ok_aload_n (j := 0) (by decide +kernel) rfl) <|
  rg_fc (rg_ok_callV (idx := 163) rg_cok7 (by decide +kernel) (by decide +kernel) rg_wm_M_163 rg_wj_117 rg_ws_117 rg_wz_7 rg_wd_117 ⟨by decide +kernel, by decide +kernel, by decide +kernel, by decide +kernel⟩ (by decide +kernel) (by decide +kernel)) <|
  rg_fc (rg_ok_icmp_ge (off := 16) (by decide +kernel) (by decide +kernel)) <|
  rg_fc (rg_ok_iload_n (j := 3) (by decide +kernel) rfl) <|
  rg_fc (rg_ok_aload_n (j := 0) (by decide +kernel) rfl) <|
  rg_fc (rg_ok_iload_n (j := 2) (by decide +kernel) rfl) <|
  rg_fc (rg_ok_callV (idx := 107) rg_cok7 (by decide +kernel) (by decide +kernel) rg_wm_M_107 rg_wj_67 rg_ws_67 rg_wz_7 rg_wd_67 ⟨by decide +kernel, by decide +kernel, by decide +kernel, by decide +kernel⟩ (by decide +kernel) (by decide +kernel)) <|
  fun _ h => absurd h List.not_mem_nil
def rg_c134_1 : List (Nat × rg_S) := [(45, rg_skge 52), (48, rg_sic 1 1), (49, rg_sgo 79), (52, rg_sK [true, true, true, true, false, false] (rg_sic 0 1)), (53, rg_sgo 79), (56, rg_sil 3 1), (57, rg_sjne 78), (60, rg_sil 2 1), (61, rg_sjeq 74), (64, rg_sil 2 1), (65, rg_sic 1 1), (66, rg_skne 78), (69, rg_sil 1 1), (70, rg_sic 4 1), (71, rg_skne 78), (74, rg_sK [true, true, true, true, false, false] (rg_sic 1 1)), (75, rg_sgo 79), (78, rg_sK [true, true, true, true, false, false] (rg_sic 0 1)), (79, rg_sK [true, true, true, true, false, false] (rg_sis 4 2)), (81, rg_sil 4 2), (83, rg_sjne 88), (86, rg_sic 0 1), (87, rg_rz), (88, rg_sil 1 1), (89, rg_sic 2 1)]
theorem rg_o134_1 : ∀ q ∈ rg_c134_1, rg_Ok 134 q.1 q.2 :=
  rg_fc (rg_ok_icmp_ge (off := 7) (by decide +kernel) (by decide +kernel)) <|
  rg_fc (rg_ok_iconst (n := 1) (by decide +kernel) (by decide +kernel)) <|
  rg_fc (rg_ok_goto (off := 30) (by decide +kernel) (by decide +kernel)) <|
  rg_fc (rg_okK _ (rg_ok_iconst (n := 0) (by decide +kernel) (by decide +kernel))) <|
  rg_fc (rg_ok_goto (off := 26) (by decide +kernel) (by decide +kernel)) <|
  rg_fc (rg_ok_iload_n (j := 3) (by decide +kernel) rfl) <|
  rg_fc (rg_ok_if_ne (off := 21) (by decide +kernel) (by decide +kernel)) <|
  rg_fc (rg_ok_iload_n (j := 2) (by decide +kernel) rfl) <|
  rg_fc (rg_ok_if_eq (off := 13) (by decide +kernel) (by decide +kernel)) <|
  rg_fc (rg_ok_iload_n (j := 2) (by decide +kernel) rfl) <|
  rg_fc (rg_ok_iconst (n := 1) (by decide +kernel) (by decide +kernel)) <|
  rg_fc (rg_ok_icmp_ne (off := 12) (by decide +kernel) (by decide +kernel)) <|
  rg_fc (rg_ok_iload_n (j := 1) (by decide +kernel) rfl) <|
  rg_fc (rg_ok_iconst (n := 4) (by decide +kernel) (by decide +kernel)) <|
  rg_fc (rg_ok_icmp_ne (off := 7) (by decide +kernel) (by decide +kernel)) <|
  rg_fc (rg_okK _ (rg_ok_iconst (n := 1) (by decide +kernel) (by decide +kernel))) <|
  rg_fc (rg_ok_goto (off := 4) (by decide +kernel) (by decide +kernel)) <|
  rg_fc (rg_okK _ (rg_ok_iconst (n := 0) (by decide +kernel) (by decide +kernel))) <|
  rg_fc (rg_okK _ (rg_ok_istore (i := 4) (by decide +kernel) (by decide +kernel))) <|
  rg_fc (rg_ok_iload (i := 4) (by decide +kernel)) <|
  rg_fc (rg_ok_if_ne (off := 5) (by decide +kernel) (by decide +kernel)) <|
  rg_fc (rg_ok_iconst (n := 0) (by decide +kernel) (by decide +kernel)) <|
  rg_fc (rg_ok_zreturn (by decide +kernel) rfl) <|
  rg_fc (rg_ok_iload_n (j := 1) (by decide +kernel) rfl) <|
  rg_fc (rg_ok_iconst (n := 2) (by decide +kernel) (by decide +kernel)) <|
  fun _ h => absurd h List.not_mem_nil
def rg_c134_2 : List (Nat × rg_S) := [(90, rg_skge 135), (93, rg_sil 1 1), (94, rg_sjne 101), (97, rg_sic 0 1), (98, rg_sgo 103), (101, rg_sic 80 2), (103, rg_sK [true, false, true, true, false, false] (rg_sal 0 1)), (104, rg_sil 2 1), (105, rg_sil 3 1), (106, rg_scV 68 2 1 7), (109, rg_s2i (fun x y => x + y)), (110, rg_sis 5 2), (112, rg_sal 0 1), (113, rg_sil 5 2), (115, rg_sic 380 3), (118, rg_scV 69 2 0 7), (121, rg_sal 0 1), (122, rg_sil 5 2), (124, rg_sic 40 2), (126, rg_s2i (fun x y => x + y)), (127, rg_sic 381 3), (130, rg_scV 69 2 0 7), (133, rg_sic 1 1), (134, rg_rz), (135, rg_sil 1 1)]
theorem rg_o134_2 : ∀ q ∈ rg_c134_2, rg_Ok 134 q.1 q.2 :=
  rg_fc (rg_ok_icmp_ge (off := 45) (by decide +kernel) (by decide +kernel)) <|
  rg_fc (rg_ok_iload_n (j := 1) (by decide +kernel) rfl) <|
  rg_fc (rg_ok_if_ne (off := 7) (by decide +kernel) (by decide +kernel)) <|
  rg_fc (rg_ok_iconst (n := 0) (by decide +kernel) (by decide +kernel)) <|
  rg_fc (rg_ok_goto (off := 5) (by decide +kernel) (by decide +kernel)) <|
  rg_fc (rg_ok_bipush (n := 80) (by decide +kernel) (by decide +kernel)) <|
  rg_fc (rg_okK _ (rg_ok_aload_n (j := 0) (by decide +kernel) rfl)) <|
  rg_fc (rg_ok_iload_n (j := 2) (by decide +kernel) rfl) <|
  rg_fc (rg_ok_iload_n (j := 3) (by decide +kernel) rfl) <|
  rg_fc (rg_ok_callV (idx := 110) rg_cok7 (by decide +kernel) (by decide +kernel) rg_wm_M_110 rg_wj_68 rg_ws_68 rg_wz_7 rg_wd_68 ⟨by decide +kernel, by decide +kernel, by decide +kernel, by decide +kernel⟩ (by decide +kernel) (by decide +kernel)) <|
  rg_fc (rg_ok_iadd (by decide +kernel)) <|
  rg_fc (rg_ok_istore (i := 5) (by decide +kernel) (by decide +kernel)) <|
  rg_fc (rg_ok_aload_n (j := 0) (by decide +kernel) rfl) <|
  rg_fc (rg_ok_iload (i := 5) (by decide +kernel)) <|
  rg_fc (rg_ok_sipush (n := 380) (by decide +kernel) (by decide +kernel)) <|
  rg_fc (rg_ok_callV (idx := 46) rg_cok7 (by decide +kernel) (by decide +kernel) rg_wm_M_46 rg_wj_69 rg_ws_69 rg_wz_7 rg_wd_69 ⟨by decide +kernel, by decide +kernel, by decide +kernel, by decide +kernel⟩ (by decide +kernel) (by decide +kernel)) <|
  rg_fc (rg_ok_aload_n (j := 0) (by decide +kernel) rfl) <|
  rg_fc (rg_ok_iload (i := 5) (by decide +kernel)) <|
  rg_fc (rg_ok_bipush (n := 40) (by decide +kernel) (by decide +kernel)) <|
  rg_fc (rg_ok_iadd (by decide +kernel)) <|
  rg_fc (rg_ok_sipush (n := 381) (by decide +kernel) (by decide +kernel)) <|
  rg_fc (rg_ok_callV (idx := 46) rg_cok7 (by decide +kernel) (by decide +kernel) rg_wm_M_46 rg_wj_69 rg_ws_69 rg_wz_7 rg_wd_69 ⟨by decide +kernel, by decide +kernel, by decide +kernel, by decide +kernel⟩ (by decide +kernel) (by decide +kernel)) <|
  rg_fc (rg_ok_iconst (n := 1) (by decide +kernel) (by decide +kernel)) <|
  rg_fc (rg_ok_zreturn (by decide +kernel) rfl) <|
  rg_fc (rg_ok_iload_n (j := 1) (by decide +kernel) rfl) <|
  fun _ h => absurd h List.not_mem_nil
def rg_c134_3 : List (Nat × rg_S) := [(136, rg_sic 4 1), (137, rg_skge 197), (140, rg_sal 0 1), (141, rg_sil 2 1), (142, rg_sil 1 1), (143, rg_sic 2 1), (144, rg_skne 151), (147, rg_sic 0 1), (148, rg_sgo 153), (151, rg_sic 80 2), (153, rg_sK [true, false, true, true, false, false] (rg_scV 81 2 0 7)), (156, rg_sal 0 1), (157, rg_sic 320 3), (160, rg_sal 0 1), (161, rg_sil 2 1), (162, rg_sil 3 1), (163, rg_scV 68 2 1 7), (166, rg_s2i (fun x y => x + y)), (167, rg_sic 380 3), (170, rg_scV 69 2 0 7), (173, rg_sal 0 1), (174, rg_sic 360 3), (177, rg_sil 2 1), (178, rg_s2i (fun x y => x + y)), (179, rg_sic 381 3)]
theorem rg_o134_3 : ∀ q ∈ rg_c134_3, rg_Ok 134 q.1 q.2 :=
  rg_fc (rg_ok_iconst (n := 4) (by decide +kernel) (by decide +kernel)) <|
  rg_fc (rg_ok_icmp_ge (off := 60) (by decide +kernel) (by decide +kernel)) <|
  rg_fc (rg_ok_aload_n (j := 0) (by decide +kernel) rfl) <|
  rg_fc (rg_ok_iload_n (j := 2) (by decide +kernel) rfl) <|
  rg_fc (rg_ok_iload_n (j := 1) (by decide +kernel) rfl) <|
  rg_fc (rg_ok_iconst (n := 2) (by decide +kernel) (by decide +kernel)) <|
  rg_fc (rg_ok_icmp_ne (off := 7) (by decide +kernel) (by decide +kernel)) <|
  rg_fc (rg_ok_iconst (n := 0) (by decide +kernel) (by decide +kernel)) <|
  rg_fc (rg_ok_goto (off := 5) (by decide +kernel) (by decide +kernel)) <|
  rg_fc (rg_ok_bipush (n := 80) (by decide +kernel) (by decide +kernel)) <|
  rg_fc (rg_okK _ (rg_ok_callV (idx := 126) rg_cok7 (by decide +kernel) (by decide +kernel) rg_wm_M_126 rg_wj_81 rg_ws_81 rg_wz_7 rg_wd_81 ⟨by decide +kernel, by decide +kernel, by decide +kernel, by decide +kernel⟩ (by decide +kernel) (by decide +kernel))) <|
  rg_fc (rg_ok_aload_n (j := 0) (by decide +kernel) rfl) <|
  rg_fc (rg_ok_sipush (n := 320) (by decide +kernel) (by decide +kernel)) <|
  rg_fc (rg_ok_aload_n (j := 0) (by decide +kernel) rfl) <|
  rg_fc (rg_ok_iload_n (j := 2) (by decide +kernel) rfl) <|
  rg_fc (rg_ok_iload_n (j := 3) (by decide +kernel) rfl) <|
  rg_fc (rg_ok_callV (idx := 110) rg_cok7 (by decide +kernel) (by decide +kernel) rg_wm_M_110 rg_wj_68 rg_ws_68 rg_wz_7 rg_wd_68 ⟨by decide +kernel, by decide +kernel, by decide +kernel, by decide +kernel⟩ (by decide +kernel) (by decide +kernel)) <|
  rg_fc (rg_ok_iadd (by decide +kernel)) <|
  rg_fc (rg_ok_sipush (n := 380) (by decide +kernel) (by decide +kernel)) <|
  rg_fc (rg_ok_callV (idx := 46) rg_cok7 (by decide +kernel) (by decide +kernel) rg_wm_M_46 rg_wj_69 rg_ws_69 rg_wz_7 rg_wd_69 ⟨by decide +kernel, by decide +kernel, by decide +kernel, by decide +kernel⟩ (by decide +kernel) (by decide +kernel)) <|
  rg_fc (rg_ok_aload_n (j := 0) (by decide +kernel) rfl) <|
  rg_fc (rg_ok_sipush (n := 360) (by decide +kernel) (by decide +kernel)) <|
  rg_fc (rg_ok_iload_n (j := 2) (by decide +kernel) rfl) <|
  rg_fc (rg_ok_iadd (by decide +kernel)) <|
  rg_fc (rg_ok_sipush (n := 381) (by decide +kernel) (by decide +kernel)) <|
  fun _ h => absurd h List.not_mem_nil
def rg_c134_4 : List (Nat × rg_S) := [(182, rg_scV 69 2 0 7), (185, rg_sal 0 1), (186, rg_sic 380 3), (189, rg_sic 381 3), (192, rg_scV 85 2 0 7), (195, rg_sic 1 1), (196, rg_rz), (197, rg_sil 1 1), (198, rg_sic 4 1), (199, rg_skne 210), (202, rg_sal 0 1), (203, rg_sil 2 1), (204, rg_scV 132 1 0 7), (207, rg_sgo 214), (210, rg_sal 0 1), (211, rg_scV 133 0 0 7), (214, rg_sK [true, false, false, false, false, false] (rg_sal 0 1)), (215, rg_sic 409 3), (218, rg_sic 380 3), (221, rg_scV 69 2 0 7), (224, rg_sal 0 1), (225, rg_sic 410 3), (228, rg_sic 381 3), (231, rg_scV 69 2 0 7), (234, rg_sic 1 1)]
theorem rg_o134_4 : ∀ q ∈ rg_c134_4, rg_Ok 134 q.1 q.2 :=
  rg_fc (rg_ok_callV (idx := 46) rg_cok7 (by decide +kernel) (by decide +kernel) rg_wm_M_46 rg_wj_69 rg_ws_69 rg_wz_7 rg_wd_69 ⟨by decide +kernel, by decide +kernel, by decide +kernel, by decide +kernel⟩ (by decide +kernel) (by decide +kernel)) <|
  rg_fc (rg_ok_aload_n (j := 0) (by decide +kernel) rfl) <|
  rg_fc (rg_ok_sipush (n := 380) (by decide +kernel) (by decide +kernel)) <|
  rg_fc (rg_ok_sipush (n := 381) (by decide +kernel) (by decide +kernel)) <|
  rg_fc (rg_ok_callV (idx := 116) rg_cok7 (by decide +kernel) (by decide +kernel) rg_wm_M_116 rg_wj_85 rg_ws_85 rg_wz_7 rg_wd_85 ⟨by decide +kernel, by decide +kernel, by decide +kernel, by decide +kernel⟩ (by decide +kernel) (by decide +kernel)) <|
  rg_fc (rg_ok_iconst (n := 1) (by decide +kernel) (by decide +kernel)) <|
  rg_fc (rg_ok_zreturn (by decide +kernel) rfl) <|
  rg_fc (rg_ok_iload_n (j := 1) (by decide +kernel) rfl) <|
  rg_fc (rg_ok_iconst (n := 4) (by decide +kernel) (by decide +kernel)) <|
  rg_fc (rg_ok_icmp_ne (off := 11) (by decide +kernel) (by decide +kernel)) <|
  rg_fc (rg_ok_aload_n (j := 0) (by decide +kernel) rfl) <|
  rg_fc (rg_ok_iload_n (j := 2) (by decide +kernel) rfl) <|
  rg_fc (rg_ok_callV (idx := 211) rg_cok7 (by decide +kernel) (by decide +kernel) rg_wm_M_211 rg_wj_132 rg_ws_132 rg_wz_7 rg_wd_132 ⟨by decide +kernel, by decide +kernel, by decide +kernel, by decide +kernel⟩ (by decide +kernel) (by decide +kernel)) <|
  rg_fc (rg_ok_goto (off := 7) (by decide +kernel) (by decide +kernel)) <|
  rg_fc (rg_ok_aload_n (j := 0) (by decide +kernel) rfl) <|
  rg_fc (rg_ok_callV (idx := 214) rg_cok7 (by decide +kernel) (by decide +kernel) rg_wm_M_214 rg_wj_133 rg_ws_133 rg_wz_7 rg_wd_133 ⟨by decide +kernel, by decide +kernel, by decide +kernel, by decide +kernel⟩ (by decide +kernel) (by decide +kernel)) <|
  rg_fc (rg_okK _ (rg_ok_aload_n (j := 0) (by decide +kernel) rfl)) <|
  rg_fc (rg_ok_sipush (n := 409) (by decide +kernel) (by decide +kernel)) <|
  rg_fc (rg_ok_sipush (n := 380) (by decide +kernel) (by decide +kernel)) <|
  rg_fc (rg_ok_callV (idx := 46) rg_cok7 (by decide +kernel) (by decide +kernel) rg_wm_M_46 rg_wj_69 rg_ws_69 rg_wz_7 rg_wd_69 ⟨by decide +kernel, by decide +kernel, by decide +kernel, by decide +kernel⟩ (by decide +kernel) (by decide +kernel)) <|
  rg_fc (rg_ok_aload_n (j := 0) (by decide +kernel) rfl) <|
  rg_fc (rg_ok_sipush (n := 410) (by decide +kernel) (by decide +kernel)) <|
  rg_fc (rg_ok_sipush (n := 381) (by decide +kernel) (by decide +kernel)) <|
  rg_fc (rg_ok_callV (idx := 46) rg_cok7 (by decide +kernel) (by decide +kernel) rg_wm_M_46 rg_wj_69 rg_ws_69 rg_wz_7 rg_wd_69 ⟨by decide +kernel, by decide +kernel, by decide +kernel, by decide +kernel⟩ (by decide +kernel) (by decide +kernel)) <|
  rg_fc (rg_ok_iconst (n := 1) (by decide +kernel) (by decide +kernel)) <|
  fun _ h => absurd h List.not_mem_nil
def rg_c134_5 : List (Nat × rg_S) := [(235, rg_rz)]
theorem rg_o134_5 : ∀ q ∈ rg_c134_5, rg_Ok 134 q.1 q.2 :=
  rg_fc (rg_ok_zreturn (by decide +kernel) rfl) <|
  fun _ h => absurd h List.not_mem_nil
def rg_kd134 : List (List (Nat × rg_S)) := [rg_c134_0, rg_c134_1, rg_c134_2, rg_c134_3, rg_c134_4, rg_c134_5]
theorem rg_o134 : ∀ pc f, rg_lk2 rg_kd134 pc = some f → rg_Ok 134 pc f := rg_lk2_ok (rg_fd rg_o134_0 (rg_fd rg_o134_1 (rg_fd rg_o134_2 (rg_fd rg_o134_3 (rg_fd rg_o134_4 (rg_fd rg_o134_5 (fun _ h => absurd h List.not_mem_nil)))))))
def rg_c136_0 : List (Nat × rg_S) := [(0, rg_sil 1 1), (1, rg_sjne 15), (4, rg_sal 0 1), (5, rg_sgr 7 2), (8, rg_sic 380 3), (11, rg_sai), (12, rg_sgo 47), (15, rg_sil 1 1), (16, rg_sic 1 1), (17, rg_skne 30), (20, rg_sal 0 1), (21, rg_sic 380 3), (24, rg_scV 86 1 1 7), (27, rg_sgo 47), (30, rg_sil 1 1), (31, rg_sic 2 1), (32, rg_skne 45), (35, rg_sal 0 1), (36, rg_sic 381 3), (39, rg_scV 86 1 1 7), (42, rg_sgo 47), (45, rg_sic (-2) 2), (47, rg_sK [false, false] (rg_ri))]
theorem rg_o136_0 : ∀ q ∈ rg_c136_0, rg_Ok 136 q.1 q.2 :=
  rg_fc (rg_ok_iload_n (j := 1) (by decide +kernel) rfl) <|
  rg_fc (rg_ok_if_ne (off := 14) (by decide +kernel) (by decide +kernel)) <|
  rg_fc (rg_ok_aload_n (j := 0) (by decide +kernel) rfl) <|
  rg_fc (rg_ok_getr (idx := 17) rg_cok7 (by decide +kernel) rfl (by decide +kernel) rg_wf_M_17) <|
  rg_fc (rg_ok_sipush (n := 380) (by decide +kernel) (by decide +kernel)) <|
  rg_fc (rg_ok_iaload (by decide +kernel)) <|
  rg_fc (rg_ok_goto (off := 35) (by decide +kernel) (by decide +kernel)) <|
  rg_fc (rg_ok_iload_n (j := 1) (by decide +kernel) rfl) <|
  rg_fc (rg_ok_iconst (n := 1) (by decide +kernel) (by decide +kernel)) <|
  rg_fc (rg_ok_icmp_ne (off := 13) (by decide +kernel) (by decide +kernel)) <|
  rg_fc (rg_ok_aload_n (j := 0) (by decide +kernel) rfl) <|
  rg_fc (rg_ok_sipush (n := 380) (by decide +kernel) (by decide +kernel)) <|
  rg_fc (rg_ok_callV (idx := 119) rg_cok7 (by decide +kernel) (by decide +kernel) rg_wm_M_119 rg_wj_86 rg_ws_86 rg_wz_7 rg_wd_86 ⟨by decide +kernel, by decide +kernel, by decide +kernel, by decide +kernel⟩ (by decide +kernel) (by decide +kernel)) <|
  rg_fc (rg_ok_goto (off := 20) (by decide +kernel) (by decide +kernel)) <|
  rg_fc (rg_ok_iload_n (j := 1) (by decide +kernel) rfl) <|
  rg_fc (rg_ok_iconst (n := 2) (by decide +kernel) (by decide +kernel)) <|
  rg_fc (rg_ok_icmp_ne (off := 13) (by decide +kernel) (by decide +kernel)) <|
  rg_fc (rg_ok_aload_n (j := 0) (by decide +kernel) rfl) <|
  rg_fc (rg_ok_sipush (n := 381) (by decide +kernel) (by decide +kernel)) <|
  rg_fc (rg_ok_callV (idx := 119) rg_cok7 (by decide +kernel) (by decide +kernel) rg_wm_M_119 rg_wj_86 rg_ws_86 rg_wz_7 rg_wd_86 ⟨by decide +kernel, by decide +kernel, by decide +kernel, by decide +kernel⟩ (by decide +kernel) (by decide +kernel)) <|
  rg_fc (rg_ok_goto (off := 5) (by decide +kernel) (by decide +kernel)) <|
  rg_fc (rg_ok_bipush (n := (-2)) (by decide +kernel) (by decide +kernel)) <|
  rg_fc (rg_okK _ (rg_ok_ireturn (by decide +kernel) rfl)) <|
  fun _ h => absurd h List.not_mem_nil
def rg_kd136 : List (List (Nat × rg_S)) := [rg_c136_0]
theorem rg_o136 : ∀ pc f, rg_lk2 rg_kd136 pc = some f → rg_Ok 136 pc f := rg_lk2_ok (rg_fd rg_o136_0 (fun _ h => absurd h List.not_mem_nil))
def rg_c139_0 : List (Nat × rg_S) := [(0, rg_sil 1 1), (1, rg_sjlt 20), (4, rg_sil 1 1), (5, rg_sic 1 1), (6, rg_skgt 20), (9, rg_sil 2 1), (10, rg_sjlt 20), (13, rg_sil 2 1), (14, rg_sic 4200 3), (17, rg_sklt 24), (20, rg_sK [false, false, false] (rg_sic 0 1)), (21, rg_sgo 43), (24, rg_sal 0 1), (25, rg_sil 1 1), (26, rg_sjne 35), (29, rg_sic 380 3), (32, rg_sgo 38), (35, rg_sic 381 3), (38, rg_sK [false, false, true] (rg_sil 2 1)), (39, rg_scV 70 2 2 7), (42, rg_sl2i), (43, rg_sK [false, false, false] (rg_ri))]
theorem rg_o139_0 : ∀ q ∈ rg_c139_0, rg_Ok 139 q.1 q.2 :=
  rg_fc (rg_ok_iload_n (j := 1) (by decide +kernel) rfl) <|
  rg_fc (rg_ok_if_lt (off := 19) (by decide +kernel) (by decide +kernel)) <|
  rg_fc (rg_ok_iload_n (j := 1) (by decide +kernel) rfl) <|
  rg_fc (rg_ok_iconst (n := 1) (by decide +kernel) (by decide +kernel)) <|
  rg_fc (rg_ok_icmp_gt (off := 14) (by decide +kernel) (by decide +kernel)) <|
  rg_fc (rg_ok_iload_n (j := 2) (by decide +kernel) rfl) <|
  rg_fc (rg_ok_if_lt (off := 10) (by decide +kernel) (by decide +kernel)) <|
  rg_fc (rg_ok_iload_n (j := 2) (by decide +kernel) rfl) <|
  rg_fc (rg_ok_sipush (n := 4200) (by decide +kernel) (by decide +kernel)) <|
  rg_fc (rg_ok_icmp_lt (off := 7) (by decide +kernel) (by decide +kernel)) <|
  rg_fc (rg_okK _ (rg_ok_iconst (n := 0) (by decide +kernel) (by decide +kernel))) <|
  rg_fc (rg_ok_goto (off := 22) (by decide +kernel) (by decide +kernel)) <|
  rg_fc (rg_ok_aload_n (j := 0) (by decide +kernel) rfl) <|
  rg_fc (rg_ok_iload_n (j := 1) (by decide +kernel) rfl) <|
  rg_fc (rg_ok_if_ne (off := 9) (by decide +kernel) (by decide +kernel)) <|
  rg_fc (rg_ok_sipush (n := 380) (by decide +kernel) (by decide +kernel)) <|
  rg_fc (rg_ok_goto (off := 6) (by decide +kernel) (by decide +kernel)) <|
  rg_fc (rg_ok_sipush (n := 381) (by decide +kernel) (by decide +kernel)) <|
  rg_fc (rg_okK _ (rg_ok_iload_n (j := 2) (by decide +kernel) rfl)) <|
  rg_fc (rg_ok_callV (idx := 42) rg_cok7 (by decide +kernel) (by decide +kernel) rg_wm_M_42 rg_wj_70 rg_ws_70 rg_wz_7 rg_wd_70 ⟨by decide +kernel, by decide +kernel, by decide +kernel, by decide +kernel⟩ (by decide +kernel) (by decide +kernel)) <|
  rg_fc (rg_ok_l2i (by decide +kernel)) <|
  rg_fc (rg_okK _ (rg_ok_ireturn (by decide +kernel) rfl)) <|
  fun _ h => absurd h List.not_mem_nil
def rg_kd139 : List (List (Nat × rg_S)) := [rg_c139_0]
theorem rg_o139 : ∀ pc f, rg_lk2 rg_kd139 pc = some f → rg_Ok 139 pc f := rg_lk2_ok (rg_fd rg_o139_0 (fun _ h => absurd h List.not_mem_nil))
def rg_c142_0 : List (Nat × rg_S) := [(0, rg_sil 1 1), (1, rg_sic 1 1), (2, rg_sklt 11), (5, rg_sil 1 1), (6, rg_sic 1000000000 2), (8, rg_skle 15), (11, rg_sK [false, false, false, false, false, false] (rg_slc (-9223372036854775808) 3)), (14, rg_rl), (15, rg_sal 0 1), (16, rg_sic 380 3), (19, rg_sic 409 3), (22, rg_scV 69 2 0 7), (25, rg_sal 0 1), (26, rg_sic 409 3), (29, rg_sil 1 1), (30, rg_si2l), (31, rg_scV 83 2 0 7), (34, rg_sal 0 1), (35, rg_sgr 7 2), (38, rg_sic 409 3), (41, rg_sai), (42, rg_sis 2 1), (43, rg_sil 2 1), (44, rg_sjne 49), (47, rg_slc 0 1)]
theorem rg_o142_0 : ∀ q ∈ rg_c142_0, rg_Ok 142 q.1 q.2 :=
  rg_fc (rg_ok_iload_n (j := 1) (by decide +kernel) rfl) <|
  rg_fc (rg_ok_iconst (n := 1) (by decide +kernel) (by decide +kernel)) <|
  rg_fc (rg_ok_icmp_lt (off := 9) (by decide +kernel) (by decide +kernel)) <|
  rg_fc (rg_ok_iload_n (j := 1) (by decide +kernel) rfl) <|
  rg_fc (rg_ok_ldc (n := 217) (by decide +kernel) rg_wc_M_217) <|
  rg_fc (rg_ok_icmp_le (off := 7) (by decide +kernel) (by decide +kernel)) <|
  rg_fc (rg_okK _ (rg_ok_ldc2 (n := 218) (by decide +kernel) rg_wc_M_218)) <|
  rg_fc (rg_ok_lreturn (by decide +kernel) rfl) <|
  rg_fc (rg_ok_aload_n (j := 0) (by decide +kernel) rfl) <|
  rg_fc (rg_ok_sipush (n := 380) (by decide +kernel) (by decide +kernel)) <|
  rg_fc (rg_ok_sipush (n := 409) (by decide +kernel) (by decide +kernel)) <|
  rg_fc (rg_ok_callV (idx := 46) rg_cok7 (by decide +kernel) (by decide +kernel) rg_wm_M_46 rg_wj_69 rg_ws_69 rg_wz_7 rg_wd_69 ⟨by decide +kernel, by decide +kernel, by decide +kernel, by decide +kernel⟩ (by decide +kernel) (by decide +kernel)) <|
  rg_fc (rg_ok_aload_n (j := 0) (by decide +kernel) rfl) <|
  rg_fc (rg_ok_sipush (n := 409) (by decide +kernel) (by decide +kernel)) <|
  rg_fc (rg_ok_iload_n (j := 1) (by decide +kernel) rfl) <|
  rg_fc (rg_ok_i2l (by decide +kernel)) <|
  rg_fc (rg_ok_callV (idx := 133) rg_cok7 (by decide +kernel) (by decide +kernel) rg_wm_M_133 rg_wj_83 rg_ws_83 rg_wz_7 rg_wd_83 ⟨by decide +kernel, by decide +kernel, by decide +kernel, by decide +kernel⟩ (by decide +kernel) (by decide +kernel)) <|
  rg_fc (rg_ok_aload_n (j := 0) (by decide +kernel) rfl) <|
  rg_fc (rg_ok_getr (idx := 17) rg_cok7 (by decide +kernel) rfl (by decide +kernel) rg_wf_M_17) <|
  rg_fc (rg_ok_sipush (n := 409) (by decide +kernel) (by decide +kernel)) <|
  rg_fc (rg_ok_iaload (by decide +kernel)) <|
  rg_fc (rg_ok_istore_n (j := 2) (by decide +kernel) rfl (by decide +kernel)) <|
  rg_fc (rg_ok_iload_n (j := 2) (by decide +kernel) rfl) <|
  rg_fc (rg_ok_if_ne (off := 5) (by decide +kernel) (by decide +kernel)) <|
  rg_fc (rg_ok_lconst (n := 0) (by decide +kernel) (by decide +kernel)) <|
  fun _ h => absurd h List.not_mem_nil
def rg_c142_1 : List (Nat × rg_S) := [(48, rg_rl), (49, rg_sal 0 1), (50, rg_sgr 7 2), (53, rg_sic 409 3), (56, rg_sic 1 1), (57, rg_swi), (58, rg_slc 0 1), (59, rg_sls 3 1), (60, rg_sal 0 1), (61, rg_sic 410 3), (64, rg_slc 9223372036854775807 3), (67, rg_scV 11 2 0 7), (70, rg_sal 0 1), (71, rg_sic 410 3), (74, rg_sic 413 3), (77, rg_sic 410 3), (80, rg_scV 78 3 0 7), (83, rg_sal 0 1), (84, rg_sic 410 3), (87, rg_sic 381 3), (90, rg_sic 389 3), (93, rg_scV 71 3 0 7), (96, rg_sal 0 1), (97, rg_sic 389 3), (100, rg_sic 409 3)]
theorem rg_o142_1 : ∀ q ∈ rg_c142_1, rg_Ok 142 q.1 q.2 :=
  rg_fc (rg_ok_lreturn (by decide +kernel) rfl) <|
  rg_fc (rg_ok_aload_n (j := 0) (by decide +kernel) rfl) <|
  rg_fc (rg_ok_getr (idx := 17) rg_cok7 (by decide +kernel) rfl (by decide +kernel) rg_wf_M_17) <|
  rg_fc (rg_ok_sipush (n := 409) (by decide +kernel) (by decide +kernel)) <|
  rg_fc (rg_ok_iconst (n := 1) (by decide +kernel) (by decide +kernel)) <|
  rg_fc (rg_ok_iastore (by decide +kernel)) <|
  rg_fc (rg_ok_lconst (n := 0) (by decide +kernel) (by decide +kernel)) <|
  rg_fc (rg_ok_lstore_n (j := 3) (by decide +kernel) rfl (by decide +kernel)) <|
  rg_fc (rg_ok_aload_n (j := 0) (by decide +kernel) rfl) <|
  rg_fc (rg_ok_sipush (n := 410) (by decide +kernel) (by decide +kernel)) <|
  rg_fc (rg_ok_ldc2 (n := 220) (by decide +kernel) rg_wc_M_220) <|
  rg_fc (rg_ok_callV (idx := 27) rg_cok7 (by decide +kernel) (by decide +kernel) rg_wm_M_27 rg_wj_11 rg_ws_11 rg_wz_7 rg_wd_11 ⟨by decide +kernel, by decide +kernel, by decide +kernel, by decide +kernel⟩ (by decide +kernel) (by decide +kernel)) <|
  rg_fc (rg_ok_aload_n (j := 0) (by decide +kernel) rfl) <|
  rg_fc (rg_ok_sipush (n := 410) (by decide +kernel) (by decide +kernel)) <|
  rg_fc (rg_ok_sipush (n := 413) (by decide +kernel) (by decide +kernel)) <|
  rg_fc (rg_ok_sipush (n := 410) (by decide +kernel) (by decide +kernel)) <|
  rg_fc (rg_ok_callV (idx := 61) rg_cok7 (by decide +kernel) (by decide +kernel) rg_wm_M_61 rg_wj_78 rg_ws_78 rg_wz_7 rg_wd_78 ⟨by decide +kernel, by decide +kernel, by decide +kernel, by decide +kernel⟩ (by decide +kernel) (by decide +kernel)) <|
  rg_fc (rg_ok_aload_n (j := 0) (by decide +kernel) rfl) <|
  rg_fc (rg_ok_sipush (n := 410) (by decide +kernel) (by decide +kernel)) <|
  rg_fc (rg_ok_sipush (n := 381) (by decide +kernel) (by decide +kernel)) <|
  rg_fc (rg_ok_sipush (n := 389) (by decide +kernel) (by decide +kernel)) <|
  rg_fc (rg_ok_callV (idx := 64) rg_cok7 (by decide +kernel) (by decide +kernel) rg_wm_M_64 rg_wj_71 rg_ws_71 rg_wz_7 rg_wd_71 ⟨by decide +kernel, by decide +kernel, by decide +kernel, by decide +kernel⟩ (by decide +kernel) (by decide +kernel)) <|
  rg_fc (rg_ok_aload_n (j := 0) (by decide +kernel) rfl) <|
  rg_fc (rg_ok_sipush (n := 389) (by decide +kernel) (by decide +kernel)) <|
  rg_fc (rg_ok_sipush (n := 409) (by decide +kernel) (by decide +kernel)) <|
  fun _ h => absurd h List.not_mem_nil
def rg_c142_2 : List (Nat × rg_S) := [(103, rg_scV 74 2 1 7), (106, rg_sjgt 113), (109, rg_slc (-9223372036854775808) 3), (112, rg_rl), (113, rg_sic 62 2), (115, rg_sis 5 2), (117, rg_sK [true, false, true, true, false, true] (rg_sil 5 2)), (119, rg_sjlt 174), (122, rg_sal 0 1), (123, rg_sic 410 3), (126, rg_sll 3 1), (127, rg_slc 1 1), (128, rg_sil 5 2), (130, rg_ssh (fun x y => x <<< (y.toInt64 &&& 63))), (131, rg_s2l (fun x y => x ||| y)), (132, rg_scV 11 2 0 7), (135, rg_sal 0 1), (136, rg_sic 410 3), (139, rg_sic 381 3), (142, rg_sic 389 3), (145, rg_scV 71 3 0 7), (148, rg_sal 0 1), (149, rg_sic 389 3), (152, rg_sic 409 3), (155, rg_scV 74 2 1 7)]
theorem rg_o142_2 : ∀ q ∈ rg_c142_2, rg_Ok 142 q.1 q.2 :=
  rg_fc (rg_ok_callV (idx := 54) rg_cok7 (by decide +kernel) (by decide +kernel) rg_wm_M_54 rg_wj_74 rg_ws_74 rg_wz_7 rg_wd_74 ⟨by decide +kernel, by decide +kernel, by decide +kernel, by decide +kernel⟩ (by decide +kernel) (by decide +kernel)) <|
  rg_fc (rg_ok_if_gt (off := 7) (by decide +kernel) (by decide +kernel)) <|
  rg_fc (rg_ok_ldc2 (n := 218) (by decide +kernel) rg_wc_M_218) <|
  rg_fc (rg_ok_lreturn (by decide +kernel) rfl) <|
  rg_fc (rg_ok_bipush (n := 62) (by decide +kernel) (by decide +kernel)) <|
  rg_fc (rg_ok_istore (i := 5) (by decide +kernel) (by decide +kernel)) <|
  rg_fc (rg_okK _ (rg_ok_iload (i := 5) (by decide +kernel))) <|
  rg_fc (rg_ok_if_lt (off := 55) (by decide +kernel) (by decide +kernel)) <|
  rg_fc (rg_ok_aload_n (j := 0) (by decide +kernel) rfl) <|
  rg_fc (rg_ok_sipush (n := 410) (by decide +kernel) (by decide +kernel)) <|
  rg_fc (rg_ok_lload_n (j := 3) (by decide +kernel) rfl) <|
  rg_fc (rg_ok_lconst (n := 1) (by decide +kernel) (by decide +kernel)) <|
  rg_fc (rg_ok_iload (i := 5) (by decide +kernel)) <|
  rg_fc (rg_ok_lshl (by decide +kernel)) <|
  rg_fc (rg_ok_lor (by decide +kernel)) <|
  rg_fc (rg_ok_callV (idx := 27) rg_cok7 (by decide +kernel) (by decide +kernel) rg_wm_M_27 rg_wj_11 rg_ws_11 rg_wz_7 rg_wd_11 ⟨by decide +kernel, by decide +kernel, by decide +kernel, by decide +kernel⟩ (by decide +kernel) (by decide +kernel)) <|
  rg_fc (rg_ok_aload_n (j := 0) (by decide +kernel) rfl) <|
  rg_fc (rg_ok_sipush (n := 410) (by decide +kernel) (by decide +kernel)) <|
  rg_fc (rg_ok_sipush (n := 381) (by decide +kernel) (by decide +kernel)) <|
  rg_fc (rg_ok_sipush (n := 389) (by decide +kernel) (by decide +kernel)) <|
  rg_fc (rg_ok_callV (idx := 64) rg_cok7 (by decide +kernel) (by decide +kernel) rg_wm_M_64 rg_wj_71 rg_ws_71 rg_wz_7 rg_wd_71 ⟨by decide +kernel, by decide +kernel, by decide +kernel, by decide +kernel⟩ (by decide +kernel) (by decide +kernel)) <|
  rg_fc (rg_ok_aload_n (j := 0) (by decide +kernel) rfl) <|
  rg_fc (rg_ok_sipush (n := 389) (by decide +kernel) (by decide +kernel)) <|
  rg_fc (rg_ok_sipush (n := 409) (by decide +kernel) (by decide +kernel)) <|
  rg_fc (rg_ok_callV (idx := 54) rg_cok7 (by decide +kernel) (by decide +kernel) rg_wm_M_54 rg_wj_74 rg_ws_74 rg_wz_7 rg_wd_74 ⟨by decide +kernel, by decide +kernel, by decide +kernel, by decide +kernel⟩ (by decide +kernel) (by decide +kernel)) <|
  fun _ h => absurd h List.not_mem_nil
def rg_c142_3 : List (Nat × rg_S) := [(158, rg_sjgt 168), (161, rg_sll 3 1), (162, rg_slc 1 1), (163, rg_sil 5 2), (165, rg_ssh (fun x y => x <<< (y.toInt64 &&& 63))), (166, rg_s2l (fun x y => x ||| y)), (167, rg_sls 3 1), (168, rg_sK [true, false, true, true, false, true] (rg_sin 5 (-1))), (171, rg_sgo 117), (174, rg_sil 2 1), (175, rg_sjge 183), (178, rg_sll 3 1), (179, rg_s1l (fun x => -x)), (180, rg_sgo 184), (183, rg_sll 3 1), (184, rg_sK [false, false, false, false, false, false] (rg_rl))]
theorem rg_o142_3 : ∀ q ∈ rg_c142_3, rg_Ok 142 q.1 q.2 :=
  rg_fc (rg_ok_if_gt (off := 10) (by decide +kernel) (by decide +kernel)) <|
  rg_fc (rg_ok_lload_n (j := 3) (by decide +kernel) rfl) <|
  rg_fc (rg_ok_lconst (n := 1) (by decide +kernel) (by decide +kernel)) <|
  rg_fc (rg_ok_iload (i := 5) (by decide +kernel)) <|
  rg_fc (rg_ok_lshl (by decide +kernel)) <|
  rg_fc (rg_ok_lor (by decide +kernel)) <|
  rg_fc (rg_ok_lstore_n (j := 3) (by decide +kernel) rfl (by decide +kernel)) <|
  rg_fc (rg_okK _ (rg_ok_iinc (n := (-1)) (by decide +kernel) (by decide +kernel) (by decide +kernel))) <|
  rg_fc (rg_ok_goto (off := (-54)) (by decide +kernel) (by decide +kernel)) <|
  rg_fc (rg_ok_iload_n (j := 2) (by decide +kernel) rfl) <|
  rg_fc (rg_ok_if_ge (off := 8) (by decide +kernel) (by decide +kernel)) <|
  rg_fc (rg_ok_lload_n (j := 3) (by decide +kernel) rfl) <|
  rg_fc (rg_ok_lneg (by decide +kernel)) <|
  rg_fc (rg_ok_goto (off := 4) (by decide +kernel) (by decide +kernel)) <|
  rg_fc (rg_ok_lload_n (j := 3) (by decide +kernel) rfl) <|
  rg_fc (rg_okK _ (rg_ok_lreturn (by decide +kernel) rfl)) <|
  fun _ h => absurd h List.not_mem_nil
def rg_kd142 : List (List (Nat × rg_S)) := [rg_c142_0, rg_c142_1, rg_c142_2, rg_c142_3]
theorem rg_o142 : ∀ pc f, rg_lk2 rg_kd142 pc = some f → rg_Ok 142 pc f := rg_lk2_ok (rg_fd rg_o142_0 (rg_fd rg_o142_1 (rg_fd rg_o142_2 (rg_fd rg_o142_3 (fun _ h => absurd h List.not_mem_nil)))))
def rg_c149_0 : List (Nat × rg_S) := [(0, rg_sal 0 1), (1, rg_sgi 7 3), (4, rg_sic 1 1), (5, rg_skeq 10), (8, rg_sic 0 1), (9, rg_ri), (10, rg_sic 1000 3), (13, rg_sis 1 1), (14, rg_sic (-1000) 3), (17, rg_sis 2 1), (18, rg_sic 0 1), (19, rg_sis 3 1), (20, rg_sK [true, true, true, true, false, false] (rg_sil 3 1)), (21, rg_sal 0 1), (22, rg_sgi 7 4), (25, rg_skge 91), (28, rg_sic 0 1), (29, rg_sis 4 2), (31, rg_sK [true, true, true, true, true, false] (rg_sil 4 2)), (33, rg_sal 0 1), (34, rg_sgi 7 5), (37, rg_skge 85), (40, rg_sal 0 1), (41, rg_sgr 7 10), (44, rg_sic 5 1)]
theorem rg_o149_0 : ∀ q ∈ rg_c149_0, rg_Ok 149 q.1 q.2 :=
  rg_fc (rg_ok_aload_n (j := 0) (by decide +kernel) rfl) <|
  rg_fc (rg_ok_geti (idx := 79) rg_cok7 (by decide +kernel) rfl (by decide +kernel) rg_wf_M_79) <|
  rg_fc (rg_ok_iconst (n := 1) (by decide +kernel) (by decide +kernel)) <|
  rg_fc (rg_ok_icmp_eq (off := 5) (by decide +kernel) (by decide +kernel)) <|
  rg_fc (rg_ok_iconst (n := 0) (by decide +kernel) (by decide +kernel)) <|
  rg_fc (rg_ok_ireturn (by decide +kernel) rfl) <|
  rg_fc (rg_ok_sipush (n := 1000) (by decide +kernel) (by decide +kernel)) <|
  rg_fc (rg_ok_istore_n (j := 1) (by decide +kernel) rfl (by decide +kernel)) <|
  rg_fc (rg_ok_sipush (n := (-1000)) (by decide +kernel) (by decide +kernel)) <|
  rg_fc (rg_ok_istore_n (j := 2) (by decide +kernel) rfl (by decide +kernel)) <|
  rg_fc (rg_ok_iconst (n := 0) (by decide +kernel) (by decide +kernel)) <|
  rg_fc (rg_ok_istore_n (j := 3) (by decide +kernel) rfl (by decide +kernel)) <|
  rg_fc (rg_okK _ (rg_ok_iload_n (j := 3) (by decide +kernel) rfl)) <|
  rg_fc (rg_ok_aload_n (j := 0) (by decide +kernel) rfl) <|
  rg_fc (rg_ok_geti (idx := 86) rg_cok7 (by decide +kernel) rfl (by decide +kernel) rg_wf_M_86) <|
  rg_fc (rg_ok_icmp_ge (off := 66) (by decide +kernel) (by decide +kernel)) <|
  rg_fc (rg_ok_iconst (n := 0) (by decide +kernel) (by decide +kernel)) <|
  rg_fc (rg_ok_istore (i := 4) (by decide +kernel) (by decide +kernel)) <|
  rg_fc (rg_okK _ (rg_ok_iload (i := 4) (by decide +kernel))) <|
  rg_fc (rg_ok_aload_n (j := 0) (by decide +kernel) rfl) <|
  rg_fc (rg_ok_geti (idx := 89) rg_cok7 (by decide +kernel) rfl (by decide +kernel) rg_wf_M_89) <|
  rg_fc (rg_ok_icmp_ge (off := 48) (by decide +kernel) (by decide +kernel)) <|
  rg_fc (rg_ok_aload_n (j := 0) (by decide +kernel) rfl) <|
  rg_fc (rg_ok_getr (idx := 20) rg_cok7 (by decide +kernel) rfl (by decide +kernel) rg_wf_M_20) <|
  rg_fc (rg_ok_iconst (n := 5) (by decide +kernel) (by decide +kernel)) <|
  fun _ h => absurd h List.not_mem_nil
def rg_c149_1 : List (Nat × rg_S) := [(45, rg_sil 3 1), (46, rg_s2i (fun x y => x * y)), (47, rg_sil 4 2), (49, rg_s2i (fun x y => x + y)), (50, rg_sai), (51, rg_sis 5 2), (53, rg_sil 5 2), (55, rg_sil 1 1), (56, rg_skge 64), (59, rg_sil 5 2), (61, rg_sgo 65), (64, rg_sil 1 1), (65, rg_sK [true, false, true, true, true, true] (rg_sis 1 1)), (66, rg_sil 5 2), (68, rg_sil 2 1), (69, rg_skle 77), (72, rg_sil 5 2), (74, rg_sgo 78), (77, rg_sil 2 1), (78, rg_sK [true, true, false, true, true, false] (rg_sis 2 1)), (79, rg_sin 4 1), (82, rg_sgo 31), (85, rg_sin 3 1), (88, rg_sgo 20), (91, rg_sil 2 1)]
theorem rg_o149_1 : ∀ q ∈ rg_c149_1, rg_Ok 149 q.1 q.2 :=
  rg_fc (rg_ok_iload_n (j := 3) (by decide +kernel) rfl) <|
  rg_fc (rg_ok_imul (by decide +kernel)) <|
  rg_fc (rg_ok_iload (i := 4) (by decide +kernel)) <|
  rg_fc (rg_ok_iadd (by decide +kernel)) <|
  rg_fc (rg_ok_iaload (by decide +kernel)) <|
  rg_fc (rg_ok_istore (i := 5) (by decide +kernel) (by decide +kernel)) <|
  rg_fc (rg_ok_iload (i := 5) (by decide +kernel)) <|
  rg_fc (rg_ok_iload_n (j := 1) (by decide +kernel) rfl) <|
  rg_fc (rg_ok_icmp_ge (off := 8) (by decide +kernel) (by decide +kernel)) <|
  rg_fc (rg_ok_iload (i := 5) (by decide +kernel)) <|
  rg_fc (rg_ok_goto (off := 4) (by decide +kernel) (by decide +kernel)) <|
  rg_fc (rg_ok_iload_n (j := 1) (by decide +kernel) rfl) <|
  rg_fc (rg_okK _ (rg_ok_istore_n (j := 1) (by decide +kernel) rfl (by decide +kernel))) <|
  rg_fc (rg_ok_iload (i := 5) (by decide +kernel)) <|
  rg_fc (rg_ok_iload_n (j := 2) (by decide +kernel) rfl) <|
  rg_fc (rg_ok_icmp_le (off := 8) (by decide +kernel) (by decide +kernel)) <|
  rg_fc (rg_ok_iload (i := 5) (by decide +kernel)) <|
  rg_fc (rg_ok_goto (off := 4) (by decide +kernel) (by decide +kernel)) <|
  rg_fc (rg_ok_iload_n (j := 2) (by decide +kernel) rfl) <|
  rg_fc (rg_okK _ (rg_ok_istore_n (j := 2) (by decide +kernel) rfl (by decide +kernel))) <|
  rg_fc (rg_ok_iinc (n := 1) (by decide +kernel) (by decide +kernel) (by decide +kernel)) <|
  rg_fc (rg_ok_goto (off := (-51)) (by decide +kernel) (by decide +kernel)) <|
  rg_fc (rg_ok_iinc (n := 1) (by decide +kernel) (by decide +kernel) (by decide +kernel)) <|
  rg_fc (rg_ok_goto (off := (-68)) (by decide +kernel) (by decide +kernel)) <|
  rg_fc (rg_ok_iload_n (j := 2) (by decide +kernel) rfl) <|
  fun _ h => absurd h List.not_mem_nil
def rg_c149_2 : List (Nat × rg_S) := [(92, rg_sil 1 1), (93, rg_s2i (fun x y => x - y)), (94, rg_ri)]
theorem rg_o149_2 : ∀ q ∈ rg_c149_2, rg_Ok 149 q.1 q.2 :=
  rg_fc (rg_ok_iload_n (j := 1) (by decide +kernel) rfl) <|
  rg_fc (rg_ok_isub (by decide +kernel)) <|
  rg_fc (rg_ok_ireturn (by decide +kernel) rfl) <|
  fun _ h => absurd h List.not_mem_nil
def rg_kd149 : List (List (Nat × rg_S)) := [rg_c149_0, rg_c149_1, rg_c149_2]
theorem rg_o149 : ∀ pc f, rg_lk2 rg_kd149 pc = some f → rg_Ok 149 pc f := rg_lk2_ok (rg_fd rg_o149_0 (rg_fd rg_o149_1 (rg_fd rg_o149_2 (fun _ h => absurd h List.not_mem_nil))))
def rg_c150_0 : List (Nat × rg_S) := [(0, rg_sal 0 1), (1, rg_sgr 7 2), (4, rg_sil 1 1), (5, rg_sai), (6, rg_sjgt 11), (9, rg_sic 1 1), (10, rg_rz), (11, rg_sal 0 1), (12, rg_sil 1 1), (13, rg_sil 1 1), (14, rg_sic 411 3), (17, rg_scV 71 3 0 7), (20, rg_sal 0 1), (21, rg_sil 2 1), (22, rg_sil 2 1), (23, rg_sic 412 3), (26, rg_scV 71 3 0 7), (29, rg_sal 0 1), (30, rg_sic 412 3), (33, rg_sll 3 1), (34, rg_scV 83 2 0 7), (37, rg_sal 0 1), (38, rg_sic 411 3), (41, rg_sic 412 3), (44, rg_scV 74 2 1 7)]
theorem rg_o150_0 : ∀ q ∈ rg_c150_0, rg_Ok 150 q.1 q.2 :=
  rg_fc (rg_ok_aload_n (j := 0) (by decide +kernel) rfl) <|
  rg_fc (rg_ok_getr (idx := 17) rg_cok7 (by decide +kernel) rfl (by decide +kernel) rg_wf_M_17) <|
  rg_fc (rg_ok_iload_n (j := 1) (by decide +kernel) rfl) <|
  rg_fc (rg_ok_iaload (by decide +kernel)) <|
  rg_fc (rg_ok_if_gt (off := 5) (by decide +kernel) (by decide +kernel)) <|
  rg_fc (rg_ok_iconst (n := 1) (by decide +kernel) (by decide +kernel)) <|
  rg_fc (rg_ok_zreturn (by decide +kernel) rfl) <|
  rg_fc (rg_ok_aload_n (j := 0) (by decide +kernel) rfl) <|
  rg_fc (rg_ok_iload_n (j := 1) (by decide +kernel) rfl) <|
  rg_fc (rg_ok_iload_n (j := 1) (by decide +kernel) rfl) <|
  rg_fc (rg_ok_sipush (n := 411) (by decide +kernel) (by decide +kernel)) <|
  rg_fc (rg_ok_callV (idx := 64) rg_cok7 (by decide +kernel) (by decide +kernel) rg_wm_M_64 rg_wj_71 rg_ws_71 rg_wz_7 rg_wd_71 ⟨by decide +kernel, by decide +kernel, by decide +kernel, by decide +kernel⟩ (by decide +kernel) (by decide +kernel)) <|
  rg_fc (rg_ok_aload_n (j := 0) (by decide +kernel) rfl) <|
  rg_fc (rg_ok_iload_n (j := 2) (by decide +kernel) rfl) <|
  rg_fc (rg_ok_iload_n (j := 2) (by decide +kernel) rfl) <|
  rg_fc (rg_ok_sipush (n := 412) (by decide +kernel) (by decide +kernel)) <|
  rg_fc (rg_ok_callV (idx := 64) rg_cok7 (by decide +kernel) (by decide +kernel) rg_wm_M_64 rg_wj_71 rg_ws_71 rg_wz_7 rg_wd_71 ⟨by decide +kernel, by decide +kernel, by decide +kernel, by decide +kernel⟩ (by decide +kernel) (by decide +kernel)) <|
  rg_fc (rg_ok_aload_n (j := 0) (by decide +kernel) rfl) <|
  rg_fc (rg_ok_sipush (n := 412) (by decide +kernel) (by decide +kernel)) <|
  rg_fc (rg_ok_lload_n (j := 3) (by decide +kernel) rfl) <|
  rg_fc (rg_ok_callV (idx := 133) rg_cok7 (by decide +kernel) (by decide +kernel) rg_wm_M_133 rg_wj_83 rg_ws_83 rg_wz_7 rg_wd_83 ⟨by decide +kernel, by decide +kernel, by decide +kernel, by decide +kernel⟩ (by decide +kernel) (by decide +kernel)) <|
  rg_fc (rg_ok_aload_n (j := 0) (by decide +kernel) rfl) <|
  rg_fc (rg_ok_sipush (n := 411) (by decide +kernel) (by decide +kernel)) <|
  rg_fc (rg_ok_sipush (n := 412) (by decide +kernel) (by decide +kernel)) <|
  rg_fc (rg_ok_callV (idx := 54) rg_cok7 (by decide +kernel) (by decide +kernel) rg_wm_M_54 rg_wj_74 rg_ws_74 rg_wz_7 rg_wd_74 ⟨by decide +kernel, by decide +kernel, by decide +kernel, by decide +kernel⟩ (by decide +kernel) (by decide +kernel)) <|
  fun _ h => absurd h List.not_mem_nil
def rg_c150_1 : List (Nat × rg_S) := [(47, rg_sjgt 54), (50, rg_sic 1 1), (51, rg_sgo 55), (54, rg_sic 0 1), (55, rg_sK [false, false, false, false, false] (rg_rz))]
theorem rg_o150_1 : ∀ q ∈ rg_c150_1, rg_Ok 150 q.1 q.2 :=
  rg_fc (rg_ok_if_gt (off := 7) (by decide +kernel) (by decide +kernel)) <|
  rg_fc (rg_ok_iconst (n := 1) (by decide +kernel) (by decide +kernel)) <|
  rg_fc (rg_ok_goto (off := 4) (by decide +kernel) (by decide +kernel)) <|
  rg_fc (rg_ok_iconst (n := 0) (by decide +kernel) (by decide +kernel)) <|
  rg_fc (rg_okK _ (rg_ok_zreturn (by decide +kernel) rfl)) <|
  fun _ h => absurd h List.not_mem_nil
def rg_kd150 : List (List (Nat × rg_S)) := [rg_c150_0, rg_c150_1]
theorem rg_o150 : ∀ pc f, rg_lk2 rg_kd150 pc = some f → rg_Ok 150 pc f := rg_lk2_ok (rg_fd rg_o150_0 (rg_fd rg_o150_1 (fun _ h => absurd h List.not_mem_nil)))
def rg_c151_0 : List (Nat × rg_S) := [(0, rg_sil 1 1), (1, rg_sic 2 1), (2, rg_skne 114), (5, rg_sal 0 1), (6, rg_sgi 7 3), (9, rg_sic 2 1), (10, rg_skne 21), (13, rg_sal 0 1), (14, rg_sgi 7 6), (17, rg_sic 3 1), (18, rg_skeq 23), (21, rg_sK [false, false, false, false, false] (rg_sic (-1) 1)), (22, rg_ri), (23, rg_sal 0 1), (24, rg_sgi 7 7), (27, rg_sjne 32), (30, rg_sic 1 1), (31, rg_ri), (32, rg_sal 0 1), (33, rg_scV 133 0 0 7), (36, rg_sal 0 1), (37, rg_sic 409 3), (40, rg_sic 409 3), (43, rg_sic 411 3), (46, rg_scV 71 3 0 7)]
theorem rg_o151_0 : ∀ q ∈ rg_c151_0, rg_Ok 151 q.1 q.2 :=
  rg_fc (rg_ok_iload_n (j := 1) (by decide +kernel) rfl) <|
  rg_fc (rg_ok_iconst (n := 2) (by decide +kernel) (by decide +kernel)) <|
  rg_fc (rg_ok_icmp_ne (off := 112) (by decide +kernel) (by decide +kernel)) <|
  rg_fc (rg_ok_aload_n (j := 0) (by decide +kernel) rfl) <|
  rg_fc (rg_ok_geti (idx := 79) rg_cok7 (by decide +kernel) rfl (by decide +kernel) rg_wf_M_79) <|
  rg_fc (rg_ok_iconst (n := 2) (by decide +kernel) (by decide +kernel)) <|
  rg_fc (rg_ok_icmp_ne (off := 11) (by decide +kernel) (by decide +kernel)) <|
  rg_fc (rg_ok_aload_n (j := 0) (by decide +kernel) rfl) <|
  rg_fc (rg_ok_geti (idx := 83) rg_cok7 (by decide +kernel) rfl (by decide +kernel) rg_wf_M_83) <|
  rg_fc (rg_ok_iconst (n := 3) (by decide +kernel) (by decide +kernel)) <|
  rg_fc (rg_ok_icmp_eq (off := 5) (by decide +kernel) (by decide +kernel)) <|
  rg_fc (rg_okK _ (rg_ok_iconst (n := (-1)) (by decide +kernel) (by decide +kernel))) <|
  rg_fc (rg_ok_ireturn (by decide +kernel) rfl) <|
  rg_fc (rg_ok_aload_n (j := 0) (by decide +kernel) rfl) <|
  rg_fc (rg_ok_geti (idx := 92) rg_cok7 (by decide +kernel) rfl (by decide +kernel) rg_wf_M_92) <|
  rg_fc (rg_ok_if_ne (off := 5) (by decide +kernel) (by decide +kernel)) <|
  rg_fc (rg_ok_iconst (n := 1) (by decide +kernel) (by decide +kernel)) <|
  rg_fc (rg_ok_ireturn (by decide +kernel) rfl) <|
  rg_fc (rg_ok_aload_n (j := 0) (by decide +kernel) rfl) <|
  rg_fc (rg_ok_callV (idx := 214) rg_cok7 (by decide +kernel) (by decide +kernel) rg_wm_M_214 rg_wj_133 rg_ws_133 rg_wz_7 rg_wd_133 ⟨by decide +kernel, by decide +kernel, by decide +kernel, by decide +kernel⟩ (by decide +kernel) (by decide +kernel)) <|
  rg_fc (rg_ok_aload_n (j := 0) (by decide +kernel) rfl) <|
  rg_fc (rg_ok_sipush (n := 409) (by decide +kernel) (by decide +kernel)) <|
  rg_fc (rg_ok_sipush (n := 409) (by decide +kernel) (by decide +kernel)) <|
  rg_fc (rg_ok_sipush (n := 411) (by decide +kernel) (by decide +kernel)) <|
  rg_fc (rg_ok_callV (idx := 64) rg_cok7 (by decide +kernel) (by decide +kernel) rg_wm_M_64 rg_wj_71 rg_ws_71 rg_wz_7 rg_wd_71 ⟨by decide +kernel, by decide +kernel, by decide +kernel, by decide +kernel⟩ (by decide +kernel) (by decide +kernel)) <|
  fun _ h => absurd h List.not_mem_nil
def rg_c151_1 : List (Nat × rg_S) := [(49, rg_sal 0 1), (50, rg_sic 411 3), (53, rg_sal 0 1), (54, rg_sgi 7 7), (57, rg_si2l), (58, rg_scV 83 2 0 7), (61, rg_sal 0 1), (62, rg_sic 410 3), (65, rg_sic 410 3), (68, rg_sic 412 3), (71, rg_scV 71 3 0 7), (74, rg_sal 0 1), (75, rg_sic 412 3), (78, rg_slc 4608 3), (81, rg_scV 83 2 0 7), (84, rg_sal 0 1), (85, rg_sgr 7 2), (88, rg_sic 409 3), (91, rg_sai), (92, rg_sjle 108), (95, rg_sal 0 1), (96, rg_sic 411 3), (99, rg_sic 412 3), (102, rg_scV 74 2 1 7), (105, rg_sjgt 112)]
theorem rg_o151_1 : ∀ q ∈ rg_c151_1, rg_Ok 151 q.1 q.2 :=
  rg_fc (rg_ok_aload_n (j := 0) (by decide +kernel) rfl) <|
  rg_fc (rg_ok_sipush (n := 411) (by decide +kernel) (by decide +kernel)) <|
  rg_fc (rg_ok_aload_n (j := 0) (by decide +kernel) rfl) <|
  rg_fc (rg_ok_geti (idx := 92) rg_cok7 (by decide +kernel) rfl (by decide +kernel) rg_wf_M_92) <|
  rg_fc (rg_ok_i2l (by decide +kernel)) <|
  rg_fc (rg_ok_callV (idx := 133) rg_cok7 (by decide +kernel) (by decide +kernel) rg_wm_M_133 rg_wj_83 rg_ws_83 rg_wz_7 rg_wd_83 ⟨by decide +kernel, by decide +kernel, by decide +kernel, by decide +kernel⟩ (by decide +kernel) (by decide +kernel)) <|
  rg_fc (rg_ok_aload_n (j := 0) (by decide +kernel) rfl) <|
  rg_fc (rg_ok_sipush (n := 410) (by decide +kernel) (by decide +kernel)) <|
  rg_fc (rg_ok_sipush (n := 410) (by decide +kernel) (by decide +kernel)) <|
  rg_fc (rg_ok_sipush (n := 412) (by decide +kernel) (by decide +kernel)) <|
  rg_fc (rg_ok_callV (idx := 64) rg_cok7 (by decide +kernel) (by decide +kernel) rg_wm_M_64 rg_wj_71 rg_ws_71 rg_wz_7 rg_wd_71 ⟨by decide +kernel, by decide +kernel, by decide +kernel, by decide +kernel⟩ (by decide +kernel) (by decide +kernel)) <|
  rg_fc (rg_ok_aload_n (j := 0) (by decide +kernel) rfl) <|
  rg_fc (rg_ok_sipush (n := 412) (by decide +kernel) (by decide +kernel)) <|
  rg_fc (rg_ok_ldc2 (n := 222) (by decide +kernel) rg_wc_M_222) <|
  rg_fc (rg_ok_callV (idx := 133) rg_cok7 (by decide +kernel) (by decide +kernel) rg_wm_M_133 rg_wj_83 rg_ws_83 rg_wz_7 rg_wd_83 ⟨by decide +kernel, by decide +kernel, by decide +kernel, by decide +kernel⟩ (by decide +kernel) (by decide +kernel)) <|
  rg_fc (rg_ok_aload_n (j := 0) (by decide +kernel) rfl) <|
  rg_fc (rg_ok_getr (idx := 17) rg_cok7 (by decide +kernel) rfl (by decide +kernel) rg_wf_M_17) <|
  rg_fc (rg_ok_sipush (n := 409) (by decide +kernel) (by decide +kernel)) <|
  rg_fc (rg_ok_iaload (by decide +kernel)) <|
  rg_fc (rg_ok_if_le (off := 16) (by decide +kernel) (by decide +kernel)) <|
  rg_fc (rg_ok_aload_n (j := 0) (by decide +kernel) rfl) <|
  rg_fc (rg_ok_sipush (n := 411) (by decide +kernel) (by decide +kernel)) <|
  rg_fc (rg_ok_sipush (n := 412) (by decide +kernel) (by decide +kernel)) <|
  rg_fc (rg_ok_callV (idx := 54) rg_cok7 (by decide +kernel) (by decide +kernel) rg_wm_M_54 rg_wj_74 rg_ws_74 rg_wz_7 rg_wd_74 ⟨by decide +kernel, by decide +kernel, by decide +kernel, by decide +kernel⟩ (by decide +kernel) (by decide +kernel)) <|
  rg_fc (rg_ok_if_gt (off := 7) (by decide +kernel) (by decide +kernel)) <|
  fun _ h => absurd h List.not_mem_nil
def rg_c151_2 : List (Nat × rg_S) := [(108, rg_sK [false, false, false, false, false] (rg_sic 1 1)), (109, rg_sgo 113), (112, rg_sic 0 1), (113, rg_sK [false, false, false, false, false] (rg_ri)), (114, rg_sil 1 1), (115, rg_sjeq 123), (118, rg_sil 1 1), (119, rg_sic 1 1), (120, rg_skne 153), (123, rg_sK [true, true, false, false, false] (rg_sal 0 1)), (124, rg_sgi 7 3), (127, rg_sic 1 1), (128, rg_skne 153), (131, rg_sil 1 1), (132, rg_sjne 142), (135, rg_sal 0 1), (136, rg_sgi 7 8), (139, rg_sgo 146), (142, rg_sal 0 1), (143, rg_sgi 7 9), (146, rg_sK [true, true, false, false, false] (rg_sal 0 1)), (147, rg_sgi 7 7), (150, rg_skeq 155), (153, rg_sK [false, false, false, false, false] (rg_sic (-1) 1)), (154, rg_ri)]
theorem rg_o151_2 : ∀ q ∈ rg_c151_2, rg_Ok 151 q.1 q.2 :=
  rg_fc (rg_okK _ (rg_ok_iconst (n := 1) (by decide +kernel) (by decide +kernel))) <|
  rg_fc (rg_ok_goto (off := 4) (by decide +kernel) (by decide +kernel)) <|
  rg_fc (rg_ok_iconst (n := 0) (by decide +kernel) (by decide +kernel)) <|
  rg_fc (rg_okK _ (rg_ok_ireturn (by decide +kernel) rfl)) <|
  rg_fc (rg_ok_iload_n (j := 1) (by decide +kernel) rfl) <|
  rg_fc (rg_ok_if_eq (off := 8) (by decide +kernel) (by decide +kernel)) <|
  rg_fc (rg_ok_iload_n (j := 1) (by decide +kernel) rfl) <|
  rg_fc (rg_ok_iconst (n := 1) (by decide +kernel) (by decide +kernel)) <|
  rg_fc (rg_ok_icmp_ne (off := 33) (by decide +kernel) (by decide +kernel)) <|
  rg_fc (rg_okK _ (rg_ok_aload_n (j := 0) (by decide +kernel) rfl)) <|
  rg_fc (rg_ok_geti (idx := 79) rg_cok7 (by decide +kernel) rfl (by decide +kernel) rg_wf_M_79) <|
  rg_fc (rg_ok_iconst (n := 1) (by decide +kernel) (by decide +kernel)) <|
  rg_fc (rg_ok_icmp_ne (off := 25) (by decide +kernel) (by decide +kernel)) <|
  rg_fc (rg_ok_iload_n (j := 1) (by decide +kernel) rfl) <|
  rg_fc (rg_ok_if_ne (off := 10) (by decide +kernel) (by decide +kernel)) <|
  rg_fc (rg_ok_aload_n (j := 0) (by decide +kernel) rfl) <|
  rg_fc (rg_ok_geti (idx := 95) rg_cok7 (by decide +kernel) rfl (by decide +kernel) rg_wf_M_95) <|
  rg_fc (rg_ok_goto (off := 7) (by decide +kernel) (by decide +kernel)) <|
  rg_fc (rg_ok_aload_n (j := 0) (by decide +kernel) rfl) <|
  rg_fc (rg_ok_geti (idx := 98) rg_cok7 (by decide +kernel) rfl (by decide +kernel) rg_wf_M_98) <|
  rg_fc (rg_okK _ (rg_ok_aload_n (j := 0) (by decide +kernel) rfl)) <|
  rg_fc (rg_ok_geti (idx := 92) rg_cok7 (by decide +kernel) rfl (by decide +kernel) rg_wf_M_92) <|
  rg_fc (rg_ok_icmp_eq (off := 5) (by decide +kernel) (by decide +kernel)) <|
  rg_fc (rg_okK _ (rg_ok_iconst (n := (-1)) (by decide +kernel) (by decide +kernel))) <|
  rg_fc (rg_ok_ireturn (by decide +kernel) rfl) <|
  fun _ h => absurd h List.not_mem_nil
def rg_c151_3 : List (Nat × rg_S) := [(155, rg_sal 0 1), (156, rg_scV 149 0 1 7), (159, rg_si2l), (160, rg_sal 0 1), (161, rg_scV 149 0 1 7), (164, rg_si2l), (165, rg_s2l (fun x y => x * y)), (166, rg_sal 0 1), (167, rg_sil 1 1), (168, rg_scV 67 1 1 7), (171, rg_si2l), (172, rg_s2l (fun x y => x * y)), (173, rg_sal 0 1), (174, rg_sgi 7 7), (177, rg_si2l), (178, rg_s2l (fun x y => x * y)), (179, rg_sls 2 1), (180, rg_sic 0 1), (181, rg_sis 4 2), (183, rg_sK [true, true, true, false, true] (rg_sil 4 2)), (185, rg_sal 0 1), (186, rg_sil 1 1), (187, rg_scV 67 1 1 7), (190, rg_skge 228), (193, rg_sal 0 1)]
theorem rg_o151_3 : ∀ q ∈ rg_c151_3, rg_Ok 151 q.1 q.2 :=
  rg_fc (rg_ok_aload_n (j := 0) (by decide +kernel) rfl) <|
  rg_fc (rg_ok_callV (idx := 224) rg_cok7 (by decide +kernel) (by decide +kernel) rg_wm_M_224 rg_wj_149 rg_ws_149 rg_wz_7 rg_wd_149 ⟨by decide +kernel, by decide +kernel, by decide +kernel, by decide +kernel⟩ (by decide +kernel) (by decide +kernel)) <|
  rg_fc (rg_ok_i2l (by decide +kernel)) <|
  rg_fc (rg_ok_aload_n (j := 0) (by decide +kernel) rfl) <|
  rg_fc (rg_ok_callV (idx := 224) rg_cok7 (by decide +kernel) (by decide +kernel) rg_wm_M_224 rg_wj_149 rg_ws_149 rg_wz_7 rg_wd_149 ⟨by decide +kernel, by decide +kernel, by decide +kernel, by decide +kernel⟩ (by decide +kernel) (by decide +kernel)) <|
  rg_fc (rg_ok_i2l (by decide +kernel)) <|
  rg_fc (rg_ok_lmul (by decide +kernel)) <|
  rg_fc (rg_ok_aload_n (j := 0) (by decide +kernel) rfl) <|
  rg_fc (rg_ok_iload_n (j := 1) (by decide +kernel) rfl) <|
  rg_fc (rg_ok_callV (idx := 107) rg_cok7 (by decide +kernel) (by decide +kernel) rg_wm_M_107 rg_wj_67 rg_ws_67 rg_wz_7 rg_wd_67 ⟨by decide +kernel, by decide +kernel, by decide +kernel, by decide +kernel⟩ (by decide +kernel) (by decide +kernel)) <|
  rg_fc (rg_ok_i2l (by decide +kernel)) <|
  rg_fc (rg_ok_lmul (by decide +kernel)) <|
  rg_fc (rg_ok_aload_n (j := 0) (by decide +kernel) rfl) <|
  rg_fc (rg_ok_geti (idx := 92) rg_cok7 (by decide +kernel) rfl (by decide +kernel) rg_wf_M_92) <|
  rg_fc (rg_ok_i2l (by decide +kernel)) <|
  rg_fc (rg_ok_lmul (by decide +kernel)) <|
  rg_fc (rg_ok_lstore_n (j := 2) (by decide +kernel) rfl (by decide +kernel)) <|
  rg_fc (rg_ok_iconst (n := 0) (by decide +kernel) (by decide +kernel)) <|
  rg_fc (rg_ok_istore (i := 4) (by decide +kernel) (by decide +kernel)) <|
  rg_fc (rg_okK _ (rg_ok_iload (i := 4) (by decide +kernel))) <|
  rg_fc (rg_ok_aload_n (j := 0) (by decide +kernel) rfl) <|
  rg_fc (rg_ok_iload_n (j := 1) (by decide +kernel) rfl) <|
  rg_fc (rg_ok_callV (idx := 107) rg_cok7 (by decide +kernel) (by decide +kernel) rg_wm_M_107 rg_wj_67 rg_ws_67 rg_wz_7 rg_wd_67 ⟨by decide +kernel, by decide +kernel, by decide +kernel, by decide +kernel⟩ (by decide +kernel) (by decide +kernel)) <|
  rg_fc (rg_ok_icmp_ge (off := 38) (by decide +kernel) (by decide +kernel)) <|
  rg_fc (rg_ok_aload_n (j := 0) (by decide +kernel) rfl) <|
  fun _ h => absurd h List.not_mem_nil
def rg_c151_4 : List (Nat × rg_S) := [(194, rg_sic 0 1), (195, rg_sal 0 1), (196, rg_sil 1 1), (197, rg_sil 4 2), (199, rg_scV 68 2 1 7), (202, rg_s2i (fun x y => x + y)), (203, rg_sic 40 2), (205, rg_sal 0 1), (206, rg_sil 1 1), (207, rg_sil 4 2), (209, rg_scV 68 2 1 7), (212, rg_s2i (fun x y => x + y)), (213, rg_sll 2 1), (214, rg_scV 150 3 1 7), (217, rg_sjne 222), (220, rg_sic 0 1), (221, rg_ri), (222, rg_sin 4 1), (225, rg_sgo 183), (228, rg_sic 1 1), (229, rg_ri)]
theorem rg_o151_4 : ∀ q ∈ rg_c151_4, rg_Ok 151 q.1 q.2 :=
  rg_fc (rg_ok_iconst (n := 0) (by decide +kernel) (by decide +kernel)) <|
  rg_fc (rg_ok_aload_n (j := 0) (by decide +kernel) rfl) <|
  rg_fc (rg_ok_iload_n (j := 1) (by decide +kernel) rfl) <|
  rg_fc (rg_ok_iload (i := 4) (by decide +kernel)) <|
  rg_fc (rg_ok_callV (idx := 110) rg_cok7 (by decide +kernel) (by decide +kernel) rg_wm_M_110 rg_wj_68 rg_ws_68 rg_wz_7 rg_wd_68 ⟨by decide +kernel, by decide +kernel, by decide +kernel, by decide +kernel⟩ (by decide +kernel) (by decide +kernel)) <|
  rg_fc (rg_ok_iadd (by decide +kernel)) <|
  rg_fc (rg_ok_bipush (n := 40) (by decide +kernel) (by decide +kernel)) <|
  rg_fc (rg_ok_aload_n (j := 0) (by decide +kernel) rfl) <|
  rg_fc (rg_ok_iload_n (j := 1) (by decide +kernel) rfl) <|
  rg_fc (rg_ok_iload (i := 4) (by decide +kernel)) <|
  rg_fc (rg_ok_callV (idx := 110) rg_cok7 (by decide +kernel) (by decide +kernel) rg_wm_M_110 rg_wj_68 rg_ws_68 rg_wz_7 rg_wd_68 ⟨by decide +kernel, by decide +kernel, by decide +kernel, by decide +kernel⟩ (by decide +kernel) (by decide +kernel)) <|
  rg_fc (rg_ok_iadd (by decide +kernel)) <|
  rg_fc (rg_ok_lload_n (j := 2) (by decide +kernel) rfl) <|
  rg_fc (rg_ok_callV (idx := 227) rg_cok7 (by decide +kernel) (by decide +kernel) rg_wm_M_227 rg_wj_150 rg_ws_150 rg_wz_7 rg_wd_150 ⟨by decide +kernel, by decide +kernel, by decide +kernel, by decide +kernel⟩ (by decide +kernel) (by decide +kernel)) <|
  rg_fc (rg_ok_if_ne (off := 5) (by decide +kernel) (by decide +kernel)) <|
  rg_fc (rg_ok_iconst (n := 0) (by decide +kernel) (by decide +kernel)) <|
  rg_fc (rg_ok_ireturn (by decide +kernel) rfl) <|
  rg_fc (rg_ok_iinc (n := 1) (by decide +kernel) (by decide +kernel) (by decide +kernel)) <|
  rg_fc (rg_ok_goto (off := (-42)) (by decide +kernel) (by decide +kernel)) <|
  rg_fc (rg_ok_iconst (n := 1) (by decide +kernel) (by decide +kernel)) <|
  rg_fc (rg_ok_ireturn (by decide +kernel) rfl) <|
  fun _ h => absurd h List.not_mem_nil
def rg_kd151 : List (List (Nat × rg_S)) := [rg_c151_0, rg_c151_1, rg_c151_2, rg_c151_3, rg_c151_4]
theorem rg_o151 : ∀ pc f, rg_lk2 rg_kd151 pc = some f → rg_Ok 151 pc f := rg_lk2_ok (rg_fd rg_o151_0 (rg_fd rg_o151_1 (rg_fd rg_o151_2 (rg_fd rg_o151_3 (rg_fd rg_o151_4 (fun _ h => absurd h List.not_mem_nil))))))
def rg_c154_0 : List (Nat × rg_S) := [(0, rg_sic 0 1), (1, rg_sis 1 1), (2, rg_sic 0 1), (3, rg_sis 2 1), (4, rg_sK [true, true, true, false, false, false] (rg_sil 2 1)), (5, rg_sal 0 1), (6, rg_scV 117 0 1 7), (9, rg_skge 81), (12, rg_sic 0 1), (13, rg_sis 3 1), (14, rg_sK [true, true, true, true, false, false] (rg_sil 3 1)), (15, rg_sal 0 1), (16, rg_sil 2 1), (17, rg_scV 67 1 1 7), (20, rg_skge 75), (23, rg_sic 0 1), (24, rg_sis 4 2), (26, rg_sK [true, true, true, true, true, false] (rg_sil 4 2)), (28, rg_sic 4 1), (29, rg_skge 69), (32, rg_sal 0 1), (33, rg_sic 40 2), (35, rg_sil 4 2), (37, rg_s2i (fun x y => x * y)), (38, rg_sal 0 1)]
theorem rg_o154_0 : ∀ q ∈ rg_c154_0, rg_Ok 154 q.1 q.2 :=
  rg_fc (rg_ok_iconst (n := 0) (by decide +kernel) (by decide +kernel)) <|
  rg_fc (rg_ok_istore_n (j := 1) (by decide +kernel) rfl (by decide +kernel)) <|
  rg_fc (rg_ok_iconst (n := 0) (by decide +kernel) (by decide +kernel)) <|
  rg_fc (rg_ok_istore_n (j := 2) (by decide +kernel) rfl (by decide +kernel)) <|
  rg_fc (rg_okK _ (rg_ok_iload_n (j := 2) (by decide +kernel) rfl)) <|
  rg_fc (rg_ok_aload_n (j := 0) (by decide +kernel) rfl) <|
  rg_fc (rg_ok_callV (idx := 163) rg_cok7 (by decide +kernel) (by decide +kernel) rg_wm_M_163 rg_wj_117 rg_ws_117 rg_wz_7 rg_wd_117 ⟨by decide +kernel, by decide +kernel, by decide +kernel, by decide +kernel⟩ (by decide +kernel) (by decide +kernel)) <|
  rg_fc (rg_ok_icmp_ge (off := 72) (by decide +kernel) (by decide +kernel)) <|
  rg_fc (rg_ok_iconst (n := 0) (by decide +kernel) (by decide +kernel)) <|
  rg_fc (rg_ok_istore_n (j := 3) (by decide +kernel) rfl (by decide +kernel)) <|
  rg_fc (rg_okK _ (rg_ok_iload_n (j := 3) (by decide +kernel) rfl)) <|
  rg_fc (rg_ok_aload_n (j := 0) (by decide +kernel) rfl) <|
  rg_fc (rg_ok_iload_n (j := 2) (by decide +kernel) rfl) <|
  rg_fc (rg_ok_callV (idx := 107) rg_cok7 (by decide +kernel) (by decide +kernel) rg_wm_M_107 rg_wj_67 rg_ws_67 rg_wz_7 rg_wd_67 ⟨by decide +kernel, by decide +kernel, by decide +kernel, by decide +kernel⟩ (by decide +kernel) (by decide +kernel)) <|
  rg_fc (rg_ok_icmp_ge (off := 55) (by decide +kernel) (by decide +kernel)) <|
  rg_fc (rg_ok_iconst (n := 0) (by decide +kernel) (by decide +kernel)) <|
  rg_fc (rg_ok_istore (i := 4) (by decide +kernel) (by decide +kernel)) <|
  rg_fc (rg_okK _ (rg_ok_iload (i := 4) (by decide +kernel))) <|
  rg_fc (rg_ok_iconst (n := 4) (by decide +kernel) (by decide +kernel)) <|
  rg_fc (rg_ok_icmp_ge (off := 40) (by decide +kernel) (by decide +kernel)) <|
  rg_fc (rg_ok_aload_n (j := 0) (by decide +kernel) rfl) <|
  rg_fc (rg_ok_bipush (n := 40) (by decide +kernel) (by decide +kernel)) <|
  rg_fc (rg_ok_iload (i := 4) (by decide +kernel)) <|
  rg_fc (rg_ok_imul (by decide +kernel)) <|
  rg_fc (rg_ok_aload_n (j := 0) (by decide +kernel) rfl) <|
  fun _ h => absurd h List.not_mem_nil
def rg_c154_1 : List (Nat × rg_S) := [(39, rg_sil 2 1), (40, rg_sil 3 1), (41, rg_scV 68 2 1 7), (44, rg_s2i (fun x y => x + y)), (45, rg_scV 86 1 1 7), (48, rg_sis 5 2), (50, rg_sil 5 2), (52, rg_sil 1 1), (53, rg_skle 61), (56, rg_sil 5 2), (58, rg_sgo 62), (61, rg_sil 1 1), (62, rg_sK [true, false, true, true, true, false] (rg_sis 1 1)), (63, rg_sin 4 1), (66, rg_sgo 26), (69, rg_sin 3 1), (72, rg_sgo 14), (75, rg_sin 2 1), (78, rg_sgo 4), (81, rg_sil 1 1), (82, rg_ri)]
theorem rg_o154_1 : ∀ q ∈ rg_c154_1, rg_Ok 154 q.1 q.2 :=
  rg_fc (rg_ok_iload_n (j := 2) (by decide +kernel) rfl) <|
  rg_fc (rg_ok_iload_n (j := 3) (by decide +kernel) rfl) <|
  rg_fc (rg_ok_callV (idx := 110) rg_cok7 (by decide +kernel) (by decide +kernel) rg_wm_M_110 rg_wj_68 rg_ws_68 rg_wz_7 rg_wd_68 ⟨by decide +kernel, by decide +kernel, by decide +kernel, by decide +kernel⟩ (by decide +kernel) (by decide +kernel)) <|
  rg_fc (rg_ok_iadd (by decide +kernel)) <|
  rg_fc (rg_ok_callV (idx := 119) rg_cok7 (by decide +kernel) (by decide +kernel) rg_wm_M_119 rg_wj_86 rg_ws_86 rg_wz_7 rg_wd_86 ⟨by decide +kernel, by decide +kernel, by decide +kernel, by decide +kernel⟩ (by decide +kernel) (by decide +kernel)) <|
  rg_fc (rg_ok_istore (i := 5) (by decide +kernel) (by decide +kernel)) <|
  rg_fc (rg_ok_iload (i := 5) (by decide +kernel)) <|
  rg_fc (rg_ok_iload_n (j := 1) (by decide +kernel) rfl) <|
  rg_fc (rg_ok_icmp_le (off := 8) (by decide +kernel) (by decide +kernel)) <|
  rg_fc (rg_ok_iload (i := 5) (by decide +kernel)) <|
  rg_fc (rg_ok_goto (off := 4) (by decide +kernel) (by decide +kernel)) <|
  rg_fc (rg_ok_iload_n (j := 1) (by decide +kernel) rfl) <|
  rg_fc (rg_okK _ (rg_ok_istore_n (j := 1) (by decide +kernel) rfl (by decide +kernel))) <|
  rg_fc (rg_ok_iinc (n := 1) (by decide +kernel) (by decide +kernel) (by decide +kernel)) <|
  rg_fc (rg_ok_goto (off := (-40)) (by decide +kernel) (by decide +kernel)) <|
  rg_fc (rg_ok_iinc (n := 1) (by decide +kernel) (by decide +kernel) (by decide +kernel)) <|
  rg_fc (rg_ok_goto (off := (-58)) (by decide +kernel) (by decide +kernel)) <|
  rg_fc (rg_ok_iinc (n := 1) (by decide +kernel) (by decide +kernel) (by decide +kernel)) <|
  rg_fc (rg_ok_goto (off := (-74)) (by decide +kernel) (by decide +kernel)) <|
  rg_fc (rg_ok_iload_n (j := 1) (by decide +kernel) rfl) <|
  rg_fc (rg_ok_ireturn (by decide +kernel) rfl) <|
  fun _ h => absurd h List.not_mem_nil
def rg_kd154 : List (List (Nat × rg_S)) := [rg_c154_0, rg_c154_1]
theorem rg_o154 : ∀ pc f, rg_lk2 rg_kd154 pc = some f → rg_Ok 154 pc f := rg_lk2_ok (rg_fd rg_o154_0 (rg_fd rg_o154_1 (fun _ h => absurd h List.not_mem_nil)))
def rg_c155_0 : List (Nat × rg_S) := [(0, rg_sil 1 1), (1, rg_stb (nI 0) [44, 49, 54, 59, 64, 69, 74] 79), (44, rg_sal 0 1), (45, rg_sgi 7 3), (48, rg_ri), (49, rg_sal 0 1), (50, rg_sgi 7 4), (53, rg_ri), (54, rg_sal 0 1), (55, rg_sgi 7 5), (58, rg_ri), (59, rg_sal 0 1), (60, rg_sgi 7 6), (63, rg_ri), (64, rg_sal 0 1), (65, rg_sgi 7 7), (68, rg_ri), (69, rg_sal 0 1), (70, rg_scV 149 0 1 7), (73, rg_ri), (74, rg_sal 0 1), (75, rg_scV 154 0 1 7), (78, rg_ri), (79, rg_sic (-1) 1), (80, rg_ri)]
theorem rg_o155_0 : ∀ q ∈ rg_c155_0, rg_Ok 155 q.1 q.2 :=
  rg_fc (rg_ok_iload_n (j := 1) (by decide +kernel) rfl) <|
  rg_fc (rg_ok_tsw (dflt := 78) (lo := 0) (hi := 6) (offs := #[43, 48, 53, 58, 63, 68, 73]) (len := 43) (by decide +kernel) rfl rfl (by decide +kernel) rfl (rg_swp _ _ _ (by decide +kernel)) (by decide +kernel)) <|
  rg_fc (rg_ok_aload_n (j := 0) (by decide +kernel) rfl) <|
  rg_fc (rg_ok_geti (idx := 79) rg_cok7 (by decide +kernel) rfl (by decide +kernel) rg_wf_M_79) <|
  rg_fc (rg_ok_ireturn (by decide +kernel) rfl) <|
  rg_fc (rg_ok_aload_n (j := 0) (by decide +kernel) rfl) <|
  rg_fc (rg_ok_geti (idx := 86) rg_cok7 (by decide +kernel) rfl (by decide +kernel) rg_wf_M_86) <|
  rg_fc (rg_ok_ireturn (by decide +kernel) rfl) <|
  rg_fc (rg_ok_aload_n (j := 0) (by decide +kernel) rfl) <|
  rg_fc (rg_ok_geti (idx := 89) rg_cok7 (by decide +kernel) rfl (by decide +kernel) rg_wf_M_89) <|
  rg_fc (rg_ok_ireturn (by decide +kernel) rfl) <|
  rg_fc (rg_ok_aload_n (j := 0) (by decide +kernel) rfl) <|
  rg_fc (rg_ok_geti (idx := 83) rg_cok7 (by decide +kernel) rfl (by decide +kernel) rg_wf_M_83) <|
  rg_fc (rg_ok_ireturn (by decide +kernel) rfl) <|
  rg_fc (rg_ok_aload_n (j := 0) (by decide +kernel) rfl) <|
  rg_fc (rg_ok_geti (idx := 92) rg_cok7 (by decide +kernel) rfl (by decide +kernel) rg_wf_M_92) <|
  rg_fc (rg_ok_ireturn (by decide +kernel) rfl) <|
  rg_fc (rg_ok_aload_n (j := 0) (by decide +kernel) rfl) <|
  rg_fc (rg_ok_callV (idx := 224) rg_cok7 (by decide +kernel) (by decide +kernel) rg_wm_M_224 rg_wj_149 rg_ws_149 rg_wz_7 rg_wd_149 ⟨by decide +kernel, by decide +kernel, by decide +kernel, by decide +kernel⟩ (by decide +kernel) (by decide +kernel)) <|
  rg_fc (rg_ok_ireturn (by decide +kernel) rfl) <|
  rg_fc (rg_ok_aload_n (j := 0) (by decide +kernel) rfl) <|
  rg_fc (rg_ok_callV (idx := 231) rg_cok7 (by decide +kernel) (by decide +kernel) rg_wm_M_231 rg_wj_154 rg_ws_154 rg_wz_7 rg_wd_154 ⟨by decide +kernel, by decide +kernel, by decide +kernel, by decide +kernel⟩ (by decide +kernel) (by decide +kernel)) <|
  rg_fc (rg_ok_ireturn (by decide +kernel) rfl) <|
  rg_fc (rg_ok_iconst (n := (-1)) (by decide +kernel) (by decide +kernel)) <|
  rg_fc (rg_ok_ireturn (by decide +kernel) rfl) <|
  fun _ h => absurd h List.not_mem_nil
def rg_kd155 : List (List (Nat × rg_S)) := [rg_c155_0]
theorem rg_o155 : ∀ pc f, rg_lk2 rg_kd155 pc = some f → rg_Ok 155 pc f := rg_lk2_ok (rg_fd rg_o155_0 (fun _ h => absurd h List.not_mem_nil))

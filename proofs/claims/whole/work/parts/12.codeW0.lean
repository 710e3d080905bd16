def rg_c0_0 : List (Nat × rg_S) := [(0, rg_sal 0 1), (1, rg_sob), (4, rg_sal 0 1), (5, rg_sic 4 1), (6, rg_sna 9 2), (8, rg_spr 5 0), (11, rg_rv)]
theorem rg_o0_0 : ∀ q ∈ rg_c0_0, rg_Ok 0 q.1 q.2 :=
  rg_fc (rg_ok_aload_n (j := 0) (by decide +kernel) rfl) <|
  rg_fc (rg_ok_objinit (idx := 1) (by decide +kernel) rg_wm_W_1 rg_wo_1 rg_wo_2 (by decide +kernel) (by decide +kernel)) <|
  rg_fc (rg_ok_aload_n (j := 0) (by decide +kernel) rfl) <|
  rg_fc (rg_ok_iconst (n := 4) (by decide +kernel) (by decide +kernel)) <|
  rg_fc (rg_ok_newa (at0 := .int) (t := 0) (by decide +kernel) rfl rg_wa_int (Or.inl ⟨rfl, rfl, rfl⟩)) <|
  rg_fc (rg_ok_putr (idx := 9) rg_cok5 (by decide +kernel) rfl (fun _ => ⟨rfl, rfl⟩) (Or.inl rfl) (by decide +kernel) rg_wf_W_9) <|
  rg_fc (rg_ok_return (by decide +kernel) rfl) <|
  fun _ h => absurd h List.not_mem_nil
def rg_kd0 : List (List (Nat × rg_S)) := [rg_c0_0]
theorem rg_o0 : ∀ pc f, rg_lk2 rg_kd0 pc = some f → rg_Ok 0 pc f := rg_lk2_ok (rg_fd rg_o0_0 (fun _ h => absurd h List.not_mem_nil))
def rg_c2_0 : List (Nat × rg_S) := [(0, rg_sil 1 1), (1, rg_sis 2 1), (2, rg_sK [true, false, true] (rg_sil 2 1)), (3, rg_sjle 23), (6, rg_sal 0 1), (7, rg_sgr 5 0), (10, rg_sil 2 1), (11, rg_sic 1 1), (12, rg_s2i (fun x y => x - y)), (13, rg_sai), (14, rg_sjne 23), (17, rg_sin 2 (-1)), (20, rg_sgo 2), (23, rg_sK [true, false, true] (rg_sal 0 1)), (24, rg_sil 2 1), (25, rg_spi 5 1), (28, rg_sil 2 1), (29, rg_sjne 37), (32, rg_sal 0 1), (33, rg_sic 0 1), (34, rg_spz 5 2), (37, rg_sK [false, false, false] (rg_rv))]
theorem rg_o2_0 : ∀ q ∈ rg_c2_0, rg_Ok 2 q.1 q.2 :=
  rg_fc (rg_ok_iload_n (j := 1) (by decide +kernel) rfl) <|
  rg_fc (rg_ok_istore_n (j := 2) (by decide +kernel) rfl (by decide +kernel)) <|
  rg_fc (rg_okK _ (rg_ok_iload_n (j := 2) (by decide +kernel) rfl)) <|
  rg_fc (rg_ok_if_le (off := 20) (by decide +kernel) (by decide +kernel)) <|
  rg_fc (rg_ok_aload_n (j := 0) (by decide +kernel) rfl) <|
  rg_fc (rg_ok_getr (idx := 9) rg_cok5 (by decide +kernel) rfl (by decide +kernel) rg_wf_W_9) <|
  rg_fc (rg_ok_iload_n (j := 2) (by decide +kernel) rfl) <|
  rg_fc (rg_ok_iconst (n := 1) (by decide +kernel) (by decide +kernel)) <|
  rg_fc (rg_ok_isub (by decide +kernel)) <|
  rg_fc (rg_ok_iaload (by decide +kernel)) <|
  rg_fc (rg_ok_if_ne (off := 9) (by decide +kernel) (by decide +kernel)) <|
  rg_fc (rg_ok_iinc (n := (-1)) (by decide +kernel) (by decide +kernel) (by decide +kernel)) <|
  rg_fc (rg_ok_goto (off := (-18)) (by decide +kernel) (by decide +kernel)) <|
  rg_fc (rg_okK _ (rg_ok_aload_n (j := 0) (by decide +kernel) rfl)) <|
  rg_fc (rg_ok_iload_n (j := 2) (by decide +kernel) rfl) <|
  rg_fc (rg_ok_puti (idx := 13) rg_cok5 (by decide +kernel) rfl rfl rfl (by decide +kernel) rg_wf_W_13) <|
  rg_fc (rg_ok_iload_n (j := 2) (by decide +kernel) rfl) <|
  rg_fc (rg_ok_if_ne (off := 8) (by decide +kernel) (by decide +kernel)) <|
  rg_fc (rg_ok_aload_n (j := 0) (by decide +kernel) rfl) <|
  rg_fc (rg_ok_iconst (n := 0) (by decide +kernel) (by decide +kernel)) <|
  rg_fc (rg_ok_putz (idx := 17) rg_cok5 (by decide +kernel) rfl rfl rfl (by decide +kernel) rg_wf_W_17) <|
  rg_fc (rg_okK _ (rg_ok_return (by decide +kernel) rfl)) <|
  fun _ h => absurd h List.not_mem_nil
def rg_kd2 : List (List (Nat × rg_S)) := [rg_c2_0]
theorem rg_o2 : ∀ pc f, rg_lk2 rg_kd2 pc = some f → rg_Ok 2 pc f := rg_lk2_ok (rg_fd rg_o2_0 (fun _ h => absurd h List.not_mem_nil))
def rg_c3_0 : List (Nat × rg_S) := [(0, rg_sll 1 1), (1, rg_slc 0 1), (2, rg_scm), (3, rg_sjge 11), (6, rg_sll 1 1), (7, rg_s1l (fun x => -x)), (8, rg_sgo 12), (11, rg_sll 1 1), (12, rg_sK [true, true, false, false, false, false] (rg_sls 3 1)), (13, rg_sic 0 1), (14, rg_sis 5 2), (16, rg_sK [true, true, false, true, false, true] (rg_sil 5 2)), (18, rg_sic 3 1), (19, rg_skge 46), (22, rg_sal 0 1), (23, rg_sgr 5 0), (26, rg_sil 5 2), (28, rg_sll 3 1), (29, rg_slc 2147483647 3), (32, rg_s2l (fun x y => x &&& y)), (33, rg_sl2i), (34, rg_swi), (35, rg_sll 3 1), (36, rg_sic 31 2), (38, rg_ssh (fun x y => (x.toUInt64 >>> (y.toInt64.toUInt64 &&& Int64.toUInt64 63)).toInt64))]
theorem rg_o3_0 : ∀ q ∈ rg_c3_0, rg_Ok 3 q.1 q.2 :=
  rg_fc (rg_ok_lload_n (j := 1) (by decide +kernel) rfl) <|
  rg_fc (rg_ok_lconst (n := 0) (by decide +kernel) (by decide +kernel)) <|
  rg_fc (rg_ok_lcmp (by decide +kernel)) <|
  rg_fc (rg_ok_if_ge (off := 8) (by decide +kernel) (by decide +kernel)) <|
  rg_fc (rg_ok_lload_n (j := 1) (by decide +kernel) rfl) <|
  rg_fc (rg_ok_lneg (by decide +kernel)) <|
  rg_fc (rg_ok_goto (off := 4) (by decide +kernel) (by decide +kernel)) <|
  rg_fc (rg_ok_lload_n (j := 1) (by decide +kernel) rfl) <|
  rg_fc (rg_okK _ (rg_ok_lstore_n (j := 3) (by decide +kernel) rfl (by decide +kernel))) <|
  rg_fc (rg_ok_iconst (n := 0) (by decide +kernel) (by decide +kernel)) <|
  rg_fc (rg_ok_istore (i := 5) (by decide +kernel) (by decide +kernel)) <|
  rg_fc (rg_okK _ (rg_ok_iload (i := 5) (by decide +kernel))) <|
  rg_fc (rg_ok_iconst (n := 3) (by decide +kernel) (by decide +kernel)) <|
  rg_fc (rg_ok_icmp_ge (off := 27) (by decide +kernel) (by decide +kernel)) <|
  rg_fc (rg_ok_aload_n (j := 0) (by decide +kernel) rfl) <|
  rg_fc (rg_ok_getr (idx := 9) rg_cok5 (by decide +kernel) rfl (by decide +kernel) rg_wf_W_9) <|
  rg_fc (rg_ok_iload (i := 5) (by decide +kernel)) <|
  rg_fc (rg_ok_lload_n (j := 3) (by decide +kernel) rfl) <|
  rg_fc (rg_ok_ldc2 (n := 21) (by decide +kernel) rg_wc_W_21) <|
  rg_fc (rg_ok_land (by decide +kernel)) <|
  rg_fc (rg_ok_l2i (by decide +kernel)) <|
  rg_fc (rg_ok_iastore (by decide +kernel)) <|
  rg_fc (rg_ok_lload_n (j := 3) (by decide +kernel) rfl) <|
  rg_fc (rg_ok_bipush (n := 31) (by decide +kernel) (by decide +kernel)) <|
  rg_fc (rg_ok_lushr (by decide +kernel)) <|
  fun _ h => absurd h List.not_mem_nil
def rg_c3_1 : List (Nat × rg_S) := [(39, rg_sls 3 1), (40, rg_sin 5 1), (43, rg_sgo 16), (46, rg_sal 0 1), (47, rg_sll 1 1), (48, rg_slc 0 1), (49, rg_scm), (50, rg_sjge 57), (53, rg_sic 1 1), (54, rg_sgo 58), (57, rg_sic 0 1), (58, rg_sK [true, false, false, false, false, false] (rg_spz 5 2)), (61, rg_sal 0 1), (62, rg_sic 3 1), (63, rg_scV 2 1 0 5), (66, rg_rv)]
theorem rg_o3_1 : ∀ q ∈ rg_c3_1, rg_Ok 3 q.1 q.2 :=
  rg_fc (rg_ok_lstore_n (j := 3) (by decide +kernel) rfl (by decide +kernel)) <|
  rg_fc (rg_ok_iinc (n := 1) (by decide +kernel) (by decide +kernel) (by decide +kernel)) <|
  rg_fc (rg_ok_goto (off := (-27)) (by decide +kernel) (by decide +kernel)) <|
  rg_fc (rg_ok_aload_n (j := 0) (by decide +kernel) rfl) <|
  rg_fc (rg_ok_lload_n (j := 1) (by decide +kernel) rfl) <|
  rg_fc (rg_ok_lconst (n := 0) (by decide +kernel) (by decide +kernel)) <|
  rg_fc (rg_ok_lcmp (by decide +kernel)) <|
  rg_fc (rg_ok_if_ge (off := 7) (by decide +kernel) (by decide +kernel)) <|
  rg_fc (rg_ok_iconst (n := 1) (by decide +kernel) (by decide +kernel)) <|
  rg_fc (rg_ok_goto (off := 4) (by decide +kernel) (by decide +kernel)) <|
  rg_fc (rg_ok_iconst (n := 0) (by decide +kernel) (by decide +kernel)) <|
  rg_fc (rg_okK _ (rg_ok_putz (idx := 17) rg_cok5 (by decide +kernel) rfl rfl rfl (by decide +kernel) rg_wf_W_17)) <|
  rg_fc (rg_ok_aload_n (j := 0) (by decide +kernel) rfl) <|
  rg_fc (rg_ok_iconst (n := 3) (by decide +kernel) (by decide +kernel)) <|
  rg_fc (rg_ok_callV (idx := 23) rg_cok5 (by decide +kernel) (by decide +kernel) rg_wm_W_23 rg_wj_2 rg_ws_2 rg_wz_5 rg_wd_2 ⟨by decide +kernel, by decide +kernel, by decide +kernel, by decide +kernel⟩ (by decide +kernel) (by decide +kernel)) <|
  rg_fc (rg_ok_return (by decide +kernel) rfl) <|
  fun _ h => absurd h List.not_mem_nil
def rg_kd3 : List (List (Nat × rg_S)) := [rg_c3_0, rg_c3_1]
theorem rg_o3 : ∀ pc f, rg_lk2 rg_kd3 pc = some f → rg_Ok 3 pc f := rg_lk2_ok (rg_fd rg_o3_0 (rg_fd rg_o3_1 (fun _ h => absurd h List.not_mem_nil)))
def rg_c30_0 : List (Nat × rg_S) := [(0, rg_sal 0 1), (1, rg_sgi 5 1), (4, rg_sjne 9), (7, rg_sic 0 1), (8, rg_ri), (9, rg_sal 0 1), (10, rg_sgi 5 2), (13, rg_sjeq 20), (16, rg_sic (-1) 1), (17, rg_sgo 21), (20, rg_sic 1 1), (21, rg_sK [false] (rg_ri))]
theorem rg_o30_0 : ∀ q ∈ rg_c30_0, rg_Ok 30 q.1 q.2 :=
  rg_fc (rg_ok_aload_n (j := 0) (by decide +kernel) rfl) <|
  rg_fc (rg_ok_geti (idx := 13) rg_cok5 (by decide +kernel) rfl (by decide +kernel) rg_wf_W_13) <|
  rg_fc (rg_ok_if_ne (off := 5) (by decide +kernel) (by decide +kernel)) <|
  rg_fc (rg_ok_iconst (n := 0) (by decide +kernel) (by decide +kernel)) <|
  rg_fc (rg_ok_ireturn (by decide +kernel) rfl) <|
  rg_fc (rg_ok_aload_n (j := 0) (by decide +kernel) rfl) <|
  rg_fc (rg_ok_geti (idx := 17) rg_cok5 (by decide +kernel) rfl (by decide +kernel) rg_wf_W_17) <|
  rg_fc (rg_ok_if_eq (off := 7) (by decide +kernel) (by decide +kernel)) <|
  rg_fc (rg_ok_iconst (n := (-1)) (by decide +kernel) (by decide +kernel)) <|
  rg_fc (rg_ok_goto (off := 4) (by decide +kernel) (by decide +kernel)) <|
  rg_fc (rg_ok_iconst (n := 1) (by decide +kernel) (by decide +kernel)) <|
  rg_fc (rg_okK _ (rg_ok_ireturn (by decide +kernel) rfl)) <|
  fun _ h => absurd h List.not_mem_nil
def rg_kd30 : List (List (Nat × rg_S)) := [rg_c30_0]
theorem rg_o30 : ∀ pc f, rg_lk2 rg_kd30 pc = some f → rg_Ok 30 pc f := rg_lk2_ok (rg_fd rg_o30_0 (fun _ h => absurd h List.not_mem_nil))
def rg_c31_0 : List (Nat × rg_S) := [(0, rg_sal 0 1), (1, rg_sgi 5 1), (4, rg_sic 1 1), (5, rg_skne 22), (8, rg_sal 0 1), (9, rg_sgr 5 0), (12, rg_sic 0 1), (13, rg_sai), (14, rg_sic 1 1), (15, rg_skne 22), (18, rg_sic 1 1), (19, rg_sgo 23), (22, rg_sK [false] (rg_sic 0 1)), (23, rg_sK [false] (rg_rz))]
theorem rg_o31_0 : ∀ q ∈ rg_c31_0, rg_Ok 31 q.1 q.2 :=
  rg_fc (rg_ok_aload_n (j := 0) (by decide +kernel) rfl) <|
  rg_fc (rg_ok_geti (idx := 13) rg_cok5 (by decide +kernel) rfl (by decide +kernel) rg_wf_W_13) <|
  rg_fc (rg_ok_iconst (n := 1) (by decide +kernel) (by decide +kernel)) <|
  rg_fc (rg_ok_icmp_ne (off := 17) (by decide +kernel) (by decide +kernel)) <|
  rg_fc (rg_ok_aload_n (j := 0) (by decide +kernel) rfl) <|
  rg_fc (rg_ok_getr (idx := 9) rg_cok5 (by decide +kernel) rfl (by decide +kernel) rg_wf_W_9) <|
  rg_fc (rg_ok_iconst (n := 0) (by decide +kernel) (by decide +kernel)) <|
  rg_fc (rg_ok_iaload (by decide +kernel)) <|
  rg_fc (rg_ok_iconst (n := 1) (by decide +kernel) (by decide +kernel)) <|
  rg_fc (rg_ok_icmp_ne (off := 7) (by decide +kernel) (by decide +kernel)) <|
  rg_fc (rg_ok_iconst (n := 1) (by decide +kernel) (by decide +kernel)) <|
  rg_fc (rg_ok_goto (off := 4) (by decide +kernel) (by decide +kernel)) <|
  rg_fc (rg_okK _ (rg_ok_iconst (n := 0) (by decide +kernel) (by decide +kernel))) <|
  rg_fc (rg_okK _ (rg_ok_zreturn (by decide +kernel) rfl)) <|
  fun _ h => absurd h List.not_mem_nil
def rg_kd31 : List (List (Nat × rg_S)) := [rg_c31_0]
theorem rg_o31 : ∀ pc f, rg_lk2 rg_kd31 pc = some f → rg_Ok 31 pc f := rg_lk2_ok (rg_fd rg_o31_0 (fun _ h => absurd h List.not_mem_nil))
def rg_c32_0 : List (Nat × rg_S) := [(0, rg_sal 0 1), (1, rg_sgi 5 1), (4, rg_sjle 17), (7, rg_sal 0 1), (8, rg_sgr 5 0), (11, rg_sic 0 1), (12, rg_sai), (13, rg_si2l), (14, rg_sgo 18), (17, rg_slc 0 1), (18, rg_sK [true, false, false, false, false] (rg_sls 1 1)), (19, rg_sal 0 1), (20, rg_sgi 5 1), (23, rg_sic 1 1), (24, rg_skle 37), (27, rg_sal 0 1), (28, rg_sgr 5 0), (31, rg_sic 1 1), (32, rg_sai), (33, rg_si2l), (34, rg_sgo 38), (37, rg_slc 0 1), (38, rg_sK [false, true, false, false, false] (rg_sls 3 1)), (39, rg_sll 3 1), (40, rg_sic 31 2)]
theorem rg_o32_0 : ∀ q ∈ rg_c32_0, rg_Ok 32 q.1 q.2 :=
  rg_fc (rg_ok_aload_n (j := 0) (by decide +kernel) rfl) <|
  rg_fc (rg_ok_geti (idx := 13) rg_cok5 (by decide +kernel) rfl (by decide +kernel) rg_wf_W_13) <|
  rg_fc (rg_ok_if_le (off := 13) (by decide +kernel) (by decide +kernel)) <|
  rg_fc (rg_ok_aload_n (j := 0) (by decide +kernel) rfl) <|
  rg_fc (rg_ok_getr (idx := 9) rg_cok5 (by decide +kernel) rfl (by decide +kernel) rg_wf_W_9) <|
  rg_fc (rg_ok_iconst (n := 0) (by decide +kernel) (by decide +kernel)) <|
  rg_fc (rg_ok_iaload (by decide +kernel)) <|
  rg_fc (rg_ok_i2l (by decide +kernel)) <|
  rg_fc (rg_ok_goto (off := 4) (by decide +kernel) (by decide +kernel)) <|
  rg_fc (rg_ok_lconst (n := 0) (by decide +kernel) (by decide +kernel)) <|
  rg_fc (rg_okK _ (rg_ok_lstore_n (j := 1) (by decide +kernel) rfl (by decide +kernel))) <|
  rg_fc (rg_ok_aload_n (j := 0) (by decide +kernel) rfl) <|
  rg_fc (rg_ok_geti (idx := 13) rg_cok5 (by decide +kernel) rfl (by decide +kernel) rg_wf_W_13) <|
  rg_fc (rg_ok_iconst (n := 1) (by decide +kernel) (by decide +kernel)) <|
  rg_fc (rg_ok_icmp_le (off := 13) (by decide +kernel) (by decide +kernel)) <|
  rg_fc (rg_ok_aload_n (j := 0) (by decide +kernel) rfl) <|
  rg_fc (rg_ok_getr (idx := 9) rg_cok5 (by decide +kernel) rfl (by decide +kernel) rg_wf_W_9) <|
  rg_fc (rg_ok_iconst (n := 1) (by decide +kernel) (by decide +kernel)) <|
  rg_fc (rg_ok_iaload (by decide +kernel)) <|
  rg_fc (rg_ok_i2l (by decide +kernel)) <|
  rg_fc (rg_ok_goto (off := 4) (by decide +kernel) (by decide +kernel)) <|
  rg_fc (rg_ok_lconst (n := 0) (by decide +kernel) (by decide +kernel)) <|
  rg_fc (rg_okK _ (rg_ok_lstore_n (j := 3) (by decide +kernel) rfl (by decide +kernel))) <|
  rg_fc (rg_ok_lload_n (j := 3) (by decide +kernel) rfl) <|
  rg_fc (rg_ok_bipush (n := 31) (by decide +kernel) (by decide +kernel)) <|
  fun _ h => absurd h List.not_mem_nil
def rg_c32_1 : List (Nat × rg_S) := [(42, rg_ssh (fun x y => x <<< (y.toInt64 &&& 63))), (43, rg_sll 1 1), (44, rg_s2l (fun x y => x ||| y)), (45, rg_rl)]
theorem rg_o32_1 : ∀ q ∈ rg_c32_1, rg_Ok 32 q.1 q.2 :=
  rg_fc (rg_ok_lshl (by decide +kernel)) <|
  rg_fc (rg_ok_lload_n (j := 1) (by decide +kernel) rfl) <|
  rg_fc (rg_ok_lor (by decide +kernel)) <|
  rg_fc (rg_ok_lreturn (by decide +kernel) rfl) <|
  fun _ h => absurd h List.not_mem_nil
def rg_kd32 : List (List (Nat × rg_S)) := [rg_c32_0, rg_c32_1]
theorem rg_o32 : ∀ pc f, rg_lk2 rg_kd32 pc = some f → rg_Ok 32 pc f := rg_lk2_ok (rg_fd rg_o32_0 (rg_fd rg_o32_1 (fun _ h => absurd h List.not_mem_nil)))
def rg_c34_0 : List (Nat × rg_S) := [(0, rg_sal 0 1), (1, rg_sgi 5 1), (4, rg_sal 1 1), (5, rg_sgi 5 1), (8, rg_skeq 28), (11, rg_sal 0 1), (12, rg_sgi 5 1), (15, rg_sal 1 1), (16, rg_sgi 5 1), (19, rg_skge 26), (22, rg_sic (-1) 1), (23, rg_sgo 27), (26, rg_sic 1 1), (27, rg_sK [false, false, false] (rg_ri)), (28, rg_sal 0 1), (29, rg_sgi 5 1), (32, rg_sic 1 1), (33, rg_s2i (fun x y => x - y)), (34, rg_sis 2 1), (35, rg_sK [true, true, true] (rg_sil 2 1)), (36, rg_sjlt 81), (39, rg_sal 0 1), (40, rg_sgr 5 0), (43, rg_sil 2 1), (44, rg_sai)]
theorem rg_o34_0 : ∀ q ∈ rg_c34_0, rg_Ok 34 q.1 q.2 :=
  rg_fc (rg_ok_aload_n (j := 0) (by decide +kernel) rfl) <|
  rg_fc (rg_ok_geti (idx := 13) rg_cok5 (by decide +kernel) rfl (by decide +kernel) rg_wf_W_13) <|
  rg_fc (rg_ok_aload_n (j := 1) (by decide +kernel) rfl) <|
  rg_fc (rg_ok_geti (idx := 13) rg_cok5 (by decide +kernel) rfl (by decide +kernel) rg_wf_W_13) <|
  rg_fc (rg_ok_icmp_eq (off := 20) (by decide +kernel) (by decide +kernel)) <|
  rg_fc (rg_ok_aload_n (j := 0) (by decide +kernel) rfl) <|
  rg_fc (rg_ok_geti (idx := 13) rg_cok5 (by decide +kernel) rfl (by decide +kernel) rg_wf_W_13) <|
  rg_fc (rg_ok_aload_n (j := 1) (by decide +kernel) rfl) <|
  rg_fc (rg_ok_geti (idx := 13) rg_cok5 (by decide +kernel) rfl (by decide +kernel) rg_wf_W_13) <|
  rg_fc (rg_ok_icmp_ge (off := 7) (by decide +kernel) (by decide +kernel)) <|
  rg_fc (rg_ok_iconst (n := (-1)) (by decide +kernel) (by decide +kernel)) <|
  rg_fc (rg_ok_goto (off := 4) (by decide +kernel) (by decide +kernel)) <|
  rg_fc (rg_ok_iconst (n := 1) (by decide +kernel) (by decide +kernel)) <|
  rg_fc (rg_okK _ (rg_ok_ireturn (by decide +kernel) rfl)) <|
  rg_fc (rg_ok_aload_n (j := 0) (by decide +kernel) rfl) <|
  rg_fc (rg_ok_geti (idx := 13) rg_cok5 (by decide +kernel) rfl (by decide +kernel) rg_wf_W_13) <|
  rg_fc (rg_ok_iconst (n := 1) (by decide +kernel) (by decide +kernel)) <|
  rg_fc (rg_ok_isub (by decide +kernel)) <|
  rg_fc (rg_ok_istore_n (j := 2) (by decide +kernel) rfl (by decide +kernel)) <|
  rg_fc (rg_okK _ (rg_ok_iload_n (j := 2) (by decide +kernel) rfl)) <|
  rg_fc (rg_ok_if_lt (off := 45) (by decide +kernel) (by decide +kernel)) <|
  rg_fc (rg_ok_aload_n (j := 0) (by decide +kernel) rfl) <|
  rg_fc (rg_ok_getr (idx := 9) rg_cok5 (by decide +kernel) rfl (by decide +kernel) rg_wf_W_9) <|
  rg_fc (rg_ok_iload_n (j := 2) (by decide +kernel) rfl) <|
  rg_fc (rg_ok_iaload (by decide +kernel)) <|
  fun _ h => absurd h List.not_mem_nil
def rg_c34_1 : List (Nat × rg_S) := [(45, rg_sal 1 1), (46, rg_sgr 5 0), (49, rg_sil 2 1), (50, rg_sai), (51, rg_skeq 75), (54, rg_sal 0 1), (55, rg_sgr 5 0), (58, rg_sil 2 1), (59, rg_sai), (60, rg_sal 1 1), (61, rg_sgr 5 0), (64, rg_sil 2 1), (65, rg_sai), (66, rg_skge 73), (69, rg_sic (-1) 1), (70, rg_sgo 74), (73, rg_sic 1 1), (74, rg_sK [false, false, false] (rg_ri)), (75, rg_sin 2 (-1)), (78, rg_sgo 35), (81, rg_sic 0 1), (82, rg_ri)]
theorem rg_o34_1 : ∀ q ∈ rg_c34_1, rg_Ok 34 q.1 q.2 :=
  rg_fc (rg_ok_aload_n (j := 1) (by decide +kernel) rfl) <|
  rg_fc (rg_ok_getr (idx := 9) rg_cok5 (by decide +kernel) rfl (by decide +kernel) rg_wf_W_9) <|
  rg_fc (rg_ok_iload_n (j := 2) (by decide +kernel) rfl) <|
  rg_fc (rg_ok_iaload (by decide +kernel)) <|
  rg_fc (rg_ok_icmp_eq (off := 24) (by decide +kernel) (by decide +kernel)) <|
  rg_fc (rg_ok_aload_n (j := 0) (by decide +kernel) rfl) <|
  rg_fc (rg_ok_getr (idx := 9) rg_cok5 (by decide +kernel) rfl (by decide +kernel) rg_wf_W_9) <|
  rg_fc (rg_ok_iload_n (j := 2) (by decide +kernel) rfl) <|
  rg_fc (rg_ok_iaload (by decide +kernel)) <|
  rg_fc (rg_ok_aload_n (j := 1) (by decide +kernel) rfl) <|
  rg_fc (rg_ok_getr (idx := 9) rg_cok5 (by decide +kernel) rfl (by decide +kernel) rg_wf_W_9) <|
  rg_fc (rg_ok_iload_n (j := 2) (by decide +kernel) rfl) <|
  rg_fc (rg_ok_iaload (by decide +kernel)) <|
  rg_fc (rg_ok_icmp_ge (off := 7) (by decide +kernel) (by decide +kernel)) <|
  rg_fc (rg_ok_iconst (n := (-1)) (by decide +kernel) (by decide +kernel)) <|
  rg_fc (rg_ok_goto (off := 4) (by decide +kernel) (by decide +kernel)) <|
  rg_fc (rg_ok_iconst (n := 1) (by decide +kernel) (by decide +kernel)) <|
  rg_fc (rg_okK _ (rg_ok_ireturn (by decide +kernel) rfl)) <|
  rg_fc (rg_ok_iinc (n := (-1)) (by decide +kernel) (by decide +kernel) (by decide +kernel)) <|
  rg_fc (rg_ok_goto (off := (-43)) (by decide +kernel) (by decide +kernel)) <|
  rg_fc (rg_ok_iconst (n := 0) (by decide +kernel) (by decide +kernel)) <|
  rg_fc (rg_ok_ireturn (by decide +kernel) rfl) <|
  fun _ h => absurd h List.not_mem_nil
def rg_kd34 : List (List (Nat × rg_S)) := [rg_c34_0, rg_c34_1]
theorem rg_o34 : ∀ pc f, rg_lk2 rg_kd34 pc = some f → rg_Ok 34 pc f := rg_lk2_ok (rg_fd rg_o34_0 (rg_fd rg_o34_1 (fun _ h => absurd h List.not_mem_nil)))
def rg_c35_0 : List (Nat × rg_S) := [(0, rg_sil 1 1), (1, rg_sal 0 1), (2, rg_sgr 5 0), (5, rg_sln), (6, rg_skgt 10), (9, rg_rv), (10, rg_sil 1 1), (11, rg_sil 1 1), (12, rg_sic 1 1), (13, rg_s2i (fun x y => x >>> (y &&& 31))), (14, rg_s2i (fun x y => x + y)), (15, rg_sna 9 2), (17, rg_sas 2 1), (18, rg_sic 0 1), (19, rg_sis 3 1), (20, rg_sK [true, false, true, true] (rg_sil 3 1)), (21, rg_sal 0 1), (22, rg_sgr 5 0), (25, rg_sln), (26, rg_skge 44), (29, rg_sal 2 1), (30, rg_sil 3 1), (31, rg_sal 0 1), (32, rg_sgr 5 0), (35, rg_sil 3 1)]
theorem rg_o35_0 : ∀ q ∈ rg_c35_0, rg_Ok 35 q.1 q.2 :=
  rg_fc (rg_ok_iload_n (j := 1) (by decide +kernel) rfl) <|
  rg_fc (rg_ok_aload_n (j := 0) (by decide +kernel) rfl) <|
  rg_fc (rg_ok_getr (idx := 9) rg_cok5 (by decide +kernel) rfl (by decide +kernel) rg_wf_W_9) <|
  rg_fc (rg_ok_alen (by decide +kernel)) <|
  rg_fc (rg_ok_icmp_gt (off := 4) (by decide +kernel) (by decide +kernel)) <|
  rg_fc (rg_ok_return (by decide +kernel) rfl) <|
  rg_fc (rg_ok_iload_n (j := 1) (by decide +kernel) rfl) <|
  rg_fc (rg_ok_iload_n (j := 1) (by decide +kernel) rfl) <|
  rg_fc (rg_ok_iconst (n := 1) (by decide +kernel) (by decide +kernel)) <|
  rg_fc (rg_ok_ishr (by decide +kernel)) <|
  rg_fc (rg_ok_iadd (by decide +kernel)) <|
  rg_fc (rg_ok_newa (at0 := .int) (t := 0) (by decide +kernel) rfl rg_wa_int (Or.inl ⟨rfl, rfl, rfl⟩)) <|
  rg_fc (rg_ok_astore_n (j := 2) (by decide +kernel) rfl (by decide +kernel)) <|
  rg_fc (rg_ok_iconst (n := 0) (by decide +kernel) (by decide +kernel)) <|
  rg_fc (rg_ok_istore_n (j := 3) (by decide +kernel) rfl (by decide +kernel)) <|
  rg_fc (rg_okK _ (rg_ok_iload_n (j := 3) (by decide +kernel) rfl)) <|
  rg_fc (rg_ok_aload_n (j := 0) (by decide +kernel) rfl) <|
  rg_fc (rg_ok_getr (idx := 9) rg_cok5 (by decide +kernel) rfl (by decide +kernel) rg_wf_W_9) <|
  rg_fc (rg_ok_alen (by decide +kernel)) <|
  rg_fc (rg_ok_icmp_ge (off := 18) (by decide +kernel) (by decide +kernel)) <|
  rg_fc (rg_ok_aload_n (j := 2) (by decide +kernel) rfl) <|
  rg_fc (rg_ok_iload_n (j := 3) (by decide +kernel) rfl) <|
  rg_fc (rg_ok_aload_n (j := 0) (by decide +kernel) rfl) <|
  rg_fc (rg_ok_getr (idx := 9) rg_cok5 (by decide +kernel) rfl (by decide +kernel) rg_wf_W_9) <|
  rg_fc (rg_ok_iload_n (j := 3) (by decide +kernel) rfl) <|
  fun _ h => absurd h List.not_mem_nil
def rg_c35_1 : List (Nat × rg_S) := [(36, rg_sai), (37, rg_swi), (38, rg_sin 3 1), (41, rg_sgo 20), (44, rg_sal 0 1), (45, rg_sal 2 1), (46, rg_spr 5 0), (49, rg_rv)]
theorem rg_o35_1 : ∀ q ∈ rg_c35_1, rg_Ok 35 q.1 q.2 :=
  rg_fc (rg_ok_iaload (by decide +kernel)) <|
  rg_fc (rg_ok_iastore (by decide +kernel)) <|
  rg_fc (rg_ok_iinc (n := 1) (by decide +kernel) (by decide +kernel) (by decide +kernel)) <|
  rg_fc (rg_ok_goto (off := (-21)) (by decide +kernel) (by decide +kernel)) <|
  rg_fc (rg_ok_aload_n (j := 0) (by decide +kernel) rfl) <|
  rg_fc (rg_ok_aload_n (j := 2) (by decide +kernel) rfl) <|
  rg_fc (rg_ok_putr (idx := 9) rg_cok5 (by decide +kernel) rfl (fun _ => ⟨rfl, rfl⟩) (Or.inl rfl) (by decide +kernel) rg_wf_W_9) <|
  rg_fc (rg_ok_return (by decide +kernel) rfl) <|
  fun _ h => absurd h List.not_mem_nil
def rg_kd35 : List (List (Nat × rg_S)) := [rg_c35_0, rg_c35_1]
theorem rg_o35 : ∀ pc f, rg_lk2 rg_kd35 pc = some f → rg_Ok 35 pc f := rg_lk2_ok (rg_fd rg_o35_0 (rg_fd rg_o35_1 (fun _ h => absurd h List.not_mem_nil)))
def rg_c36_0 : List (Nat × rg_S) := [(0, rg_sal 0 1), (1, rg_sal 1 1), (2, rg_sgi 5 1), (5, rg_scV 35 1 0 5), (8, rg_sic 0 1), (9, rg_sis 2 1), (10, rg_sK [true, true, true] (rg_sil 2 1)), (11, rg_sal 1 1), (12, rg_sgi 5 1), (15, rg_skge 36), (18, rg_sal 0 1), (19, rg_sgr 5 0), (22, rg_sil 2 1), (23, rg_sal 1 1), (24, rg_sgr 5 0), (27, rg_sil 2 1), (28, rg_sai), (29, rg_swi), (30, rg_sin 2 1), (33, rg_sgo 10), (36, rg_sal 0 1), (37, rg_sal 1 1), (38, rg_sgi 5 1), (41, rg_spi 5 1), (44, rg_sal 0 1)]
theorem rg_o36_0 : ∀ q ∈ rg_c36_0, rg_Ok 36 q.1 q.2 :=
  rg_fc (rg_ok_aload_n (j := 0) (by decide +kernel) rfl) <|
  rg_fc (rg_ok_aload_n (j := 1) (by decide +kernel) rfl) <|
  rg_fc (rg_ok_geti (idx := 13) rg_cok5 (by decide +kernel) rfl (by decide +kernel) rg_wf_W_13) <|
  rg_fc (rg_ok_callV (idx := 27) rg_cok5 (by decide +kernel) (by decide +kernel) rg_wm_W_27 rg_wj_35 rg_ws_35 rg_wz_5 rg_wd_35 ⟨by decide +kernel, by decide +kernel, by decide +kernel, by decide +kernel⟩ (by decide +kernel) (by decide +kernel)) <|
  rg_fc (rg_ok_iconst (n := 0) (by decide +kernel) (by decide +kernel)) <|
  rg_fc (rg_ok_istore_n (j := 2) (by decide +kernel) rfl (by decide +kernel)) <|
  rg_fc (rg_okK _ (rg_ok_iload_n (j := 2) (by decide +kernel) rfl)) <|
  rg_fc (rg_ok_aload_n (j := 1) (by decide +kernel) rfl) <|
  rg_fc (rg_ok_geti (idx := 13) rg_cok5 (by decide +kernel) rfl (by decide +kernel) rg_wf_W_13) <|
  rg_fc (rg_ok_icmp_ge (off := 21) (by decide +kernel) (by decide +kernel)) <|
  rg_fc (rg_ok_aload_n (j := 0) (by decide +kernel) rfl) <|
  rg_fc (rg_ok_getr (idx := 9) rg_cok5 (by decide +kernel) rfl (by decide +kernel) rg_wf_W_9) <|
  rg_fc (rg_ok_iload_n (j := 2) (by decide +kernel) rfl) <|
  rg_fc (rg_ok_aload_n (j := 1) (by decide +kernel) rfl) <|
  rg_fc (rg_ok_getr (idx := 9) rg_cok5 (by decide +kernel) rfl (by decide +kernel) rg_wf_W_9) <|
  rg_fc (rg_ok_iload_n (j := 2) (by decide +kernel) rfl) <|
  rg_fc (rg_ok_iaload (by decide +kernel)) <|
  rg_fc (rg_ok_iastore (by decide +kernel)) <|
  rg_fc (rg_ok_iinc (n := 1) (by decide +kernel) (by decide +kernel) (by decide +kernel)) <|
  rg_fc (rg_ok_goto (off := (-23)) (by decide +kernel) (by decide +kernel)) <|
  rg_fc (rg_ok_aload_n (j := 0) (by decide +kernel) rfl) <|
  rg_fc (rg_ok_aload_n (j := 1) (by decide +kernel) rfl) <|
  rg_fc (rg_ok_geti (idx := 13) rg_cok5 (by decide +kernel) rfl (by decide +kernel) rg_wf_W_13) <|
  rg_fc (rg_ok_puti (idx := 13) rg_cok5 (by decide +kernel) rfl rfl rfl (by decide +kernel) rg_wf_W_13) <|
  rg_fc (rg_ok_aload_n (j := 0) (by decide +kernel) rfl) <|
  fun _ h => absurd h List.not_mem_nil
def rg_c36_1 : List (Nat × rg_S) := [(45, rg_sal 1 1), (46, rg_sgi 5 2), (49, rg_spz 5 2), (52, rg_rv)]
theorem rg_o36_1 : ∀ q ∈ rg_c36_1, rg_Ok 36 q.1 q.2 :=
  rg_fc (rg_ok_aload_n (j := 1) (by decide +kernel) rfl) <|
  rg_fc (rg_ok_geti (idx := 17) rg_cok5 (by decide +kernel) rfl (by decide +kernel) rg_wf_W_17) <|
  rg_fc (rg_ok_putz (idx := 17) rg_cok5 (by decide +kernel) rfl rfl rfl (by decide +kernel) rg_wf_W_17) <|
  rg_fc (rg_ok_return (by decide +kernel) rfl) <|
  fun _ h => absurd h List.not_mem_nil
def rg_kd36 : List (List (Nat × rg_S)) := [rg_c36_0, rg_c36_1]
theorem rg_o36 : ∀ pc f, rg_lk2 rg_kd36 pc = some f → rg_Ok 36 pc f := rg_lk2_ok (rg_fd rg_o36_0 (rg_fd rg_o36_1 (fun _ h => absurd h List.not_mem_nil)))
def rg_c42_0 : List (Nat × rg_S) := [(0, rg_sal 0 1), (1, rg_sic 0 1), (2, rg_spi 5 1), (5, rg_sal 0 1), (6, rg_sic 0 1), (7, rg_spz 5 2), (10, rg_rv)]
theorem rg_o42_0 : ∀ q ∈ rg_c42_0, rg_Ok 42 q.1 q.2 :=
  rg_fc (rg_ok_aload_n (j := 0) (by decide +kernel) rfl) <|
  rg_fc (rg_ok_iconst (n := 0) (by decide +kernel) (by decide +kernel)) <|
  rg_fc (rg_ok_puti (idx := 13) rg_cok5 (by decide +kernel) rfl rfl rfl (by decide +kernel) rg_wf_W_13) <|
  rg_fc (rg_ok_aload_n (j := 0) (by decide +kernel) rfl) <|
  rg_fc (rg_ok_iconst (n := 0) (by decide +kernel) (by decide +kernel)) <|
  rg_fc (rg_ok_putz (idx := 17) rg_cok5 (by decide +kernel) rfl rfl rfl (by decide +kernel) rg_wf_W_17) <|
  rg_fc (rg_ok_return (by decide +kernel) rfl) <|
  fun _ h => absurd h List.not_mem_nil
def rg_kd42 : List (List (Nat × rg_S)) := [rg_c42_0]
theorem rg_o42 : ∀ pc f, rg_lk2 rg_kd42 pc = some f → rg_Ok 42 pc f := rg_lk2_ok (rg_fd rg_o42_0 (fun _ h => absurd h List.not_mem_nil))
def rg_c49_0 : List (Nat × rg_S) := [(0, rg_sal 1 1), (1, rg_sgi 5 1), (4, rg_sal 2 1), (5, rg_sgi 5 1), (8, rg_s2i (fun x y => x + y)), (9, rg_sis 3 1), (10, rg_sal 0 1), (11, rg_sil 3 1), (12, rg_scV 35 1 0 5), (15, rg_sic 0 1), (16, rg_sis 4 2), (18, rg_sK [true, true, true, true, true, false, false, false, false, false] (rg_sil 4 2)), (20, rg_sil 3 1), (21, rg_skge 38), (24, rg_sal 0 1), (25, rg_sgr 5 0), (28, rg_sil 4 2), (30, rg_sic 0 1), (31, rg_swi), (32, rg_sin 4 1), (35, rg_sgo 18), (38, rg_sic 0 1), (39, rg_sis 4 2), (41, rg_sK [true, true, true, true, true, false, false, false, false, false] (rg_sil 4 2)), (43, rg_sal 1 1)]
theorem rg_o49_0 : ∀ q ∈ rg_c49_0, rg_Ok 49 q.1 q.2 :=
  rg_fc (rg_ok_aload_n (j := 1) (by decide +kernel) rfl) <|
  rg_fc (rg_ok_geti (idx := 13) rg_cok5 (by decide +kernel) rfl (by decide +kernel) rg_wf_W_13) <|
  rg_fc (rg_ok_aload_n (j := 2) (by decide +kernel) rfl) <|
  rg_fc (rg_ok_geti (idx := 13) rg_cok5 (by decide +kernel) rfl (by decide +kernel) rg_wf_W_13) <|
  rg_fc (rg_ok_iadd (by decide +kernel)) <|
  rg_fc (rg_ok_istore_n (j := 3) (by decide +kernel) rfl (by decide +kernel)) <|
  rg_fc (rg_ok_aload_n (j := 0) (by decide +kernel) rfl) <|
  rg_fc (rg_ok_iload_n (j := 3) (by decide +kernel) rfl) <|
  rg_fc (rg_ok_callV (idx := 27) rg_cok5 (by decide +kernel) (by decide +kernel) rg_wm_W_27 rg_wj_35 rg_ws_35 rg_wz_5 rg_wd_35 ⟨by decide +kernel, by decide +kernel, by decide +kernel, by decide +kernel⟩ (by decide +kernel) (by decide +kernel)) <|
  rg_fc (rg_ok_iconst (n := 0) (by decide +kernel) (by decide +kernel)) <|
  rg_fc (rg_ok_istore (i := 4) (by decide +kernel) (by decide +kernel)) <|
  rg_fc (rg_okK _ (rg_ok_iload (i := 4) (by decide +kernel))) <|
  rg_fc (rg_ok_iload_n (j := 3) (by decide +kernel) rfl) <|
  rg_fc (rg_ok_icmp_ge (off := 17) (by decide +kernel) (by decide +kernel)) <|
  rg_fc (rg_ok_aload_n (j := 0) (by decide +kernel) rfl) <|
  rg_fc (rg_ok_getr (idx := 9) rg_cok5 (by decide +kernel) rfl (by decide +kernel) rg_wf_W_9) <|
  rg_fc (rg_ok_iload (i := 4) (by decide +kernel)) <|
  rg_fc (rg_ok_iconst (n := 0) (by decide +kernel) (by decide +kernel)) <|
  rg_fc (rg_ok_iastore (by decide +kernel)) <|
  rg_fc (rg_ok_iinc (n := 1) (by decide +kernel) (by decide +kernel) (by decide +kernel)) <|
  rg_fc (rg_ok_goto (off := (-17)) (by decide +kernel) (by decide +kernel)) <|
  rg_fc (rg_ok_iconst (n := 0) (by decide +kernel) (by decide +kernel)) <|
  rg_fc (rg_ok_istore (i := 4) (by decide +kernel) (by decide +kernel)) <|
  rg_fc (rg_okK _ (rg_ok_iload (i := 4) (by decide +kernel))) <|
  rg_fc (rg_ok_aload_n (j := 1) (by decide +kernel) rfl) <|
  fun _ h => absurd h List.not_mem_nil
def rg_c49_1 : List (Nat × rg_S) := [(44, rg_sgi 5 1), (47, rg_skge 154), (50, rg_sal 1 1), (51, rg_sgr 5 0), (54, rg_sil 4 2), (56, rg_sai), (57, rg_si2l), (58, rg_sls 5 2), (60, rg_slc 0 1), (61, rg_sls 7 2), (63, rg_sic 0 1), (64, rg_sis 9 2), (66, rg_sK [true, true, true, true, true, true, false, true, false, true] (rg_sil 9 2)), (68, rg_sal 2 1), (69, rg_sgi 5 1), (72, rg_skge 133), (75, rg_sll 7 2), (77, rg_sll 5 2), (79, rg_sal 2 1), (80, rg_sgr 5 0), (83, rg_sil 9 2), (85, rg_sai), (86, rg_si2l), (87, rg_s2l (fun x y => x * y)), (88, rg_sal 0 1)]
theorem rg_o49_1 : ∀ q ∈ rg_c49_1, rg_Ok 49 q.1 q.2 :=
  rg_fc (rg_ok_geti (idx := 13) rg_cok5 (by decide +kernel) rfl (by decide +kernel) rg_wf_W_13) <|
  rg_fc (rg_ok_icmp_ge (off := 107) (by decide +kernel) (by decide +kernel)) <|
  rg_fc (rg_ok_aload_n (j := 1) (by decide +kernel) rfl) <|
  rg_fc (rg_ok_getr (idx := 9) rg_cok5 (by decide +kernel) rfl (by decide +kernel) rg_wf_W_9) <|
  rg_fc (rg_ok_iload (i := 4) (by decide +kernel)) <|
  rg_fc (rg_ok_iaload (by decide +kernel)) <|
  rg_fc (rg_ok_i2l (by decide +kernel)) <|
  rg_fc (rg_ok_lstore (i := 5) (by decide +kernel) (by decide +kernel)) <|
  rg_fc (rg_ok_lconst (n := 0) (by decide +kernel) (by decide +kernel)) <|
  rg_fc (rg_ok_lstore (i := 7) (by decide +kernel) (by decide +kernel)) <|
  rg_fc (rg_ok_iconst (n := 0) (by decide +kernel) (by decide +kernel)) <|
  rg_fc (rg_ok_istore (i := 9) (by decide +kernel) (by decide +kernel)) <|
  rg_fc (rg_okK _ (rg_ok_iload (i := 9) (by decide +kernel))) <|
  rg_fc (rg_ok_aload_n (j := 2) (by decide +kernel) rfl) <|
  rg_fc (rg_ok_geti (idx := 13) rg_cok5 (by decide +kernel) rfl (by decide +kernel) rg_wf_W_13) <|
  rg_fc (rg_ok_icmp_ge (off := 61) (by decide +kernel) (by decide +kernel)) <|
  rg_fc (rg_ok_lload (i := 7) (by decide +kernel)) <|
  rg_fc (rg_ok_lload (i := 5) (by decide +kernel)) <|
  rg_fc (rg_ok_aload_n (j := 2) (by decide +kernel) rfl) <|
  rg_fc (rg_ok_getr (idx := 9) rg_cok5 (by decide +kernel) rfl (by decide +kernel) rg_wf_W_9) <|
  rg_fc (rg_ok_iload (i := 9) (by decide +kernel)) <|
  rg_fc (rg_ok_iaload (by decide +kernel)) <|
  rg_fc (rg_ok_i2l (by decide +kernel)) <|
  rg_fc (rg_ok_lmul (by decide +kernel)) <|
  rg_fc (rg_ok_aload_n (j := 0) (by decide +kernel) rfl) <|
  fun _ h => absurd h List.not_mem_nil
def rg_c49_2 : List (Nat × rg_S) := [(89, rg_sgr 5 0), (92, rg_sil 4 2), (94, rg_sil 9 2), (96, rg_s2i (fun x y => x + y)), (97, rg_sai), (98, rg_si2l), (99, rg_s2l (fun x y => x + y)), (100, rg_s2l (fun x y => x + y)), (101, rg_sls 7 2), (103, rg_sal 0 1), (104, rg_sgr 5 0), (107, rg_sil 4 2), (109, rg_sil 9 2), (111, rg_s2i (fun x y => x + y)), (112, rg_sll 7 2), (114, rg_slc 2147483647 3), (117, rg_s2l (fun x y => x &&& y)), (118, rg_sl2i), (119, rg_swi), (120, rg_sll 7 2), (122, rg_sic 31 2), (124, rg_ssh (fun x y => x >>> (y.toInt64 &&& 63))), (125, rg_sls 7 2), (127, rg_sin 9 1), (130, rg_sgo 66)]
theorem rg_o49_2 : ∀ q ∈ rg_c49_2, rg_Ok 49 q.1 q.2 :=
  rg_fc (rg_ok_getr (idx := 9) rg_cok5 (by decide +kernel) rfl (by decide +kernel) rg_wf_W_9) <|
  rg_fc (rg_ok_iload (i := 4) (by decide +kernel)) <|
  rg_fc (rg_ok_iload (i := 9) (by decide +kernel)) <|
  rg_fc (rg_ok_iadd (by decide +kernel)) <|
  rg_fc (rg_ok_iaload (by decide +kernel)) <|
  rg_fc (rg_ok_i2l (by decide +kernel)) <|
  rg_fc (rg_ok_ladd (by decide +kernel)) <|
  rg_fc (rg_ok_ladd (by decide +kernel)) <|
  rg_fc (rg_ok_lstore (i := 7) (by decide +kernel) (by decide +kernel)) <|
  rg_fc (rg_ok_aload_n (j := 0) (by decide +kernel) rfl) <|
  rg_fc (rg_ok_getr (idx := 9) rg_cok5 (by decide +kernel) rfl (by decide +kernel) rg_wf_W_9) <|
  rg_fc (rg_ok_iload (i := 4) (by decide +kernel)) <|
  rg_fc (rg_ok_iload (i := 9) (by decide +kernel)) <|
  rg_fc (rg_ok_iadd (by decide +kernel)) <|
  rg_fc (rg_ok_lload (i := 7) (by decide +kernel)) <|
  rg_fc (rg_ok_ldc2 (n := 21) (by decide +kernel) rg_wc_W_21) <|
  rg_fc (rg_ok_land (by decide +kernel)) <|
  rg_fc (rg_ok_l2i (by decide +kernel)) <|
  rg_fc (rg_ok_iastore (by decide +kernel)) <|
  rg_fc (rg_ok_lload (i := 7) (by decide +kernel)) <|
  rg_fc (rg_ok_bipush (n := 31) (by decide +kernel) (by decide +kernel)) <|
  rg_fc (rg_ok_lshr (by decide +kernel)) <|
  rg_fc (rg_ok_lstore (i := 7) (by decide +kernel) (by decide +kernel)) <|
  rg_fc (rg_ok_iinc (n := 1) (by decide +kernel) (by decide +kernel) (by decide +kernel)) <|
  rg_fc (rg_ok_goto (off := (-64)) (by decide +kernel) (by decide +kernel)) <|
  fun _ h => absurd h List.not_mem_nil
def rg_c49_3 : List (Nat × rg_S) := [(133, rg_sal 0 1), (134, rg_sgr 5 0), (137, rg_sil 4 2), (139, rg_sal 2 1), (140, rg_sgi 5 1), (143, rg_s2i (fun x y => x + y)), (144, rg_sll 7 2), (146, rg_sl2i), (147, rg_swi), (148, rg_sin 4 1), (151, rg_sgo 41), (154, rg_sal 0 1), (155, rg_sal 1 1), (156, rg_sgi 5 2), (159, rg_sal 2 1), (160, rg_sgi 5 2), (163, rg_skeq 170), (166, rg_sic 1 1), (167, rg_sgo 171), (170, rg_sic 0 1), (171, rg_sK [true, false, false, true, false, false, false, false, false, false] (rg_spz 5 2)), (174, rg_sal 0 1), (175, rg_sil 3 1), (176, rg_scV 2 1 0 5), (179, rg_rv)]
theorem rg_o49_3 : ∀ q ∈ rg_c49_3, rg_Ok 49 q.1 q.2 :=
  rg_fc (rg_ok_aload_n (j := 0) (by decide +kernel) rfl) <|
  rg_fc (rg_ok_getr (idx := 9) rg_cok5 (by decide +kernel) rfl (by decide +kernel) rg_wf_W_9) <|
  rg_fc (rg_ok_iload (i := 4) (by decide +kernel)) <|
  rg_fc (rg_ok_aload_n (j := 2) (by decide +kernel) rfl) <|
  rg_fc (rg_ok_geti (idx := 13) rg_cok5 (by decide +kernel) rfl (by decide +kernel) rg_wf_W_13) <|
  rg_fc (rg_ok_iadd (by decide +kernel)) <|
  rg_fc (rg_ok_lload (i := 7) (by decide +kernel)) <|
  rg_fc (rg_ok_l2i (by decide +kernel)) <|
  rg_fc (rg_ok_iastore (by decide +kernel)) <|
  rg_fc (rg_ok_iinc (n := 1) (by decide +kernel) (by decide +kernel) (by decide +kernel)) <|
  rg_fc (rg_ok_goto (off := (-110)) (by decide +kernel) (by decide +kernel)) <|
  rg_fc (rg_ok_aload_n (j := 0) (by decide +kernel) rfl) <|
  rg_fc (rg_ok_aload_n (j := 1) (by decide +kernel) rfl) <|
  rg_fc (rg_ok_geti (idx := 17) rg_cok5 (by decide +kernel) rfl (by decide +kernel) rg_wf_W_17) <|
  rg_fc (rg_ok_aload_n (j := 2) (by decide +kernel) rfl) <|
  rg_fc (rg_ok_geti (idx := 17) rg_cok5 (by decide +kernel) rfl (by decide +kernel) rg_wf_W_17) <|
  rg_fc (rg_ok_icmp_eq (off := 7) (by decide +kernel) (by decide +kernel)) <|
  rg_fc (rg_ok_iconst (n := 1) (by decide +kernel) (by decide +kernel)) <|
  rg_fc (rg_ok_goto (off := 4) (by decide +kernel) (by decide +kernel)) <|
  rg_fc (rg_ok_iconst (n := 0) (by decide +kernel) (by decide +kernel)) <|
  rg_fc (rg_okK _ (rg_ok_putz (idx := 17) rg_cok5 (by decide +kernel) rfl rfl rfl (by decide +kernel) rg_wf_W_17)) <|
  rg_fc (rg_ok_aload_n (j := 0) (by decide +kernel) rfl) <|
  rg_fc (rg_ok_iload_n (j := 3) (by decide +kernel) rfl) <|
  rg_fc (rg_ok_callV (idx := 23) rg_cok5 (by decide +kernel) (by decide +kernel) rg_wm_W_23 rg_wj_2 rg_ws_2 rg_wz_5 rg_wd_2 ⟨by decide +kernel, by decide +kernel, by decide +kernel, by decide +kernel⟩ (by decide +kernel) (by decide +kernel)) <|
  rg_fc (rg_ok_return (by decide +kernel) rfl) <|
  fun _ h => absurd h List.not_mem_nil
def rg_kd49 : List (List (Nat × rg_S)) := [rg_c49_0, rg_c49_1, rg_c49_2, rg_c49_3]
theorem rg_o49 : ∀ pc f, rg_lk2 rg_kd49 pc = some f → rg_Ok 49 pc f := rg_lk2_ok (rg_fd rg_o49_0 (rg_fd rg_o49_1 (rg_fd rg_o49_2 (rg_fd rg_o49_3 (fun _ h => absurd h List.not_mem_nil)))))
def rg_c50_0 : List (Nat × rg_S) := [(0, rg_sal 0 1), (1, rg_sgi 5 1), (4, rg_sal 1 1), (5, rg_sgi 5 1), (8, rg_skle 18), (11, rg_sal 0 1), (12, rg_sgi 5 1), (15, rg_sgo 22), (18, rg_sal 1 1), (19, rg_sgi 5 1), (22, rg_sK [true, true, false, false, false, false, false, false, false, false, false, false, false, false, false, false] (rg_sic 1 1)), (23, rg_s2i (fun x y => x + y)), (24, rg_sis 2 1), (25, rg_sal 0 1), (26, rg_sil 2 1), (27, rg_scV 35 1 0 5), (30, rg_sal 0 1), (31, rg_sgi 5 2), (34, rg_sal 1 1), (35, rg_sgi 5 2), (38, rg_skne 45), (41, rg_sic 1 1), (42, rg_sgo 46), (45, rg_sic 0 1), (46, rg_sK [true, true, true, false, false, false, false, false, false, false, false, false, false, false, false, false] (rg_sis 3 1))]
theorem rg_o50_0 : ∀ q ∈ rg_c50_0, rg_Ok 50 q.1 q.2 :=
  rg_fc (rg_ok_aload_n (j := 0) (by decide +kernel) rfl) <|
  rg_fc (rg_ok_geti (idx := 13) rg_cok5 (by decide +kernel) rfl (by decide +kernel) rg_wf_W_13) <|
  rg_fc (rg_ok_aload_n (j := 1) (by decide +kernel) rfl) <|
  rg_fc (rg_ok_geti (idx := 13) rg_cok5 (by decide +kernel) rfl (by decide +kernel) rg_wf_W_13) <|
  rg_fc (rg_ok_icmp_le (off := 10) (by decide +kernel) (by decide +kernel)) <|
  rg_fc (rg_ok_aload_n (j := 0) (by decide +kernel) rfl) <|
  rg_fc (rg_ok_geti (idx := 13) rg_cok5 (by decide +kernel) rfl (by decide +kernel) rg_wf_W_13) <|
  rg_fc (rg_ok_goto (off := 7) (by decide +kernel) (by decide +kernel)) <|
  rg_fc (rg_ok_aload_n (j := 1) (by decide +kernel) rfl) <|
  rg_fc (rg_ok_geti (idx := 13) rg_cok5 (by decide +kernel) rfl (by decide +kernel) rg_wf_W_13) <|
  rg_fc (rg_okK _ (rg_ok_iconst (n := 1) (by decide +kernel) (by decide +kernel))) <|
  rg_fc (rg_ok_iadd (by decide +kernel)) <|
  rg_fc (rg_ok_istore_n (j := 2) (by decide +kernel) rfl (by decide +kernel)) <|
  rg_fc (rg_ok_aload_n (j := 0) (by decide +kernel) rfl) <|
  rg_fc (rg_ok_iload_n (j := 2) (by decide +kernel) rfl) <|
  rg_fc (rg_ok_callV (idx := 27) rg_cok5 (by decide +kernel) (by decide +kernel) rg_wm_W_27 rg_wj_35 rg_ws_35 rg_wz_5 rg_wd_35 ⟨by decide +kernel, by decide +kernel, by decide +kernel, by decide +kernel⟩ (by decide +kernel) (by decide +kernel)) <|
  rg_fc (rg_ok_aload_n (j := 0) (by decide +kernel) rfl) <|
  rg_fc (rg_ok_geti (idx := 17) rg_cok5 (by decide +kernel) rfl (by decide +kernel) rg_wf_W_17) <|
  rg_fc (rg_ok_aload_n (j := 1) (by decide +kernel) rfl) <|
  rg_fc (rg_ok_geti (idx := 17) rg_cok5 (by decide +kernel) rfl (by decide +kernel) rg_wf_W_17) <|
  rg_fc (rg_ok_icmp_ne (off := 7) (by decide +kernel) (by decide +kernel)) <|
  rg_fc (rg_ok_iconst (n := 1) (by decide +kernel) (by decide +kernel)) <|
  rg_fc (rg_ok_goto (off := 4) (by decide +kernel) (by decide +kernel)) <|
  rg_fc (rg_ok_iconst (n := 0) (by decide +kernel) (by decide +kernel)) <|
  rg_fc (rg_okK _ (rg_ok_istore_n (j := 3) (by decide +kernel) rfl (by decide +kernel))) <|
  fun _ h => absurd h List.not_mem_nil
def rg_c50_1 : List (Nat × rg_S) := [(47, rg_sal 0 1), (48, rg_sal 1 1), (49, rg_scV 34 1 1 5), (52, rg_sjlt 59), (55, rg_sic 1 1), (56, rg_sgo 60), (59, rg_sic 0 1), (60, rg_sK [true, true, true, true, false, false, false, false, false, false, false, false, false, false, false, false] (rg_sis 4 2)), (62, rg_sil 3 1), (63, rg_sjne 71), (66, rg_sil 4 2), (68, rg_sjeq 75), (71, rg_sK [true, true, true, true, true, false, false, false, false, false, false, false, false, false, false, false] (rg_slc 1 1)), (72, rg_sgo 78), (75, rg_slc (-1) 3), (78, rg_sK [true, true, true, true, true, false, false, false, false, false, false, false, false, false, false, false] (rg_sls 5 2)), (80, rg_sil 3 1), (81, rg_sjne 89), (84, rg_sil 4 2), (86, rg_sjne 93), (89, rg_sK [true, true, true, false, true, true, false, false, false, false, false, false, false, false, false, false] (rg_slc 1 1)), (90, rg_sgo 96), (93, rg_slc (-1) 3), (96, rg_sK [true, true, true, false, true, true, false, false, false, false, false, false, false, false, false, false] (rg_sls 7 2)), (98, rg_slc 0 1)]
theorem rg_o50_1 : ∀ q ∈ rg_c50_1, rg_Ok 50 q.1 q.2 :=
  rg_fc (rg_ok_aload_n (j := 0) (by decide +kernel) rfl) <|
  rg_fc (rg_ok_aload_n (j := 1) (by decide +kernel) rfl) <|
  rg_fc (rg_ok_callV (idx := 40) rg_cok5 (by decide +kernel) (by decide +kernel) rg_wm_W_40 rg_wj_34 rg_ws_34 rg_wz_5 rg_wd_34 ⟨by decide +kernel, by decide +kernel, by decide +kernel, by decide +kernel⟩ (by decide +kernel) (by decide +kernel)) <|
  rg_fc (rg_ok_if_lt (off := 7) (by decide +kernel) (by decide +kernel)) <|
  rg_fc (rg_ok_iconst (n := 1) (by decide +kernel) (by decide +kernel)) <|
  rg_fc (rg_ok_goto (off := 4) (by decide +kernel) (by decide +kernel)) <|
  rg_fc (rg_ok_iconst (n := 0) (by decide +kernel) (by decide +kernel)) <|
  rg_fc (rg_okK _ (rg_ok_istore (i := 4) (by decide +kernel) (by decide +kernel))) <|
  rg_fc (rg_ok_iload_n (j := 3) (by decide +kernel) rfl) <|
  rg_fc (rg_ok_if_ne (off := 8) (by decide +kernel) (by decide +kernel)) <|
  rg_fc (rg_ok_iload (i := 4) (by decide +kernel)) <|
  rg_fc (rg_ok_if_eq (off := 7) (by decide +kernel) (by decide +kernel)) <|
  rg_fc (rg_okK _ (rg_ok_lconst (n := 1) (by decide +kernel) (by decide +kernel))) <|
  rg_fc (rg_ok_goto (off := 6) (by decide +kernel) (by decide +kernel)) <|
  rg_fc (rg_ok_ldc2 (n := 44) (by decide +kernel) rg_wc_W_44) <|
  rg_fc (rg_okK _ (rg_ok_lstore (i := 5) (by decide +kernel) (by decide +kernel))) <|
  rg_fc (rg_ok_iload_n (j := 3) (by decide +kernel) rfl) <|
  rg_fc (rg_ok_if_ne (off := 8) (by decide +kernel) (by decide +kernel)) <|
  rg_fc (rg_ok_iload (i := 4) (by decide +kernel)) <|
  rg_fc (rg_ok_if_ne (off := 7) (by decide +kernel) (by decide +kernel)) <|
  rg_fc (rg_okK _ (rg_ok_lconst (n := 1) (by decide +kernel) (by decide +kernel))) <|
  rg_fc (rg_ok_goto (off := 6) (by decide +kernel) (by decide +kernel)) <|
  rg_fc (rg_ok_ldc2 (n := 44) (by decide +kernel) rg_wc_W_44) <|
  rg_fc (rg_okK _ (rg_ok_lstore (i := 7) (by decide +kernel) (by decide +kernel))) <|
  rg_fc (rg_ok_lconst (n := 0) (by decide +kernel) (by decide +kernel)) <|
  fun _ h => absurd h List.not_mem_nil
def rg_c50_2 : List (Nat × rg_S) := [(99, rg_sls 9 2), (101, rg_sic 0 1), (102, rg_sis 11 2), (104, rg_sK [true, true, true, false, true, true, false, true, false, true, false, true, false, false, false, false] (rg_sil 11 2)), (106, rg_sil 2 1), (107, rg_skge 199), (110, rg_sil 11 2), (112, rg_sal 0 1), (113, rg_sgi 5 1), (116, rg_skge 130), (119, rg_sal 0 1), (120, rg_sgr 5 0), (123, rg_sil 11 2), (125, rg_sai), (126, rg_si2l), (127, rg_sgo 131), (130, rg_slc 0 1), (131, rg_sK [true, true, true, false, true, true, false, true, false, true, false, true, false, false, false, false] (rg_sls 12 2)), (133, rg_sil 11 2), (135, rg_sal 1 1), (136, rg_sgi 5 1), (139, rg_skge 153), (142, rg_sal 1 1), (143, rg_sgr 5 0), (146, rg_sil 11 2)]
theorem rg_o50_2 : ∀ q ∈ rg_c50_2, rg_Ok 50 q.1 q.2 :=
  rg_fc (rg_ok_lstore (i := 9) (by decide +kernel) (by decide +kernel)) <|
  rg_fc (rg_ok_iconst (n := 0) (by decide +kernel) (by decide +kernel)) <|
  rg_fc (rg_ok_istore (i := 11) (by decide +kernel) (by decide +kernel)) <|
  rg_fc (rg_okK _ (rg_ok_iload (i := 11) (by decide +kernel))) <|
  rg_fc (rg_ok_iload_n (j := 2) (by decide +kernel) rfl) <|
  rg_fc (rg_ok_icmp_ge (off := 92) (by decide +kernel) (by decide +kernel)) <|
  rg_fc (rg_ok_iload (i := 11) (by decide +kernel)) <|
  rg_fc (rg_ok_aload_n (j := 0) (by decide +kernel) rfl) <|
  rg_fc (rg_ok_geti (idx := 13) rg_cok5 (by decide +kernel) rfl (by decide +kernel) rg_wf_W_13) <|
  rg_fc (rg_ok_icmp_ge (off := 14) (by decide +kernel) (by decide +kernel)) <|
  rg_fc (rg_ok_aload_n (j := 0) (by decide +kernel) rfl) <|
  rg_fc (rg_ok_getr (idx := 9) rg_cok5 (by decide +kernel) rfl (by decide +kernel) rg_wf_W_9) <|
  rg_fc (rg_ok_iload (i := 11) (by decide +kernel)) <|
  rg_fc (rg_ok_iaload (by decide +kernel)) <|
  rg_fc (rg_ok_i2l (by decide +kernel)) <|
  rg_fc (rg_ok_goto (off := 4) (by decide +kernel) (by decide +kernel)) <|
  rg_fc (rg_ok_lconst (n := 0) (by decide +kernel) (by decide +kernel)) <|
  rg_fc (rg_okK _ (rg_ok_lstore (i := 12) (by decide +kernel) (by decide +kernel))) <|
  rg_fc (rg_ok_iload (i := 11) (by decide +kernel)) <|
  rg_fc (rg_ok_aload_n (j := 1) (by decide +kernel) rfl) <|
  rg_fc (rg_ok_geti (idx := 13) rg_cok5 (by decide +kernel) rfl (by decide +kernel) rg_wf_W_13) <|
  rg_fc (rg_ok_icmp_ge (off := 14) (by decide +kernel) (by decide +kernel)) <|
  rg_fc (rg_ok_aload_n (j := 1) (by decide +kernel) rfl) <|
  rg_fc (rg_ok_getr (idx := 9) rg_cok5 (by decide +kernel) rfl (by decide +kernel) rg_wf_W_9) <|
  rg_fc (rg_ok_iload (i := 11) (by decide +kernel)) <|
  fun _ h => absurd h List.not_mem_nil
def rg_c50_3 : List (Nat × rg_S) := [(148, rg_sai), (149, rg_si2l), (150, rg_sgo 154), (153, rg_slc 0 1), (154, rg_sK [true, true, true, false, true, true, false, true, false, true, false, true, true, false, false, false] (rg_sls 14 2)), (156, rg_sll 9 2), (158, rg_sll 5 2), (160, rg_sll 12 2), (162, rg_s2l (fun x y => x * y)), (163, rg_sll 7 2), (165, rg_sll 14 2), (167, rg_s2l (fun x y => x * y)), (168, rg_s2l (fun x y => x + y)), (169, rg_s2l (fun x y => x + y)), (170, rg_sls 9 2), (172, rg_sal 0 1), (173, rg_sgr 5 0), (176, rg_sil 11 2), (178, rg_sll 9 2), (180, rg_slc 2147483647 3), (183, rg_s2l (fun x y => x &&& y)), (184, rg_sl2i), (185, rg_swi), (186, rg_sll 9 2), (188, rg_sic 31 2)]
theorem rg_o50_3 : ∀ q ∈ rg_c50_3, rg_Ok 50 q.1 q.2 :=
  rg_fc (rg_ok_iaload (by decide +kernel)) <|
  rg_fc (rg_ok_i2l (by decide +kernel)) <|
  rg_fc (rg_ok_goto (off := 4) (by decide +kernel) (by decide +kernel)) <|
  rg_fc (rg_ok_lconst (n := 0) (by decide +kernel) (by decide +kernel)) <|
  rg_fc (rg_okK _ (rg_ok_lstore (i := 14) (by decide +kernel) (by decide +kernel))) <|
  rg_fc (rg_ok_lload (i := 9) (by decide +kernel)) <|
  rg_fc (rg_ok_lload (i := 5) (by decide +kernel)) <|
  rg_fc (rg_ok_lload (i := 12) (by decide +kernel)) <|
  rg_fc (rg_ok_lmul (by decide +kernel)) <|
  rg_fc (rg_ok_lload (i := 7) (by decide +kernel)) <|
  rg_fc (rg_ok_lload (i := 14) (by decide +kernel)) <|
  rg_fc (rg_ok_lmul (by decide +kernel)) <|
  rg_fc (rg_ok_ladd (by decide +kernel)) <|
  rg_fc (rg_ok_ladd (by decide +kernel)) <|
  rg_fc (rg_ok_lstore (i := 9) (by decide +kernel) (by decide +kernel)) <|
  rg_fc (rg_ok_aload_n (j := 0) (by decide +kernel) rfl) <|
  rg_fc (rg_ok_getr (idx := 9) rg_cok5 (by decide +kernel) rfl (by decide +kernel) rg_wf_W_9) <|
  rg_fc (rg_ok_iload (i := 11) (by decide +kernel)) <|
  rg_fc (rg_ok_lload (i := 9) (by decide +kernel)) <|
  rg_fc (rg_ok_ldc2 (n := 21) (by decide +kernel) rg_wc_W_21) <|
  rg_fc (rg_ok_land (by decide +kernel)) <|
  rg_fc (rg_ok_l2i (by decide +kernel)) <|
  rg_fc (rg_ok_iastore (by decide +kernel)) <|
  rg_fc (rg_ok_lload (i := 9) (by decide +kernel)) <|
  rg_fc (rg_ok_bipush (n := 31) (by decide +kernel) (by decide +kernel)) <|
  fun _ h => absurd h List.not_mem_nil
def rg_c50_4 : List (Nat × rg_S) := [(190, rg_ssh (fun x y => x >>> (y.toInt64 &&& 63))), (191, rg_sls 9 2), (193, rg_sin 11 1), (196, rg_sgo 104), (199, rg_sil 4 2), (201, rg_sjne 212), (204, rg_sal 0 1), (205, rg_sal 1 1), (206, rg_sgi 5 2), (209, rg_spz 5 2), (212, rg_sK [true, false, true, false, false, false, false, false, false, false, false, false, false, false, false, false] (rg_sal 0 1)), (213, rg_sil 2 1), (214, rg_scV 2 1 0 5), (217, rg_rv)]
theorem rg_o50_4 : ∀ q ∈ rg_c50_4, rg_Ok 50 q.1 q.2 :=
  rg_fc (rg_ok_lshr (by decide +kernel)) <|
  rg_fc (rg_ok_lstore (i := 9) (by decide +kernel) (by decide +kernel)) <|
  rg_fc (rg_ok_iinc (n := 1) (by decide +kernel) (by decide +kernel) (by decide +kernel)) <|
  rg_fc (rg_ok_goto (off := (-92)) (by decide +kernel) (by decide +kernel)) <|
  rg_fc (rg_ok_iload (i := 4) (by decide +kernel)) <|
  rg_fc (rg_ok_if_ne (off := 11) (by decide +kernel) (by decide +kernel)) <|
  rg_fc (rg_ok_aload_n (j := 0) (by decide +kernel) rfl) <|
  rg_fc (rg_ok_aload_n (j := 1) (by decide +kernel) rfl) <|
  rg_fc (rg_ok_geti (idx := 17) rg_cok5 (by decide +kernel) rfl (by decide +kernel) rg_wf_W_17) <|
  rg_fc (rg_ok_putz (idx := 17) rg_cok5 (by decide +kernel) rfl rfl rfl (by decide +kernel) rg_wf_W_17) <|
  rg_fc (rg_okK _ (rg_ok_aload_n (j := 0) (by decide +kernel) rfl)) <|
  rg_fc (rg_ok_iload_n (j := 2) (by decide +kernel) rfl) <|
  rg_fc (rg_ok_callV (idx := 23) rg_cok5 (by decide +kernel) (by decide +kernel) rg_wm_W_23 rg_wj_2 rg_ws_2 rg_wz_5 rg_wd_2 ⟨by decide +kernel, by decide +kernel, by decide +kernel, by decide +kernel⟩ (by decide +kernel) (by decide +kernel)) <|
  rg_fc (rg_ok_return (by decide +kernel) rfl) <|
  fun _ h => absurd h List.not_mem_nil
def rg_kd50 : List (List (Nat × rg_S)) := [rg_c50_0, rg_c50_1, rg_c50_2, rg_c50_3, rg_c50_4]
theorem rg_o50 : ∀ pc f, rg_lk2 rg_kd50 pc = some f → rg_Ok 50 pc f := rg_lk2_ok (rg_fd rg_o50_0 (rg_fd rg_o50_1 (rg_fd rg_o50_2 (rg_fd rg_o50_3 (rg_fd rg_o50_4 (fun _ h => absurd h List.not_mem_nil))))))
def rg_c59_0 : List (Nat × rg_S) := [(0, rg_sal 0 1), (1, rg_sgi 5 1), (4, rg_sjne 9), (7, rg_sic 0 1), (8, rg_ri), (9, rg_sal 0 1), (10, rg_sgi 5 1), (13, rg_sic 31 2), (15, rg_s2i (fun x y => x * y)), (16, rg_sic 1 1), (17, rg_s2i (fun x y => x + y)), (18, rg_sal 0 1), (19, rg_sgr 5 0), (22, rg_sal 0 1), (23, rg_sgi 5 1), (26, rg_sic 1 1), (27, rg_s2i (fun x y => x - y)), (28, rg_sai), (29, rg_scS 37 1 1), (32, rg_s2i (fun x y => x - y)), (33, rg_ri)]
theorem rg_o59_0 : ∀ q ∈ rg_c59_0, rg_Ok 59 q.1 q.2 :=
  rg_fc (rg_ok_aload_n (j := 0) (by decide +kernel) rfl) <|
  rg_fc (rg_ok_geti (idx := 13) rg_cok5 (by decide +kernel) rfl (by decide +kernel) rg_wf_W_13) <|
  rg_fc (rg_ok_if_ne (off := 5) (by decide +kernel) (by decide +kernel)) <|
  rg_fc (rg_ok_iconst (n := 0) (by decide +kernel) (by decide +kernel)) <|
  rg_fc (rg_ok_ireturn (by decide +kernel) rfl) <|
  rg_fc (rg_ok_aload_n (j := 0) (by decide +kernel) rfl) <|
  rg_fc (rg_ok_geti (idx := 13) rg_cok5 (by decide +kernel) rfl (by decide +kernel) rg_wf_W_13) <|
  rg_fc (rg_ok_bipush (n := 31) (by decide +kernel) (by decide +kernel)) <|
  rg_fc (rg_ok_imul (by decide +kernel)) <|
  rg_fc (rg_ok_iconst (n := 1) (by decide +kernel) (by decide +kernel)) <|
  rg_fc (rg_ok_iadd (by decide +kernel)) <|
  rg_fc (rg_ok_aload_n (j := 0) (by decide +kernel) rfl) <|
  rg_fc (rg_ok_getr (idx := 9) rg_cok5 (by decide +kernel) rfl (by decide +kernel) rg_wf_W_9) <|
  rg_fc (rg_ok_aload_n (j := 0) (by decide +kernel) rfl) <|
  rg_fc (rg_ok_geti (idx := 13) rg_cok5 (by decide +kernel) rfl (by decide +kernel) rg_wf_W_13) <|
  rg_fc (rg_ok_iconst (n := 1) (by decide +kernel) (by decide +kernel)) <|
  rg_fc (rg_ok_isub (by decide +kernel)) <|
  rg_fc (rg_ok_iaload (by decide +kernel)) <|
  rg_fc (rg_ok_callS (idx := 30) (by decide +kernel) (by decide +kernel) rg_wm_W_30 rg_wt_37 rg_wy_37 rg_wd_37 ⟨by decide +kernel, by decide +kernel, by decide +kernel⟩ (by decide +kernel) (by decide +kernel)) <|
  rg_fc (rg_ok_isub (by decide +kernel)) <|
  rg_fc (rg_ok_ireturn (by decide +kernel) rfl) <|
  fun _ h => absurd h List.not_mem_nil
def rg_kd59 : List (List (Nat × rg_S)) := [rg_c59_0]
theorem rg_o59 : ∀ pc f, rg_lk2 rg_kd59 pc = some f → rg_Ok 59 pc f := rg_lk2_ok (rg_fd rg_o59_0 (fun _ h => absurd h List.not_mem_nil))
def rg_c137_0 : List (Nat × rg_S) := [(0, rg_slc 32 3), (3, rg_sil 1 1), (4, rg_si2l), (5, rg_s2l (fun x y => x * y)), (6, rg_sls 2 1), (7, rg_sil 1 1), (8, rg_sjlt 25), (11, rg_sll 2 1), (12, rg_sal 0 1), (13, rg_sgi 5 1), (16, rg_si2l), (17, rg_slc 31 3), (20, rg_s2l (fun x y => x * y)), (21, rg_scm), (22, rg_sjlt 27), (25, rg_sK [false, false, false, false, false, false, false, false] (rg_sic 0 1)), (26, rg_ri), (27, rg_sll 2 1), (28, rg_slc 31 3), (31, rg_sdl (fun x y => x / y)), (32, rg_sl2i), (33, rg_sis 4 2), (35, rg_sll 2 1), (36, rg_slc 31 3), (39, rg_sdl (fun x y => x - x / y * y))]
theorem rg_o137_0 : ∀ q ∈ rg_c137_0, rg_Ok 137 q.1 q.2 :=
  rg_fc (rg_ok_ldc2 (n := 36) (by decide +kernel) rg_wc_W_36) <|
  rg_fc (rg_ok_iload_n (j := 1) (by decide +kernel) rfl) <|
  rg_fc (rg_ok_i2l (by decide +kernel)) <|
  rg_fc (rg_ok_lmul (by decide +kernel)) <|
  rg_fc (rg_ok_lstore_n (j := 2) (by decide +kernel) rfl (by decide +kernel)) <|
  rg_fc (rg_ok_iload_n (j := 1) (by decide +kernel) rfl) <|
  rg_fc (rg_ok_if_lt (off := 17) (by decide +kernel) (by decide +kernel)) <|
  rg_fc (rg_ok_lload_n (j := 2) (by decide +kernel) rfl) <|
  rg_fc (rg_ok_aload_n (j := 0) (by decide +kernel) rfl) <|
  rg_fc (rg_ok_geti (idx := 13) rg_cok5 (by decide +kernel) rfl (by decide +kernel) rg_wf_W_13) <|
  rg_fc (rg_ok_i2l (by decide +kernel)) <|
  rg_fc (rg_ok_ldc2 (n := 38) (by decide +kernel) rg_wc_W_38) <|
  rg_fc (rg_ok_lmul (by decide +kernel)) <|
  rg_fc (rg_ok_lcmp (by decide +kernel)) <|
  rg_fc (rg_ok_if_lt (off := 5) (by decide +kernel) (by decide +kernel)) <|
  rg_fc (rg_okK _ (rg_ok_iconst (n := 0) (by decide +kernel) (by decide +kernel))) <|
  rg_fc (rg_ok_ireturn (by decide +kernel) rfl) <|
  rg_fc (rg_ok_lload_n (j := 2) (by decide +kernel) rfl) <|
  rg_fc (rg_ok_ldc2 (n := 38) (by decide +kernel) rg_wc_W_38) <|
  rg_fc (rg_ok_ldiv (by decide +kernel)) <|
  rg_fc (rg_ok_l2i (by decide +kernel)) <|
  rg_fc (rg_ok_istore (i := 4) (by decide +kernel) (by decide +kernel)) <|
  rg_fc (rg_ok_lload_n (j := 2) (by decide +kernel) rfl) <|
  rg_fc (rg_ok_ldc2 (n := 38) (by decide +kernel) rg_wc_W_38) <|
  rg_fc (rg_ok_lrem (by decide +kernel)) <|
  fun _ h => absurd h List.not_mem_nil
def rg_c137_1 : List (Nat × rg_S) := [(40, rg_sl2i), (41, rg_sis 5 2), (43, rg_sil 4 2), (45, rg_sic 1 1), (46, rg_s2i (fun x y => x + y)), (47, rg_sal 0 1), (48, rg_sgi 5 1), (51, rg_skge 67), (54, rg_sal 0 1), (55, rg_sgr 5 0), (58, rg_sil 4 2), (60, rg_sic 1 1), (61, rg_s2i (fun x y => x + y)), (62, rg_sai), (63, rg_si2l), (64, rg_sgo 68), (67, rg_slc 0 1), (68, rg_sK [true, false, false, false, true, true, false, false] (rg_sls 6 2)), (70, rg_sll 6 2), (72, rg_sic 31 2), (74, rg_sil 5 2), (76, rg_s2i (fun x y => x - y)), (77, rg_ssh (fun x y => x <<< (y.toInt64 &&& 63))), (78, rg_sal 0 1), (79, rg_sgr 5 0)]
theorem rg_o137_1 : ∀ q ∈ rg_c137_1, rg_Ok 137 q.1 q.2 :=
  rg_fc (rg_ok_l2i (by decide +kernel)) <|
  rg_fc (rg_ok_istore (i := 5) (by decide +kernel) (by decide +kernel)) <|
  rg_fc (rg_ok_iload (i := 4) (by decide +kernel)) <|
  rg_fc (rg_ok_iconst (n := 1) (by decide +kernel) (by decide +kernel)) <|
  rg_fc (rg_ok_iadd (by decide +kernel)) <|
  rg_fc (rg_ok_aload_n (j := 0) (by decide +kernel) rfl) <|
  rg_fc (rg_ok_geti (idx := 13) rg_cok5 (by decide +kernel) rfl (by decide +kernel) rg_wf_W_13) <|
  rg_fc (rg_ok_icmp_ge (off := 16) (by decide +kernel) (by decide +kernel)) <|
  rg_fc (rg_ok_aload_n (j := 0) (by decide +kernel) rfl) <|
  rg_fc (rg_ok_getr (idx := 9) rg_cok5 (by decide +kernel) rfl (by decide +kernel) rg_wf_W_9) <|
  rg_fc (rg_ok_iload (i := 4) (by decide +kernel)) <|
  rg_fc (rg_ok_iconst (n := 1) (by decide +kernel) (by decide +kernel)) <|
  rg_fc (rg_ok_iadd (by decide +kernel)) <|
  rg_fc (rg_ok_iaload (by decide +kernel)) <|
  rg_fc (rg_ok_i2l (by decide +kernel)) <|
  rg_fc (rg_ok_goto (off := 4) (by decide +kernel) (by decide +kernel)) <|
  rg_fc (rg_ok_lconst (n := 0) (by decide +kernel) (by decide +kernel)) <|
  rg_fc (rg_okK _ (rg_ok_lstore (i := 6) (by decide +kernel) (by decide +kernel))) <|
  rg_fc (rg_ok_lload (i := 6) (by decide +kernel)) <|
  rg_fc (rg_ok_bipush (n := 31) (by decide +kernel) (by decide +kernel)) <|
  rg_fc (rg_ok_iload (i := 5) (by decide +kernel)) <|
  rg_fc (rg_ok_isub (by decide +kernel)) <|
  rg_fc (rg_ok_lshl (by decide +kernel)) <|
  rg_fc (rg_ok_aload_n (j := 0) (by decide +kernel) rfl) <|
  rg_fc (rg_ok_getr (idx := 9) rg_cok5 (by decide +kernel) rfl (by decide +kernel) rg_wf_W_9) <|
  fun _ h => absurd h List.not_mem_nil
def rg_c137_2 : List (Nat × rg_S) := [(82, rg_sil 4 2), (84, rg_sai), (85, rg_sil 5 2), (87, rg_s2i (fun x y => x >>> (y &&& 31))), (88, rg_si2l), (89, rg_s2l (fun x y => x ||| y)), (90, rg_sl2i), (91, rg_ri)]
theorem rg_o137_2 : ∀ q ∈ rg_c137_2, rg_Ok 137 q.1 q.2 :=
  rg_fc (rg_ok_iload (i := 4) (by decide +kernel)) <|
  rg_fc (rg_ok_iaload (by decide +kernel)) <|
  rg_fc (rg_ok_iload (i := 5) (by decide +kernel)) <|
  rg_fc (rg_ok_ishr (by decide +kernel)) <|
  rg_fc (rg_ok_i2l (by decide +kernel)) <|
  rg_fc (rg_ok_lor (by decide +kernel)) <|
  rg_fc (rg_ok_l2i (by decide +kernel)) <|
  rg_fc (rg_ok_ireturn (by decide +kernel) rfl) <|
  fun _ h => absurd h List.not_mem_nil
def rg_kd137 : List (List (Nat × rg_S)) := [rg_c137_0, rg_c137_1, rg_c137_2]
theorem rg_o137 : ∀ pc f, rg_lk2 rg_kd137 pc = some f → rg_Ok 137 pc f := rg_lk2_ok (rg_fd rg_o137_0 (rg_fd rg_o137_1 (rg_fd rg_o137_2 (fun _ h => absurd h List.not_mem_nil))))

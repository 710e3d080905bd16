def rg_c1_0 : List (Nat × rg_S) := [(0, rg_sal 0 1), (1, rg_sob), (4, rg_sal 0 1), (5, rg_snw 5), (8, rg_sdu), (9, rg_scI 0 0 0), (12, rg_spr 4 0), (15, rg_sal 0 1), (16, rg_snw 5), (19, rg_sdu), (20, rg_scI 0 0 0), (23, rg_spr 4 1), (26, rg_sal 0 1), (27, rg_snw 5), (30, rg_sdu), (31, rg_scI 0 0 0), (34, rg_spr 4 2), (37, rg_sal 0 1), (38, rg_snw 5), (41, rg_sdu), (42, rg_scI 0 0 0), (45, rg_spr 4 3), (48, rg_sal 0 1), (49, rg_snw 5), (52, rg_sdu)]
theorem rg_o1_0 : ∀ q ∈ rg_c1_0, rg_Ok 1 q.1 q.2 :=
  rg_fc (rg_ok_aload_n (j := 0) (by decide +kernel) rfl) <|
  rg_fc (rg_ok_objinit (idx := 1) (by decide +kernel) rg_wm_K_1 rg_wo_1 rg_wo_2 (by decide +kernel) (by decide +kernel)) <|
  rg_fc (rg_ok_aload_n (j := 0) (by decide +kernel) rfl) <|
  rg_fc (rg_ok_new (idx := 7) rg_cok5 (by decide +kernel) (by decide +kernel) rg_wk_K_7 rg_wi_5 rg_wz_5) <|
  rg_fc (rg_ok_dup (by decide +kernel)) <|
  rg_fc (rg_ok_callIN (idx := 9) (host := "RegretTable")  (by decide +kernel) (by decide +kernel) (fun s h => h.2.2.1) rg_wj_0 rfl rfl rg_wz_5 rg_wd_0 ⟨by decide +kernel, by decide +kernel, by decide +kernel⟩ (by decide +kernel) (by decide +kernel)) <|
  rg_fc (rg_ok_putr (idx := 10) rg_cok4 (by decide +kernel) rfl (fun _ => ⟨rfl, rfl⟩) (Or.inr ⟨rfl, rfl, rfl⟩) (by decide +kernel) rg_wf_K_10) <|
  rg_fc (rg_ok_aload_n (j := 0) (by decide +kernel) rfl) <|
  rg_fc (rg_ok_new (idx := 7) rg_cok5 (by decide +kernel) (by decide +kernel) rg_wk_K_7 rg_wi_5 rg_wz_5) <|
  rg_fc (rg_ok_dup (by decide +kernel)) <|
  rg_fc (rg_ok_callIN (idx := 9) (host := "RegretTable")  (by decide +kernel) (by decide +kernel) (fun s h => h.2.2.1) rg_wj_0 rfl rfl rg_wz_5 rg_wd_0 ⟨by decide +kernel, by decide +kernel, by decide +kernel⟩ (by decide +kernel) (by decide +kernel)) <|
  rg_fc (rg_ok_putr (idx := 16) rg_cok4 (by decide +kernel) rfl (fun _ => ⟨rfl, rfl⟩) (Or.inr ⟨rfl, rfl, rfl⟩) (by decide +kernel) rg_wf_K_16) <|
  rg_fc (rg_ok_aload_n (j := 0) (by decide +kernel) rfl) <|
  rg_fc (rg_ok_new (idx := 7) rg_cok5 (by decide +kernel) (by decide +kernel) rg_wk_K_7 rg_wi_5 rg_wz_5) <|
  rg_fc (rg_ok_dup (by decide +kernel)) <|
  rg_fc (rg_ok_callIN (idx := 9) (host := "RegretTable")  (by decide +kernel) (by decide +kernel) (fun s h => h.2.2.1) rg_wj_0 rfl rfl rg_wz_5 rg_wd_0 ⟨by decide +kernel, by decide +kernel, by decide +kernel⟩ (by decide +kernel) (by decide +kernel)) <|
  rg_fc (rg_ok_putr (idx := 19) rg_cok4 (by decide +kernel) rfl (fun _ => ⟨rfl, rfl⟩) (Or.inr ⟨rfl, rfl, rfl⟩) (by decide +kernel) rg_wf_K_19) <|
  rg_fc (rg_ok_aload_n (j := 0) (by decide +kernel) rfl) <|
  rg_fc (rg_ok_new (idx := 7) rg_cok5 (by decide +kernel) (by decide +kernel) rg_wk_K_7 rg_wi_5 rg_wz_5) <|
  rg_fc (rg_ok_dup (by decide +kernel)) <|
  rg_fc (rg_ok_callIN (idx := 9) (host := "RegretTable")  (by decide +kernel) (by decide +kernel) (fun s h => h.2.2.1) rg_wj_0 rfl rfl rg_wz_5 rg_wd_0 ⟨by decide +kernel, by decide +kernel, by decide +kernel⟩ (by decide +kernel) (by decide +kernel)) <|
  rg_fc (rg_ok_putr (idx := 22) rg_cok4 (by decide +kernel) rfl (fun _ => ⟨rfl, rfl⟩) (Or.inr ⟨rfl, rfl, rfl⟩) (by decide +kernel) rg_wf_K_22) <|
  rg_fc (rg_ok_aload_n (j := 0) (by decide +kernel) rfl) <|
  rg_fc (rg_ok_new (idx := 7) rg_cok5 (by decide +kernel) (by decide +kernel) rg_wk_K_7 rg_wi_5 rg_wz_5) <|
  rg_fc (rg_ok_dup (by decide +kernel)) <|
  fun _ h => absurd h List.not_mem_nil
def rg_c1_1 : List (Nat × rg_S) := [(53, rg_scI 0 0 0), (56, rg_spr 4 4), (59, rg_sal 0 1), (60, rg_snw 5), (63, rg_sdu), (64, rg_scI 0 0 0), (67, rg_spr 4 5), (70, rg_sal 0 1), (71, rg_snw 5), (74, rg_sdu), (75, rg_scI 0 0 0), (78, rg_spr 4 6), (81, rg_sal 0 1), (82, rg_snw 5), (85, rg_sdu), (86, rg_scI 0 0 0), (89, rg_spr 4 7), (92, rg_sal 0 1), (93, rg_snw 5), (96, rg_sdu), (97, rg_scI 0 0 0), (100, rg_spr 4 8), (103, rg_sal 0 1), (104, rg_snw 5), (107, rg_sdu)]
theorem rg_o1_1 : ∀ q ∈ rg_c1_1, rg_Ok 1 q.1 q.2 :=
  rg_fc (rg_ok_callIN (idx := 9) (host := "RegretTable")  (by decide +kernel) (by decide +kernel) (fun s h => h.2.2.1) rg_wj_0 rfl rfl rg_wz_5 rg_wd_0 ⟨by decide +kernel, by decide +kernel, by decide +kernel⟩ (by decide +kernel) (by decide +kernel)) <|
  rg_fc (rg_ok_putr (idx := 25) rg_cok4 (by decide +kernel) rfl (fun _ => ⟨rfl, rfl⟩) (Or.inr ⟨rfl, rfl, rfl⟩) (by decide +kernel) rg_wf_K_25) <|
  rg_fc (rg_ok_aload_n (j := 0) (by decide +kernel) rfl) <|
  rg_fc (rg_ok_new (idx := 7) rg_cok5 (by decide +kernel) (by decide +kernel) rg_wk_K_7 rg_wi_5 rg_wz_5) <|
  rg_fc (rg_ok_dup (by decide +kernel)) <|
  rg_fc (rg_ok_callIN (idx := 9) (host := "RegretTable")  (by decide +kernel) (by decide +kernel) (fun s h => h.2.2.1) rg_wj_0 rfl rfl rg_wz_5 rg_wd_0 ⟨by decide +kernel, by decide +kernel, by decide +kernel⟩ (by decide +kernel) (by decide +kernel)) <|
  rg_fc (rg_ok_putr (idx := 28) rg_cok4 (by decide +kernel) rfl (fun _ => ⟨rfl, rfl⟩) (Or.inr ⟨rfl, rfl, rfl⟩) (by decide +kernel) rg_wf_K_28) <|
  rg_fc (rg_ok_aload_n (j := 0) (by decide +kernel) rfl) <|
  rg_fc (rg_ok_new (idx := 7) rg_cok5 (by decide +kernel) (by decide +kernel) rg_wk_K_7 rg_wi_5 rg_wz_5) <|
  rg_fc (rg_ok_dup (by decide +kernel)) <|
  rg_fc (rg_ok_callIN (idx := 9) (host := "RegretTable")  (by decide +kernel) (by decide +kernel) (fun s h => h.2.2.1) rg_wj_0 rfl rfl rg_wz_5 rg_wd_0 ⟨by decide +kernel, by decide +kernel, by decide +kernel⟩ (by decide +kernel) (by decide +kernel)) <|
  rg_fc (rg_ok_putr (idx := 31) rg_cok4 (by decide +kernel) rfl (fun _ => ⟨rfl, rfl⟩) (Or.inr ⟨rfl, rfl, rfl⟩) (by decide +kernel) rg_wf_K_31) <|
  rg_fc (rg_ok_aload_n (j := 0) (by decide +kernel) rfl) <|
  rg_fc (rg_ok_new (idx := 7) rg_cok5 (by decide +kernel) (by decide +kernel) rg_wk_K_7 rg_wi_5 rg_wz_5) <|
  rg_fc (rg_ok_dup (by decide +kernel)) <|
  rg_fc (rg_ok_callIN (idx := 9) (host := "RegretTable")  (by decide +kernel) (by decide +kernel) (fun s h => h.2.2.1) rg_wj_0 rfl rfl rg_wz_5 rg_wd_0 ⟨by decide +kernel, by decide +kernel, by decide +kernel⟩ (by decide +kernel) (by decide +kernel)) <|
  rg_fc (rg_ok_putr (idx := 34) rg_cok4 (by decide +kernel) rfl (fun _ => ⟨rfl, rfl⟩) (Or.inr ⟨rfl, rfl, rfl⟩) (by decide +kernel) rg_wf_K_34) <|
  rg_fc (rg_ok_aload_n (j := 0) (by decide +kernel) rfl) <|
  rg_fc (rg_ok_new (idx := 7) rg_cok5 (by decide +kernel) (by decide +kernel) rg_wk_K_7 rg_wi_5 rg_wz_5) <|
  rg_fc (rg_ok_dup (by decide +kernel)) <|
  rg_fc (rg_ok_callIN (idx := 9) (host := "RegretTable")  (by decide +kernel) (by decide +kernel) (fun s h => h.2.2.1) rg_wj_0 rfl rfl rg_wz_5 rg_wd_0 ⟨by decide +kernel, by decide +kernel, by decide +kernel⟩ (by decide +kernel) (by decide +kernel)) <|
  rg_fc (rg_ok_putr (idx := 37) rg_cok4 (by decide +kernel) rfl (fun _ => ⟨rfl, rfl⟩) (Or.inr ⟨rfl, rfl, rfl⟩) (by decide +kernel) rg_wf_K_37) <|
  rg_fc (rg_ok_aload_n (j := 0) (by decide +kernel) rfl) <|
  rg_fc (rg_ok_new (idx := 7) rg_cok5 (by decide +kernel) (by decide +kernel) rg_wk_K_7 rg_wi_5 rg_wz_5) <|
  rg_fc (rg_ok_dup (by decide +kernel)) <|
  fun _ h => absurd h List.not_mem_nil
def rg_c1_2 : List (Nat × rg_S) := [(108, rg_scI 0 0 0), (111, rg_spr 4 9), (114, rg_sal 0 1), (115, rg_snw 5), (118, rg_sdu), (119, rg_scI 0 0 0), (122, rg_spr 4 10), (125, rg_sal 0 1), (126, rg_sic 4 1), (127, rg_sna 10 2), (129, rg_spr 4 11), (132, rg_rv)]
theorem rg_o1_2 : ∀ q ∈ rg_c1_2, rg_Ok 1 q.1 q.2 :=
  rg_fc (rg_ok_callIN (idx := 9) (host := "RegretTable")  (by decide +kernel) (by decide +kernel) (fun s h => h.2.2.1) rg_wj_0 rfl rfl rg_wz_5 rg_wd_0 ⟨by decide +kernel, by decide +kernel, by decide +kernel⟩ (by decide +kernel) (by decide +kernel)) <|
  rg_fc (rg_ok_putr (idx := 40) rg_cok4 (by decide +kernel) rfl (fun _ => ⟨rfl, rfl⟩) (Or.inr ⟨rfl, rfl, rfl⟩) (by decide +kernel) rg_wf_K_40) <|
  rg_fc (rg_ok_aload_n (j := 0) (by decide +kernel) rfl) <|
  rg_fc (rg_ok_new (idx := 7) rg_cok5 (by decide +kernel) (by decide +kernel) rg_wk_K_7 rg_wi_5 rg_wz_5) <|
  rg_fc (rg_ok_dup (by decide +kernel)) <|
  rg_fc (rg_ok_callIN (idx := 9) (host := "RegretTable")  (by decide +kernel) (by decide +kernel) (fun s h => h.2.2.1) rg_wj_0 rfl rfl rg_wz_5 rg_wd_0 ⟨by decide +kernel, by decide +kernel, by decide +kernel⟩ (by decide +kernel) (by decide +kernel)) <|
  rg_fc (rg_ok_putr (idx := 43) rg_cok4 (by decide +kernel) rfl (fun _ => ⟨rfl, rfl⟩) (Or.inr ⟨rfl, rfl, rfl⟩) (by decide +kernel) rg_wf_K_43) <|
  rg_fc (rg_ok_aload_n (j := 0) (by decide +kernel) rfl) <|
  rg_fc (rg_ok_iconst (n := 4) (by decide +kernel) (by decide +kernel)) <|
  rg_fc (rg_ok_newa (at0 := .long) (t := 1) (by decide +kernel) rfl rg_wa_long (Or.inr (Or.inl ⟨rfl, rfl, rfl⟩))) <|
  rg_fc (rg_ok_putr (idx := 46) rg_cok4 (by decide +kernel) rfl (fun _ => ⟨rfl, rfl⟩) (Or.inr ⟨rfl, rfl, rfl⟩) (by decide +kernel) rg_wf_K_46) <|
  rg_fc (rg_ok_return (by decide +kernel) rfl) <|
  fun _ h => absurd h List.not_mem_nil
def rg_kd1 : List (List (Nat × rg_S)) := [rg_c1_0, rg_c1_1, rg_c1_2]
theorem rg_o1 : ∀ pc f, rg_lk2 rg_kd1 pc = some f → rg_Ok 1 pc f := rg_lk2_ok (rg_fd rg_o1_0 (rg_fd rg_o1_1 (rg_fd rg_o1_2 (fun _ h => absurd h List.not_mem_nil))))
def rg_c33_0 : List (Nat × rg_S) := [(0, rg_sll 0 1), (1, rg_sls 4 2), (3, rg_sll 2 1), (4, rg_sls 6 2), (6, rg_sic 0 1), (7, rg_sis 8 2), (9, rg_sK [false, false, false, false, true, false, true, false, true, false, false] (rg_sil 8 2)), (11, rg_sic 100 2), (13, rg_skge 44), (16, rg_sll 6 2), (18, rg_slc 0 1), (19, rg_scm), (20, rg_sjeq 44), (23, rg_sll 4 2), (25, rg_sll 6 2), (27, rg_sdl (fun x y => x - x / y * y)), (28, rg_sls 9 2), (30, rg_sll 6 2), (32, rg_sls 4 2), (34, rg_sll 9 2), (36, rg_sls 6 2), (38, rg_sin 8 1), (41, rg_sgo 9), (44, rg_sK [false, false, false, false, true, false, false, false, false, false, false] (rg_sll 4 2)), (46, rg_rl)]
theorem rg_o33_0 : ∀ q ∈ rg_c33_0, rg_Ok 33 q.1 q.2 :=
  rg_fc (rg_ok_lload_n (j := 0) (by decide +kernel) rfl) <|
  rg_fc (rg_ok_lstore (i := 4) (by decide +kernel) (by decide +kernel)) <|
  rg_fc (rg_ok_lload_n (j := 2) (by decide +kernel) rfl) <|
  rg_fc (rg_ok_lstore (i := 6) (by decide +kernel) (by decide +kernel)) <|
  rg_fc (rg_ok_iconst (n := 0) (by decide +kernel) (by decide +kernel)) <|
  rg_fc (rg_ok_istore (i := 8) (by decide +kernel) (by decide +kernel)) <|
  rg_fc (rg_okK _ (rg_ok_iload (i := 8) (by decide +kernel))) <|
  rg_fc (rg_ok_bipush (n := 100) (by decide +kernel) (by decide +kernel)) <|
  rg_fc (rg_ok_icmp_ge (off := 31) (by decide +kernel) (by decide +kernel)) <|
  rg_fc (rg_ok_lload (i := 6) (by decide +kernel)) <|
  rg_fc (rg_ok_lconst (n := 0) (by decide +kernel) (by decide +kernel)) <|
  rg_fc (rg_ok_lcmp (by decide +kernel)) <|
  rg_fc (rg_ok_if_eq (off := 24) (by decide +kernel) (by decide +kernel)) <|
  rg_fc (rg_ok_lload (i := 4) (by decide +kernel)) <|
  rg_fc (rg_ok_lload (i := 6) (by decide +kernel)) <|
  rg_fc (rg_ok_lrem (by decide +kernel)) <|
  rg_fc (rg_ok_lstore (i := 9) (by decide +kernel) (by decide +kernel)) <|
  rg_fc (rg_ok_lload (i := 6) (by decide +kernel)) <|
  rg_fc (rg_ok_lstore (i := 4) (by decide +kernel) (by decide +kernel)) <|
  rg_fc (rg_ok_lload (i := 9) (by decide +kernel)) <|
  rg_fc (rg_ok_lstore (i := 6) (by decide +kernel) (by decide +kernel)) <|
  rg_fc (rg_ok_iinc (n := 1) (by decide +kernel) (by decide +kernel) (by decide +kernel)) <|
  rg_fc (rg_ok_goto (off := (-32)) (by decide +kernel) (by decide +kernel)) <|
  rg_fc (rg_okK _ (rg_ok_lload (i := 4) (by decide +kernel))) <|
  rg_fc (rg_ok_lreturn (by decide +kernel) rfl) <|
  fun _ h => absurd h List.not_mem_nil
def rg_kd33 : List (List (Nat × rg_S)) := [rg_c33_0]
theorem rg_o33 : ∀ pc f, rg_lk2 rg_kd33 pc = some f → rg_Ok 33 pc f := rg_lk2_ok (rg_fd rg_o33_0 (fun _ h => absurd h List.not_mem_nil))
def rg_c38_0 : List (Nat × rg_S) := [(0, rg_sil 1 1), (1, rg_sic 1 1), (2, rg_sklt 25), (5, rg_sil 1 1), (6, rg_sal 0 1), (7, rg_sgi 5 1), (10, rg_skgt 25), (13, rg_sal 0 1), (14, rg_sgr 5 0), (17, rg_sil 1 1), (18, rg_sic 1 1), (19, rg_s2i (fun x y => x - y)), (20, rg_sai), (21, rg_si2l), (22, rg_sgo 26), (25, rg_sK [true, true, true, false, false, false, false, false, false, false, false] (rg_slc 0 1)), (26, rg_sK [true, true, true, false, false, false, false, false, false, false, false] (rg_sls 3 1)), (27, rg_sil 1 1), (28, rg_sic 2 1), (29, rg_sklt 54), (32, rg_sil 1 1), (33, rg_sic 1 1), (34, rg_s2i (fun x y => x - y)), (35, rg_sal 0 1), (36, rg_sgi 5 1)]
theorem rg_o38_0 : ∀ q ∈ rg_c38_0, rg_Ok 38 q.1 q.2 :=
  rg_fc (rg_ok_iload_n (j := 1) (by decide +kernel) rfl) <|
  rg_fc (rg_ok_iconst (n := 1) (by decide +kernel) (by decide +kernel)) <|
  rg_fc (rg_ok_icmp_lt (off := 23) (by decide +kernel) (by decide +kernel)) <|
  rg_fc (rg_ok_iload_n (j := 1) (by decide +kernel) rfl) <|
  rg_fc (rg_ok_aload_n (j := 0) (by decide +kernel) rfl) <|
  rg_fc (rg_ok_geti (idx := 55) rg_cok5 (by decide +kernel) rfl (by decide +kernel) rg_wf_K_55) <|
  rg_fc (rg_ok_icmp_gt (off := 15) (by decide +kernel) (by decide +kernel)) <|
  rg_fc (rg_ok_aload_n (j := 0) (by decide +kernel) rfl) <|
  rg_fc (rg_ok_getr (idx := 112) rg_cok5 (by decide +kernel) rfl (by decide +kernel) rg_wf_K_112) <|
  rg_fc (rg_ok_iload_n (j := 1) (by decide +kernel) rfl) <|
  rg_fc (rg_ok_iconst (n := 1) (by decide +kernel) (by decide +kernel)) <|
  rg_fc (rg_ok_isub (by decide +kernel)) <|
  rg_fc (rg_ok_iaload (by decide +kernel)) <|
  rg_fc (rg_ok_i2l (by decide +kernel)) <|
  rg_fc (rg_ok_goto (off := 4) (by decide +kernel) (by decide +kernel)) <|
  rg_fc (rg_okK _ (rg_ok_lconst (n := 0) (by decide +kernel) (by decide +kernel))) <|
  rg_fc (rg_okK _ (rg_ok_lstore_n (j := 3) (by decide +kernel) rfl (by decide +kernel))) <|
  rg_fc (rg_ok_iload_n (j := 1) (by decide +kernel) rfl) <|
  rg_fc (rg_ok_iconst (n := 2) (by decide +kernel) (by decide +kernel)) <|
  rg_fc (rg_ok_icmp_lt (off := 25) (by decide +kernel) (by decide +kernel)) <|
  rg_fc (rg_ok_iload_n (j := 1) (by decide +kernel) rfl) <|
  rg_fc (rg_ok_iconst (n := 1) (by decide +kernel) (by decide +kernel)) <|
  rg_fc (rg_ok_isub (by decide +kernel)) <|
  rg_fc (rg_ok_aload_n (j := 0) (by decide +kernel) rfl) <|
  rg_fc (rg_ok_geti (idx := 55) rg_cok5 (by decide +kernel) rfl (by decide +kernel) rg_wf_K_55) <|
  fun _ h => absurd h List.not_mem_nil
def rg_c38_1 : List (Nat × rg_S) := [(39, rg_skgt 54), (42, rg_sal 0 1), (43, rg_sgr 5 0), (46, rg_sil 1 1), (47, rg_sic 2 1), (48, rg_s2i (fun x y => x - y)), (49, rg_sai), (50, rg_si2l), (51, rg_sgo 55), (54, rg_sK [true, true, true, true, false, false, false, false, false, false, false] (rg_slc 0 1)), (55, rg_sK [true, true, true, true, false, false, false, false, false, false, false] (rg_sls 5 2)), (57, rg_sil 1 1), (58, rg_sic 3 1), (59, rg_sklt 84), (62, rg_sil 1 1), (63, rg_sic 2 1), (64, rg_s2i (fun x y => x - y)), (65, rg_sal 0 1), (66, rg_sgi 5 1), (69, rg_skgt 84), (72, rg_sal 0 1), (73, rg_sgr 5 0), (76, rg_sil 1 1), (77, rg_sic 3 1), (78, rg_s2i (fun x y => x - y))]
theorem rg_o38_1 : ∀ q ∈ rg_c38_1, rg_Ok 38 q.1 q.2 :=
  rg_fc (rg_ok_icmp_gt (off := 15) (by decide +kernel) (by decide +kernel)) <|
  rg_fc (rg_ok_aload_n (j := 0) (by decide +kernel) rfl) <|
  rg_fc (rg_ok_getr (idx := 112) rg_cok5 (by decide +kernel) rfl (by decide +kernel) rg_wf_K_112) <|
  rg_fc (rg_ok_iload_n (j := 1) (by decide +kernel) rfl) <|
  rg_fc (rg_ok_iconst (n := 2) (by decide +kernel) (by decide +kernel)) <|
  rg_fc (rg_ok_isub (by decide +kernel)) <|
  rg_fc (rg_ok_iaload (by decide +kernel)) <|
  rg_fc (rg_ok_i2l (by decide +kernel)) <|
  rg_fc (rg_ok_goto (off := 4) (by decide +kernel) (by decide +kernel)) <|
  rg_fc (rg_okK _ (rg_ok_lconst (n := 0) (by decide +kernel) (by decide +kernel))) <|
  rg_fc (rg_okK _ (rg_ok_lstore (i := 5) (by decide +kernel) (by decide +kernel))) <|
  rg_fc (rg_ok_iload_n (j := 1) (by decide +kernel) rfl) <|
  rg_fc (rg_ok_iconst (n := 3) (by decide +kernel) (by decide +kernel)) <|
  rg_fc (rg_ok_icmp_lt (off := 25) (by decide +kernel) (by decide +kernel)) <|
  rg_fc (rg_ok_iload_n (j := 1) (by decide +kernel) rfl) <|
  rg_fc (rg_ok_iconst (n := 2) (by decide +kernel) (by decide +kernel)) <|
  rg_fc (rg_ok_isub (by decide +kernel)) <|
  rg_fc (rg_ok_aload_n (j := 0) (by decide +kernel) rfl) <|
  rg_fc (rg_ok_geti (idx := 55) rg_cok5 (by decide +kernel) rfl (by decide +kernel) rg_wf_K_55) <|
  rg_fc (rg_ok_icmp_gt (off := 15) (by decide +kernel) (by decide +kernel)) <|
  rg_fc (rg_ok_aload_n (j := 0) (by decide +kernel) rfl) <|
  rg_fc (rg_ok_getr (idx := 112) rg_cok5 (by decide +kernel) rfl (by decide +kernel) rg_wf_K_112) <|
  rg_fc (rg_ok_iload_n (j := 1) (by decide +kernel) rfl) <|
  rg_fc (rg_ok_iconst (n := 3) (by decide +kernel) (by decide +kernel)) <|
  rg_fc (rg_ok_isub (by decide +kernel)) <|
  fun _ h => absurd h List.not_mem_nil
def rg_c38_2 : List (Nat × rg_S) := [(79, rg_sai), (80, rg_si2l), (81, rg_sgo 85), (84, rg_sK [false, false, true, true, false, true, false, false, false, false, false] (rg_slc 0 1)), (85, rg_sK [false, false, true, true, false, true, false, false, false, false, false] (rg_sls 7 2)), (87, rg_sll 3 1), (88, rg_sic 31 2), (90, rg_ssh (fun x y => x <<< (y.toInt64 &&& 63))), (91, rg_sll 5 2), (93, rg_s2l (fun x y => x ||| y)), (94, rg_sls 9 2), (96, rg_sll 9 2), (98, rg_sil 2 1), (99, rg_ssh (fun x y => x <<< (y.toInt64 &&& 63))), (100, rg_sll 7 2), (102, rg_sic 31 2), (104, rg_sil 2 1), (105, rg_s2i (fun x y => x - y)), (106, rg_ssh (fun x y => x >>> (y.toInt64 &&& 63))), (107, rg_s2l (fun x y => x ||| y)), (108, rg_rl)]
theorem rg_o38_2 : ∀ q ∈ rg_c38_2, rg_Ok 38 q.1 q.2 :=
  rg_fc (rg_ok_iaload (by decide +kernel)) <|
  rg_fc (rg_ok_i2l (by decide +kernel)) <|
  rg_fc (rg_ok_goto (off := 4) (by decide +kernel) (by decide +kernel)) <|
  rg_fc (rg_okK _ (rg_ok_lconst (n := 0) (by decide +kernel) (by decide +kernel))) <|
  rg_fc (rg_okK _ (rg_ok_lstore (i := 7) (by decide +kernel) (by decide +kernel))) <|
  rg_fc (rg_ok_lload_n (j := 3) (by decide +kernel) rfl) <|
  rg_fc (rg_ok_bipush (n := 31) (by decide +kernel) (by decide +kernel)) <|
  rg_fc (rg_ok_lshl (by decide +kernel)) <|
  rg_fc (rg_ok_lload (i := 5) (by decide +kernel)) <|
  rg_fc (rg_ok_lor (by decide +kernel)) <|
  rg_fc (rg_ok_lstore (i := 9) (by decide +kernel) (by decide +kernel)) <|
  rg_fc (rg_ok_lload (i := 9) (by decide +kernel)) <|
  rg_fc (rg_ok_iload_n (j := 2) (by decide +kernel) rfl) <|
  rg_fc (rg_ok_lshl (by decide +kernel)) <|
  rg_fc (rg_ok_lload (i := 7) (by decide +kernel)) <|
  rg_fc (rg_ok_bipush (n := 31) (by decide +kernel) (by decide +kernel)) <|
  rg_fc (rg_ok_iload_n (j := 2) (by decide +kernel) rfl) <|
  rg_fc (rg_ok_isub (by decide +kernel)) <|
  rg_fc (rg_ok_lshr (by decide +kernel)) <|
  rg_fc (rg_ok_lor (by decide +kernel)) <|
  rg_fc (rg_ok_lreturn (by decide +kernel) rfl) <|
  fun _ h => absurd h List.not_mem_nil
def rg_kd38 : List (List (Nat × rg_S)) := [rg_c38_0, rg_c38_1, rg_c38_2]
theorem rg_o38 : ∀ pc f, rg_lk2 rg_kd38 pc = some f → rg_Ok 38 pc f := rg_lk2_ok (rg_fd rg_o38_0 (rg_fd rg_o38_1 (rg_fd rg_o38_2 (fun _ h => absurd h List.not_mem_nil))))
def rg_c40_0 : List (Nat × rg_S) := [(0, rg_sal 1 1), (1, rg_sgi 5 1), (4, rg_sis 3 1), (5, rg_sil 3 1), (6, rg_sjne 11), (9, rg_sic 0 1), (10, rg_rz), (11, rg_sal 1 1), (12, rg_sgr 5 0), (15, rg_sil 3 1), (16, rg_sic 1 1), (17, rg_s2i (fun x y => x - y)), (18, rg_sai), (19, rg_scS 37 1 1), (22, rg_sic 1 1), (23, rg_s2i (fun x y => x - y)), (24, rg_sis 4 2), (26, rg_sal 1 1), (27, rg_sil 3 1), (28, rg_sil 4 2), (30, rg_scS 38 3 2), (33, rg_sls 5 2), (35, rg_sal 2 1), (36, rg_sil 3 1), (37, rg_sil 4 2)]
theorem rg_o40_0 : ∀ q ∈ rg_c40_0, rg_Ok 40 q.1 q.2 :=
  rg_fc (rg_ok_aload_n (j := 1) (by decide +kernel) rfl) <|
  rg_fc (rg_ok_geti (idx := 55) rg_cok5 (by decide +kernel) rfl (by decide +kernel) rg_wf_K_55) <|
  rg_fc (rg_ok_istore_n (j := 3) (by decide +kernel) rfl (by decide +kernel)) <|
  rg_fc (rg_ok_iload_n (j := 3) (by decide +kernel) rfl) <|
  rg_fc (rg_ok_if_ne (off := 5) (by decide +kernel) (by decide +kernel)) <|
  rg_fc (rg_ok_iconst (n := 0) (by decide +kernel) (by decide +kernel)) <|
  rg_fc (rg_ok_zreturn (by decide +kernel) rfl) <|
  rg_fc (rg_ok_aload_n (j := 1) (by decide +kernel) rfl) <|
  rg_fc (rg_ok_getr (idx := 112) rg_cok5 (by decide +kernel) rfl (by decide +kernel) rg_wf_K_112) <|
  rg_fc (rg_ok_iload_n (j := 3) (by decide +kernel) rfl) <|
  rg_fc (rg_ok_iconst (n := 1) (by decide +kernel) (by decide +kernel)) <|
  rg_fc (rg_ok_isub (by decide +kernel)) <|
  rg_fc (rg_ok_iaload (by decide +kernel)) <|
  rg_fc (rg_ok_callS (idx := 136) (by decide +kernel) (by decide +kernel) rg_wm_K_136 rg_wt_37 rg_wy_37 rg_wd_37 ⟨by decide +kernel, by decide +kernel, by decide +kernel⟩ (by decide +kernel) (by decide +kernel)) <|
  rg_fc (rg_ok_iconst (n := 1) (by decide +kernel) (by decide +kernel)) <|
  rg_fc (rg_ok_isub (by decide +kernel)) <|
  rg_fc (rg_ok_istore (i := 4) (by decide +kernel) (by decide +kernel)) <|
  rg_fc (rg_ok_aload_n (j := 1) (by decide +kernel) rfl) <|
  rg_fc (rg_ok_iload_n (j := 3) (by decide +kernel) rfl) <|
  rg_fc (rg_ok_iload (i := 4) (by decide +kernel)) <|
  rg_fc (rg_ok_callS (idx := 142) (by decide +kernel) (by decide +kernel) rg_wm_K_142 rg_wt_38 rg_wy_38 rg_wd_38 ⟨by decide +kernel, by decide +kernel, by decide +kernel⟩ (by decide +kernel) (by decide +kernel)) <|
  rg_fc (rg_ok_lstore (i := 5) (by decide +kernel) (by decide +kernel)) <|
  rg_fc (rg_ok_aload_n (j := 2) (by decide +kernel) rfl) <|
  rg_fc (rg_ok_iload_n (j := 3) (by decide +kernel) rfl) <|
  rg_fc (rg_ok_iload (i := 4) (by decide +kernel)) <|
  fun _ h => absurd h List.not_mem_nil
def rg_c40_1 : List (Nat × rg_S) := [(39, rg_scS 38 3 2), (42, rg_sls 7 2), (44, rg_slc 1 1), (45, rg_sls 9 2), (47, rg_slc 0 1), (48, rg_sls 11 2), (50, rg_slc 0 1), (51, rg_sls 13 2), (53, rg_slc 1 1), (54, rg_sls 15 2), (56, rg_sic 0 1), (57, rg_sis 17 2), (59, rg_sK [true, false, false, false, false, true, false, true, false, true, false, true, false, true, false, true, false, true, false, false, false, false, false, false, false, false] (rg_sil 17 2)), (61, rg_sic 64 2), (63, rg_skge 215), (66, rg_sll 7 2), (68, rg_sll 13 2), (70, rg_s2l (fun x y => x + y)), (71, rg_slc 0 1), (72, rg_scm), (73, rg_sjle 215), (76, rg_sll 7 2), (78, rg_sll 15 2), (80, rg_s2l (fun x y => x + y)), (81, rg_slc 0 1)]
theorem rg_o40_1 : ∀ q ∈ rg_c40_1, rg_Ok 40 q.1 q.2 :=
  rg_fc (rg_ok_callS (idx := 142) (by decide +kernel) (by decide +kernel) rg_wm_K_142 rg_wt_38 rg_wy_38 rg_wd_38 ⟨by decide +kernel, by decide +kernel, by decide +kernel⟩ (by decide +kernel) (by decide +kernel)) <|
  rg_fc (rg_ok_lstore (i := 7) (by decide +kernel) (by decide +kernel)) <|
  rg_fc (rg_ok_lconst (n := 1) (by decide +kernel) (by decide +kernel)) <|
  rg_fc (rg_ok_lstore (i := 9) (by decide +kernel) (by decide +kernel)) <|
  rg_fc (rg_ok_lconst (n := 0) (by decide +kernel) (by decide +kernel)) <|
  rg_fc (rg_ok_lstore (i := 11) (by decide +kernel) (by decide +kernel)) <|
  rg_fc (rg_ok_lconst (n := 0) (by decide +kernel) (by decide +kernel)) <|
  rg_fc (rg_ok_lstore (i := 13) (by decide +kernel) (by decide +kernel)) <|
  rg_fc (rg_ok_lconst (n := 1) (by decide +kernel) (by decide +kernel)) <|
  rg_fc (rg_ok_lstore (i := 15) (by decide +kernel) (by decide +kernel)) <|
  rg_fc (rg_ok_iconst (n := 0) (by decide +kernel) (by decide +kernel)) <|
  rg_fc (rg_ok_istore (i := 17) (by decide +kernel) (by decide +kernel)) <|
  rg_fc (rg_okK _ (rg_ok_iload (i := 17) (by decide +kernel))) <|
  rg_fc (rg_ok_bipush (n := 64) (by decide +kernel) (by decide +kernel)) <|
  rg_fc (rg_ok_icmp_ge (off := 152) (by decide +kernel) (by decide +kernel)) <|
  rg_fc (rg_ok_lload (i := 7) (by decide +kernel)) <|
  rg_fc (rg_ok_lload (i := 13) (by decide +kernel)) <|
  rg_fc (rg_ok_ladd (by decide +kernel)) <|
  rg_fc (rg_ok_lconst (n := 0) (by decide +kernel) (by decide +kernel)) <|
  rg_fc (rg_ok_lcmp (by decide +kernel)) <|
  rg_fc (rg_ok_if_le (off := 142) (by decide +kernel) (by decide +kernel)) <|
  rg_fc (rg_ok_lload (i := 7) (by decide +kernel)) <|
  rg_fc (rg_ok_lload (i := 15) (by decide +kernel)) <|
  rg_fc (rg_ok_ladd (by decide +kernel)) <|
  rg_fc (rg_ok_lconst (n := 0) (by decide +kernel) (by decide +kernel)) <|
  fun _ h => absurd h List.not_mem_nil
def rg_c40_2 : List (Nat × rg_S) := [(82, rg_scm), (83, rg_sjle 215), (86, rg_sll 5 2), (88, rg_sll 9 2), (90, rg_s2l (fun x y => x + y)), (91, rg_sll 7 2), (93, rg_sll 13 2), (95, rg_s2l (fun x y => x + y)), (96, rg_sdl (fun x y => x / y)), (97, rg_sls 18 2), (99, rg_sll 18 2), (101, rg_sll 5 2), (103, rg_sll 11 2), (105, rg_s2l (fun x y => x + y)), (106, rg_sll 7 2), (108, rg_sll 15 2), (110, rg_s2l (fun x y => x + y)), (111, rg_sdl (fun x y => x / y)), (112, rg_scm), (113, rg_sjne 215), (116, rg_sll 18 2), (118, rg_slc 1073741824 3), (121, rg_scm), (122, rg_sjle 128), (125, rg_sgo 215)]
theorem rg_o40_2 : ∀ q ∈ rg_c40_2, rg_Ok 40 q.1 q.2 :=
  rg_fc (rg_ok_lcmp (by decide +kernel)) <|
  rg_fc (rg_ok_if_le (off := 132) (by decide +kernel) (by decide +kernel)) <|
  rg_fc (rg_ok_lload (i := 5) (by decide +kernel)) <|
  rg_fc (rg_ok_lload (i := 9) (by decide +kernel)) <|
  rg_fc (rg_ok_ladd (by decide +kernel)) <|
  rg_fc (rg_ok_lload (i := 7) (by decide +kernel)) <|
  rg_fc (rg_ok_lload (i := 13) (by decide +kernel)) <|
  rg_fc (rg_ok_ladd (by decide +kernel)) <|
  rg_fc (rg_ok_ldiv (by decide +kernel)) <|
  rg_fc (rg_ok_lstore (i := 18) (by decide +kernel) (by decide +kernel)) <|
  rg_fc (rg_ok_lload (i := 18) (by decide +kernel)) <|
  rg_fc (rg_ok_lload (i := 5) (by decide +kernel)) <|
  rg_fc (rg_ok_lload (i := 11) (by decide +kernel)) <|
  rg_fc (rg_ok_ladd (by decide +kernel)) <|
  rg_fc (rg_ok_lload (i := 7) (by decide +kernel)) <|
  rg_fc (rg_ok_lload (i := 15) (by decide +kernel)) <|
  rg_fc (rg_ok_ladd (by decide +kernel)) <|
  rg_fc (rg_ok_ldiv (by decide +kernel)) <|
  rg_fc (rg_ok_lcmp (by decide +kernel)) <|
  rg_fc (rg_ok_if_ne (off := 102) (by decide +kernel) (by decide +kernel)) <|
  rg_fc (rg_ok_lload (i := 18) (by decide +kernel)) <|
  rg_fc (rg_ok_ldc2 (n := 146) (by decide +kernel) rg_wc_K_146) <|
  rg_fc (rg_ok_lcmp (by decide +kernel)) <|
  rg_fc (rg_ok_if_le (off := 6) (by decide +kernel) (by decide +kernel)) <|
  rg_fc (rg_ok_goto (off := 90) (by decide +kernel) (by decide +kernel)) <|
  fun _ h => absurd h List.not_mem_nil
def rg_c40_3 : List (Nat × rg_S) := [(128, rg_sll 9 2), (130, rg_sll 18 2), (132, rg_sll 13 2), (134, rg_s2l (fun x y => x * y)), (135, rg_s2l (fun x y => x - y)), (136, rg_sls 20 2), (138, rg_sll 11 2), (140, rg_sll 18 2), (142, rg_sll 15 2), (144, rg_s2l (fun x y => x * y)), (145, rg_s2l (fun x y => x - y)), (146, rg_sls 22 2), (148, rg_sll 20 2), (150, rg_sma), (153, rg_slc 1073741824 3), (156, rg_scm), (157, rg_sjgt 215), (160, rg_sll 22 2), (162, rg_sma), (165, rg_slc 1073741824 3), (168, rg_scm), (169, rg_sjle 175), (172, rg_sgo 215), (175, rg_sll 5 2), (177, rg_sll 18 2)]
theorem rg_o40_3 : ∀ q ∈ rg_c40_3, rg_Ok 40 q.1 q.2 :=
  rg_fc (rg_ok_lload (i := 9) (by decide +kernel)) <|
  rg_fc (rg_ok_lload (i := 18) (by decide +kernel)) <|
  rg_fc (rg_ok_lload (i := 13) (by decide +kernel)) <|
  rg_fc (rg_ok_lmul (by decide +kernel)) <|
  rg_fc (rg_ok_lsub (by decide +kernel)) <|
  rg_fc (rg_ok_lstore (i := 20) (by decide +kernel) (by decide +kernel)) <|
  rg_fc (rg_ok_lload (i := 11) (by decide +kernel)) <|
  rg_fc (rg_ok_lload (i := 18) (by decide +kernel)) <|
  rg_fc (rg_ok_lload (i := 15) (by decide +kernel)) <|
  rg_fc (rg_ok_lmul (by decide +kernel)) <|
  rg_fc (rg_ok_lsub (by decide +kernel)) <|
  rg_fc (rg_ok_lstore (i := 22) (by decide +kernel) (by decide +kernel)) <|
  rg_fc (rg_ok_lload (i := 20) (by decide +kernel)) <|
  rg_fc (rg_ok_mabs (idx := 148) (by decide +kernel) rg_wq_K_148 rg_wq1_abs rg_wq2 rg_wq3_abs (by decide +kernel) (by decide +kernel)) <|
  rg_fc (rg_ok_ldc2 (n := 146) (by decide +kernel) rg_wc_K_146) <|
  rg_fc (rg_ok_lcmp (by decide +kernel)) <|
  rg_fc (rg_ok_if_gt (off := 58) (by decide +kernel) (by decide +kernel)) <|
  rg_fc (rg_ok_lload (i := 22) (by decide +kernel)) <|
  rg_fc (rg_ok_mabs (idx := 148) (by decide +kernel) rg_wq_K_148 rg_wq1_abs rg_wq2 rg_wq3_abs (by decide +kernel) (by decide +kernel)) <|
  rg_fc (rg_ok_ldc2 (n := 146) (by decide +kernel) rg_wc_K_146) <|
  rg_fc (rg_ok_lcmp (by decide +kernel)) <|
  rg_fc (rg_ok_if_le (off := 6) (by decide +kernel) (by decide +kernel)) <|
  rg_fc (rg_ok_goto (off := 43) (by decide +kernel) (by decide +kernel)) <|
  rg_fc (rg_ok_lload (i := 5) (by decide +kernel)) <|
  rg_fc (rg_ok_lload (i := 18) (by decide +kernel)) <|
  fun _ h => absurd h List.not_mem_nil
def rg_c40_4 : List (Nat × rg_S) := [(179, rg_sll 7 2), (181, rg_s2l (fun x y => x * y)), (182, rg_s2l (fun x y => x - y)), (183, rg_sls 24 2), (185, rg_sll 13 2), (187, rg_sls 9 2), (189, rg_sll 15 2), (191, rg_sls 11 2), (193, rg_sll 7 2), (195, rg_sls 5 2), (197, rg_sll 20 2), (199, rg_sls 13 2), (201, rg_sll 22 2), (203, rg_sls 15 2), (205, rg_sll 24 2), (207, rg_sls 7 2), (209, rg_sin 17 1), (212, rg_sgo 59), (215, rg_sK [true, false, false, false, false, false, false, false, false, true, false, true, false, true, false, true, false, false, false, false, false, false, false, false, false, false] (rg_sal 0 1)), (216, rg_sgr 4 11), (219, rg_sic 0 1), (220, rg_sll 9 2), (222, rg_swj), (223, rg_sal 0 1), (224, rg_sgr 4 11)]
theorem rg_o40_4 : ∀ q ∈ rg_c40_4, rg_Ok 40 q.1 q.2 :=
  rg_fc (rg_ok_lload (i := 7) (by decide +kernel)) <|
  rg_fc (rg_ok_lmul (by decide +kernel)) <|
  rg_fc (rg_ok_lsub (by decide +kernel)) <|
  rg_fc (rg_ok_lstore (i := 24) (by decide +kernel) (by decide +kernel)) <|
  rg_fc (rg_ok_lload (i := 13) (by decide +kernel)) <|
  rg_fc (rg_ok_lstore (i := 9) (by decide +kernel) (by decide +kernel)) <|
  rg_fc (rg_ok_lload (i := 15) (by decide +kernel)) <|
  rg_fc (rg_ok_lstore (i := 11) (by decide +kernel) (by decide +kernel)) <|
  rg_fc (rg_ok_lload (i := 7) (by decide +kernel)) <|
  rg_fc (rg_ok_lstore (i := 5) (by decide +kernel) (by decide +kernel)) <|
  rg_fc (rg_ok_lload (i := 20) (by decide +kernel)) <|
  rg_fc (rg_ok_lstore (i := 13) (by decide +kernel) (by decide +kernel)) <|
  rg_fc (rg_ok_lload (i := 22) (by decide +kernel)) <|
  rg_fc (rg_ok_lstore (i := 15) (by decide +kernel) (by decide +kernel)) <|
  rg_fc (rg_ok_lload (i := 24) (by decide +kernel)) <|
  rg_fc (rg_ok_lstore (i := 7) (by decide +kernel) (by decide +kernel)) <|
  rg_fc (rg_ok_iinc (n := 1) (by decide +kernel) (by decide +kernel) (by decide +kernel)) <|
  rg_fc (rg_ok_goto (off := (-153)) (by decide +kernel) (by decide +kernel)) <|
  rg_fc (rg_okK _ (rg_ok_aload_n (j := 0) (by decide +kernel) rfl)) <|
  rg_fc (rg_ok_getr (idx := 46) rg_cok4 (by decide +kernel) rfl (by decide +kernel) rg_wf_K_46) <|
  rg_fc (rg_ok_iconst (n := 0) (by decide +kernel) (by decide +kernel)) <|
  rg_fc (rg_ok_lload (i := 9) (by decide +kernel)) <|
  rg_fc (rg_ok_lastore (by decide +kernel)) <|
  rg_fc (rg_ok_aload_n (j := 0) (by decide +kernel) rfl) <|
  rg_fc (rg_ok_getr (idx := 46) rg_cok4 (by decide +kernel) rfl (by decide +kernel) rg_wf_K_46) <|
  fun _ h => absurd h List.not_mem_nil
def rg_c40_5 : List (Nat × rg_S) := [(227, rg_sic 1 1), (228, rg_sll 11 2), (230, rg_swj), (231, rg_sal 0 1), (232, rg_sgr 4 11), (235, rg_sic 2 1), (236, rg_sll 13 2), (238, rg_swj), (239, rg_sal 0 1), (240, rg_sgr 4 11), (243, rg_sic 3 1), (244, rg_sll 15 2), (246, rg_swj), (247, rg_sll 11 2), (249, rg_slc 0 1), (250, rg_scm), (251, rg_sjeq 258), (254, rg_sic 1 1), (255, rg_sgo 259), (258, rg_sic 0 1), (259, rg_sK [false, false, false, false, false, false, false, false, false, false, false, false, false, false, false, false, false, false, false, false, false, false, false, false, false, false] (rg_rz))]
theorem rg_o40_5 : ∀ q ∈ rg_c40_5, rg_Ok 40 q.1 q.2 :=
  rg_fc (rg_ok_iconst (n := 1) (by decide +kernel) (by decide +kernel)) <|
  rg_fc (rg_ok_lload (i := 11) (by decide +kernel)) <|
  rg_fc (rg_ok_lastore (by decide +kernel)) <|
  rg_fc (rg_ok_aload_n (j := 0) (by decide +kernel) rfl) <|
  rg_fc (rg_ok_getr (idx := 46) rg_cok4 (by decide +kernel) rfl (by decide +kernel) rg_wf_K_46) <|
  rg_fc (rg_ok_iconst (n := 2) (by decide +kernel) (by decide +kernel)) <|
  rg_fc (rg_ok_lload (i := 13) (by decide +kernel)) <|
  rg_fc (rg_ok_lastore (by decide +kernel)) <|
  rg_fc (rg_ok_aload_n (j := 0) (by decide +kernel) rfl) <|
  rg_fc (rg_ok_getr (idx := 46) rg_cok4 (by decide +kernel) rfl (by decide +kernel) rg_wf_K_46) <|
  rg_fc (rg_ok_iconst (n := 3) (by decide +kernel) (by decide +kernel)) <|
  rg_fc (rg_ok_lload (i := 15) (by decide +kernel)) <|
  rg_fc (rg_ok_lastore (by decide +kernel)) <|
  rg_fc (rg_ok_lload (i := 11) (by decide +kernel)) <|
  rg_fc (rg_ok_lconst (n := 0) (by decide +kernel) (by decide +kernel)) <|
  rg_fc (rg_ok_lcmp (by decide +kernel)) <|
  rg_fc (rg_ok_if_eq (off := 7) (by decide +kernel) (by decide +kernel)) <|
  rg_fc (rg_ok_iconst (n := 1) (by decide +kernel) (by decide +kernel)) <|
  rg_fc (rg_ok_goto (off := 4) (by decide +kernel) (by decide +kernel)) <|
  rg_fc (rg_ok_iconst (n := 0) (by decide +kernel) (by decide +kernel)) <|
  rg_fc (rg_okK _ (rg_ok_zreturn (by decide +kernel) rfl)) <|
  fun _ h => absurd h List.not_mem_nil
def rg_kd40 : List (List (Nat × rg_S)) := [rg_c40_0, rg_c40_1, rg_c40_2, rg_c40_3, rg_c40_4, rg_c40_5]
theorem rg_o40 : ∀ pc f, rg_lk2 rg_kd40 pc = some f → rg_Ok 40 pc f := rg_lk2_ok (rg_fd rg_o40_0 (rg_fd rg_o40_1 (rg_fd rg_o40_2 (rg_fd rg_o40_3 (rg_fd rg_o40_4 (rg_fd rg_o40_5 (fun _ h => absurd h List.not_mem_nil)))))))
def rg_c41_0 : List (Nat × rg_S) := [(0, rg_sal 0 1), (1, rg_sgr 4 11), (4, rg_sic 0 1), (5, rg_saj), (6, rg_sls 3 1), (7, rg_sal 0 1), (8, rg_sgr 4 11), (11, rg_sic 1 1), (12, rg_saj), (13, rg_sls 5 2), (15, rg_sal 0 1), (16, rg_sgr 4 11), (19, rg_sic 2 1), (20, rg_saj), (21, rg_sls 7 2), (23, rg_sal 0 1), (24, rg_sgr 4 11), (27, rg_sic 3 1), (28, rg_saj), (29, rg_sls 9 2), (31, rg_sal 1 1), (32, rg_sgi 5 1), (35, rg_sis 11 2), (37, rg_sal 2 1), (38, rg_sil 11 2)]
theorem rg_o41_0 : ∀ q ∈ rg_c41_0, rg_Ok 41 q.1 q.2 :=
  rg_fc (rg_ok_aload_n (j := 0) (by decide +kernel) rfl) <|
  rg_fc (rg_ok_getr (idx := 46) rg_cok4 (by decide +kernel) rfl (by decide +kernel) rg_wf_K_46) <|
  rg_fc (rg_ok_iconst (n := 0) (by decide +kernel) (by decide +kernel)) <|
  rg_fc (rg_ok_laload (by decide +kernel)) <|
  rg_fc (rg_ok_lstore_n (j := 3) (by decide +kernel) rfl (by decide +kernel)) <|
  rg_fc (rg_ok_aload_n (j := 0) (by decide +kernel) rfl) <|
  rg_fc (rg_ok_getr (idx := 46) rg_cok4 (by decide +kernel) rfl (by decide +kernel) rg_wf_K_46) <|
  rg_fc (rg_ok_iconst (n := 1) (by decide +kernel) (by decide +kernel)) <|
  rg_fc (rg_ok_laload (by decide +kernel)) <|
  rg_fc (rg_ok_lstore (i := 5) (by decide +kernel) (by decide +kernel)) <|
  rg_fc (rg_ok_aload_n (j := 0) (by decide +kernel) rfl) <|
  rg_fc (rg_ok_getr (idx := 46) rg_cok4 (by decide +kernel) rfl (by decide +kernel) rg_wf_K_46) <|
  rg_fc (rg_ok_iconst (n := 2) (by decide +kernel) (by decide +kernel)) <|
  rg_fc (rg_ok_laload (by decide +kernel)) <|
  rg_fc (rg_ok_lstore (i := 7) (by decide +kernel) (by decide +kernel)) <|
  rg_fc (rg_ok_aload_n (j := 0) (by decide +kernel) rfl) <|
  rg_fc (rg_ok_getr (idx := 46) rg_cok4 (by decide +kernel) rfl (by decide +kernel) rg_wf_K_46) <|
  rg_fc (rg_ok_iconst (n := 3) (by decide +kernel) (by decide +kernel)) <|
  rg_fc (rg_ok_laload (by decide +kernel)) <|
  rg_fc (rg_ok_lstore (i := 9) (by decide +kernel) (by decide +kernel)) <|
  rg_fc (rg_ok_aload_n (j := 1) (by decide +kernel) rfl) <|
  rg_fc (rg_ok_geti (idx := 55) rg_cok5 (by decide +kernel) rfl (by decide +kernel) rg_wf_K_55) <|
  rg_fc (rg_ok_istore (i := 11) (by decide +kernel) (by decide +kernel)) <|
  rg_fc (rg_ok_aload_n (j := 2) (by decide +kernel) rfl) <|
  rg_fc (rg_ok_iload (i := 11) (by decide +kernel)) <|
  fun _ h => absurd h List.not_mem_nil
def rg_c41_1 : List (Nat × rg_S) := [(40, rg_scV 35 1 0 5), (43, rg_slc 0 1), (44, rg_sls 12 2), (46, rg_slc 0 1), (47, rg_sls 14 2), (49, rg_sic 0 1), (50, rg_sis 16 2), (52, rg_sK [false, true, true, true, false, true, false, true, false, true, false, true, true, false, true, false, true, false, false, false, false] (rg_sil 16 2)), (54, rg_sil 11 2), (56, rg_skge 171), (59, rg_sal 1 1), (60, rg_sgr 5 0), (63, rg_sil 16 2), (65, rg_sai), (66, rg_si2l), (67, rg_sls 17 2), (69, rg_sil 16 2), (71, rg_sal 2 1), (72, rg_sgi 5 1), (75, rg_skge 89), (78, rg_sal 2 1), (79, rg_sgr 5 0), (82, rg_sil 16 2), (84, rg_sai), (85, rg_si2l)]
theorem rg_o41_1 : ∀ q ∈ rg_c41_1, rg_Ok 41 q.1 q.2 :=
  rg_fc (rg_ok_callV (idx := 154) rg_cok5 (by decide +kernel) (by decide +kernel) rg_wm_K_154 rg_wj_35 rg_ws_35 rg_wz_5 rg_wd_35 ⟨by decide +kernel, by decide +kernel, by decide +kernel, by decide +kernel⟩ (by decide +kernel) (by decide +kernel)) <|
  rg_fc (rg_ok_lconst (n := 0) (by decide +kernel) (by decide +kernel)) <|
  rg_fc (rg_ok_lstore (i := 12) (by decide +kernel) (by decide +kernel)) <|
  rg_fc (rg_ok_lconst (n := 0) (by decide +kernel) (by decide +kernel)) <|
  rg_fc (rg_ok_lstore (i := 14) (by decide +kernel) (by decide +kernel)) <|
  rg_fc (rg_ok_iconst (n := 0) (by decide +kernel) (by decide +kernel)) <|
  rg_fc (rg_ok_istore (i := 16) (by decide +kernel) (by decide +kernel)) <|
  rg_fc (rg_okK _ (rg_ok_iload (i := 16) (by decide +kernel))) <|
  rg_fc (rg_ok_iload (i := 11) (by decide +kernel)) <|
  rg_fc (rg_ok_icmp_ge (off := 115) (by decide +kernel) (by decide +kernel)) <|
  rg_fc (rg_ok_aload_n (j := 1) (by decide +kernel) rfl) <|
  rg_fc (rg_ok_getr (idx := 112) rg_cok5 (by decide +kernel) rfl (by decide +kernel) rg_wf_K_112) <|
  rg_fc (rg_ok_iload (i := 16) (by decide +kernel)) <|
  rg_fc (rg_ok_iaload (by decide +kernel)) <|
  rg_fc (rg_ok_i2l (by decide +kernel)) <|
  rg_fc (rg_ok_lstore (i := 17) (by decide +kernel) (by decide +kernel)) <|
  rg_fc (rg_ok_iload (i := 16) (by decide +kernel)) <|
  rg_fc (rg_ok_aload_n (j := 2) (by decide +kernel) rfl) <|
  rg_fc (rg_ok_geti (idx := 55) rg_cok5 (by decide +kernel) rfl (by decide +kernel) rg_wf_K_55) <|
  rg_fc (rg_ok_icmp_ge (off := 14) (by decide +kernel) (by decide +kernel)) <|
  rg_fc (rg_ok_aload_n (j := 2) (by decide +kernel) rfl) <|
  rg_fc (rg_ok_getr (idx := 112) rg_cok5 (by decide +kernel) rfl (by decide +kernel) rg_wf_K_112) <|
  rg_fc (rg_ok_iload (i := 16) (by decide +kernel)) <|
  rg_fc (rg_ok_iaload (by decide +kernel)) <|
  rg_fc (rg_ok_i2l (by decide +kernel)) <|
  fun _ h => absurd h List.not_mem_nil
def rg_c41_2 : List (Nat × rg_S) := [(86, rg_sgo 90), (89, rg_slc 0 1), (90, rg_sK [false, true, true, true, false, true, false, true, false, true, false, true, true, false, true, false, true, true, false, false, false] (rg_sls 19 2)), (92, rg_sll 12 2), (94, rg_sll 3 1), (95, rg_sll 17 2), (97, rg_s2l (fun x y => x * y)), (98, rg_sll 5 2), (100, rg_sll 19 2), (102, rg_s2l (fun x y => x * y)), (103, rg_s2l (fun x y => x + y)), (104, rg_s2l (fun x y => x + y)), (105, rg_sls 12 2), (107, rg_sll 14 2), (109, rg_sll 7 2), (111, rg_sll 17 2), (113, rg_s2l (fun x y => x * y)), (114, rg_sll 9 2), (116, rg_sll 19 2), (118, rg_s2l (fun x y => x * y)), (119, rg_s2l (fun x y => x + y)), (120, rg_s2l (fun x y => x + y)), (121, rg_sls 14 2), (123, rg_sal 1 1), (124, rg_sgr 5 0)]
theorem rg_o41_2 : ∀ q ∈ rg_c41_2, rg_Ok 41 q.1 q.2 :=
  rg_fc (rg_ok_goto (off := 4) (by decide +kernel) (by decide +kernel)) <|
  rg_fc (rg_ok_lconst (n := 0) (by decide +kernel) (by decide +kernel)) <|
  rg_fc (rg_okK _ (rg_ok_lstore (i := 19) (by decide +kernel) (by decide +kernel))) <|
  rg_fc (rg_ok_lload (i := 12) (by decide +kernel)) <|
  rg_fc (rg_ok_lload_n (j := 3) (by decide +kernel) rfl) <|
  rg_fc (rg_ok_lload (i := 17) (by decide +kernel)) <|
  rg_fc (rg_ok_lmul (by decide +kernel)) <|
  rg_fc (rg_ok_lload (i := 5) (by decide +kernel)) <|
  rg_fc (rg_ok_lload (i := 19) (by decide +kernel)) <|
  rg_fc (rg_ok_lmul (by decide +kernel)) <|
  rg_fc (rg_ok_ladd (by decide +kernel)) <|
  rg_fc (rg_ok_ladd (by decide +kernel)) <|
  rg_fc (rg_ok_lstore (i := 12) (by decide +kernel) (by decide +kernel)) <|
  rg_fc (rg_ok_lload (i := 14) (by decide +kernel)) <|
  rg_fc (rg_ok_lload (i := 7) (by decide +kernel)) <|
  rg_fc (rg_ok_lload (i := 17) (by decide +kernel)) <|
  rg_fc (rg_ok_lmul (by decide +kernel)) <|
  rg_fc (rg_ok_lload (i := 9) (by decide +kernel)) <|
  rg_fc (rg_ok_lload (i := 19) (by decide +kernel)) <|
  rg_fc (rg_ok_lmul (by decide +kernel)) <|
  rg_fc (rg_ok_ladd (by decide +kernel)) <|
  rg_fc (rg_ok_ladd (by decide +kernel)) <|
  rg_fc (rg_ok_lstore (i := 14) (by decide +kernel) (by decide +kernel)) <|
  rg_fc (rg_ok_aload_n (j := 1) (by decide +kernel) rfl) <|
  rg_fc (rg_ok_getr (idx := 112) rg_cok5 (by decide +kernel) rfl (by decide +kernel) rg_wf_K_112) <|
  fun _ h => absurd h List.not_mem_nil
def rg_c41_3 : List (Nat × rg_S) := [(127, rg_sil 16 2), (129, rg_sll 12 2), (131, rg_slc 2147483647 3), (134, rg_s2l (fun x y => x &&& y)), (135, rg_sl2i), (136, rg_swi), (137, rg_sal 2 1), (138, rg_sgr 5 0), (141, rg_sil 16 2), (143, rg_sll 14 2), (145, rg_slc 2147483647 3), (148, rg_s2l (fun x y => x &&& y)), (149, rg_sl2i), (150, rg_swi), (151, rg_sll 12 2), (153, rg_sic 31 2), (155, rg_ssh (fun x y => x >>> (y.toInt64 &&& 63))), (156, rg_sls 12 2), (158, rg_sll 14 2), (160, rg_sic 31 2), (162, rg_ssh (fun x y => x >>> (y.toInt64 &&& 63))), (163, rg_sls 14 2), (165, rg_sin 16 1), (168, rg_sgo 52), (171, rg_sal 1 1)]
theorem rg_o41_3 : ∀ q ∈ rg_c41_3, rg_Ok 41 q.1 q.2 :=
  rg_fc (rg_ok_iload (i := 16) (by decide +kernel)) <|
  rg_fc (rg_ok_lload (i := 12) (by decide +kernel)) <|
  rg_fc (rg_ok_ldc2 (n := 158) (by decide +kernel) rg_wc_K_158) <|
  rg_fc (rg_ok_land (by decide +kernel)) <|
  rg_fc (rg_ok_l2i (by decide +kernel)) <|
  rg_fc (rg_ok_iastore (by decide +kernel)) <|
  rg_fc (rg_ok_aload_n (j := 2) (by decide +kernel) rfl) <|
  rg_fc (rg_ok_getr (idx := 112) rg_cok5 (by decide +kernel) rfl (by decide +kernel) rg_wf_K_112) <|
  rg_fc (rg_ok_iload (i := 16) (by decide +kernel)) <|
  rg_fc (rg_ok_lload (i := 14) (by decide +kernel)) <|
  rg_fc (rg_ok_ldc2 (n := 158) (by decide +kernel) rg_wc_K_158) <|
  rg_fc (rg_ok_land (by decide +kernel)) <|
  rg_fc (rg_ok_l2i (by decide +kernel)) <|
  rg_fc (rg_ok_iastore (by decide +kernel)) <|
  rg_fc (rg_ok_lload (i := 12) (by decide +kernel)) <|
  rg_fc (rg_ok_bipush (n := 31) (by decide +kernel) (by decide +kernel)) <|
  rg_fc (rg_ok_lshr (by decide +kernel)) <|
  rg_fc (rg_ok_lstore (i := 12) (by decide +kernel) (by decide +kernel)) <|
  rg_fc (rg_ok_lload (i := 14) (by decide +kernel)) <|
  rg_fc (rg_ok_bipush (n := 31) (by decide +kernel) (by decide +kernel)) <|
  rg_fc (rg_ok_lshr (by decide +kernel)) <|
  rg_fc (rg_ok_lstore (i := 14) (by decide +kernel) (by decide +kernel)) <|
  rg_fc (rg_ok_iinc (n := 1) (by decide +kernel) (by decide +kernel) (by decide +kernel)) <|
  rg_fc (rg_ok_goto (off := (-116)) (by decide +kernel) (by decide +kernel)) <|
  rg_fc (rg_ok_aload_n (j := 1) (by decide +kernel) rfl) <|
  fun _ h => absurd h List.not_mem_nil
def rg_c41_4 : List (Nat × rg_S) := [(172, rg_sil 11 2), (174, rg_scV 2 1 0 5), (177, rg_sal 2 1), (178, rg_sil 11 2), (180, rg_scV 2 1 0 5), (183, rg_rv)]
theorem rg_o41_4 : ∀ q ∈ rg_c41_4, rg_Ok 41 q.1 q.2 :=
  rg_fc (rg_ok_iload (i := 11) (by decide +kernel)) <|
  rg_fc (rg_ok_callV (idx := 160) rg_cok5 (by decide +kernel) (by decide +kernel) rg_wm_K_160 rg_wj_2 rg_ws_2 rg_wz_5 rg_wd_2 ⟨by decide +kernel, by decide +kernel, by decide +kernel, by decide +kernel⟩ (by decide +kernel) (by decide +kernel)) <|
  rg_fc (rg_ok_aload_n (j := 2) (by decide +kernel) rfl) <|
  rg_fc (rg_ok_iload (i := 11) (by decide +kernel)) <|
  rg_fc (rg_ok_callV (idx := 160) rg_cok5 (by decide +kernel) (by decide +kernel) rg_wm_K_160 rg_wj_2 rg_ws_2 rg_wz_5 rg_wd_2 ⟨by decide +kernel, by decide +kernel, by decide +kernel, by decide +kernel⟩ (by decide +kernel) (by decide +kernel)) <|
  rg_fc (rg_ok_return (by decide +kernel) rfl) <|
  fun _ h => absurd h List.not_mem_nil
def rg_kd41 : List (List (Nat × rg_S)) := [rg_c41_0, rg_c41_1, rg_c41_2, rg_c41_3, rg_c41_4]
theorem rg_o41 : ∀ pc f, rg_lk2 rg_kd41 pc = some f → rg_Ok 41 pc f := rg_lk2_ok (rg_fd rg_o41_0 (rg_fd rg_o41_1 (rg_fd rg_o41_2 (rg_fd rg_o41_3 (rg_fd rg_o41_4 (fun _ h => absurd h List.not_mem_nil))))))
def rg_c43_0 : List (Nat × rg_S) := [(0, rg_sic 31 2), (2, rg_sil 2 1), (3, rg_s2i (fun x y => x - y)), (4, rg_sis 5 2), (6, rg_sil 1 1), (7, rg_sal 0 1), (8, rg_sgi 5 1), (11, rg_skge 24), (14, rg_sal 0 1), (15, rg_sgr 5 0), (18, rg_sil 1 1), (19, rg_sai), (20, rg_si2l), (21, rg_sgo 25), (24, rg_slc 0 1), (25, rg_sK [true, true, true, true, false, true, false, false, false, false, false, false, false, false, false, false, false, false, false, false, false, false, false, false, false, false, false] (rg_sls 6 2)), (27, rg_sil 1 1), (28, rg_sic 1 1), (29, rg_sklt 44), (32, rg_sal 0 1), (33, rg_sgr 5 0), (36, rg_sil 1 1), (37, rg_sic 1 1), (38, rg_s2i (fun x y => x - y)), (39, rg_sai)]
theorem rg_o43_0 : ∀ q ∈ rg_c43_0, rg_Ok 43 q.1 q.2 :=
  rg_fc (rg_ok_bipush (n := 31) (by decide +kernel) (by decide +kernel)) <|
  rg_fc (rg_ok_iload_n (j := 2) (by decide +kernel) rfl) <|
  rg_fc (rg_ok_isub (by decide +kernel)) <|
  rg_fc (rg_ok_istore (i := 5) (by decide +kernel) (by decide +kernel)) <|
  rg_fc (rg_ok_iload_n (j := 1) (by decide +kernel) rfl) <|
  rg_fc (rg_ok_aload_n (j := 0) (by decide +kernel) rfl) <|
  rg_fc (rg_ok_geti (idx := 55) rg_cok5 (by decide +kernel) rfl (by decide +kernel) rg_wf_K_55) <|
  rg_fc (rg_ok_icmp_ge (off := 13) (by decide +kernel) (by decide +kernel)) <|
  rg_fc (rg_ok_aload_n (j := 0) (by decide +kernel) rfl) <|
  rg_fc (rg_ok_getr (idx := 112) rg_cok5 (by decide +kernel) rfl (by decide +kernel) rg_wf_K_112) <|
  rg_fc (rg_ok_iload_n (j := 1) (by decide +kernel) rfl) <|
  rg_fc (rg_ok_iaload (by decide +kernel)) <|
  rg_fc (rg_ok_i2l (by decide +kernel)) <|
  rg_fc (rg_ok_goto (off := 4) (by decide +kernel) (by decide +kernel)) <|
  rg_fc (rg_ok_lconst (n := 0) (by decide +kernel) (by decide +kernel)) <|
  rg_fc (rg_okK _ (rg_ok_lstore (i := 6) (by decide +kernel) (by decide +kernel))) <|
  rg_fc (rg_ok_iload_n (j := 1) (by decide +kernel) rfl) <|
  rg_fc (rg_ok_iconst (n := 1) (by decide +kernel) (by decide +kernel)) <|
  rg_fc (rg_ok_icmp_lt (off := 15) (by decide +kernel) (by decide +kernel)) <|
  rg_fc (rg_ok_aload_n (j := 0) (by decide +kernel) rfl) <|
  rg_fc (rg_ok_getr (idx := 112) rg_cok5 (by decide +kernel) rfl (by decide +kernel) rg_wf_K_112) <|
  rg_fc (rg_ok_iload_n (j := 1) (by decide +kernel) rfl) <|
  rg_fc (rg_ok_iconst (n := 1) (by decide +kernel) (by decide +kernel)) <|
  rg_fc (rg_ok_isub (by decide +kernel)) <|
  rg_fc (rg_ok_iaload (by decide +kernel)) <|
  fun _ h => absurd h List.not_mem_nil
def rg_c43_1 : List (Nat × rg_S) := [(40, rg_si2l), (41, rg_sgo 45), (44, rg_slc 0 1), (45, rg_sK [true, true, true, true, false, true, true, false, false, false, false, false, false, false, false, false, false, false, false, false, false, false, false, false, false, false, false] (rg_sls 8 2)), (47, rg_sil 1 1), (48, rg_sic 2 1), (49, rg_sklt 64), (52, rg_sal 0 1), (53, rg_sgr 5 0), (56, rg_sil 1 1), (57, rg_sic 2 1), (58, rg_s2i (fun x y => x - y)), (59, rg_sai), (60, rg_si2l), (61, rg_sgo 65), (64, rg_slc 0 1), (65, rg_sK [true, true, true, true, false, true, true, false, true, false, false, false, false, false, false, false, false, false, false, false, false, false, false, false, false, false, false] (rg_sls 10 2)), (67, rg_sil 1 1), (68, rg_sic 3 1), (69, rg_sklt 84), (72, rg_sal 0 1), (73, rg_sgr 5 0), (76, rg_sil 1 1), (77, rg_sic 3 1), (78, rg_s2i (fun x y => x - y))]
theorem rg_o43_1 : ∀ q ∈ rg_c43_1, rg_Ok 43 q.1 q.2 :=
  rg_fc (rg_ok_i2l (by decide +kernel)) <|
  rg_fc (rg_ok_goto (off := 4) (by decide +kernel) (by decide +kernel)) <|
  rg_fc (rg_ok_lconst (n := 0) (by decide +kernel) (by decide +kernel)) <|
  rg_fc (rg_okK _ (rg_ok_lstore (i := 8) (by decide +kernel) (by decide +kernel))) <|
  rg_fc (rg_ok_iload_n (j := 1) (by decide +kernel) rfl) <|
  rg_fc (rg_ok_iconst (n := 2) (by decide +kernel) (by decide +kernel)) <|
  rg_fc (rg_ok_icmp_lt (off := 15) (by decide +kernel) (by decide +kernel)) <|
  rg_fc (rg_ok_aload_n (j := 0) (by decide +kernel) rfl) <|
  rg_fc (rg_ok_getr (idx := 112) rg_cok5 (by decide +kernel) rfl (by decide +kernel) rg_wf_K_112) <|
  rg_fc (rg_ok_iload_n (j := 1) (by decide +kernel) rfl) <|
  rg_fc (rg_ok_iconst (n := 2) (by decide +kernel) (by decide +kernel)) <|
  rg_fc (rg_ok_isub (by decide +kernel)) <|
  rg_fc (rg_ok_iaload (by decide +kernel)) <|
  rg_fc (rg_ok_i2l (by decide +kernel)) <|
  rg_fc (rg_ok_goto (off := 4) (by decide +kernel) (by decide +kernel)) <|
  rg_fc (rg_ok_lconst (n := 0) (by decide +kernel) (by decide +kernel)) <|
  rg_fc (rg_okK _ (rg_ok_lstore (i := 10) (by decide +kernel) (by decide +kernel))) <|
  rg_fc (rg_ok_iload_n (j := 1) (by decide +kernel) rfl) <|
  rg_fc (rg_ok_iconst (n := 3) (by decide +kernel) (by decide +kernel)) <|
  rg_fc (rg_ok_icmp_lt (off := 15) (by decide +kernel) (by decide +kernel)) <|
  rg_fc (rg_ok_aload_n (j := 0) (by decide +kernel) rfl) <|
  rg_fc (rg_ok_getr (idx := 112) rg_cok5 (by decide +kernel) rfl (by decide +kernel) rg_wf_K_112) <|
  rg_fc (rg_ok_iload_n (j := 1) (by decide +kernel) rfl) <|
  rg_fc (rg_ok_iconst (n := 3) (by decide +kernel) (by decide +kernel)) <|
  rg_fc (rg_ok_isub (by decide +kernel)) <|
  fun _ h => absurd h List.not_mem_nil
def rg_c43_2 : List (Nat × rg_S) := [(79, rg_sai), (80, rg_si2l), (81, rg_sgo 85), (84, rg_slc 0 1), (85, rg_sK [false, false, true, true, false, true, true, false, true, false, true, false, false, false, false, false, false, false, false, false, false, false, false, false, false, false, false] (rg_sls 12 2)), (87, rg_sll 6 2), (89, rg_sic 31 2), (91, rg_ssh (fun x y => x <<< (y.toInt64 &&& 63))), (92, rg_sll 8 2), (94, rg_s2l (fun x y => x ||| y)), (95, rg_sil 2 1), (96, rg_ssh (fun x y => x <<< (y.toInt64 &&& 63))), (97, rg_sll 10 2), (99, rg_sil 5 2), (101, rg_ssh (fun x y => x >>> (y.toInt64 &&& 63))), (102, rg_s2l (fun x y => x ||| y)), (103, rg_sls 14 2), (105, rg_sll 10 2), (107, rg_sil 2 1), (108, rg_ssh (fun x y => x <<< (y.toInt64 &&& 63))), (109, rg_sll 12 2), (111, rg_sil 5 2), (113, rg_ssh (fun x y => x >>> (y.toInt64 &&& 63))), (114, rg_s2l (fun x y => x ||| y)), (115, rg_slc 2147483647 3)]
theorem rg_o43_2 : ∀ q ∈ rg_c43_2, rg_Ok 43 q.1 q.2 :=
  rg_fc (rg_ok_iaload (by decide +kernel)) <|
  rg_fc (rg_ok_i2l (by decide +kernel)) <|
  rg_fc (rg_ok_goto (off := 4) (by decide +kernel) (by decide +kernel)) <|
  rg_fc (rg_ok_lconst (n := 0) (by decide +kernel) (by decide +kernel)) <|
  rg_fc (rg_okK _ (rg_ok_lstore (i := 12) (by decide +kernel) (by decide +kernel))) <|
  rg_fc (rg_ok_lload (i := 6) (by decide +kernel)) <|
  rg_fc (rg_ok_bipush (n := 31) (by decide +kernel) (by decide +kernel)) <|
  rg_fc (rg_ok_lshl (by decide +kernel)) <|
  rg_fc (rg_ok_lload (i := 8) (by decide +kernel)) <|
  rg_fc (rg_ok_lor (by decide +kernel)) <|
  rg_fc (rg_ok_iload_n (j := 2) (by decide +kernel) rfl) <|
  rg_fc (rg_ok_lshl (by decide +kernel)) <|
  rg_fc (rg_ok_lload (i := 10) (by decide +kernel)) <|
  rg_fc (rg_ok_iload (i := 5) (by decide +kernel)) <|
  rg_fc (rg_ok_lshr (by decide +kernel)) <|
  rg_fc (rg_ok_lor (by decide +kernel)) <|
  rg_fc (rg_ok_lstore (i := 14) (by decide +kernel) (by decide +kernel)) <|
  rg_fc (rg_ok_lload (i := 10) (by decide +kernel)) <|
  rg_fc (rg_ok_iload_n (j := 2) (by decide +kernel) rfl) <|
  rg_fc (rg_ok_lshl (by decide +kernel)) <|
  rg_fc (rg_ok_lload (i := 12) (by decide +kernel)) <|
  rg_fc (rg_ok_iload (i := 5) (by decide +kernel)) <|
  rg_fc (rg_ok_lshr (by decide +kernel)) <|
  rg_fc (rg_ok_lor (by decide +kernel)) <|
  rg_fc (rg_ok_ldc2 (n := 158) (by decide +kernel) rg_wc_K_158) <|
  fun _ h => absurd h List.not_mem_nil
def rg_c43_3 : List (Nat × rg_S) := [(118, rg_s2l (fun x y => x &&& y)), (119, rg_sls 16 2), (121, rg_sll 3 1), (122, rg_sic 31 2), (124, rg_ssh (fun x y => x >>> (y.toInt64 &&& 63))), (125, rg_sls 18 2), (127, rg_sll 3 1), (128, rg_slc 2147483647 3), (131, rg_s2l (fun x y => x &&& y)), (132, rg_sls 20 2), (134, rg_sll 18 2), (136, rg_slc 0 1), (137, rg_scm), (138, rg_sjgt 143), (141, rg_slc 0 1), (142, rg_rl), (143, rg_sll 14 2), (145, rg_sll 18 2), (147, rg_sdl (fun x y => x / y)), (148, rg_sls 22 2), (150, rg_sll 22 2), (152, rg_slc 2147483647 3), (155, rg_scm), (156, rg_sjle 164), (159, rg_slc 2147483647 3)]
theorem rg_o43_3 : ∀ q ∈ rg_c43_3, rg_Ok 43 q.1 q.2 :=
  rg_fc (rg_ok_land (by decide +kernel)) <|
  rg_fc (rg_ok_lstore (i := 16) (by decide +kernel) (by decide +kernel)) <|
  rg_fc (rg_ok_lload_n (j := 3) (by decide +kernel) rfl) <|
  rg_fc (rg_ok_bipush (n := 31) (by decide +kernel) (by decide +kernel)) <|
  rg_fc (rg_ok_lshr (by decide +kernel)) <|
  rg_fc (rg_ok_lstore (i := 18) (by decide +kernel) (by decide +kernel)) <|
  rg_fc (rg_ok_lload_n (j := 3) (by decide +kernel) rfl) <|
  rg_fc (rg_ok_ldc2 (n := 158) (by decide +kernel) rg_wc_K_158) <|
  rg_fc (rg_ok_land (by decide +kernel)) <|
  rg_fc (rg_ok_lstore (i := 20) (by decide +kernel) (by decide +kernel)) <|
  rg_fc (rg_ok_lload (i := 18) (by decide +kernel)) <|
  rg_fc (rg_ok_lconst (n := 0) (by decide +kernel) (by decide +kernel)) <|
  rg_fc (rg_ok_lcmp (by decide +kernel)) <|
  rg_fc (rg_ok_if_gt (off := 5) (by decide +kernel) (by decide +kernel)) <|
  rg_fc (rg_ok_lconst (n := 0) (by decide +kernel) (by decide +kernel)) <|
  rg_fc (rg_ok_lreturn (by decide +kernel) rfl) <|
  rg_fc (rg_ok_lload (i := 14) (by decide +kernel)) <|
  rg_fc (rg_ok_lload (i := 18) (by decide +kernel)) <|
  rg_fc (rg_ok_ldiv (by decide +kernel)) <|
  rg_fc (rg_ok_lstore (i := 22) (by decide +kernel) (by decide +kernel)) <|
  rg_fc (rg_ok_lload (i := 22) (by decide +kernel)) <|
  rg_fc (rg_ok_ldc2 (n := 158) (by decide +kernel) rg_wc_K_158) <|
  rg_fc (rg_ok_lcmp (by decide +kernel)) <|
  rg_fc (rg_ok_if_le (off := 8) (by decide +kernel) (by decide +kernel)) <|
  rg_fc (rg_ok_ldc2 (n := 158) (by decide +kernel) rg_wc_K_158) <|
  fun _ h => absurd h List.not_mem_nil
def rg_c43_4 : List (Nat × rg_S) := [(162, rg_sls 22 2), (164, rg_sK [false, false, false, false, false, false, false, false, false, false, false, false, false, false, true, false, true, false, true, false, true, false, true, false, false, false, false] (rg_sll 14 2)), (166, rg_sll 22 2), (168, rg_sll 18 2), (170, rg_s2l (fun x y => x * y)), (171, rg_s2l (fun x y => x - y)), (172, rg_sls 24 2), (174, rg_sic 0 1), (175, rg_sis 26 2), (177, rg_sK [false, false, false, false, false, false, false, false, false, false, false, false, false, false, false, false, true, false, true, false, true, false, true, false, true, false, true] (rg_sil 26 2)), (179, rg_sic 3 1), (180, rg_skge 228), (183, rg_sll 24 2), (185, rg_slc 2147483647 3), (188, rg_scm), (189, rg_sjgt 228), (192, rg_sll 22 2), (194, rg_sll 20 2), (196, rg_s2l (fun x y => x * y)), (197, rg_sll 24 2), (199, rg_sic 31 2), (201, rg_ssh (fun x y => x <<< (y.toInt64 &&& 63))), (202, rg_sll 16 2), (204, rg_s2l (fun x y => x ||| y)), (205, rg_scm)]
theorem rg_o43_4 : ∀ q ∈ rg_c43_4, rg_Ok 43 q.1 q.2 :=
  rg_fc (rg_ok_lstore (i := 22) (by decide +kernel) (by decide +kernel)) <|
  rg_fc (rg_okK _ (rg_ok_lload (i := 14) (by decide +kernel))) <|
  rg_fc (rg_ok_lload (i := 22) (by decide +kernel)) <|
  rg_fc (rg_ok_lload (i := 18) (by decide +kernel)) <|
  rg_fc (rg_ok_lmul (by decide +kernel)) <|
  rg_fc (rg_ok_lsub (by decide +kernel)) <|
  rg_fc (rg_ok_lstore (i := 24) (by decide +kernel) (by decide +kernel)) <|
  rg_fc (rg_ok_iconst (n := 0) (by decide +kernel) (by decide +kernel)) <|
  rg_fc (rg_ok_istore (i := 26) (by decide +kernel) (by decide +kernel)) <|
  rg_fc (rg_okK _ (rg_ok_iload (i := 26) (by decide +kernel))) <|
  rg_fc (rg_ok_iconst (n := 3) (by decide +kernel) (by decide +kernel)) <|
  rg_fc (rg_ok_icmp_ge (off := 48) (by decide +kernel) (by decide +kernel)) <|
  rg_fc (rg_ok_lload (i := 24) (by decide +kernel)) <|
  rg_fc (rg_ok_ldc2 (n := 158) (by decide +kernel) rg_wc_K_158) <|
  rg_fc (rg_ok_lcmp (by decide +kernel)) <|
  rg_fc (rg_ok_if_gt (off := 39) (by decide +kernel) (by decide +kernel)) <|
  rg_fc (rg_ok_lload (i := 22) (by decide +kernel)) <|
  rg_fc (rg_ok_lload (i := 20) (by decide +kernel)) <|
  rg_fc (rg_ok_lmul (by decide +kernel)) <|
  rg_fc (rg_ok_lload (i := 24) (by decide +kernel)) <|
  rg_fc (rg_ok_bipush (n := 31) (by decide +kernel) (by decide +kernel)) <|
  rg_fc (rg_ok_lshl (by decide +kernel)) <|
  rg_fc (rg_ok_lload (i := 16) (by decide +kernel)) <|
  rg_fc (rg_ok_lor (by decide +kernel)) <|
  rg_fc (rg_ok_lcmp (by decide +kernel)) <|
  fun _ h => absurd h List.not_mem_nil
def rg_c43_5 : List (Nat × rg_S) := [(206, rg_sjle 228), (209, rg_sll 22 2), (211, rg_slc 1 1), (212, rg_s2l (fun x y => x - y)), (213, rg_sls 22 2), (215, rg_sll 24 2), (217, rg_sll 18 2), (219, rg_s2l (fun x y => x + y)), (220, rg_sls 24 2), (222, rg_sin 26 1), (225, rg_sgo 177), (228, rg_sK [false, false, false, false, false, false, false, false, false, false, false, false, false, false, false, false, false, false, false, false, false, false, true, false, false, false, false] (rg_sll 22 2)), (230, rg_rl)]
theorem rg_o43_5 : ∀ q ∈ rg_c43_5, rg_Ok 43 q.1 q.2 :=
  rg_fc (rg_ok_if_le (off := 22) (by decide +kernel) (by decide +kernel)) <|
  rg_fc (rg_ok_lload (i := 22) (by decide +kernel)) <|
  rg_fc (rg_ok_lconst (n := 1) (by decide +kernel) (by decide +kernel)) <|
  rg_fc (rg_ok_lsub (by decide +kernel)) <|
  rg_fc (rg_ok_lstore (i := 22) (by decide +kernel) (by decide +kernel)) <|
  rg_fc (rg_ok_lload (i := 24) (by decide +kernel)) <|
  rg_fc (rg_ok_lload (i := 18) (by decide +kernel)) <|
  rg_fc (rg_ok_ladd (by decide +kernel)) <|
  rg_fc (rg_ok_lstore (i := 24) (by decide +kernel) (by decide +kernel)) <|
  rg_fc (rg_ok_iinc (n := 1) (by decide +kernel) (by decide +kernel) (by decide +kernel)) <|
  rg_fc (rg_ok_goto (off := (-48)) (by decide +kernel) (by decide +kernel)) <|
  rg_fc (rg_okK _ (rg_ok_lload (i := 22) (by decide +kernel))) <|
  rg_fc (rg_ok_lreturn (by decide +kernel) rfl) <|
  fun _ h => absurd h List.not_mem_nil
def rg_kd43 : List (List (Nat × rg_S)) := [rg_c43_0, rg_c43_1, rg_c43_2, rg_c43_3, rg_c43_4, rg_c43_5]
theorem rg_o43 : ∀ pc f, rg_lk2 rg_kd43 pc = some f → rg_Ok 43 pc f := rg_lk2_ok (rg_fd rg_o43_0 (rg_fd rg_o43_1 (rg_fd rg_o43_2 (rg_fd rg_o43_3 (rg_fd rg_o43_4 (rg_fd rg_o43_5 (fun _ h => absurd h List.not_mem_nil)))))))
def rg_c44_0 : List (Nat × rg_S) := [(0, rg_slc 0 1), (1, rg_sls 5 2), (3, rg_sic 0 1), (4, rg_sis 7 2), (6, rg_sK [true, true, true, true, false, true, false, true] (rg_sil 7 2)), (8, rg_sal 1 1), (9, rg_sgi 5 1), (12, rg_skge 70), (15, rg_sll 5 2), (17, rg_sal 0 1), (18, rg_sgr 5 0), (21, rg_sil 2 1), (22, rg_sil 7 2), (24, rg_s2i (fun x y => x + y)), (25, rg_sai), (26, rg_si2l), (27, rg_sll 3 1), (28, rg_sal 1 1), (29, rg_sgr 5 0), (32, rg_sil 7 2), (34, rg_sai), (35, rg_si2l), (36, rg_s2l (fun x y => x * y)), (37, rg_s2l (fun x y => x - y)), (38, rg_s2l (fun x y => x + y))]
theorem rg_o44_0 : ∀ q ∈ rg_c44_0, rg_Ok 44 q.1 q.2 :=
  rg_fc (rg_ok_lconst (n := 0) (by decide +kernel) (by decide +kernel)) <|
  rg_fc (rg_ok_lstore (i := 5) (by decide +kernel) (by decide +kernel)) <|
  rg_fc (rg_ok_iconst (n := 0) (by decide +kernel) (by decide +kernel)) <|
  rg_fc (rg_ok_istore (i := 7) (by decide +kernel) (by decide +kernel)) <|
  rg_fc (rg_okK _ (rg_ok_iload (i := 7) (by decide +kernel))) <|
  rg_fc (rg_ok_aload_n (j := 1) (by decide +kernel) rfl) <|
  rg_fc (rg_ok_geti (idx := 55) rg_cok5 (by decide +kernel) rfl (by decide +kernel) rg_wf_K_55) <|
  rg_fc (rg_ok_icmp_ge (off := 58) (by decide +kernel) (by decide +kernel)) <|
  rg_fc (rg_ok_lload (i := 5) (by decide +kernel)) <|
  rg_fc (rg_ok_aload_n (j := 0) (by decide +kernel) rfl) <|
  rg_fc (rg_ok_getr (idx := 112) rg_cok5 (by decide +kernel) rfl (by decide +kernel) rg_wf_K_112) <|
  rg_fc (rg_ok_iload_n (j := 2) (by decide +kernel) rfl) <|
  rg_fc (rg_ok_iload (i := 7) (by decide +kernel)) <|
  rg_fc (rg_ok_iadd (by decide +kernel)) <|
  rg_fc (rg_ok_iaload (by decide +kernel)) <|
  rg_fc (rg_ok_i2l (by decide +kernel)) <|
  rg_fc (rg_ok_lload_n (j := 3) (by decide +kernel) rfl) <|
  rg_fc (rg_ok_aload_n (j := 1) (by decide +kernel) rfl) <|
  rg_fc (rg_ok_getr (idx := 112) rg_cok5 (by decide +kernel) rfl (by decide +kernel) rg_wf_K_112) <|
  rg_fc (rg_ok_iload (i := 7) (by decide +kernel)) <|
  rg_fc (rg_ok_iaload (by decide +kernel)) <|
  rg_fc (rg_ok_i2l (by decide +kernel)) <|
  rg_fc (rg_ok_lmul (by decide +kernel)) <|
  rg_fc (rg_ok_lsub (by decide +kernel)) <|
  rg_fc (rg_ok_ladd (by decide +kernel)) <|
  fun _ h => absurd h List.not_mem_nil
def rg_c44_1 : List (Nat × rg_S) := [(39, rg_sls 5 2), (41, rg_sal 0 1), (42, rg_sgr 5 0), (45, rg_sil 2 1), (46, rg_sil 7 2), (48, rg_s2i (fun x y => x + y)), (49, rg_sll 5 2), (51, rg_slc 2147483647 3), (54, rg_s2l (fun x y => x &&& y)), (55, rg_sl2i), (56, rg_swi), (57, rg_sll 5 2), (59, rg_sic 31 2), (61, rg_ssh (fun x y => x >>> (y.toInt64 &&& 63))), (62, rg_sls 5 2), (64, rg_sin 7 1), (67, rg_sgo 6), (70, rg_sil 2 1), (71, rg_sal 1 1), (72, rg_sgi 5 1), (75, rg_s2i (fun x y => x + y)), (76, rg_sis 7 2), (78, rg_sil 7 2), (80, rg_sal 0 1), (81, rg_sgi 5 1)]
theorem rg_o44_1 : ∀ q ∈ rg_c44_1, rg_Ok 44 q.1 q.2 :=
  rg_fc (rg_ok_lstore (i := 5) (by decide +kernel) (by decide +kernel)) <|
  rg_fc (rg_ok_aload_n (j := 0) (by decide +kernel) rfl) <|
  rg_fc (rg_ok_getr (idx := 112) rg_cok5 (by decide +kernel) rfl (by decide +kernel) rg_wf_K_112) <|
  rg_fc (rg_ok_iload_n (j := 2) (by decide +kernel) rfl) <|
  rg_fc (rg_ok_iload (i := 7) (by decide +kernel)) <|
  rg_fc (rg_ok_iadd (by decide +kernel)) <|
  rg_fc (rg_ok_lload (i := 5) (by decide +kernel)) <|
  rg_fc (rg_ok_ldc2 (n := 158) (by decide +kernel) rg_wc_K_158) <|
  rg_fc (rg_ok_land (by decide +kernel)) <|
  rg_fc (rg_ok_l2i (by decide +kernel)) <|
  rg_fc (rg_ok_iastore (by decide +kernel)) <|
  rg_fc (rg_ok_lload (i := 5) (by decide +kernel)) <|
  rg_fc (rg_ok_bipush (n := 31) (by decide +kernel) (by decide +kernel)) <|
  rg_fc (rg_ok_lshr (by decide +kernel)) <|
  rg_fc (rg_ok_lstore (i := 5) (by decide +kernel) (by decide +kernel)) <|
  rg_fc (rg_ok_iinc (n := 1) (by decide +kernel) (by decide +kernel) (by decide +kernel)) <|
  rg_fc (rg_ok_goto (off := (-61)) (by decide +kernel) (by decide +kernel)) <|
  rg_fc (rg_ok_iload_n (j := 2) (by decide +kernel) rfl) <|
  rg_fc (rg_ok_aload_n (j := 1) (by decide +kernel) rfl) <|
  rg_fc (rg_ok_geti (idx := 55) rg_cok5 (by decide +kernel) rfl (by decide +kernel) rg_wf_K_55) <|
  rg_fc (rg_ok_iadd (by decide +kernel)) <|
  rg_fc (rg_ok_istore (i := 7) (by decide +kernel) (by decide +kernel)) <|
  rg_fc (rg_ok_iload (i := 7) (by decide +kernel)) <|
  rg_fc (rg_ok_aload_n (j := 0) (by decide +kernel) rfl) <|
  rg_fc (rg_ok_geti (idx := 55) rg_cok5 (by decide +kernel) rfl (by decide +kernel) rg_wf_K_55) <|
  fun _ h => absurd h List.not_mem_nil
def rg_c44_2 : List (Nat × rg_S) := [(84, rg_skge 121), (87, rg_sll 5 2), (89, rg_sal 0 1), (90, rg_sgr 5 0), (93, rg_sil 7 2), (95, rg_sai), (96, rg_si2l), (97, rg_s2l (fun x y => x + y)), (98, rg_sls 5 2), (100, rg_sal 0 1), (101, rg_sgr 5 0), (104, rg_sil 7 2), (106, rg_sll 5 2), (108, rg_slc 2147483647 3), (111, rg_s2l (fun x y => x &&& y)), (112, rg_sl2i), (113, rg_swi), (114, rg_sll 5 2), (116, rg_sic 31 2), (118, rg_ssh (fun x y => x >>> (y.toInt64 &&& 63))), (119, rg_sls 5 2), (121, rg_sK [false, false, false, false, false, true, false, false] (rg_sll 5 2)), (123, rg_slc 0 1), (124, rg_scm), (125, rg_sjge 132)]
theorem rg_o44_2 : ∀ q ∈ rg_c44_2, rg_Ok 44 q.1 q.2 :=
  rg_fc (rg_ok_icmp_ge (off := 37) (by decide +kernel) (by decide +kernel)) <|
  rg_fc (rg_ok_lload (i := 5) (by decide +kernel)) <|
  rg_fc (rg_ok_aload_n (j := 0) (by decide +kernel) rfl) <|
  rg_fc (rg_ok_getr (idx := 112) rg_cok5 (by decide +kernel) rfl (by decide +kernel) rg_wf_K_112) <|
  rg_fc (rg_ok_iload (i := 7) (by decide +kernel)) <|
  rg_fc (rg_ok_iaload (by decide +kernel)) <|
  rg_fc (rg_ok_i2l (by decide +kernel)) <|
  rg_fc (rg_ok_ladd (by decide +kernel)) <|
  rg_fc (rg_ok_lstore (i := 5) (by decide +kernel) (by decide +kernel)) <|
  rg_fc (rg_ok_aload_n (j := 0) (by decide +kernel) rfl) <|
  rg_fc (rg_ok_getr (idx := 112) rg_cok5 (by decide +kernel) rfl (by decide +kernel) rg_wf_K_112) <|
  rg_fc (rg_ok_iload (i := 7) (by decide +kernel)) <|
  rg_fc (rg_ok_lload (i := 5) (by decide +kernel)) <|
  rg_fc (rg_ok_ldc2 (n := 158) (by decide +kernel) rg_wc_K_158) <|
  rg_fc (rg_ok_land (by decide +kernel)) <|
  rg_fc (rg_ok_l2i (by decide +kernel)) <|
  rg_fc (rg_ok_iastore (by decide +kernel)) <|
  rg_fc (rg_ok_lload (i := 5) (by decide +kernel)) <|
  rg_fc (rg_ok_bipush (n := 31) (by decide +kernel) (by decide +kernel)) <|
  rg_fc (rg_ok_lshr (by decide +kernel)) <|
  rg_fc (rg_ok_lstore (i := 5) (by decide +kernel) (by decide +kernel)) <|
  rg_fc (rg_okK _ (rg_ok_lload (i := 5) (by decide +kernel))) <|
  rg_fc (rg_ok_lconst (n := 0) (by decide +kernel) (by decide +kernel)) <|
  rg_fc (rg_ok_lcmp (by decide +kernel)) <|
  rg_fc (rg_ok_if_ge (off := 7) (by decide +kernel) (by decide +kernel)) <|
  fun _ h => absurd h List.not_mem_nil
def rg_c44_3 : List (Nat × rg_S) := [(128, rg_sic 1 1), (129, rg_sgo 133), (132, rg_sic 0 1), (133, rg_sK [false, false, false, false, false, false, false, false] (rg_rz))]
theorem rg_o44_3 : ∀ q ∈ rg_c44_3, rg_Ok 44 q.1 q.2 :=
  rg_fc (rg_ok_iconst (n := 1) (by decide +kernel) (by decide +kernel)) <|
  rg_fc (rg_ok_goto (off := 4) (by decide +kernel) (by decide +kernel)) <|
  rg_fc (rg_ok_iconst (n := 0) (by decide +kernel) (by decide +kernel)) <|
  rg_fc (rg_okK _ (rg_ok_zreturn (by decide +kernel) rfl)) <|
  fun _ h => absurd h List.not_mem_nil
def rg_kd44 : List (List (Nat × rg_S)) := [rg_c44_0, rg_c44_1, rg_c44_2, rg_c44_3]
theorem rg_o44 : ∀ pc f, rg_lk2 rg_kd44 pc = some f → rg_Ok 44 pc f := rg_lk2_ok (rg_fd rg_o44_0 (rg_fd rg_o44_1 (rg_fd rg_o44_2 (rg_fd rg_o44_3 (fun _ h => absurd h List.not_mem_nil)))))
def rg_c45_0 : List (Nat × rg_S) := [(0, rg_slc 0 1), (1, rg_sls 3 1), (2, rg_sic 0 1), (3, rg_sis 5 2), (5, rg_sK [true, true, true, true, false, true] (rg_sil 5 2)), (7, rg_sal 1 1), (8, rg_sgi 5 1), (11, rg_skge 62), (14, rg_sll 3 1), (15, rg_sal 0 1), (16, rg_sgr 5 0), (19, rg_sil 2 1), (20, rg_sil 5 2), (22, rg_s2i (fun x y => x + y)), (23, rg_sai), (24, rg_si2l), (25, rg_sal 1 1), (26, rg_sgr 5 0), (29, rg_sil 5 2), (31, rg_sai), (32, rg_si2l), (33, rg_s2l (fun x y => x + y)), (34, rg_s2l (fun x y => x + y)), (35, rg_sls 3 1), (36, rg_sal 0 1)]
theorem rg_o45_0 : ∀ q ∈ rg_c45_0, rg_Ok 45 q.1 q.2 :=
  rg_fc (rg_ok_lconst (n := 0) (by decide +kernel) (by decide +kernel)) <|
  rg_fc (rg_ok_lstore_n (j := 3) (by decide +kernel) rfl (by decide +kernel)) <|
  rg_fc (rg_ok_iconst (n := 0) (by decide +kernel) (by decide +kernel)) <|
  rg_fc (rg_ok_istore (i := 5) (by decide +kernel) (by decide +kernel)) <|
  rg_fc (rg_okK _ (rg_ok_iload (i := 5) (by decide +kernel))) <|
  rg_fc (rg_ok_aload_n (j := 1) (by decide +kernel) rfl) <|
  rg_fc (rg_ok_geti (idx := 55) rg_cok5 (by decide +kernel) rfl (by decide +kernel) rg_wf_K_55) <|
  rg_fc (rg_ok_icmp_ge (off := 51) (by decide +kernel) (by decide +kernel)) <|
  rg_fc (rg_ok_lload_n (j := 3) (by decide +kernel) rfl) <|
  rg_fc (rg_ok_aload_n (j := 0) (by decide +kernel) rfl) <|
  rg_fc (rg_ok_getr (idx := 112) rg_cok5 (by decide +kernel) rfl (by decide +kernel) rg_wf_K_112) <|
  rg_fc (rg_ok_iload_n (j := 2) (by decide +kernel) rfl) <|
  rg_fc (rg_ok_iload (i := 5) (by decide +kernel)) <|
  rg_fc (rg_ok_iadd (by decide +kernel)) <|
  rg_fc (rg_ok_iaload (by decide +kernel)) <|
  rg_fc (rg_ok_i2l (by decide +kernel)) <|
  rg_fc (rg_ok_aload_n (j := 1) (by decide +kernel) rfl) <|
  rg_fc (rg_ok_getr (idx := 112) rg_cok5 (by decide +kernel) rfl (by decide +kernel) rg_wf_K_112) <|
  rg_fc (rg_ok_iload (i := 5) (by decide +kernel)) <|
  rg_fc (rg_ok_iaload (by decide +kernel)) <|
  rg_fc (rg_ok_i2l (by decide +kernel)) <|
  rg_fc (rg_ok_ladd (by decide +kernel)) <|
  rg_fc (rg_ok_ladd (by decide +kernel)) <|
  rg_fc (rg_ok_lstore_n (j := 3) (by decide +kernel) rfl (by decide +kernel)) <|
  rg_fc (rg_ok_aload_n (j := 0) (by decide +kernel) rfl) <|
  fun _ h => absurd h List.not_mem_nil
def rg_c45_1 : List (Nat × rg_S) := [(37, rg_sgr 5 0), (40, rg_sil 2 1), (41, rg_sil 5 2), (43, rg_s2i (fun x y => x + y)), (44, rg_sll 3 1), (45, rg_slc 2147483647 3), (48, rg_s2l (fun x y => x &&& y)), (49, rg_sl2i), (50, rg_swi), (51, rg_sll 3 1), (52, rg_sic 31 2), (54, rg_ssh (fun x y => x >>> (y.toInt64 &&& 63))), (55, rg_sls 3 1), (56, rg_sin 5 1), (59, rg_sgo 5), (62, rg_sil 2 1), (63, rg_sal 1 1), (64, rg_sgi 5 1), (67, rg_s2i (fun x y => x + y)), (68, rg_sis 5 2), (70, rg_sil 5 2), (72, rg_sal 0 1), (73, rg_sgi 5 1), (76, rg_skge 101), (79, rg_sal 0 1)]
theorem rg_o45_1 : ∀ q ∈ rg_c45_1, rg_Ok 45 q.1 q.2 :=
  rg_fc (rg_ok_getr (idx := 112) rg_cok5 (by decide +kernel) rfl (by decide +kernel) rg_wf_K_112) <|
  rg_fc (rg_ok_iload_n (j := 2) (by decide +kernel) rfl) <|
  rg_fc (rg_ok_iload (i := 5) (by decide +kernel)) <|
  rg_fc (rg_ok_iadd (by decide +kernel)) <|
  rg_fc (rg_ok_lload_n (j := 3) (by decide +kernel) rfl) <|
  rg_fc (rg_ok_ldc2 (n := 158) (by decide +kernel) rg_wc_K_158) <|
  rg_fc (rg_ok_land (by decide +kernel)) <|
  rg_fc (rg_ok_l2i (by decide +kernel)) <|
  rg_fc (rg_ok_iastore (by decide +kernel)) <|
  rg_fc (rg_ok_lload_n (j := 3) (by decide +kernel) rfl) <|
  rg_fc (rg_ok_bipush (n := 31) (by decide +kernel) (by decide +kernel)) <|
  rg_fc (rg_ok_lshr (by decide +kernel)) <|
  rg_fc (rg_ok_lstore_n (j := 3) (by decide +kernel) rfl (by decide +kernel)) <|
  rg_fc (rg_ok_iinc (n := 1) (by decide +kernel) (by decide +kernel) (by decide +kernel)) <|
  rg_fc (rg_ok_goto (off := (-54)) (by decide +kernel) (by decide +kernel)) <|
  rg_fc (rg_ok_iload_n (j := 2) (by decide +kernel) rfl) <|
  rg_fc (rg_ok_aload_n (j := 1) (by decide +kernel) rfl) <|
  rg_fc (rg_ok_geti (idx := 55) rg_cok5 (by decide +kernel) rfl (by decide +kernel) rg_wf_K_55) <|
  rg_fc (rg_ok_iadd (by decide +kernel)) <|
  rg_fc (rg_ok_istore (i := 5) (by decide +kernel) (by decide +kernel)) <|
  rg_fc (rg_ok_iload (i := 5) (by decide +kernel)) <|
  rg_fc (rg_ok_aload_n (j := 0) (by decide +kernel) rfl) <|
  rg_fc (rg_ok_geti (idx := 55) rg_cok5 (by decide +kernel) rfl (by decide +kernel) rg_wf_K_55) <|
  rg_fc (rg_ok_icmp_ge (off := 25) (by decide +kernel) (by decide +kernel)) <|
  rg_fc (rg_ok_aload_n (j := 0) (by decide +kernel) rfl) <|
  fun _ h => absurd h List.not_mem_nil
def rg_c45_2 : List (Nat × rg_S) := [(80, rg_sgr 5 0), (83, rg_sil 5 2), (85, rg_sal 0 1), (86, rg_sgr 5 0), (89, rg_sil 5 2), (91, rg_sai), (92, rg_si2l), (93, rg_sll 3 1), (94, rg_s2l (fun x y => x + y)), (95, rg_slc 2147483647 3), (98, rg_s2l (fun x y => x &&& y)), (99, rg_sl2i), (100, rg_swi), (101, rg_sK [false, false, false, false, false, false] (rg_rv))]
theorem rg_o45_2 : ∀ q ∈ rg_c45_2, rg_Ok 45 q.1 q.2 :=
  rg_fc (rg_ok_getr (idx := 112) rg_cok5 (by decide +kernel) rfl (by decide +kernel) rg_wf_K_112) <|
  rg_fc (rg_ok_iload (i := 5) (by decide +kernel)) <|
  rg_fc (rg_ok_aload_n (j := 0) (by decide +kernel) rfl) <|
  rg_fc (rg_ok_getr (idx := 112) rg_cok5 (by decide +kernel) rfl (by decide +kernel) rg_wf_K_112) <|
  rg_fc (rg_ok_iload (i := 5) (by decide +kernel)) <|
  rg_fc (rg_ok_iaload (by decide +kernel)) <|
  rg_fc (rg_ok_i2l (by decide +kernel)) <|
  rg_fc (rg_ok_lload_n (j := 3) (by decide +kernel) rfl) <|
  rg_fc (rg_ok_ladd (by decide +kernel)) <|
  rg_fc (rg_ok_ldc2 (n := 158) (by decide +kernel) rg_wc_K_158) <|
  rg_fc (rg_ok_land (by decide +kernel)) <|
  rg_fc (rg_ok_l2i (by decide +kernel)) <|
  rg_fc (rg_ok_iastore (by decide +kernel)) <|
  rg_fc (rg_okK _ (rg_ok_return (by decide +kernel) rfl)) <|
  fun _ h => absurd h List.not_mem_nil
def rg_kd45 : List (List (Nat × rg_S)) := [rg_c45_0, rg_c45_1, rg_c45_2]
theorem rg_o45 : ∀ pc f, rg_lk2 rg_kd45 pc = some f → rg_Ok 45 pc f := rg_lk2_ok (rg_fd rg_o45_0 (rg_fd rg_o45_1 (rg_fd rg_o45_2 (fun _ h => absurd h List.not_mem_nil))))
def rg_c46_0 : List (Nat × rg_S) := [(0, rg_sal 2 1), (1, rg_sgi 5 1), (4, rg_sis 3 1), (5, rg_sal 1 1), (6, rg_sgi 5 1), (9, rg_sil 3 1), (10, rg_s2i (fun x y => x - y)), (11, rg_sic 1 1), (12, rg_s2i (fun x y => x + y)), (13, rg_sis 4 2), (15, rg_sil 3 1), (16, rg_sjeq 24), (19, rg_sil 4 2), (21, rg_sjgt 32), (24, rg_sK [true, false, false, false, false, false, false, false, false, false, false] (rg_sal 0 1)), (25, rg_sgr 4 1), (28, rg_scV 42 0 0 5), (31, rg_rv), (32, rg_sal 0 1), (33, rg_sgr 4 1), (36, rg_sil 4 2), (38, rg_scV 35 1 0 5), (41, rg_sal 2 1), (42, rg_sgr 5 0), (45, rg_sil 3 1)]
theorem rg_o46_0 : ∀ q ∈ rg_c46_0, rg_Ok 46 q.1 q.2 :=
  rg_fc (rg_ok_aload_n (j := 2) (by decide +kernel) rfl) <|
  rg_fc (rg_ok_geti (idx := 55) rg_cok5 (by decide +kernel) rfl (by decide +kernel) rg_wf_K_55) <|
  rg_fc (rg_ok_istore_n (j := 3) (by decide +kernel) rfl (by decide +kernel)) <|
  rg_fc (rg_ok_aload_n (j := 1) (by decide +kernel) rfl) <|
  rg_fc (rg_ok_geti (idx := 55) rg_cok5 (by decide +kernel) rfl (by decide +kernel) rg_wf_K_55) <|
  rg_fc (rg_ok_iload_n (j := 3) (by decide +kernel) rfl) <|
  rg_fc (rg_ok_isub (by decide +kernel)) <|
  rg_fc (rg_ok_iconst (n := 1) (by decide +kernel) (by decide +kernel)) <|
  rg_fc (rg_ok_iadd (by decide +kernel)) <|
  rg_fc (rg_ok_istore (i := 4) (by decide +kernel) (by decide +kernel)) <|
  rg_fc (rg_ok_iload_n (j := 3) (by decide +kernel) rfl) <|
  rg_fc (rg_ok_if_eq (off := 8) (by decide +kernel) (by decide +kernel)) <|
  rg_fc (rg_ok_iload (i := 4) (by decide +kernel)) <|
  rg_fc (rg_ok_if_gt (off := 11) (by decide +kernel) (by decide +kernel)) <|
  rg_fc (rg_okK _ (rg_ok_aload_n (j := 0) (by decide +kernel) rfl)) <|
  rg_fc (rg_ok_getr (idx := 16) rg_cok4 (by decide +kernel) rfl (by decide +kernel) rg_wf_K_16) <|
  rg_fc (rg_ok_callV (idx := 163) rg_cok5 (by decide +kernel) (by decide +kernel) rg_wm_K_163 rg_wj_42 rg_ws_42 rg_wz_5 rg_wd_42 ⟨by decide +kernel, by decide +kernel, by decide +kernel, by decide +kernel⟩ (by decide +kernel) (by decide +kernel)) <|
  rg_fc (rg_ok_return (by decide +kernel) rfl) <|
  rg_fc (rg_ok_aload_n (j := 0) (by decide +kernel) rfl) <|
  rg_fc (rg_ok_getr (idx := 16) rg_cok4 (by decide +kernel) rfl (by decide +kernel) rg_wf_K_16) <|
  rg_fc (rg_ok_iload (i := 4) (by decide +kernel)) <|
  rg_fc (rg_ok_callV (idx := 154) rg_cok5 (by decide +kernel) (by decide +kernel) rg_wm_K_154 rg_wj_35 rg_ws_35 rg_wz_5 rg_wd_35 ⟨by decide +kernel, by decide +kernel, by decide +kernel, by decide +kernel⟩ (by decide +kernel) (by decide +kernel)) <|
  rg_fc (rg_ok_aload_n (j := 2) (by decide +kernel) rfl) <|
  rg_fc (rg_ok_getr (idx := 112) rg_cok5 (by decide +kernel) rfl (by decide +kernel) rg_wf_K_112) <|
  rg_fc (rg_ok_iload_n (j := 3) (by decide +kernel) rfl) <|
  fun _ h => absurd h List.not_mem_nil
def rg_c46_1 : List (Nat × rg_S) := [(46, rg_sic 1 1), (47, rg_s2i (fun x y => x - y)), (48, rg_sai), (49, rg_scS 37 1 1), (52, rg_sic 1 1), (53, rg_s2i (fun x y => x - y)), (54, rg_sis 5 2), (56, rg_sal 2 1), (57, rg_sil 3 1), (58, rg_sil 5 2), (60, rg_scS 38 3 2), (63, rg_sls 6 2), (65, rg_sil 4 2), (67, rg_sic 1 1), (68, rg_s2i (fun x y => x - y)), (69, rg_sis 8 2), (71, rg_sK [true, true, true, true, true, true, true, false, true, false, false] (rg_sil 8 2)), (73, rg_sjlt 141), (76, rg_sal 1 1), (77, rg_sil 8 2), (79, rg_sil 3 1), (80, rg_s2i (fun x y => x + y)), (81, rg_sil 5 2), (83, rg_sll 6 2), (85, rg_scS 43 4 2)]
theorem rg_o46_1 : ∀ q ∈ rg_c46_1, rg_Ok 46 q.1 q.2 :=
  rg_fc (rg_ok_iconst (n := 1) (by decide +kernel) (by decide +kernel)) <|
  rg_fc (rg_ok_isub (by decide +kernel)) <|
  rg_fc (rg_ok_iaload (by decide +kernel)) <|
  rg_fc (rg_ok_callS (idx := 136) (by decide +kernel) (by decide +kernel) rg_wm_K_136 rg_wt_37 rg_wy_37 rg_wd_37 ⟨by decide +kernel, by decide +kernel, by decide +kernel⟩ (by decide +kernel) (by decide +kernel)) <|
  rg_fc (rg_ok_iconst (n := 1) (by decide +kernel) (by decide +kernel)) <|
  rg_fc (rg_ok_isub (by decide +kernel)) <|
  rg_fc (rg_ok_istore (i := 5) (by decide +kernel) (by decide +kernel)) <|
  rg_fc (rg_ok_aload_n (j := 2) (by decide +kernel) rfl) <|
  rg_fc (rg_ok_iload_n (j := 3) (by decide +kernel) rfl) <|
  rg_fc (rg_ok_iload (i := 5) (by decide +kernel)) <|
  rg_fc (rg_ok_callS (idx := 142) (by decide +kernel) (by decide +kernel) rg_wm_K_142 rg_wt_38 rg_wy_38 rg_wd_38 ⟨by decide +kernel, by decide +kernel, by decide +kernel⟩ (by decide +kernel) (by decide +kernel)) <|
  rg_fc (rg_ok_lstore (i := 6) (by decide +kernel) (by decide +kernel)) <|
  rg_fc (rg_ok_iload (i := 4) (by decide +kernel)) <|
  rg_fc (rg_ok_iconst (n := 1) (by decide +kernel) (by decide +kernel)) <|
  rg_fc (rg_ok_isub (by decide +kernel)) <|
  rg_fc (rg_ok_istore (i := 8) (by decide +kernel) (by decide +kernel)) <|
  rg_fc (rg_okK _ (rg_ok_iload (i := 8) (by decide +kernel))) <|
  rg_fc (rg_ok_if_lt (off := 68) (by decide +kernel) (by decide +kernel)) <|
  rg_fc (rg_ok_aload_n (j := 1) (by decide +kernel) rfl) <|
  rg_fc (rg_ok_iload (i := 8) (by decide +kernel)) <|
  rg_fc (rg_ok_iload_n (j := 3) (by decide +kernel) rfl) <|
  rg_fc (rg_ok_iadd (by decide +kernel)) <|
  rg_fc (rg_ok_iload (i := 5) (by decide +kernel)) <|
  rg_fc (rg_ok_lload (i := 6) (by decide +kernel)) <|
  rg_fc (rg_ok_callS (idx := 166) (by decide +kernel) (by decide +kernel) rg_wm_K_166 rg_wt_43 rg_wy_43 rg_wd_43 ⟨by decide +kernel, by decide +kernel, by decide +kernel⟩ (by decide +kernel) (by decide +kernel)) <|
  fun _ h => absurd h List.not_mem_nil
def rg_c46_2 : List (Nat × rg_S) := [(88, rg_sls 9 2), (90, rg_sll 9 2), (92, rg_slc 0 1), (93, rg_scm), (94, rg_sjeq 122), (97, rg_sal 1 1), (98, rg_sal 2 1), (99, rg_sil 8 2), (101, rg_sll 9 2), (103, rg_scS 44 4 1), (106, rg_sjeq 122), (109, rg_sal 1 1), (110, rg_sal 2 1), (111, rg_sil 8 2), (113, rg_scS 45 3 0), (116, rg_sll 9 2), (118, rg_slc 1 1), (119, rg_s2l (fun x y => x - y)), (120, rg_sls 9 2), (122, rg_sK [true, true, true, true, true, true, true, false, true, true, false] (rg_sal 0 1)), (123, rg_sgr 4 1), (126, rg_sgr 5 0), (129, rg_sil 8 2), (131, rg_sll 9 2), (133, rg_sl2i)]
theorem rg_o46_2 : ∀ q ∈ rg_c46_2, rg_Ok 46 q.1 q.2 :=
  rg_fc (rg_ok_lstore (i := 9) (by decide +kernel) (by decide +kernel)) <|
  rg_fc (rg_ok_lload (i := 9) (by decide +kernel)) <|
  rg_fc (rg_ok_lconst (n := 0) (by decide +kernel) (by decide +kernel)) <|
  rg_fc (rg_ok_lcmp (by decide +kernel)) <|
  rg_fc (rg_ok_if_eq (off := 28) (by decide +kernel) (by decide +kernel)) <|
  rg_fc (rg_ok_aload_n (j := 1) (by decide +kernel) rfl) <|
  rg_fc (rg_ok_aload_n (j := 2) (by decide +kernel) rfl) <|
  rg_fc (rg_ok_iload (i := 8) (by decide +kernel)) <|
  rg_fc (rg_ok_lload (i := 9) (by decide +kernel)) <|
  rg_fc (rg_ok_callS (idx := 170) (by decide +kernel) (by decide +kernel) rg_wm_K_170 rg_wt_44 rg_wy_44 rg_wd_44 ⟨by decide +kernel, by decide +kernel, by decide +kernel⟩ (by decide +kernel) (by decide +kernel)) <|
  rg_fc (rg_ok_if_eq (off := 16) (by decide +kernel) (by decide +kernel)) <|
  rg_fc (rg_ok_aload_n (j := 1) (by decide +kernel) rfl) <|
  rg_fc (rg_ok_aload_n (j := 2) (by decide +kernel) rfl) <|
  rg_fc (rg_ok_iload (i := 8) (by decide +kernel)) <|
  rg_fc (rg_ok_callS (idx := 174) (by decide +kernel) (by decide +kernel) rg_wm_K_174 rg_wt_45 rg_wy_45 rg_wd_45 ⟨by decide +kernel, by decide +kernel, by decide +kernel⟩ (by decide +kernel) (by decide +kernel)) <|
  rg_fc (rg_ok_lload (i := 9) (by decide +kernel)) <|
  rg_fc (rg_ok_lconst (n := 1) (by decide +kernel) (by decide +kernel)) <|
  rg_fc (rg_ok_lsub (by decide +kernel)) <|
  rg_fc (rg_ok_lstore (i := 9) (by decide +kernel) (by decide +kernel)) <|
  rg_fc (rg_okK _ (rg_ok_aload_n (j := 0) (by decide +kernel) rfl)) <|
  rg_fc (rg_ok_getr (idx := 16) rg_cok4 (by decide +kernel) rfl (by decide +kernel) rg_wf_K_16) <|
  rg_fc (rg_ok_getr (idx := 112) rg_cok5 (by decide +kernel) rfl (by decide +kernel) rg_wf_K_112) <|
  rg_fc (rg_ok_iload (i := 8) (by decide +kernel)) <|
  rg_fc (rg_ok_lload (i := 9) (by decide +kernel)) <|
  rg_fc (rg_ok_l2i (by decide +kernel)) <|
  fun _ h => absurd h List.not_mem_nil
def rg_c46_3 : List (Nat × rg_S) := [(134, rg_swi), (135, rg_sin 8 (-1)), (138, rg_sgo 71), (141, rg_sal 0 1), (142, rg_sgr 4 1), (145, rg_sic 0 1), (146, rg_spz 5 2), (149, rg_sal 0 1), (150, rg_sgr 4 1), (153, rg_sil 4 2), (155, rg_scV 2 1 0 5), (158, rg_sal 1 1), (159, rg_sal 1 1), (160, rg_sgi 5 1), (163, rg_scV 2 1 0 5), (166, rg_rv)]
theorem rg_o46_3 : ∀ q ∈ rg_c46_3, rg_Ok 46 q.1 q.2 :=
  rg_fc (rg_ok_iastore (by decide +kernel)) <|
  rg_fc (rg_ok_iinc (n := (-1)) (by decide +kernel) (by decide +kernel) (by decide +kernel)) <|
  rg_fc (rg_ok_goto (off := (-67)) (by decide +kernel) (by decide +kernel)) <|
  rg_fc (rg_ok_aload_n (j := 0) (by decide +kernel) rfl) <|
  rg_fc (rg_ok_getr (idx := 16) rg_cok4 (by decide +kernel) rfl (by decide +kernel) rg_wf_K_16) <|
  rg_fc (rg_ok_iconst (n := 0) (by decide +kernel) (by decide +kernel)) <|
  rg_fc (rg_ok_putz (idx := 87) rg_cok5 (by decide +kernel) rfl rfl rfl (by decide +kernel) rg_wf_K_87) <|
  rg_fc (rg_ok_aload_n (j := 0) (by decide +kernel) rfl) <|
  rg_fc (rg_ok_getr (idx := 16) rg_cok4 (by decide +kernel) rfl (by decide +kernel) rg_wf_K_16) <|
  rg_fc (rg_ok_iload (i := 4) (by decide +kernel)) <|
  rg_fc (rg_ok_callV (idx := 160) rg_cok5 (by decide +kernel) (by decide +kernel) rg_wm_K_160 rg_wj_2 rg_ws_2 rg_wz_5 rg_wd_2 ⟨by decide +kernel, by decide +kernel, by decide +kernel, by decide +kernel⟩ (by decide +kernel) (by decide +kernel)) <|
  rg_fc (rg_ok_aload_n (j := 1) (by decide +kernel) rfl) <|
  rg_fc (rg_ok_aload_n (j := 1) (by decide +kernel) rfl) <|
  rg_fc (rg_ok_geti (idx := 55) rg_cok5 (by decide +kernel) rfl (by decide +kernel) rg_wf_K_55) <|
  rg_fc (rg_ok_callV (idx := 160) rg_cok5 (by decide +kernel) (by decide +kernel) rg_wm_K_160 rg_wj_2 rg_ws_2 rg_wz_5 rg_wd_2 ⟨by decide +kernel, by decide +kernel, by decide +kernel, by decide +kernel⟩ (by decide +kernel) (by decide +kernel)) <|
  rg_fc (rg_ok_return (by decide +kernel) rfl) <|
  fun _ h => absurd h List.not_mem_nil
def rg_kd46 : List (List (Nat × rg_S)) := [rg_c46_0, rg_c46_1, rg_c46_2, rg_c46_3]
theorem rg_o46 : ∀ pc f, rg_lk2 rg_kd46 pc = some f → rg_Ok 46 pc f := rg_lk2_ok (rg_fd rg_o46_0 (rg_fd rg_o46_1 (rg_fd rg_o46_2 (rg_fd rg_o46_3 (fun _ h => absurd h List.not_mem_nil)))))
def rg_c47_0 : List (Nat × rg_S) := [(0, rg_sal 1 1), (1, rg_scV 31 0 1 5), (4, rg_sjne 14), (7, rg_sal 2 1), (8, rg_scV 31 0 1 5), (11, rg_sjeq 23), (14, rg_sK [true, false, false, false, false, false, false, false] (rg_sal 0 1)), (15, rg_sgr 4 0), (18, rg_slc 1 1), (19, rg_scV 3 1 0 5), (22, rg_rv), (23, rg_sal 1 1), (24, rg_sgi 5 1), (27, rg_sic 2 1), (28, rg_skgt 58), (31, rg_sal 2 1), (32, rg_sgi 5 1), (35, rg_sic 2 1), (36, rg_skgt 58), (39, rg_sal 0 1), (40, rg_sgr 4 0), (43, rg_sal 1 1), (44, rg_scV 32 0 2 5), (47, rg_sal 2 1), (48, rg_scV 32 0 2 5)]
theorem rg_o47_0 : ∀ q ∈ rg_c47_0, rg_Ok 47 q.1 q.2 :=
  rg_fc (rg_ok_aload_n (j := 1) (by decide +kernel) rfl) <|
  rg_fc (rg_ok_callV (idx := 120) rg_cok5 (by decide +kernel) (by decide +kernel) rg_wm_K_120 rg_wj_31 rg_ws_31 rg_wz_5 rg_wd_31 ⟨by decide +kernel, by decide +kernel, by decide +kernel, by decide +kernel⟩ (by decide +kernel) (by decide +kernel)) <|
  rg_fc (rg_ok_if_ne (off := 10) (by decide +kernel) (by decide +kernel)) <|
  rg_fc (rg_ok_aload_n (j := 2) (by decide +kernel) rfl) <|
  rg_fc (rg_ok_callV (idx := 120) rg_cok5 (by decide +kernel) (by decide +kernel) rg_wm_K_120 rg_wj_31 rg_ws_31 rg_wz_5 rg_wd_31 ⟨by decide +kernel, by decide +kernel, by decide +kernel, by decide +kernel⟩ (by decide +kernel) (by decide +kernel)) <|
  rg_fc (rg_ok_if_eq (off := 12) (by decide +kernel) (by decide +kernel)) <|
  rg_fc (rg_okK _ (rg_ok_aload_n (j := 0) (by decide +kernel) rfl)) <|
  rg_fc (rg_ok_getr (idx := 10) rg_cok4 (by decide +kernel) rfl (by decide +kernel) rg_wf_K_10) <|
  rg_fc (rg_ok_lconst (n := 1) (by decide +kernel) (by decide +kernel)) <|
  rg_fc (rg_ok_callV (idx := 74) rg_cok5 (by decide +kernel) (by decide +kernel) rg_wm_K_74 rg_wj_3 rg_ws_3 rg_wz_5 rg_wd_3 ⟨by decide +kernel, by decide +kernel, by decide +kernel, by decide +kernel⟩ (by decide +kernel) (by decide +kernel)) <|
  rg_fc (rg_ok_return (by decide +kernel) rfl) <|
  rg_fc (rg_ok_aload_n (j := 1) (by decide +kernel) rfl) <|
  rg_fc (rg_ok_geti (idx := 55) rg_cok5 (by decide +kernel) rfl (by decide +kernel) rg_wf_K_55) <|
  rg_fc (rg_ok_iconst (n := 2) (by decide +kernel) (by decide +kernel)) <|
  rg_fc (rg_ok_icmp_gt (off := 30) (by decide +kernel) (by decide +kernel)) <|
  rg_fc (rg_ok_aload_n (j := 2) (by decide +kernel) rfl) <|
  rg_fc (rg_ok_geti (idx := 55) rg_cok5 (by decide +kernel) rfl (by decide +kernel) rg_wf_K_55) <|
  rg_fc (rg_ok_iconst (n := 2) (by decide +kernel) (by decide +kernel)) <|
  rg_fc (rg_ok_icmp_gt (off := 22) (by decide +kernel) (by decide +kernel)) <|
  rg_fc (rg_ok_aload_n (j := 0) (by decide +kernel) rfl) <|
  rg_fc (rg_ok_getr (idx := 10) rg_cok4 (by decide +kernel) rfl (by decide +kernel) rg_wf_K_10) <|
  rg_fc (rg_ok_aload_n (j := 1) (by decide +kernel) rfl) <|
  rg_fc (rg_ok_callV (idx := 116) rg_cok5 (by decide +kernel) (by decide +kernel) rg_wm_K_116 rg_wj_32 rg_ws_32 rg_wz_5 rg_wd_32 ⟨by decide +kernel, by decide +kernel, by decide +kernel, by decide +kernel⟩ (by decide +kernel) (by decide +kernel)) <|
  rg_fc (rg_ok_aload_n (j := 2) (by decide +kernel) rfl) <|
  rg_fc (rg_ok_callV (idx := 116) rg_cok5 (by decide +kernel) (by decide +kernel) rg_wm_K_116 rg_wj_32 rg_ws_32 rg_wz_5 rg_wd_32 ⟨by decide +kernel, by decide +kernel, by decide +kernel, by decide +kernel⟩ (by decide +kernel) (by decide +kernel)) <|
  fun _ h => absurd h List.not_mem_nil
def rg_c47_1 : List (Nat × rg_S) := [(51, rg_scS 33 2 2), (54, rg_scV 3 1 0 5), (57, rg_rv), (58, rg_sK [true, true, true, false, false, false, false, false] (rg_sal 1 1)), (59, rg_sal 2 1), (60, rg_scV 34 1 1 5), (63, rg_sjlt 70), (66, rg_sic 1 1), (67, rg_sgo 71), (70, rg_sic 0 1), (71, rg_sK [true, true, true, false, false, false, false, false] (rg_sis 3 1)), (72, rg_sal 0 1), (73, rg_sgr 4 3), (76, rg_sas 4 2), (78, rg_sal 0 1), (79, rg_sgr 4 4), (82, rg_sas 5 2), (84, rg_sal 4 2), (86, rg_sil 3 1), (87, rg_sjeq 94), (90, rg_sal 1 1), (91, rg_sgo 95), (94, rg_sal 2 1), (95, rg_sK [true, true, true, true, true, true, false, false] (rg_scV 36 1 0 5)), (98, rg_sal 5 2)]
theorem rg_o47_1 : ∀ q ∈ rg_c47_1, rg_Ok 47 q.1 q.2 :=
  rg_fc (rg_ok_callS (idx := 124) (by decide +kernel) (by decide +kernel) rg_wm_K_124 rg_wt_33 rg_wy_33 rg_wd_33 ⟨by decide +kernel, by decide +kernel, by decide +kernel⟩ (by decide +kernel) (by decide +kernel)) <|
  rg_fc (rg_ok_callV (idx := 74) rg_cok5 (by decide +kernel) (by decide +kernel) rg_wm_K_74 rg_wj_3 rg_ws_3 rg_wz_5 rg_wd_3 ⟨by decide +kernel, by decide +kernel, by decide +kernel, by decide +kernel⟩ (by decide +kernel) (by decide +kernel)) <|
  rg_fc (rg_ok_return (by decide +kernel) rfl) <|
  rg_fc (rg_okK _ (rg_ok_aload_n (j := 1) (by decide +kernel) rfl)) <|
  rg_fc (rg_ok_aload_n (j := 2) (by decide +kernel) rfl) <|
  rg_fc (rg_ok_callV (idx := 98) rg_cok5 (by decide +kernel) (by decide +kernel) rg_wm_K_98 rg_wj_34 rg_ws_34 rg_wz_5 rg_wd_34 ⟨by decide +kernel, by decide +kernel, by decide +kernel, by decide +kernel⟩ (by decide +kernel) (by decide +kernel)) <|
  rg_fc (rg_ok_if_lt (off := 7) (by decide +kernel) (by decide +kernel)) <|
  rg_fc (rg_ok_iconst (n := 1) (by decide +kernel) (by decide +kernel)) <|
  rg_fc (rg_ok_goto (off := 4) (by decide +kernel) (by decide +kernel)) <|
  rg_fc (rg_ok_iconst (n := 0) (by decide +kernel) (by decide +kernel)) <|
  rg_fc (rg_okK _ (rg_ok_istore_n (j := 3) (by decide +kernel) rfl (by decide +kernel))) <|
  rg_fc (rg_ok_aload_n (j := 0) (by decide +kernel) rfl) <|
  rg_fc (rg_ok_getr (idx := 22) rg_cok4 (by decide +kernel) rfl (by decide +kernel) rg_wf_K_22) <|
  rg_fc (rg_ok_astore (i := 4) (by decide +kernel) (by decide +kernel)) <|
  rg_fc (rg_ok_aload_n (j := 0) (by decide +kernel) rfl) <|
  rg_fc (rg_ok_getr (idx := 25) rg_cok4 (by decide +kernel) rfl (by decide +kernel) rg_wf_K_25) <|
  rg_fc (rg_ok_astore (i := 5) (by decide +kernel) (by decide +kernel)) <|
  rg_fc (rg_ok_aload (i := 4) (by decide +kernel)) <|
  rg_fc (rg_ok_iload_n (j := 3) (by decide +kernel) rfl) <|
  rg_fc (rg_ok_if_eq (off := 7) (by decide +kernel) (by decide +kernel)) <|
  rg_fc (rg_ok_aload_n (j := 1) (by decide +kernel) rfl) <|
  rg_fc (rg_ok_goto (off := 4) (by decide +kernel) (by decide +kernel)) <|
  rg_fc (rg_ok_aload_n (j := 2) (by decide +kernel) rfl) <|
  rg_fc (rg_okK _ (rg_ok_callV (idx := 66) rg_cok5 (by decide +kernel) (by decide +kernel) rg_wm_K_66 rg_wj_36 rg_ws_36 rg_wz_5 rg_wd_36 ⟨by decide +kernel, by decide +kernel, by decide +kernel, by decide +kernel⟩ (by decide +kernel) (by decide +kernel))) <|
  rg_fc (rg_ok_aload (i := 5) (by decide +kernel)) <|
  fun _ h => absurd h List.not_mem_nil
def rg_c47_2 : List (Nat × rg_S) := [(100, rg_sil 3 1), (101, rg_sjeq 108), (104, rg_sal 2 1), (105, rg_sgo 109), (108, rg_sal 1 1), (109, rg_sK [true, false, false, false, true, true, false, false] (rg_scV 36 1 0 5)), (112, rg_sic 0 1), (113, rg_sis 6 2), (115, rg_sK [true, false, false, false, true, true, true, false] (rg_sil 6 2)), (117, rg_sic 1000000 2), (119, rg_skge 179), (122, rg_sal 5 2), (124, rg_sgi 5 1), (127, rg_sic 2 1), (128, rg_skle 179), (131, rg_sal 0 1), (132, rg_sal 4 2), (134, rg_sal 5 2), (136, rg_scV 40 2 1 4), (139, rg_sjeq 153), (142, rg_sal 0 1), (143, rg_sal 4 2), (145, rg_sal 5 2), (147, rg_scV 41 2 0 4), (150, rg_sgo 173)]
theorem rg_o47_2 : ∀ q ∈ rg_c47_2, rg_Ok 47 q.1 q.2 :=
  rg_fc (rg_ok_iload_n (j := 3) (by decide +kernel) rfl) <|
  rg_fc (rg_ok_if_eq (off := 7) (by decide +kernel) (by decide +kernel)) <|
  rg_fc (rg_ok_aload_n (j := 2) (by decide +kernel) rfl) <|
  rg_fc (rg_ok_goto (off := 4) (by decide +kernel) (by decide +kernel)) <|
  rg_fc (rg_ok_aload_n (j := 1) (by decide +kernel) rfl) <|
  rg_fc (rg_okK _ (rg_ok_callV (idx := 66) rg_cok5 (by decide +kernel) (by decide +kernel) rg_wm_K_66 rg_wj_36 rg_ws_36 rg_wz_5 rg_wd_36 ⟨by decide +kernel, by decide +kernel, by decide +kernel, by decide +kernel⟩ (by decide +kernel) (by decide +kernel))) <|
  rg_fc (rg_ok_iconst (n := 0) (by decide +kernel) (by decide +kernel)) <|
  rg_fc (rg_ok_istore (i := 6) (by decide +kernel) (by decide +kernel)) <|
  rg_fc (rg_okK _ (rg_ok_iload (i := 6) (by decide +kernel))) <|
  rg_fc (rg_ok_ldc (n := 128) (by decide +kernel) rg_wc_K_128) <|
  rg_fc (rg_ok_icmp_ge (off := 60) (by decide +kernel) (by decide +kernel)) <|
  rg_fc (rg_ok_aload (i := 5) (by decide +kernel)) <|
  rg_fc (rg_ok_geti (idx := 55) rg_cok5 (by decide +kernel) rfl (by decide +kernel) rg_wf_K_55) <|
  rg_fc (rg_ok_iconst (n := 2) (by decide +kernel) (by decide +kernel)) <|
  rg_fc (rg_ok_icmp_le (off := 51) (by decide +kernel) (by decide +kernel)) <|
  rg_fc (rg_ok_aload_n (j := 0) (by decide +kernel) rfl) <|
  rg_fc (rg_ok_aload (i := 4) (by decide +kernel)) <|
  rg_fc (rg_ok_aload (i := 5) (by decide +kernel)) <|
  rg_fc (rg_ok_callV (idx := 129) rg_cok4 (by decide +kernel) (by decide +kernel) rg_wm_K_129 rg_wj_40 rg_ws_40 rg_wz_4 rg_wd_40 ⟨by decide +kernel, by decide +kernel, by decide +kernel, by decide +kernel⟩ (by decide +kernel) (by decide +kernel)) <|
  rg_fc (rg_ok_if_eq (off := 14) (by decide +kernel) (by decide +kernel)) <|
  rg_fc (rg_ok_aload_n (j := 0) (by decide +kernel) rfl) <|
  rg_fc (rg_ok_aload (i := 4) (by decide +kernel)) <|
  rg_fc (rg_ok_aload (i := 5) (by decide +kernel)) <|
  rg_fc (rg_ok_callV (idx := 133) rg_cok4 (by decide +kernel) (by decide +kernel) rg_wm_K_133 rg_wj_41 rg_ws_41 rg_wz_4 rg_wd_41 ⟨by decide +kernel, by decide +kernel, by decide +kernel, by decide +kernel⟩ (by decide +kernel) (by decide +kernel)) <|
  rg_fc (rg_ok_goto (off := 23) (by decide +kernel) (by decide +kernel)) <|
  fun _ h => absurd h List.not_mem_nil
def rg_c47_3 : List (Nat × rg_S) := [(153, rg_sal 0 1), (154, rg_sal 4 2), (156, rg_sal 5 2), (158, rg_scV 46 2 0 4), (161, rg_sal 4 2), (163, rg_sas 7 2), (165, rg_sal 5 2), (167, rg_sas 4 2), (169, rg_sal 7 2), (171, rg_sas 5 2), (173, rg_sK [true, false, false, false, true, true, true, false] (rg_sin 6 1)), (176, rg_sgo 115), (179, rg_sK [true, false, false, false, true, true, false, false] (rg_sal 5 2)), (181, rg_sgi 5 1), (184, rg_sjne 205), (187, rg_sal 0 1), (188, rg_sgr 4 0), (191, rg_sal 4 2), (193, rg_scV 36 1 0 5), (196, rg_sal 0 1), (197, rg_sgr 4 0), (200, rg_sic 0 1), (201, rg_spz 5 2), (204, rg_rv), (205, rg_sal 0 1)]
theorem rg_o47_3 : ∀ q ∈ rg_c47_3, rg_Ok 47 q.1 q.2 :=
  rg_fc (rg_ok_aload_n (j := 0) (by decide +kernel) rfl) <|
  rg_fc (rg_ok_aload (i := 4) (by decide +kernel)) <|
  rg_fc (rg_ok_aload (i := 5) (by decide +kernel)) <|
  rg_fc (rg_ok_callV (idx := 102) rg_cok4 (by decide +kernel) (by decide +kernel) rg_wm_K_102 rg_wj_46 rg_ws_46 rg_wz_4 rg_wd_46 ⟨by decide +kernel, by decide +kernel, by decide +kernel, by decide +kernel⟩ (by decide +kernel) (by decide +kernel)) <|
  rg_fc (rg_ok_aload (i := 4) (by decide +kernel)) <|
  rg_fc (rg_ok_astore (i := 7) (by decide +kernel) (by decide +kernel)) <|
  rg_fc (rg_ok_aload (i := 5) (by decide +kernel)) <|
  rg_fc (rg_ok_astore (i := 4) (by decide +kernel) (by decide +kernel)) <|
  rg_fc (rg_ok_aload (i := 7) (by decide +kernel)) <|
  rg_fc (rg_ok_astore (i := 5) (by decide +kernel) (by decide +kernel)) <|
  rg_fc (rg_okK _ (rg_ok_iinc (n := 1) (by decide +kernel) (by decide +kernel) (by decide +kernel))) <|
  rg_fc (rg_ok_goto (off := (-61)) (by decide +kernel) (by decide +kernel)) <|
  rg_fc (rg_okK _ (rg_ok_aload (i := 5) (by decide +kernel))) <|
  rg_fc (rg_ok_geti (idx := 55) rg_cok5 (by decide +kernel) rfl (by decide +kernel) rg_wf_K_55) <|
  rg_fc (rg_ok_if_ne (off := 21) (by decide +kernel) (by decide +kernel)) <|
  rg_fc (rg_ok_aload_n (j := 0) (by decide +kernel) rfl) <|
  rg_fc (rg_ok_getr (idx := 10) rg_cok4 (by decide +kernel) rfl (by decide +kernel) rg_wf_K_10) <|
  rg_fc (rg_ok_aload (i := 4) (by decide +kernel)) <|
  rg_fc (rg_ok_callV (idx := 66) rg_cok5 (by decide +kernel) (by decide +kernel) rg_wm_K_66 rg_wj_36 rg_ws_36 rg_wz_5 rg_wd_36 ⟨by decide +kernel, by decide +kernel, by decide +kernel, by decide +kernel⟩ (by decide +kernel) (by decide +kernel)) <|
  rg_fc (rg_ok_aload_n (j := 0) (by decide +kernel) rfl) <|
  rg_fc (rg_ok_getr (idx := 10) rg_cok4 (by decide +kernel) rfl (by decide +kernel) rg_wf_K_10) <|
  rg_fc (rg_ok_iconst (n := 0) (by decide +kernel) (by decide +kernel)) <|
  rg_fc (rg_ok_putz (idx := 87) rg_cok5 (by decide +kernel) rfl rfl rfl (by decide +kernel) rg_wf_K_87) <|
  rg_fc (rg_ok_return (by decide +kernel) rfl) <|
  rg_fc (rg_ok_aload_n (j := 0) (by decide +kernel) rfl) <|
  fun _ h => absurd h List.not_mem_nil
def rg_c47_4 : List (Nat × rg_S) := [(206, rg_sal 4 2), (208, rg_sal 5 2), (210, rg_scV 46 2 0 4), (213, rg_sal 0 1), (214, rg_sgr 4 0), (217, rg_sal 5 2), (219, rg_scV 32 0 2 5), (222, rg_sal 4 2), (224, rg_scV 32 0 2 5), (227, rg_scS 33 2 2), (230, rg_scV 3 1 0 5), (233, rg_rv)]
theorem rg_o47_4 : ∀ q ∈ rg_c47_4, rg_Ok 47 q.1 q.2 :=
  rg_fc (rg_ok_aload (i := 4) (by decide +kernel)) <|
  rg_fc (rg_ok_aload (i := 5) (by decide +kernel)) <|
  rg_fc (rg_ok_callV (idx := 102) rg_cok4 (by decide +kernel) (by decide +kernel) rg_wm_K_102 rg_wj_46 rg_ws_46 rg_wz_4 rg_wd_46 ⟨by decide +kernel, by decide +kernel, by decide +kernel, by decide +kernel⟩ (by decide +kernel) (by decide +kernel)) <|
  rg_fc (rg_ok_aload_n (j := 0) (by decide +kernel) rfl) <|
  rg_fc (rg_ok_getr (idx := 10) rg_cok4 (by decide +kernel) rfl (by decide +kernel) rg_wf_K_10) <|
  rg_fc (rg_ok_aload (i := 5) (by decide +kernel)) <|
  rg_fc (rg_ok_callV (idx := 116) rg_cok5 (by decide +kernel) (by decide +kernel) rg_wm_K_116 rg_wj_32 rg_ws_32 rg_wz_5 rg_wd_32 ⟨by decide +kernel, by decide +kernel, by decide +kernel, by decide +kernel⟩ (by decide +kernel) (by decide +kernel)) <|
  rg_fc (rg_ok_aload (i := 4) (by decide +kernel)) <|
  rg_fc (rg_ok_callV (idx := 116) rg_cok5 (by decide +kernel) (by decide +kernel) rg_wm_K_116 rg_wj_32 rg_ws_32 rg_wz_5 rg_wd_32 ⟨by decide +kernel, by decide +kernel, by decide +kernel, by decide +kernel⟩ (by decide +kernel) (by decide +kernel)) <|
  rg_fc (rg_ok_callS (idx := 124) (by decide +kernel) (by decide +kernel) rg_wm_K_124 rg_wt_33 rg_wy_33 rg_wd_33 ⟨by decide +kernel, by decide +kernel, by decide +kernel⟩ (by decide +kernel) (by decide +kernel)) <|
  rg_fc (rg_ok_callV (idx := 74) rg_cok5 (by decide +kernel) (by decide +kernel) rg_wm_K_74 rg_wj_3 rg_ws_3 rg_wz_5 rg_wd_3 ⟨by decide +kernel, by decide +kernel, by decide +kernel, by decide +kernel⟩ (by decide +kernel) (by decide +kernel)) <|
  rg_fc (rg_ok_return (by decide +kernel) rfl) <|
  fun _ h => absurd h List.not_mem_nil
def rg_kd47 : List (List (Nat × rg_S)) := [rg_c47_0, rg_c47_1, rg_c47_2, rg_c47_3, rg_c47_4]
theorem rg_o47 : ∀ pc f, rg_lk2 rg_kd47 pc = some f → rg_Ok 47 pc f := rg_lk2_ok (rg_fd rg_o47_0 (rg_fd rg_o47_1 (rg_fd rg_o47_2 (rg_fd rg_o47_3 (rg_fd rg_o47_4 (fun _ h => absurd h List.not_mem_nil))))))
def rg_c48_0 : List (Nat × rg_S) := [(0, rg_sal 2 1), (1, rg_scV 31 0 1 5), (4, rg_sjeq 13), (7, rg_sal 3 1), (8, rg_sal 1 1), (9, rg_scV 36 1 0 5), (12, rg_rv), (13, rg_sal 0 1), (14, rg_sgr 4 2), (17, rg_sal 1 1), (18, rg_scV 36 1 0 5), (21, rg_sal 0 1), (22, rg_sal 0 1), (23, rg_sgr 4 2), (26, rg_sal 2 1), (27, rg_scV 46 2 0 4), (30, rg_sal 1 1), (31, rg_sgi 5 2), (34, rg_sis 4 2), (36, rg_sal 3 1), (37, rg_sal 0 1), (38, rg_sgr 4 1), (41, rg_scV 36 1 0 5), (44, rg_sal 3 1), (45, rg_sil 4 2)]
theorem rg_o48_0 : ∀ q ∈ rg_c48_0, rg_Ok 48 q.1 q.2 :=
  rg_fc (rg_ok_aload_n (j := 2) (by decide +kernel) rfl) <|
  rg_fc (rg_ok_callV (idx := 120) rg_cok5 (by decide +kernel) (by decide +kernel) rg_wm_K_120 rg_wj_31 rg_ws_31 rg_wz_5 rg_wd_31 ⟨by decide +kernel, by decide +kernel, by decide +kernel, by decide +kernel⟩ (by decide +kernel) (by decide +kernel)) <|
  rg_fc (rg_ok_if_eq (off := 9) (by decide +kernel) (by decide +kernel)) <|
  rg_fc (rg_ok_aload_n (j := 3) (by decide +kernel) rfl) <|
  rg_fc (rg_ok_aload_n (j := 1) (by decide +kernel) rfl) <|
  rg_fc (rg_ok_callV (idx := 66) rg_cok5 (by decide +kernel) (by decide +kernel) rg_wm_K_66 rg_wj_36 rg_ws_36 rg_wz_5 rg_wd_36 ⟨by decide +kernel, by decide +kernel, by decide +kernel, by decide +kernel⟩ (by decide +kernel) (by decide +kernel)) <|
  rg_fc (rg_ok_return (by decide +kernel) rfl) <|
  rg_fc (rg_ok_aload_n (j := 0) (by decide +kernel) rfl) <|
  rg_fc (rg_ok_getr (idx := 19) rg_cok4 (by decide +kernel) rfl (by decide +kernel) rg_wf_K_19) <|
  rg_fc (rg_ok_aload_n (j := 1) (by decide +kernel) rfl) <|
  rg_fc (rg_ok_callV (idx := 66) rg_cok5 (by decide +kernel) (by decide +kernel) rg_wm_K_66 rg_wj_36 rg_ws_36 rg_wz_5 rg_wd_36 ⟨by decide +kernel, by decide +kernel, by decide +kernel, by decide +kernel⟩ (by decide +kernel) (by decide +kernel)) <|
  rg_fc (rg_ok_aload_n (j := 0) (by decide +kernel) rfl) <|
  rg_fc (rg_ok_aload_n (j := 0) (by decide +kernel) rfl) <|
  rg_fc (rg_ok_getr (idx := 19) rg_cok4 (by decide +kernel) rfl (by decide +kernel) rg_wf_K_19) <|
  rg_fc (rg_ok_aload_n (j := 2) (by decide +kernel) rfl) <|
  rg_fc (rg_ok_callV (idx := 102) rg_cok4 (by decide +kernel) (by decide +kernel) rg_wm_K_102 rg_wj_46 rg_ws_46 rg_wz_4 rg_wd_46 ⟨by decide +kernel, by decide +kernel, by decide +kernel, by decide +kernel⟩ (by decide +kernel) (by decide +kernel)) <|
  rg_fc (rg_ok_aload_n (j := 1) (by decide +kernel) rfl) <|
  rg_fc (rg_ok_geti (idx := 87) rg_cok5 (by decide +kernel) rfl (by decide +kernel) rg_wf_K_87) <|
  rg_fc (rg_ok_istore (i := 4) (by decide +kernel) (by decide +kernel)) <|
  rg_fc (rg_ok_aload_n (j := 3) (by decide +kernel) rfl) <|
  rg_fc (rg_ok_aload_n (j := 0) (by decide +kernel) rfl) <|
  rg_fc (rg_ok_getr (idx := 16) rg_cok4 (by decide +kernel) rfl (by decide +kernel) rg_wf_K_16) <|
  rg_fc (rg_ok_callV (idx := 66) rg_cok5 (by decide +kernel) (by decide +kernel) rg_wm_K_66 rg_wj_36 rg_ws_36 rg_wz_5 rg_wd_36 ⟨by decide +kernel, by decide +kernel, by decide +kernel, by decide +kernel⟩ (by decide +kernel) (by decide +kernel)) <|
  rg_fc (rg_ok_aload_n (j := 3) (by decide +kernel) rfl) <|
  rg_fc (rg_ok_iload (i := 4) (by decide +kernel)) <|
  fun _ h => absurd h List.not_mem_nil
def rg_c48_1 : List (Nat × rg_S) := [(47, rg_spz 5 2), (50, rg_rv)]
theorem rg_o48_1 : ∀ q ∈ rg_c48_1, rg_Ok 48 q.1 q.2 :=
  rg_fc (rg_ok_putz (idx := 87) rg_cok5 (by decide +kernel) rfl rfl rfl (by decide +kernel) rg_wf_K_87) <|
  rg_fc (rg_ok_return (by decide +kernel) rfl) <|
  fun _ h => absurd h List.not_mem_nil
def rg_kd48 : List (List (Nat × rg_S)) := [rg_c48_0, rg_c48_1]
theorem rg_o48 : ∀ pc f, rg_lk2 rg_kd48 pc = some f → rg_Ok 48 pc f := rg_lk2_ok (rg_fd rg_o48_0 (rg_fd rg_o48_1 (fun _ h => absurd h List.not_mem_nil)))
def rg_c51_0 : List (Nat × rg_S) := [(0, rg_sil 3 1), (1, rg_sjeq 14), (4, rg_sal 2 1), (5, rg_sgr 1 0), (8, rg_sgi 5 1), (11, rg_sjne 15), (14, rg_sK [false, false, false, false] (rg_rv)), (15, rg_sal 0 1), (16, rg_sal 1 1), (17, rg_sgr 1 1), (20, rg_sal 2 1), (21, rg_sgr 1 1), (24, rg_scV 47 2 0 4), (27, rg_sal 0 1), (28, rg_sgr 4 8), (31, rg_sal 0 1), (32, rg_sgr 4 0), (35, rg_scV 36 1 0 5), (38, rg_sal 0 1), (39, rg_sal 1 1), (40, rg_sgr 1 1), (43, rg_sal 0 1), (44, rg_sgr 4 8), (47, rg_sal 0 1), (48, rg_sgr 4 6)]
theorem rg_o51_0 : ∀ q ∈ rg_c51_0, rg_Ok 51 q.1 q.2 :=
  rg_fc (rg_ok_iload_n (j := 3) (by decide +kernel) rfl) <|
  rg_fc (rg_ok_if_eq (off := 13) (by decide +kernel) (by decide +kernel)) <|
  rg_fc (rg_ok_aload_n (j := 2) (by decide +kernel) rfl) <|
  rg_fc (rg_ok_getr (idx := 50) rg_cok1 (by decide +kernel) rfl (by decide +kernel) rg_wf_K_50) <|
  rg_fc (rg_ok_geti (idx := 55) rg_cok5 (by decide +kernel) rfl (by decide +kernel) rg_wf_K_55) <|
  rg_fc (rg_ok_if_ne (off := 4) (by decide +kernel) (by decide +kernel)) <|
  rg_fc (rg_okK _ (rg_ok_return (by decide +kernel) rfl)) <|
  rg_fc (rg_ok_aload_n (j := 0) (by decide +kernel) rfl) <|
  rg_fc (rg_ok_aload_n (j := 1) (by decide +kernel) rfl) <|
  rg_fc (rg_ok_getr (idx := 59) rg_cok1 (by decide +kernel) rfl (by decide +kernel) rg_wf_K_59) <|
  rg_fc (rg_ok_aload_n (j := 2) (by decide +kernel) rfl) <|
  rg_fc (rg_ok_getr (idx := 59) rg_cok1 (by decide +kernel) rfl (by decide +kernel) rg_wf_K_59) <|
  rg_fc (rg_ok_callV (idx := 62) rg_cok4 (by decide +kernel) (by decide +kernel) rg_wm_K_62 rg_wj_47 rg_ws_47 rg_wz_4 rg_wd_47 ⟨by decide +kernel, by decide +kernel, by decide +kernel, by decide +kernel⟩ (by decide +kernel) (by decide +kernel)) <|
  rg_fc (rg_ok_aload_n (j := 0) (by decide +kernel) rfl) <|
  rg_fc (rg_ok_getr (idx := 37) rg_cok4 (by decide +kernel) rfl (by decide +kernel) rg_wf_K_37) <|
  rg_fc (rg_ok_aload_n (j := 0) (by decide +kernel) rfl) <|
  rg_fc (rg_ok_getr (idx := 10) rg_cok4 (by decide +kernel) rfl (by decide +kernel) rg_wf_K_10) <|
  rg_fc (rg_ok_callV (idx := 66) rg_cok5 (by decide +kernel) (by decide +kernel) rg_wm_K_66 rg_wj_36 rg_ws_36 rg_wz_5 rg_wd_36 ⟨by decide +kernel, by decide +kernel, by decide +kernel, by decide +kernel⟩ (by decide +kernel) (by decide +kernel)) <|
  rg_fc (rg_ok_aload_n (j := 0) (by decide +kernel) rfl) <|
  rg_fc (rg_ok_aload_n (j := 1) (by decide +kernel) rfl) <|
  rg_fc (rg_ok_getr (idx := 59) rg_cok1 (by decide +kernel) rfl (by decide +kernel) rg_wf_K_59) <|
  rg_fc (rg_ok_aload_n (j := 0) (by decide +kernel) rfl) <|
  rg_fc (rg_ok_getr (idx := 37) rg_cok4 (by decide +kernel) rfl (by decide +kernel) rg_wf_K_37) <|
  rg_fc (rg_ok_aload_n (j := 0) (by decide +kernel) rfl) <|
  rg_fc (rg_ok_getr (idx := 31) rg_cok4 (by decide +kernel) rfl (by decide +kernel) rg_wf_K_31) <|
  fun _ h => absurd h List.not_mem_nil
def rg_c51_1 : List (Nat × rg_S) := [(51, rg_scV 48 3 0 4), (54, rg_sal 0 1), (55, rg_sal 2 1), (56, rg_sgr 1 1), (59, rg_sal 0 1), (60, rg_sgr 4 8), (63, rg_sal 0 1), (64, rg_sgr 4 7), (67, rg_scV 48 3 0 4), (70, rg_sal 0 1), (71, rg_sgr 4 10), (74, rg_sil 3 1), (75, rg_si2l), (76, rg_scV 3 1 0 5), (79, rg_sal 0 1), (80, rg_sal 0 1), (81, rg_sgr 4 7), (84, rg_sal 0 1), (85, rg_sgr 4 10), (88, rg_scV 47 2 0 4), (91, rg_sal 0 1), (92, rg_sgr 4 5), (95, rg_sal 0 1), (96, rg_sgr 4 8), (99, rg_sal 0 1)]
theorem rg_o51_1 : ∀ q ∈ rg_c51_1, rg_Ok 51 q.1 q.2 :=
  rg_fc (rg_ok_callV (idx := 70) rg_cok4 (by decide +kernel) (by decide +kernel) rg_wm_K_70 rg_wj_48 rg_ws_48 rg_wz_4 rg_wd_48 ⟨by decide +kernel, by decide +kernel, by decide +kernel, by decide +kernel⟩ (by decide +kernel) (by decide +kernel)) <|
  rg_fc (rg_ok_aload_n (j := 0) (by decide +kernel) rfl) <|
  rg_fc (rg_ok_aload_n (j := 2) (by decide +kernel) rfl) <|
  rg_fc (rg_ok_getr (idx := 59) rg_cok1 (by decide +kernel) rfl (by decide +kernel) rg_wf_K_59) <|
  rg_fc (rg_ok_aload_n (j := 0) (by decide +kernel) rfl) <|
  rg_fc (rg_ok_getr (idx := 37) rg_cok4 (by decide +kernel) rfl (by decide +kernel) rg_wf_K_37) <|
  rg_fc (rg_ok_aload_n (j := 0) (by decide +kernel) rfl) <|
  rg_fc (rg_ok_getr (idx := 34) rg_cok4 (by decide +kernel) rfl (by decide +kernel) rg_wf_K_34) <|
  rg_fc (rg_ok_callV (idx := 70) rg_cok4 (by decide +kernel) (by decide +kernel) rg_wm_K_70 rg_wj_48 rg_ws_48 rg_wz_4 rg_wd_48 ⟨by decide +kernel, by decide +kernel, by decide +kernel, by decide +kernel⟩ (by decide +kernel) (by decide +kernel)) <|
  rg_fc (rg_ok_aload_n (j := 0) (by decide +kernel) rfl) <|
  rg_fc (rg_ok_getr (idx := 43) rg_cok4 (by decide +kernel) rfl (by decide +kernel) rg_wf_K_43) <|
  rg_fc (rg_ok_iload_n (j := 3) (by decide +kernel) rfl) <|
  rg_fc (rg_ok_i2l (by decide +kernel)) <|
  rg_fc (rg_ok_callV (idx := 74) rg_cok5 (by decide +kernel) (by decide +kernel) rg_wm_K_74 rg_wj_3 rg_ws_3 rg_wz_5 rg_wd_3 ⟨by decide +kernel, by decide +kernel, by decide +kernel, by decide +kernel⟩ (by decide +kernel) (by decide +kernel)) <|
  rg_fc (rg_ok_aload_n (j := 0) (by decide +kernel) rfl) <|
  rg_fc (rg_ok_aload_n (j := 0) (by decide +kernel) rfl) <|
  rg_fc (rg_ok_getr (idx := 34) rg_cok4 (by decide +kernel) rfl (by decide +kernel) rg_wf_K_34) <|
  rg_fc (rg_ok_aload_n (j := 0) (by decide +kernel) rfl) <|
  rg_fc (rg_ok_getr (idx := 43) rg_cok4 (by decide +kernel) rfl (by decide +kernel) rg_wf_K_43) <|
  rg_fc (rg_ok_callV (idx := 62) rg_cok4 (by decide +kernel) (by decide +kernel) rg_wm_K_62 rg_wj_47 rg_ws_47 rg_wz_4 rg_wd_47 ⟨by decide +kernel, by decide +kernel, by decide +kernel, by decide +kernel⟩ (by decide +kernel) (by decide +kernel)) <|
  rg_fc (rg_ok_aload_n (j := 0) (by decide +kernel) rfl) <|
  rg_fc (rg_ok_getr (idx := 28) rg_cok4 (by decide +kernel) rfl (by decide +kernel) rg_wf_K_28) <|
  rg_fc (rg_ok_aload_n (j := 0) (by decide +kernel) rfl) <|
  rg_fc (rg_ok_getr (idx := 37) rg_cok4 (by decide +kernel) rfl (by decide +kernel) rg_wf_K_37) <|
  rg_fc (rg_ok_aload_n (j := 0) (by decide +kernel) rfl) <|
  fun _ h => absurd h List.not_mem_nil
def rg_c51_2 : List (Nat × rg_S) := [(100, rg_sgr 4 0), (103, rg_scV 49 2 0 5), (106, rg_sal 0 1), (107, rg_sgr 4 8), (110, rg_sal 2 1), (111, rg_sgr 1 0), (114, rg_sal 0 1), (115, rg_sgr 4 10), (118, rg_scV 49 2 0 5), (121, rg_sal 0 1), (122, rg_sgr 4 9), (125, rg_sal 0 1), (126, rg_sgr 4 8), (129, rg_sal 0 1), (130, rg_sgr 4 6), (133, rg_scV 49 2 0 5), (136, rg_sal 0 1), (137, rg_sgr 4 8), (140, rg_sal 1 1), (141, rg_sgr 1 0), (144, rg_sal 0 1), (145, rg_sgr 4 7), (148, rg_scV 49 2 0 5), (151, rg_sal 0 1), (152, rg_sgr 4 8)]
theorem rg_o51_2 : ∀ q ∈ rg_c51_2, rg_Ok 51 q.1 q.2 :=
  rg_fc (rg_ok_getr (idx := 10) rg_cok4 (by decide +kernel) rfl (by decide +kernel) rg_wf_K_10) <|
  rg_fc (rg_ok_callV (idx := 78) rg_cok5 (by decide +kernel) (by decide +kernel) rg_wm_K_78 rg_wj_49 rg_ws_49 rg_wz_5 rg_wd_49 ⟨by decide +kernel, by decide +kernel, by decide +kernel, by decide +kernel⟩ (by decide +kernel) (by decide +kernel)) <|
  rg_fc (rg_ok_aload_n (j := 0) (by decide +kernel) rfl) <|
  rg_fc (rg_ok_getr (idx := 37) rg_cok4 (by decide +kernel) rfl (by decide +kernel) rg_wf_K_37) <|
  rg_fc (rg_ok_aload_n (j := 2) (by decide +kernel) rfl) <|
  rg_fc (rg_ok_getr (idx := 50) rg_cok1 (by decide +kernel) rfl (by decide +kernel) rg_wf_K_50) <|
  rg_fc (rg_ok_aload_n (j := 0) (by decide +kernel) rfl) <|
  rg_fc (rg_ok_getr (idx := 43) rg_cok4 (by decide +kernel) rfl (by decide +kernel) rg_wf_K_43) <|
  rg_fc (rg_ok_callV (idx := 78) rg_cok5 (by decide +kernel) (by decide +kernel) rg_wm_K_78 rg_wj_49 rg_ws_49 rg_wz_5 rg_wd_49 ⟨by decide +kernel, by decide +kernel, by decide +kernel, by decide +kernel⟩ (by decide +kernel) (by decide +kernel)) <|
  rg_fc (rg_ok_aload_n (j := 0) (by decide +kernel) rfl) <|
  rg_fc (rg_ok_getr (idx := 40) rg_cok4 (by decide +kernel) rfl (by decide +kernel) rg_wf_K_40) <|
  rg_fc (rg_ok_aload_n (j := 0) (by decide +kernel) rfl) <|
  rg_fc (rg_ok_getr (idx := 37) rg_cok4 (by decide +kernel) rfl (by decide +kernel) rg_wf_K_37) <|
  rg_fc (rg_ok_aload_n (j := 0) (by decide +kernel) rfl) <|
  rg_fc (rg_ok_getr (idx := 31) rg_cok4 (by decide +kernel) rfl (by decide +kernel) rg_wf_K_31) <|
  rg_fc (rg_ok_callV (idx := 78) rg_cok5 (by decide +kernel) (by decide +kernel) rg_wm_K_78 rg_wj_49 rg_ws_49 rg_wz_5 rg_wd_49 ⟨by decide +kernel, by decide +kernel, by decide +kernel, by decide +kernel⟩ (by decide +kernel) (by decide +kernel)) <|
  rg_fc (rg_ok_aload_n (j := 0) (by decide +kernel) rfl) <|
  rg_fc (rg_ok_getr (idx := 37) rg_cok4 (by decide +kernel) rfl (by decide +kernel) rg_wf_K_37) <|
  rg_fc (rg_ok_aload_n (j := 1) (by decide +kernel) rfl) <|
  rg_fc (rg_ok_getr (idx := 50) rg_cok1 (by decide +kernel) rfl (by decide +kernel) rg_wf_K_50) <|
  rg_fc (rg_ok_aload_n (j := 0) (by decide +kernel) rfl) <|
  rg_fc (rg_ok_getr (idx := 34) rg_cok4 (by decide +kernel) rfl (by decide +kernel) rg_wf_K_34) <|
  rg_fc (rg_ok_callV (idx := 78) rg_cok5 (by decide +kernel) (by decide +kernel) rg_wm_K_78 rg_wj_49 rg_ws_49 rg_wz_5 rg_wd_49 ⟨by decide +kernel, by decide +kernel, by decide +kernel, by decide +kernel⟩ (by decide +kernel) (by decide +kernel)) <|
  rg_fc (rg_ok_aload_n (j := 0) (by decide +kernel) rfl) <|
  rg_fc (rg_ok_getr (idx := 37) rg_cok4 (by decide +kernel) rfl (by decide +kernel) rg_wf_K_37) <|
  fun _ h => absurd h List.not_mem_nil
def rg_c51_3 : List (Nat × rg_S) := [(155, rg_sal 0 1), (156, rg_sgr 4 9), (159, rg_scV 50 1 0 5), (162, rg_sal 0 1), (163, rg_sgr 4 8), (166, rg_sgi 5 1), (169, rg_sjne 179), (172, rg_sal 1 1), (173, rg_sic 0 1), (174, rg_sic 1 1), (175, rg_scV 14 2 0 1), (178, rg_rv), (179, rg_sal 0 1), (180, rg_sal 0 1), (181, rg_sgr 4 8), (184, rg_sal 0 1), (185, rg_sgr 4 5), (188, rg_scV 47 2 0 4), (191, rg_sal 0 1), (192, rg_sal 0 1), (193, rg_sgr 4 8), (196, rg_sal 0 1), (197, rg_sgr 4 0), (200, rg_sal 1 1), (201, rg_sgr 1 0)]
theorem rg_o51_3 : ∀ q ∈ rg_c51_3, rg_Ok 51 q.1 q.2 :=
  rg_fc (rg_ok_aload_n (j := 0) (by decide +kernel) rfl) <|
  rg_fc (rg_ok_getr (idx := 40) rg_cok4 (by decide +kernel) rfl (by decide +kernel) rg_wf_K_40) <|
  rg_fc (rg_ok_callV (idx := 81) rg_cok5 (by decide +kernel) (by decide +kernel) rg_wm_K_81 rg_wj_50 rg_ws_50 rg_wz_5 rg_wd_50 ⟨by decide +kernel, by decide +kernel, by decide +kernel, by decide +kernel⟩ (by decide +kernel) (by decide +kernel)) <|
  rg_fc (rg_ok_aload_n (j := 0) (by decide +kernel) rfl) <|
  rg_fc (rg_ok_getr (idx := 37) rg_cok4 (by decide +kernel) rfl (by decide +kernel) rg_wf_K_37) <|
  rg_fc (rg_ok_geti (idx := 55) rg_cok5 (by decide +kernel) rfl (by decide +kernel) rg_wf_K_55) <|
  rg_fc (rg_ok_if_ne (off := 10) (by decide +kernel) (by decide +kernel)) <|
  rg_fc (rg_ok_aload_n (j := 1) (by decide +kernel) rfl) <|
  rg_fc (rg_ok_iconst (n := 0) (by decide +kernel) (by decide +kernel)) <|
  rg_fc (rg_ok_iconst (n := 1) (by decide +kernel) (by decide +kernel)) <|
  rg_fc (rg_ok_callV (idx := 84) rg_cok1 (by decide +kernel) (by decide +kernel) rg_wm_K_84 rg_wj_14 rg_ws_14 rg_wz_1 rg_wd_14 ⟨by decide +kernel, by decide +kernel, by decide +kernel, by decide +kernel⟩ (by decide +kernel) (by decide +kernel)) <|
  rg_fc (rg_ok_return (by decide +kernel) rfl) <|
  rg_fc (rg_ok_aload_n (j := 0) (by decide +kernel) rfl) <|
  rg_fc (rg_ok_aload_n (j := 0) (by decide +kernel) rfl) <|
  rg_fc (rg_ok_getr (idx := 37) rg_cok4 (by decide +kernel) rfl (by decide +kernel) rg_wf_K_37) <|
  rg_fc (rg_ok_aload_n (j := 0) (by decide +kernel) rfl) <|
  rg_fc (rg_ok_getr (idx := 28) rg_cok4 (by decide +kernel) rfl (by decide +kernel) rg_wf_K_28) <|
  rg_fc (rg_ok_callV (idx := 62) rg_cok4 (by decide +kernel) (by decide +kernel) rg_wm_K_62 rg_wj_47 rg_ws_47 rg_wz_4 rg_wd_47 ⟨by decide +kernel, by decide +kernel, by decide +kernel, by decide +kernel⟩ (by decide +kernel) (by decide +kernel)) <|
  rg_fc (rg_ok_aload_n (j := 0) (by decide +kernel) rfl) <|
  rg_fc (rg_ok_aload_n (j := 0) (by decide +kernel) rfl) <|
  rg_fc (rg_ok_getr (idx := 37) rg_cok4 (by decide +kernel) rfl (by decide +kernel) rg_wf_K_37) <|
  rg_fc (rg_ok_aload_n (j := 0) (by decide +kernel) rfl) <|
  rg_fc (rg_ok_getr (idx := 10) rg_cok4 (by decide +kernel) rfl (by decide +kernel) rg_wf_K_10) <|
  rg_fc (rg_ok_aload_n (j := 1) (by decide +kernel) rfl) <|
  rg_fc (rg_ok_getr (idx := 50) rg_cok1 (by decide +kernel) rfl (by decide +kernel) rg_wf_K_50) <|
  fun _ h => absurd h List.not_mem_nil
def rg_c51_4 : List (Nat × rg_S) := [(204, rg_scV 48 3 0 4), (207, rg_sal 0 1), (208, rg_sal 2 1), (209, rg_sgr 1 1), (212, rg_sal 0 1), (213, rg_sgr 4 0), (216, rg_sal 0 1), (217, rg_sgr 4 7), (220, rg_scV 48 3 0 4), (223, rg_sal 1 1), (224, rg_sgr 1 1), (227, rg_sal 0 1), (228, rg_sgr 4 6), (231, rg_sal 0 1), (232, rg_sgr 4 7), (235, rg_scV 49 2 0 5), (238, rg_rv)]
theorem rg_o51_4 : ∀ q ∈ rg_c51_4, rg_Ok 51 q.1 q.2 :=
  rg_fc (rg_ok_callV (idx := 70) rg_cok4 (by decide +kernel) (by decide +kernel) rg_wm_K_70 rg_wj_48 rg_ws_48 rg_wz_4 rg_wd_48 ⟨by decide +kernel, by decide +kernel, by decide +kernel, by decide +kernel⟩ (by decide +kernel) (by decide +kernel)) <|
  rg_fc (rg_ok_aload_n (j := 0) (by decide +kernel) rfl) <|
  rg_fc (rg_ok_aload_n (j := 2) (by decide +kernel) rfl) <|
  rg_fc (rg_ok_getr (idx := 59) rg_cok1 (by decide +kernel) rfl (by decide +kernel) rg_wf_K_59) <|
  rg_fc (rg_ok_aload_n (j := 0) (by decide +kernel) rfl) <|
  rg_fc (rg_ok_getr (idx := 10) rg_cok4 (by decide +kernel) rfl (by decide +kernel) rg_wf_K_10) <|
  rg_fc (rg_ok_aload_n (j := 0) (by decide +kernel) rfl) <|
  rg_fc (rg_ok_getr (idx := 34) rg_cok4 (by decide +kernel) rfl (by decide +kernel) rg_wf_K_34) <|
  rg_fc (rg_ok_callV (idx := 70) rg_cok4 (by decide +kernel) (by decide +kernel) rg_wm_K_70 rg_wj_48 rg_ws_48 rg_wz_4 rg_wd_48 ⟨by decide +kernel, by decide +kernel, by decide +kernel, by decide +kernel⟩ (by decide +kernel) (by decide +kernel)) <|
  rg_fc (rg_ok_aload_n (j := 1) (by decide +kernel) rfl) <|
  rg_fc (rg_ok_getr (idx := 59) rg_cok1 (by decide +kernel) rfl (by decide +kernel) rg_wf_K_59) <|
  rg_fc (rg_ok_aload_n (j := 0) (by decide +kernel) rfl) <|
  rg_fc (rg_ok_getr (idx := 31) rg_cok4 (by decide +kernel) rfl (by decide +kernel) rg_wf_K_31) <|
  rg_fc (rg_ok_aload_n (j := 0) (by decide +kernel) rfl) <|
  rg_fc (rg_ok_getr (idx := 34) rg_cok4 (by decide +kernel) rfl (by decide +kernel) rg_wf_K_34) <|
  rg_fc (rg_ok_callV (idx := 78) rg_cok5 (by decide +kernel) (by decide +kernel) rg_wm_K_78 rg_wj_49 rg_ws_49 rg_wz_5 rg_wd_49 ⟨by decide +kernel, by decide +kernel, by decide +kernel, by decide +kernel⟩ (by decide +kernel) (by decide +kernel)) <|
  rg_fc (rg_ok_return (by decide +kernel) rfl) <|
  fun _ h => absurd h List.not_mem_nil
def rg_kd51 : List (List (Nat × rg_S)) := [rg_c51_0, rg_c51_1, rg_c51_2, rg_c51_3, rg_c51_4]
theorem rg_o51 : ∀ pc f, rg_lk2 rg_kd51 pc = some f → rg_Ok 51 pc f := rg_lk2_ok (rg_fd rg_o51_0 (rg_fd rg_o51_1 (rg_fd rg_o51_2 (rg_fd rg_o51_3 (rg_fd rg_o51_4 (fun _ h => absurd h List.not_mem_nil))))))
def rg_c54_0 : List (Nat × rg_S) := [(0, rg_sal 0 1), (1, rg_sal 1 1), (2, rg_sgr 1 0), (5, rg_sal 2 1), (6, rg_sgr 1 1), (9, rg_scV 47 2 0 4), (12, rg_sal 0 1), (13, rg_sal 1 1), (14, rg_sgr 1 0), (17, rg_sal 0 1), (18, rg_sgr 4 0), (21, rg_sal 0 1), (22, rg_sgr 4 8), (25, rg_scV 48 3 0 4), (28, rg_sal 0 1), (29, rg_sal 2 1), (30, rg_sgr 1 1), (33, rg_sal 0 1), (34, rg_sgr 4 0), (37, rg_sal 0 1), (38, rg_sgr 4 7), (41, rg_scV 48 3 0 4), (44, rg_sal 0 1), (45, rg_sal 2 1), (46, rg_sgr 1 0)]
theorem rg_o54_0 : ∀ q ∈ rg_c54_0, rg_Ok 54 q.1 q.2 :=
  rg_fc (rg_ok_aload_n (j := 0) (by decide +kernel) rfl) <|
  rg_fc (rg_ok_aload_n (j := 1) (by decide +kernel) rfl) <|
  rg_fc (rg_ok_getr (idx := 50) rg_cok1 (by decide +kernel) rfl (by decide +kernel) rg_wf_K_50) <|
  rg_fc (rg_ok_aload_n (j := 2) (by decide +kernel) rfl) <|
  rg_fc (rg_ok_getr (idx := 59) rg_cok1 (by decide +kernel) rfl (by decide +kernel) rg_wf_K_59) <|
  rg_fc (rg_ok_callV (idx := 62) rg_cok4 (by decide +kernel) (by decide +kernel) rg_wm_K_62 rg_wj_47 rg_ws_47 rg_wz_4 rg_wd_47 ⟨by decide +kernel, by decide +kernel, by decide +kernel, by decide +kernel⟩ (by decide +kernel) (by decide +kernel)) <|
  rg_fc (rg_ok_aload_n (j := 0) (by decide +kernel) rfl) <|
  rg_fc (rg_ok_aload_n (j := 1) (by decide +kernel) rfl) <|
  rg_fc (rg_ok_getr (idx := 50) rg_cok1 (by decide +kernel) rfl (by decide +kernel) rg_wf_K_50) <|
  rg_fc (rg_ok_aload_n (j := 0) (by decide +kernel) rfl) <|
  rg_fc (rg_ok_getr (idx := 10) rg_cok4 (by decide +kernel) rfl (by decide +kernel) rg_wf_K_10) <|
  rg_fc (rg_ok_aload_n (j := 0) (by decide +kernel) rfl) <|
  rg_fc (rg_ok_getr (idx := 37) rg_cok4 (by decide +kernel) rfl (by decide +kernel) rg_wf_K_37) <|
  rg_fc (rg_ok_callV (idx := 70) rg_cok4 (by decide +kernel) (by decide +kernel) rg_wm_K_70 rg_wj_48 rg_ws_48 rg_wz_4 rg_wd_48 ⟨by decide +kernel, by decide +kernel, by decide +kernel, by decide +kernel⟩ (by decide +kernel) (by decide +kernel)) <|
  rg_fc (rg_ok_aload_n (j := 0) (by decide +kernel) rfl) <|
  rg_fc (rg_ok_aload_n (j := 2) (by decide +kernel) rfl) <|
  rg_fc (rg_ok_getr (idx := 59) rg_cok1 (by decide +kernel) rfl (by decide +kernel) rg_wf_K_59) <|
  rg_fc (rg_ok_aload_n (j := 0) (by decide +kernel) rfl) <|
  rg_fc (rg_ok_getr (idx := 10) rg_cok4 (by decide +kernel) rfl (by decide +kernel) rg_wf_K_10) <|
  rg_fc (rg_ok_aload_n (j := 0) (by decide +kernel) rfl) <|
  rg_fc (rg_ok_getr (idx := 34) rg_cok4 (by decide +kernel) rfl (by decide +kernel) rg_wf_K_34) <|
  rg_fc (rg_ok_callV (idx := 70) rg_cok4 (by decide +kernel) (by decide +kernel) rg_wm_K_70 rg_wj_48 rg_ws_48 rg_wz_4 rg_wd_48 ⟨by decide +kernel, by decide +kernel, by decide +kernel, by decide +kernel⟩ (by decide +kernel) (by decide +kernel)) <|
  rg_fc (rg_ok_aload_n (j := 0) (by decide +kernel) rfl) <|
  rg_fc (rg_ok_aload_n (j := 2) (by decide +kernel) rfl) <|
  rg_fc (rg_ok_getr (idx := 50) rg_cok1 (by decide +kernel) rfl (by decide +kernel) rg_wf_K_50) <|
  fun _ h => absurd h List.not_mem_nil
def rg_c54_1 : List (Nat × rg_S) := [(49, rg_sal 1 1), (50, rg_sgr 1 1), (53, rg_scV 47 2 0 4), (56, rg_sal 0 1), (57, rg_sal 2 1), (58, rg_sgr 1 0), (61, rg_sal 0 1), (62, rg_sgr 4 0), (65, rg_sal 0 1), (66, rg_sgr 4 9), (69, rg_scV 48 3 0 4), (72, rg_sal 0 1), (73, rg_sal 1 1), (74, rg_sgr 1 1), (77, rg_sal 0 1), (78, rg_sgr 4 0), (81, rg_sal 0 1), (82, rg_sgr 4 6), (85, rg_scV 48 3 0 4), (88, rg_sal 1 1), (89, rg_sgr 1 0), (92, rg_sal 0 1), (93, rg_sgr 4 8), (96, rg_sal 0 1), (97, rg_sgr 4 9)]
theorem rg_o54_1 : ∀ q ∈ rg_c54_1, rg_Ok 54 q.1 q.2 :=
  rg_fc (rg_ok_aload_n (j := 1) (by decide +kernel) rfl) <|
  rg_fc (rg_ok_getr (idx := 59) rg_cok1 (by decide +kernel) rfl (by decide +kernel) rg_wf_K_59) <|
  rg_fc (rg_ok_callV (idx := 62) rg_cok4 (by decide +kernel) (by decide +kernel) rg_wm_K_62 rg_wj_47 rg_ws_47 rg_wz_4 rg_wd_47 ⟨by decide +kernel, by decide +kernel, by decide +kernel, by decide +kernel⟩ (by decide +kernel) (by decide +kernel)) <|
  rg_fc (rg_ok_aload_n (j := 0) (by decide +kernel) rfl) <|
  rg_fc (rg_ok_aload_n (j := 2) (by decide +kernel) rfl) <|
  rg_fc (rg_ok_getr (idx := 50) rg_cok1 (by decide +kernel) rfl (by decide +kernel) rg_wf_K_50) <|
  rg_fc (rg_ok_aload_n (j := 0) (by decide +kernel) rfl) <|
  rg_fc (rg_ok_getr (idx := 10) rg_cok4 (by decide +kernel) rfl (by decide +kernel) rg_wf_K_10) <|
  rg_fc (rg_ok_aload_n (j := 0) (by decide +kernel) rfl) <|
  rg_fc (rg_ok_getr (idx := 40) rg_cok4 (by decide +kernel) rfl (by decide +kernel) rg_wf_K_40) <|
  rg_fc (rg_ok_callV (idx := 70) rg_cok4 (by decide +kernel) (by decide +kernel) rg_wm_K_70 rg_wj_48 rg_ws_48 rg_wz_4 rg_wd_48 ⟨by decide +kernel, by decide +kernel, by decide +kernel, by decide +kernel⟩ (by decide +kernel) (by decide +kernel)) <|
  rg_fc (rg_ok_aload_n (j := 0) (by decide +kernel) rfl) <|
  rg_fc (rg_ok_aload_n (j := 1) (by decide +kernel) rfl) <|
  rg_fc (rg_ok_getr (idx := 59) rg_cok1 (by decide +kernel) rfl (by decide +kernel) rg_wf_K_59) <|
  rg_fc (rg_ok_aload_n (j := 0) (by decide +kernel) rfl) <|
  rg_fc (rg_ok_getr (idx := 10) rg_cok4 (by decide +kernel) rfl (by decide +kernel) rg_wf_K_10) <|
  rg_fc (rg_ok_aload_n (j := 0) (by decide +kernel) rfl) <|
  rg_fc (rg_ok_getr (idx := 31) rg_cok4 (by decide +kernel) rfl (by decide +kernel) rg_wf_K_31) <|
  rg_fc (rg_ok_callV (idx := 70) rg_cok4 (by decide +kernel) (by decide +kernel) rg_wm_K_70 rg_wj_48 rg_ws_48 rg_wz_4 rg_wd_48 ⟨by decide +kernel, by decide +kernel, by decide +kernel, by decide +kernel⟩ (by decide +kernel) (by decide +kernel)) <|
  rg_fc (rg_ok_aload_n (j := 1) (by decide +kernel) rfl) <|
  rg_fc (rg_ok_getr (idx := 50) rg_cok1 (by decide +kernel) rfl (by decide +kernel) rg_wf_K_50) <|
  rg_fc (rg_ok_aload_n (j := 0) (by decide +kernel) rfl) <|
  rg_fc (rg_ok_getr (idx := 37) rg_cok4 (by decide +kernel) rfl (by decide +kernel) rg_wf_K_37) <|
  rg_fc (rg_ok_aload_n (j := 0) (by decide +kernel) rfl) <|
  rg_fc (rg_ok_getr (idx := 40) rg_cok4 (by decide +kernel) rfl (by decide +kernel) rg_wf_K_40) <|
  fun _ h => absurd h List.not_mem_nil
def rg_c54_2 : List (Nat × rg_S) := [(100, rg_scV 49 2 0 5), (103, rg_sal 1 1), (104, rg_sgr 1 1), (107, rg_sal 0 1), (108, rg_sgr 4 6), (111, rg_sal 0 1), (112, rg_sgr 4 7), (115, rg_scV 49 2 0 5), (118, rg_rv)]
theorem rg_o54_2 : ∀ q ∈ rg_c54_2, rg_Ok 54 q.1 q.2 :=
  rg_fc (rg_ok_callV (idx := 78) rg_cok5 (by decide +kernel) (by decide +kernel) rg_wm_K_78 rg_wj_49 rg_ws_49 rg_wz_5 rg_wd_49 ⟨by decide +kernel, by decide +kernel, by decide +kernel, by decide +kernel⟩ (by decide +kernel) (by decide +kernel)) <|
  rg_fc (rg_ok_aload_n (j := 1) (by decide +kernel) rfl) <|
  rg_fc (rg_ok_getr (idx := 59) rg_cok1 (by decide +kernel) rfl (by decide +kernel) rg_wf_K_59) <|
  rg_fc (rg_ok_aload_n (j := 0) (by decide +kernel) rfl) <|
  rg_fc (rg_ok_getr (idx := 31) rg_cok4 (by decide +kernel) rfl (by decide +kernel) rg_wf_K_31) <|
  rg_fc (rg_ok_aload_n (j := 0) (by decide +kernel) rfl) <|
  rg_fc (rg_ok_getr (idx := 34) rg_cok4 (by decide +kernel) rfl (by decide +kernel) rg_wf_K_34) <|
  rg_fc (rg_ok_callV (idx := 78) rg_cok5 (by decide +kernel) (by decide +kernel) rg_wm_K_78 rg_wj_49 rg_ws_49 rg_wz_5 rg_wd_49 ⟨by decide +kernel, by decide +kernel, by decide +kernel, by decide +kernel⟩ (by decide +kernel) (by decide +kernel)) <|
  rg_fc (rg_ok_return (by decide +kernel) rfl) <|
  fun _ h => absurd h List.not_mem_nil
def rg_kd54 : List (List (Nat × rg_S)) := [rg_c54_0, rg_c54_1, rg_c54_2]
theorem rg_o54 : ∀ pc f, rg_lk2 rg_kd54 pc = some f → rg_Ok 54 pc f := rg_lk2_ok (rg_fd rg_o54_0 (rg_fd rg_o54_1 (rg_fd rg_o54_2 (fun _ h => absurd h List.not_mem_nil))))
def rg_c120_0 : List (Nat × rg_S) := [(0, rg_sal 0 1), (1, rg_sgr 4 8), (4, rg_sal 1 1), (5, rg_sgr 1 0), (8, rg_sal 2 1), (9, rg_sgr 1 1), (12, rg_scV 49 2 0 5), (15, rg_sal 0 1), (16, rg_sgr 4 9), (19, rg_sal 2 1), (20, rg_sgr 1 0), (23, rg_sal 1 1), (24, rg_sgr 1 1), (27, rg_scV 49 2 0 5), (30, rg_sal 0 1), (31, rg_sgr 4 9), (34, rg_sal 0 1), (35, rg_sgr 4 9), (38, rg_sgi 5 2), (41, rg_sjne 48), (44, rg_sic 1 1), (45, rg_sgo 49), (48, rg_sic 0 1), (49, rg_sK [true, true, true] (rg_spz 5 2)), (52, rg_sal 0 1)]
theorem rg_o120_0 : ∀ q ∈ rg_c120_0, rg_Ok 120 q.1 q.2 :=
  rg_fc (rg_ok_aload_n (j := 0) (by decide +kernel) rfl) <|
  rg_fc (rg_ok_getr (idx := 37) rg_cok4 (by decide +kernel) rfl (by decide +kernel) rg_wf_K_37) <|
  rg_fc (rg_ok_aload_n (j := 1) (by decide +kernel) rfl) <|
  rg_fc (rg_ok_getr (idx := 50) rg_cok1 (by decide +kernel) rfl (by decide +kernel) rg_wf_K_50) <|
  rg_fc (rg_ok_aload_n (j := 2) (by decide +kernel) rfl) <|
  rg_fc (rg_ok_getr (idx := 59) rg_cok1 (by decide +kernel) rfl (by decide +kernel) rg_wf_K_59) <|
  rg_fc (rg_ok_callV (idx := 78) rg_cok5 (by decide +kernel) (by decide +kernel) rg_wm_K_78 rg_wj_49 rg_ws_49 rg_wz_5 rg_wd_49 ⟨by decide +kernel, by decide +kernel, by decide +kernel, by decide +kernel⟩ (by decide +kernel) (by decide +kernel)) <|
  rg_fc (rg_ok_aload_n (j := 0) (by decide +kernel) rfl) <|
  rg_fc (rg_ok_getr (idx := 40) rg_cok4 (by decide +kernel) rfl (by decide +kernel) rg_wf_K_40) <|
  rg_fc (rg_ok_aload_n (j := 2) (by decide +kernel) rfl) <|
  rg_fc (rg_ok_getr (idx := 50) rg_cok1 (by decide +kernel) rfl (by decide +kernel) rg_wf_K_50) <|
  rg_fc (rg_ok_aload_n (j := 1) (by decide +kernel) rfl) <|
  rg_fc (rg_ok_getr (idx := 59) rg_cok1 (by decide +kernel) rfl (by decide +kernel) rg_wf_K_59) <|
  rg_fc (rg_ok_callV (idx := 78) rg_cok5 (by decide +kernel) (by decide +kernel) rg_wm_K_78 rg_wj_49 rg_ws_49 rg_wz_5 rg_wd_49 ⟨by decide +kernel, by decide +kernel, by decide +kernel, by decide +kernel⟩ (by decide +kernel) (by decide +kernel)) <|
  rg_fc (rg_ok_aload_n (j := 0) (by decide +kernel) rfl) <|
  rg_fc (rg_ok_getr (idx := 40) rg_cok4 (by decide +kernel) rfl (by decide +kernel) rg_wf_K_40) <|
  rg_fc (rg_ok_aload_n (j := 0) (by decide +kernel) rfl) <|
  rg_fc (rg_ok_getr (idx := 40) rg_cok4 (by decide +kernel) rfl (by decide +kernel) rg_wf_K_40) <|
  rg_fc (rg_ok_geti (idx := 87) rg_cok5 (by decide +kernel) rfl (by decide +kernel) rg_wf_K_87) <|
  rg_fc (rg_ok_if_ne (off := 7) (by decide +kernel) (by decide +kernel)) <|
  rg_fc (rg_ok_iconst (n := 1) (by decide +kernel) (by decide +kernel)) <|
  rg_fc (rg_ok_goto (off := 4) (by decide +kernel) (by decide +kernel)) <|
  rg_fc (rg_ok_iconst (n := 0) (by decide +kernel) (by decide +kernel)) <|
  rg_fc (rg_okK _ (rg_ok_putz (idx := 87) rg_cok5 (by decide +kernel) rfl rfl rfl (by decide +kernel) rg_wf_K_87)) <|
  rg_fc (rg_ok_aload_n (j := 0) (by decide +kernel) rfl) <|
  fun _ h => absurd h List.not_mem_nil
def rg_c120_1 : List (Nat × rg_S) := [(53, rg_sgr 4 8), (56, rg_sal 0 1), (57, rg_sgr 4 9), (60, rg_scV 50 1 0 5), (63, rg_sal 0 1), (64, rg_sgr 4 8), (67, rg_scV 30 0 1 5), (70, rg_sjge 78), (73, rg_sal 1 1), (74, rg_sal 2 1), (75, rg_scV 53 1 0 1), (78, rg_sK [false, false, false] (rg_rv))]
theorem rg_o120_1 : ∀ q ∈ rg_c120_1, rg_Ok 120 q.1 q.2 :=
  rg_fc (rg_ok_getr (idx := 37) rg_cok4 (by decide +kernel) rfl (by decide +kernel) rg_wf_K_37) <|
  rg_fc (rg_ok_aload_n (j := 0) (by decide +kernel) rfl) <|
  rg_fc (rg_ok_getr (idx := 40) rg_cok4 (by decide +kernel) rfl (by decide +kernel) rg_wf_K_40) <|
  rg_fc (rg_ok_callV (idx := 81) rg_cok5 (by decide +kernel) (by decide +kernel) rg_wm_K_81 rg_wj_50 rg_ws_50 rg_wz_5 rg_wd_50 ⟨by decide +kernel, by decide +kernel, by decide +kernel, by decide +kernel⟩ (by decide +kernel) (by decide +kernel)) <|
  rg_fc (rg_ok_aload_n (j := 0) (by decide +kernel) rfl) <|
  rg_fc (rg_ok_getr (idx := 37) rg_cok4 (by decide +kernel) rfl (by decide +kernel) rg_wf_K_37) <|
  rg_fc (rg_ok_callV (idx := 91) rg_cok5 (by decide +kernel) (by decide +kernel) rg_wm_K_91 rg_wj_30 rg_ws_30 rg_wz_5 rg_wd_30 ⟨by decide +kernel, by decide +kernel, by decide +kernel, by decide +kernel⟩ (by decide +kernel) (by decide +kernel)) <|
  rg_fc (rg_ok_if_ge (off := 8) (by decide +kernel) (by decide +kernel)) <|
  rg_fc (rg_ok_aload_n (j := 1) (by decide +kernel) rfl) <|
  rg_fc (rg_ok_aload_n (j := 2) (by decide +kernel) rfl) <|
  rg_fc (rg_ok_callV (idx := 95) rg_cok1 (by decide +kernel) (by decide +kernel) rg_wm_K_95 rg_wj_53 rg_ws_53 rg_wz_1 rg_wd_53 ⟨by decide +kernel, by decide +kernel, by decide +kernel, by decide +kernel⟩ (by decide +kernel) (by decide +kernel)) <|
  rg_fc (rg_okK _ (rg_ok_return (by decide +kernel) rfl)) <|
  fun _ h => absurd h List.not_mem_nil
def rg_kd120 : List (List (Nat × rg_S)) := [rg_c120_0, rg_c120_1]
theorem rg_o120 : ∀ pc f, rg_lk2 rg_kd120 pc = some f → rg_Ok 120 pc f := rg_lk2_ok (rg_fd rg_o120_0 (rg_fd rg_o120_1 (fun _ h => absurd h List.not_mem_nil)))
def rg_c140_0 : List (Nat × rg_S) := [(0, rg_sal 0 1), (1, rg_sgr 4 10), (4, rg_sil 2 1), (5, rg_si2l), (6, rg_scV 3 1 0 5), (9, rg_sal 0 1), (10, rg_sgr 4 2), (13, rg_sal 1 1), (14, rg_sgr 1 0), (17, rg_sal 0 1), (18, rg_sgr 4 10), (21, rg_scV 49 2 0 5), (24, rg_sal 0 1), (25, rg_sal 0 1), (26, rg_sgr 4 2), (29, rg_sal 1 1), (30, rg_sgr 1 1), (33, rg_scV 46 2 0 4), (36, rg_sal 0 1), (37, rg_sgr 4 1), (40, rg_scV 59 0 1 5), (43, rg_sic 63 2), (45, rg_skle 52), (48, rg_slc (-9223372036854775808) 3), (51, rg_rl)]
theorem rg_o140_0 : ∀ q ∈ rg_c140_0, rg_Ok 140 q.1 q.2 :=
  rg_fc (rg_ok_aload_n (j := 0) (by decide +kernel) rfl) <|
  rg_fc (rg_ok_getr (idx := 43) rg_cok4 (by decide +kernel) rfl (by decide +kernel) rg_wf_K_43) <|
  rg_fc (rg_ok_iload_n (j := 2) (by decide +kernel) rfl) <|
  rg_fc (rg_ok_i2l (by decide +kernel)) <|
  rg_fc (rg_ok_callV (idx := 74) rg_cok5 (by decide +kernel) (by decide +kernel) rg_wm_K_74 rg_wj_3 rg_ws_3 rg_wz_5 rg_wd_3 ⟨by decide +kernel, by decide +kernel, by decide +kernel, by decide +kernel⟩ (by decide +kernel) (by decide +kernel)) <|
  rg_fc (rg_ok_aload_n (j := 0) (by decide +kernel) rfl) <|
  rg_fc (rg_ok_getr (idx := 19) rg_cok4 (by decide +kernel) rfl (by decide +kernel) rg_wf_K_19) <|
  rg_fc (rg_ok_aload_n (j := 1) (by decide +kernel) rfl) <|
  rg_fc (rg_ok_getr (idx := 50) rg_cok1 (by decide +kernel) rfl (by decide +kernel) rg_wf_K_50) <|
  rg_fc (rg_ok_aload_n (j := 0) (by decide +kernel) rfl) <|
  rg_fc (rg_ok_getr (idx := 43) rg_cok4 (by decide +kernel) rfl (by decide +kernel) rg_wf_K_43) <|
  rg_fc (rg_ok_callV (idx := 78) rg_cok5 (by decide +kernel) (by decide +kernel) rg_wm_K_78 rg_wj_49 rg_ws_49 rg_wz_5 rg_wd_49 ⟨by decide +kernel, by decide +kernel, by decide +kernel, by decide +kernel⟩ (by decide +kernel) (by decide +kernel)) <|
  rg_fc (rg_ok_aload_n (j := 0) (by decide +kernel) rfl) <|
  rg_fc (rg_ok_aload_n (j := 0) (by decide +kernel) rfl) <|
  rg_fc (rg_ok_getr (idx := 19) rg_cok4 (by decide +kernel) rfl (by decide +kernel) rg_wf_K_19) <|
  rg_fc (rg_ok_aload_n (j := 1) (by decide +kernel) rfl) <|
  rg_fc (rg_ok_getr (idx := 59) rg_cok1 (by decide +kernel) rfl (by decide +kernel) rg_wf_K_59) <|
  rg_fc (rg_ok_callV (idx := 102) rg_cok4 (by decide +kernel) (by decide +kernel) rg_wm_K_102 rg_wj_46 rg_ws_46 rg_wz_4 rg_wd_46 ⟨by decide +kernel, by decide +kernel, by decide +kernel, by decide +kernel⟩ (by decide +kernel) (by decide +kernel)) <|
  rg_fc (rg_ok_aload_n (j := 0) (by decide +kernel) rfl) <|
  rg_fc (rg_ok_getr (idx := 16) rg_cok4 (by decide +kernel) rfl (by decide +kernel) rg_wf_K_16) <|
  rg_fc (rg_ok_callV (idx := 105) rg_cok5 (by decide +kernel) (by decide +kernel) rg_wm_K_105 rg_wj_59 rg_ws_59 rg_wz_5 rg_wd_59 ⟨by decide +kernel, by decide +kernel, by decide +kernel, by decide +kernel⟩ (by decide +kernel) (by decide +kernel)) <|
  rg_fc (rg_ok_bipush (n := 63) (by decide +kernel) (by decide +kernel)) <|
  rg_fc (rg_ok_icmp_le (off := 7) (by decide +kernel) (by decide +kernel)) <|
  rg_fc (rg_ok_ldc2 (n := 110) (by decide +kernel) rg_wc_K_110) <|
  rg_fc (rg_ok_lreturn (by decide +kernel) rfl) <|
  fun _ h => absurd h List.not_mem_nil
def rg_c140_1 : List (Nat × rg_S) := [(52, rg_sal 0 1), (53, rg_sgr 4 1), (56, rg_sgi 5 1), (59, rg_sic 2 1), (60, rg_skle 76), (63, rg_sal 0 1), (64, rg_sgr 4 1), (67, rg_sgr 5 0), (70, rg_sic 2 1), (71, rg_sai), (72, rg_si2l), (73, rg_sgo 77), (76, rg_slc 0 1), (77, rg_sK [true, true, false, false, false, false, false] (rg_sls 3 1)), (78, rg_sll 3 1), (79, rg_sic 62 2), (81, rg_ssh (fun x y => x <<< (y.toInt64 &&& 63))), (82, rg_sal 0 1), (83, rg_sgr 4 1), (86, rg_scV 32 0 2 5), (89, rg_s2l (fun x y => x ||| y)), (90, rg_sls 5 2), (92, rg_sal 1 1), (93, rg_sgr 1 0), (96, rg_sgi 5 2)]
theorem rg_o140_1 : ∀ q ∈ rg_c140_1, rg_Ok 140 q.1 q.2 :=
  rg_fc (rg_ok_aload_n (j := 0) (by decide +kernel) rfl) <|
  rg_fc (rg_ok_getr (idx := 16) rg_cok4 (by decide +kernel) rfl (by decide +kernel) rg_wf_K_16) <|
  rg_fc (rg_ok_geti (idx := 55) rg_cok5 (by decide +kernel) rfl (by decide +kernel) rg_wf_K_55) <|
  rg_fc (rg_ok_iconst (n := 2) (by decide +kernel) (by decide +kernel)) <|
  rg_fc (rg_ok_icmp_le (off := 16) (by decide +kernel) (by decide +kernel)) <|
  rg_fc (rg_ok_aload_n (j := 0) (by decide +kernel) rfl) <|
  rg_fc (rg_ok_getr (idx := 16) rg_cok4 (by decide +kernel) rfl (by decide +kernel) rg_wf_K_16) <|
  rg_fc (rg_ok_getr (idx := 112) rg_cok5 (by decide +kernel) rfl (by decide +kernel) rg_wf_K_112) <|
  rg_fc (rg_ok_iconst (n := 2) (by decide +kernel) (by decide +kernel)) <|
  rg_fc (rg_ok_iaload (by decide +kernel)) <|
  rg_fc (rg_ok_i2l (by decide +kernel)) <|
  rg_fc (rg_ok_goto (off := 4) (by decide +kernel) (by decide +kernel)) <|
  rg_fc (rg_ok_lconst (n := 0) (by decide +kernel) (by decide +kernel)) <|
  rg_fc (rg_okK _ (rg_ok_lstore_n (j := 3) (by decide +kernel) rfl (by decide +kernel))) <|
  rg_fc (rg_ok_lload_n (j := 3) (by decide +kernel) rfl) <|
  rg_fc (rg_ok_bipush (n := 62) (by decide +kernel) (by decide +kernel)) <|
  rg_fc (rg_ok_lshl (by decide +kernel)) <|
  rg_fc (rg_ok_aload_n (j := 0) (by decide +kernel) rfl) <|
  rg_fc (rg_ok_getr (idx := 16) rg_cok4 (by decide +kernel) rfl (by decide +kernel) rg_wf_K_16) <|
  rg_fc (rg_ok_callV (idx := 116) rg_cok5 (by decide +kernel) (by decide +kernel) rg_wm_K_116 rg_wj_32 rg_ws_32 rg_wz_5 rg_wd_32 ⟨by decide +kernel, by decide +kernel, by decide +kernel, by decide +kernel⟩ (by decide +kernel) (by decide +kernel)) <|
  rg_fc (rg_ok_lor (by decide +kernel)) <|
  rg_fc (rg_ok_lstore (i := 5) (by decide +kernel) (by decide +kernel)) <|
  rg_fc (rg_ok_aload_n (j := 1) (by decide +kernel) rfl) <|
  rg_fc (rg_ok_getr (idx := 50) rg_cok1 (by decide +kernel) rfl (by decide +kernel) rg_wf_K_50) <|
  rg_fc (rg_ok_geti (idx := 87) rg_cok5 (by decide +kernel) rfl (by decide +kernel) rg_wf_K_87) <|
  fun _ h => absurd h List.not_mem_nil
def rg_c140_2 : List (Nat × rg_S) := [(99, rg_sjeq 108), (102, rg_sll 5 2), (104, rg_s1l (fun x => -x)), (105, rg_sgo 110), (108, rg_sll 5 2), (110, rg_sK [false, false, false, false, false, false, false] (rg_rl))]
theorem rg_o140_2 : ∀ q ∈ rg_c140_2, rg_Ok 140 q.1 q.2 :=
  rg_fc (rg_ok_if_eq (off := 9) (by decide +kernel) (by decide +kernel)) <|
  rg_fc (rg_ok_lload (i := 5) (by decide +kernel)) <|
  rg_fc (rg_ok_lneg (by decide +kernel)) <|
  rg_fc (rg_ok_goto (off := 5) (by decide +kernel) (by decide +kernel)) <|
  rg_fc (rg_ok_lload (i := 5) (by decide +kernel)) <|
  rg_fc (rg_okK _ (rg_ok_lreturn (by decide +kernel) rfl)) <|
  fun _ h => absurd h List.not_mem_nil
def rg_kd140 : List (List (Nat × rg_S)) := [rg_c140_0, rg_c140_1, rg_c140_2]
theorem rg_o140 : ∀ pc f, rg_lk2 rg_kd140 pc = some f → rg_Ok 140 pc f := rg_lk2_ok (rg_fd rg_o140_0 (rg_fd rg_o140_1 (rg_fd rg_o140_2 (fun _ h => absurd h List.not_mem_nil))))
def rg_c146_0 : List (Nat × rg_S) := [(0, rg_sal 0 1), (1, rg_sgr 4 8), (4, rg_sal 1 1), (5, rg_sgr 1 0), (8, rg_sal 1 1), (9, rg_sgr 1 0), (12, rg_scV 49 2 0 5), (15, rg_sal 0 1), (16, rg_sgr 4 10), (19, rg_sll 2 1), (20, rg_scV 3 1 0 5), (23, rg_sal 0 1), (24, rg_sgr 4 6), (27, rg_sal 0 1), (28, rg_sgr 4 8), (31, rg_sal 0 1), (32, rg_sgr 4 10), (35, rg_scV 49 2 0 5), (38, rg_sal 0 1), (39, rg_sgr 4 9), (42, rg_sal 1 1), (43, rg_sgr 1 1), (46, rg_sal 1 1), (47, rg_sgr 1 1), (50, rg_scV 49 2 0 5)]
theorem rg_o146_0 : ∀ q ∈ rg_c146_0, rg_Ok 146 q.1 q.2 :=
  rg_fc (rg_ok_aload_n (j := 0) (by decide +kernel) rfl) <|
  rg_fc (rg_ok_getr (idx := 37) rg_cok4 (by decide +kernel) rfl (by decide +kernel) rg_wf_K_37) <|
  rg_fc (rg_ok_aload_n (j := 1) (by decide +kernel) rfl) <|
  rg_fc (rg_ok_getr (idx := 50) rg_cok1 (by decide +kernel) rfl (by decide +kernel) rg_wf_K_50) <|
  rg_fc (rg_ok_aload_n (j := 1) (by decide +kernel) rfl) <|
  rg_fc (rg_ok_getr (idx := 50) rg_cok1 (by decide +kernel) rfl (by decide +kernel) rg_wf_K_50) <|
  rg_fc (rg_ok_callV (idx := 78) rg_cok5 (by decide +kernel) (by decide +kernel) rg_wm_K_78 rg_wj_49 rg_ws_49 rg_wz_5 rg_wd_49 ⟨by decide +kernel, by decide +kernel, by decide +kernel, by decide +kernel⟩ (by decide +kernel) (by decide +kernel)) <|
  rg_fc (rg_ok_aload_n (j := 0) (by decide +kernel) rfl) <|
  rg_fc (rg_ok_getr (idx := 43) rg_cok4 (by decide +kernel) rfl (by decide +kernel) rg_wf_K_43) <|
  rg_fc (rg_ok_lload_n (j := 2) (by decide +kernel) rfl) <|
  rg_fc (rg_ok_callV (idx := 74) rg_cok5 (by decide +kernel) (by decide +kernel) rg_wm_K_74 rg_wj_3 rg_ws_3 rg_wz_5 rg_wd_3 ⟨by decide +kernel, by decide +kernel, by decide +kernel, by decide +kernel⟩ (by decide +kernel) (by decide +kernel)) <|
  rg_fc (rg_ok_aload_n (j := 0) (by decide +kernel) rfl) <|
  rg_fc (rg_ok_getr (idx := 31) rg_cok4 (by decide +kernel) rfl (by decide +kernel) rg_wf_K_31) <|
  rg_fc (rg_ok_aload_n (j := 0) (by decide +kernel) rfl) <|
  rg_fc (rg_ok_getr (idx := 37) rg_cok4 (by decide +kernel) rfl (by decide +kernel) rg_wf_K_37) <|
  rg_fc (rg_ok_aload_n (j := 0) (by decide +kernel) rfl) <|
  rg_fc (rg_ok_getr (idx := 43) rg_cok4 (by decide +kernel) rfl (by decide +kernel) rg_wf_K_43) <|
  rg_fc (rg_ok_callV (idx := 78) rg_cok5 (by decide +kernel) (by decide +kernel) rg_wm_K_78 rg_wj_49 rg_ws_49 rg_wz_5 rg_wd_49 ⟨by decide +kernel, by decide +kernel, by decide +kernel, by decide +kernel⟩ (by decide +kernel) (by decide +kernel)) <|
  rg_fc (rg_ok_aload_n (j := 0) (by decide +kernel) rfl) <|
  rg_fc (rg_ok_getr (idx := 40) rg_cok4 (by decide +kernel) rfl (by decide +kernel) rg_wf_K_40) <|
  rg_fc (rg_ok_aload_n (j := 1) (by decide +kernel) rfl) <|
  rg_fc (rg_ok_getr (idx := 59) rg_cok1 (by decide +kernel) rfl (by decide +kernel) rg_wf_K_59) <|
  rg_fc (rg_ok_aload_n (j := 1) (by decide +kernel) rfl) <|
  rg_fc (rg_ok_getr (idx := 59) rg_cok1 (by decide +kernel) rfl (by decide +kernel) rg_wf_K_59) <|
  rg_fc (rg_ok_callV (idx := 78) rg_cok5 (by decide +kernel) (by decide +kernel) rg_wm_K_78 rg_wj_49 rg_ws_49 rg_wz_5 rg_wd_49 ⟨by decide +kernel, by decide +kernel, by decide +kernel, by decide +kernel⟩ (by decide +kernel) (by decide +kernel)) <|
  fun _ h => absurd h List.not_mem_nil
def rg_c146_1 : List (Nat × rg_S) := [(53, rg_sal 0 1), (54, rg_sgr 4 10), (57, rg_sll 4 2), (59, rg_scV 3 1 0 5), (62, rg_sal 0 1), (63, rg_sgr 4 7), (66, rg_sal 0 1), (67, rg_sgr 4 9), (70, rg_sal 0 1), (71, rg_sgr 4 10), (74, rg_scV 49 2 0 5), (77, rg_sal 0 1), (78, rg_sgr 4 6), (81, rg_sal 0 1), (82, rg_sgr 4 7), (85, rg_scV 34 1 1 5), (88, rg_sjgt 95), (91, rg_sic 1 1), (92, rg_sgo 96), (95, rg_sic 0 1), (96, rg_sK [false, false, false, false, false, false] (rg_rz))]
theorem rg_o146_1 : ∀ q ∈ rg_c146_1, rg_Ok 146 q.1 q.2 :=
  rg_fc (rg_ok_aload_n (j := 0) (by decide +kernel) rfl) <|
  rg_fc (rg_ok_getr (idx := 43) rg_cok4 (by decide +kernel) rfl (by decide +kernel) rg_wf_K_43) <|
  rg_fc (rg_ok_lload (i := 4) (by decide +kernel)) <|
  rg_fc (rg_ok_callV (idx := 74) rg_cok5 (by decide +kernel) (by decide +kernel) rg_wm_K_74 rg_wj_3 rg_ws_3 rg_wz_5 rg_wd_3 ⟨by decide +kernel, by decide +kernel, by decide +kernel, by decide +kernel⟩ (by decide +kernel) (by decide +kernel)) <|
  rg_fc (rg_ok_aload_n (j := 0) (by decide +kernel) rfl) <|
  rg_fc (rg_ok_getr (idx := 34) rg_cok4 (by decide +kernel) rfl (by decide +kernel) rg_wf_K_34) <|
  rg_fc (rg_ok_aload_n (j := 0) (by decide +kernel) rfl) <|
  rg_fc (rg_ok_getr (idx := 40) rg_cok4 (by decide +kernel) rfl (by decide +kernel) rg_wf_K_40) <|
  rg_fc (rg_ok_aload_n (j := 0) (by decide +kernel) rfl) <|
  rg_fc (rg_ok_getr (idx := 43) rg_cok4 (by decide +kernel) rfl (by decide +kernel) rg_wf_K_43) <|
  rg_fc (rg_ok_callV (idx := 78) rg_cok5 (by decide +kernel) (by decide +kernel) rg_wm_K_78 rg_wj_49 rg_ws_49 rg_wz_5 rg_wd_49 ⟨by decide +kernel, by decide +kernel, by decide +kernel, by decide +kernel⟩ (by decide +kernel) (by decide +kernel)) <|
  rg_fc (rg_ok_aload_n (j := 0) (by decide +kernel) rfl) <|
  rg_fc (rg_ok_getr (idx := 31) rg_cok4 (by decide +kernel) rfl (by decide +kernel) rg_wf_K_31) <|
  rg_fc (rg_ok_aload_n (j := 0) (by decide +kernel) rfl) <|
  rg_fc (rg_ok_getr (idx := 34) rg_cok4 (by decide +kernel) rfl (by decide +kernel) rg_wf_K_34) <|
  rg_fc (rg_ok_callV (idx := 98) rg_cok5 (by decide +kernel) (by decide +kernel) rg_wm_K_98 rg_wj_34 rg_ws_34 rg_wz_5 rg_wd_34 ⟨by decide +kernel, by decide +kernel, by decide +kernel, by decide +kernel⟩ (by decide +kernel) (by decide +kernel)) <|
  rg_fc (rg_ok_if_gt (off := 7) (by decide +kernel) (by decide +kernel)) <|
  rg_fc (rg_ok_iconst (n := 1) (by decide +kernel) (by decide +kernel)) <|
  rg_fc (rg_ok_goto (off := 4) (by decide +kernel) (by decide +kernel)) <|
  rg_fc (rg_ok_iconst (n := 0) (by decide +kernel) (by decide +kernel)) <|
  rg_fc (rg_okK _ (rg_ok_zreturn (by decide +kernel) rfl)) <|
  fun _ h => absurd h List.not_mem_nil
def rg_kd146 : List (List (Nat × rg_S)) := [rg_c146_0, rg_c146_1]
theorem rg_o146 : ∀ pc f, rg_lk2 rg_kd146 pc = some f → rg_Ok 146 pc f := rg_lk2_ok (rg_fd rg_o146_0 (rg_fd rg_o146_1 (fun _ h => absurd h List.not_mem_nil)))

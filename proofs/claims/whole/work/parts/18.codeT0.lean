def rg_c8_0 : List (Nat × rg_S) := [(0, rg_sal 0 1), (1, rg_sob), (4, rg_sal 0 1), (5, rg_snw 4), (8, rg_sdu), (9, rg_scI 1 0 0), (12, rg_spr 6 0), (15, rg_sal 0 1), (16, rg_snw 2), (19, rg_sdu), (20, rg_sal 0 1), (21, rg_sgr 6 0), (24, rg_scI 5 1 0), (27, rg_spr 6 1), (30, rg_sal 0 1), (31, rg_snw 3), (34, rg_sdu), (35, rg_sal 0 1), (36, rg_sgr 6 0), (39, rg_sal 0 1), (40, rg_sgr 6 1), (43, rg_scI 6 2 0), (46, rg_spr 6 2), (49, rg_sal 0 1), (50, rg_snw 0)]
theorem rg_o8_0 : ∀ q ∈ rg_c8_0, rg_Ok 8 q.1 q.2 :=
  rg_fc (rg_ok_aload_n (j := 0) (by decide +kernel) rfl) <|
  rg_fc (rg_ok_objinit (idx := 3) (by decide +kernel) rg_wm_T_3 rg_wo_1 rg_wo_2 (by decide +kernel) (by decide +kernel)) <|
  rg_fc (rg_ok_aload_n (j := 0) (by decide +kernel) rfl) <|
  rg_fc (rg_ok_new (idx := 9) rg_cok4 (by decide +kernel) (by decide +kernel) rg_wk_T_9 rg_wi_4 rg_wz_4) <|
  rg_fc (rg_ok_dup (by decide +kernel)) <|
  rg_fc (rg_ok_callIN (idx := 11) (host := "RegretTable")  (by decide +kernel) (by decide +kernel) (fun s h => h.2.1) rg_wj_1 rfl rfl rg_wz_4 rg_wd_1 ⟨by decide +kernel, by decide +kernel, by decide +kernel⟩ (by decide +kernel) (by decide +kernel)) <|
  rg_fc (rg_ok_putr (idx := 12) rg_cok6 (by decide +kernel) rfl (fun _ => ⟨rfl, rfl⟩) (Or.inr ⟨rfl, rfl, rfl⟩) (by decide +kernel) rg_wf_T_12) <|
  rg_fc (rg_ok_aload_n (j := 0) (by decide +kernel) rfl) <|
  rg_fc (rg_ok_new (idx := 16) rg_cok2 (by decide +kernel) (by decide +kernel) rg_wk_T_16 rg_wi_2 rg_wz_2) <|
  rg_fc (rg_ok_dup (by decide +kernel)) <|
  rg_fc (rg_ok_aload_n (j := 0) (by decide +kernel) rfl) <|
  rg_fc (rg_ok_getr (idx := 12) rg_cok6 (by decide +kernel) rfl (by decide +kernel) rg_wf_T_12) <|
  rg_fc (rg_ok_callI (idx := 18) (by decide +kernel) (by decide +kernel) rg_wm_T_18 rg_wj_5 rfl rfl rg_wz_2 rg_wd_5 ⟨by decide +kernel, by decide +kernel, by decide +kernel⟩ (by decide +kernel) (by decide +kernel)) <|
  rg_fc (rg_ok_putr (idx := 21) rg_cok6 (by decide +kernel) rfl (fun _ => ⟨rfl, rfl⟩) (Or.inr ⟨rfl, rfl, rfl⟩) (by decide +kernel) rg_wf_T_21) <|
  rg_fc (rg_ok_aload_n (j := 0) (by decide +kernel) rfl) <|
  rg_fc (rg_ok_new (idx := 25) rg_cok3 (by decide +kernel) (by decide +kernel) rg_wk_T_25 rg_wi_3 rg_wz_3) <|
  rg_fc (rg_ok_dup (by decide +kernel)) <|
  rg_fc (rg_ok_aload_n (j := 0) (by decide +kernel) rfl) <|
  rg_fc (rg_ok_getr (idx := 12) rg_cok6 (by decide +kernel) rfl (by decide +kernel) rg_wf_T_12) <|
  rg_fc (rg_ok_aload_n (j := 0) (by decide +kernel) rfl) <|
  rg_fc (rg_ok_getr (idx := 21) rg_cok6 (by decide +kernel) rfl (by decide +kernel) rg_wf_T_21) <|
  rg_fc (rg_ok_callI (idx := 27) (by decide +kernel) (by decide +kernel) rg_wm_T_27 rg_wj_6 rfl rfl rg_wz_3 rg_wd_6 ⟨by decide +kernel, by decide +kernel, by decide +kernel⟩ (by decide +kernel) (by decide +kernel)) <|
  rg_fc (rg_ok_putr (idx := 30) rg_cok6 (by decide +kernel) rfl (fun _ => ⟨rfl, rfl⟩) (Or.inr ⟨rfl, rfl, rfl⟩) (by decide +kernel) rg_wf_T_30) <|
  rg_fc (rg_ok_aload_n (j := 0) (by decide +kernel) rfl) <|
  rg_fc (rg_ok_new (idx := 34) rg_cok0 (by decide +kernel) (by decide +kernel) rg_wk_T_34 rg_wi_0 rg_wz_0) <|
  fun _ h => absurd h List.not_mem_nil
def rg_c8_1 : List (Nat × rg_S) := [(53, rg_sdu), (54, rg_sal 0 1), (55, rg_sgr 6 0), (58, rg_sal 0 1), (59, rg_sgr 6 1), (62, rg_scI 7 2 0), (65, rg_spr 6 3), (68, rg_sal 0 1), (69, rg_snw 1), (72, rg_sdu), (73, rg_scI 4 0 0), (76, rg_spr 6 4), (79, rg_sal 0 1), (80, rg_snw 1), (83, rg_sdu), (84, rg_scI 4 0 0), (87, rg_spr 6 5), (90, rg_sal 0 1), (91, rg_sic 0 1), (92, rg_spi 6 6), (95, rg_rv)]
theorem rg_o8_1 : ∀ q ∈ rg_c8_1, rg_Ok 8 q.1 q.2 :=
  rg_fc (rg_ok_dup (by decide +kernel)) <|
  rg_fc (rg_ok_aload_n (j := 0) (by decide +kernel) rfl) <|
  rg_fc (rg_ok_getr (idx := 12) rg_cok6 (by decide +kernel) rfl (by decide +kernel) rg_wf_T_12) <|
  rg_fc (rg_ok_aload_n (j := 0) (by decide +kernel) rfl) <|
  rg_fc (rg_ok_getr (idx := 21) rg_cok6 (by decide +kernel) rfl (by decide +kernel) rg_wf_T_21) <|
  rg_fc (rg_ok_callI (idx := 36) (by decide +kernel) (by decide +kernel) rg_wm_T_36 rg_wj_7 rfl rfl rg_wz_0 rg_wd_7 ⟨by decide +kernel, by decide +kernel, by decide +kernel⟩ (by decide +kernel) (by decide +kernel)) <|
  rg_fc (rg_ok_putr (idx := 37) rg_cok6 (by decide +kernel) rfl (fun _ => ⟨rfl, rfl⟩) (Or.inr ⟨rfl, rfl, rfl⟩) (by decide +kernel) rg_wf_T_37) <|
  rg_fc (rg_ok_aload_n (j := 0) (by decide +kernel) rfl) <|
  rg_fc (rg_ok_new (idx := 41) rg_cok1 (by decide +kernel) (by decide +kernel) rg_wk_T_41 rg_wi_1 rg_wz_1) <|
  rg_fc (rg_ok_dup (by decide +kernel)) <|
  rg_fc (rg_ok_callI (idx := 43) (by decide +kernel) (by decide +kernel) rg_wm_T_43 rg_wj_4 rfl rfl rg_wz_1 rg_wd_4 ⟨by decide +kernel, by decide +kernel, by decide +kernel⟩ (by decide +kernel) (by decide +kernel)) <|
  rg_fc (rg_ok_putr (idx := 44) rg_cok6 (by decide +kernel) rfl (fun _ => ⟨rfl, rfl⟩) (Or.inr ⟨rfl, rfl, rfl⟩) (by decide +kernel) rg_wf_T_44) <|
  rg_fc (rg_ok_aload_n (j := 0) (by decide +kernel) rfl) <|
  rg_fc (rg_ok_new (idx := 41) rg_cok1 (by decide +kernel) (by decide +kernel) rg_wk_T_41 rg_wi_1 rg_wz_1) <|
  rg_fc (rg_ok_dup (by decide +kernel)) <|
  rg_fc (rg_ok_callI (idx := 43) (by decide +kernel) (by decide +kernel) rg_wm_T_43 rg_wj_4 rfl rfl rg_wz_1 rg_wd_4 ⟨by decide +kernel, by decide +kernel, by decide +kernel⟩ (by decide +kernel) (by decide +kernel)) <|
  rg_fc (rg_ok_putr (idx := 48) rg_cok6 (by decide +kernel) rfl (fun _ => ⟨rfl, rfl⟩) (Or.inr ⟨rfl, rfl, rfl⟩) (by decide +kernel) rg_wf_T_48) <|
  rg_fc (rg_ok_aload_n (j := 0) (by decide +kernel) rfl) <|
  rg_fc (rg_ok_iconst (n := 0) (by decide +kernel) (by decide +kernel)) <|
  rg_fc (rg_ok_puti (idx := 51) rg_cok6 (by decide +kernel) rfl rfl rfl (by decide +kernel) rg_wf_T_51) <|
  rg_fc (rg_ok_return (by decide +kernel) rfl) <|
  fun _ h => absurd h List.not_mem_nil
def rg_kd8 : List (List (Nat × rg_S)) := [rg_c8_0, rg_c8_1]
theorem rg_o8 : ∀ pc f, rg_lk2 rg_kd8 pc = some f → rg_Ok 8 pc f := rg_lk2_ok (rg_fd rg_o8_0 (rg_fd rg_o8_1 (fun _ h => absurd h List.not_mem_nil)))
def rg_c13_0 : List (Nat × rg_S) := [(0, rg_sil 0 1), (1, rg_sil 1 1), (2, rg_sklt 14), (5, rg_sil 0 1), (6, rg_sil 2 1), (7, rg_skgt 14), (10, rg_sic 1 1), (11, rg_sgo 15), (14, rg_sK [false, false, false] (rg_sic 0 1)), (15, rg_sK [false, false, false] (rg_rz))]
theorem rg_o13_0 : ∀ q ∈ rg_c13_0, rg_Ok 13 q.1 q.2 :=
  rg_fc (rg_ok_iload_n (j := 0) (by decide +kernel) rfl) <|
  rg_fc (rg_ok_iload_n (j := 1) (by decide +kernel) rfl) <|
  rg_fc (rg_ok_icmp_lt (off := 12) (by decide +kernel) (by decide +kernel)) <|
  rg_fc (rg_ok_iload_n (j := 0) (by decide +kernel) rfl) <|
  rg_fc (rg_ok_iload_n (j := 2) (by decide +kernel) rfl) <|
  rg_fc (rg_ok_icmp_gt (off := 7) (by decide +kernel) (by decide +kernel)) <|
  rg_fc (rg_ok_iconst (n := 1) (by decide +kernel) (by decide +kernel)) <|
  rg_fc (rg_ok_goto (off := 4) (by decide +kernel) (by decide +kernel)) <|
  rg_fc (rg_okK _ (rg_ok_iconst (n := 0) (by decide +kernel) (by decide +kernel))) <|
  rg_fc (rg_okK _ (rg_ok_zreturn (by decide +kernel) rfl)) <|
  fun _ h => absurd h List.not_mem_nil
def rg_kd13 : List (List (Nat × rg_S)) := [rg_c13_0]
theorem rg_o13 : ∀ pc f, rg_lk2 rg_kd13 pc = some f → rg_Ok 13 pc f := rg_lk2_ok (rg_fd rg_o13_0 (fun _ h => absurd h List.not_mem_nil))
def rg_c17_0 : List (Nat × rg_S) := [(0, rg_sal 0 1), (1, rg_sil 1 1), (2, rg_spi 6 6), (5, rg_sal 0 1), (6, rg_sic 0 1), (7, rg_spi 6 7), (10, rg_sal 0 1), (11, rg_sic 0 1), (12, rg_spi 6 8), (15, rg_sal 0 1), (16, rg_sic 0 1), (17, rg_spi 6 9), (20, rg_sal 0 1), (21, rg_sic 0 1), (22, rg_spz 6 10), (25, rg_rv)]
theorem rg_o17_0 : ∀ q ∈ rg_c17_0, rg_Ok 17 q.1 q.2 :=
  rg_fc (rg_ok_aload_n (j := 0) (by decide +kernel) rfl) <|
  rg_fc (rg_ok_iload_n (j := 1) (by decide +kernel) rfl) <|
  rg_fc (rg_ok_puti (idx := 51) rg_cok6 (by decide +kernel) rfl rfl rfl (by decide +kernel) rg_wf_T_51) <|
  rg_fc (rg_ok_aload_n (j := 0) (by decide +kernel) rfl) <|
  rg_fc (rg_ok_iconst (n := 0) (by decide +kernel) (by decide +kernel)) <|
  rg_fc (rg_ok_puti (idx := 66) rg_cok6 (by decide +kernel) rfl rfl rfl (by decide +kernel) rg_wf_T_66) <|
  rg_fc (rg_ok_aload_n (j := 0) (by decide +kernel) rfl) <|
  rg_fc (rg_ok_iconst (n := 0) (by decide +kernel) (by decide +kernel)) <|
  rg_fc (rg_ok_puti (idx := 81) rg_cok6 (by decide +kernel) rfl rfl rfl (by decide +kernel) rg_wf_T_81) <|
  rg_fc (rg_ok_aload_n (j := 0) (by decide +kernel) rfl) <|
  rg_fc (rg_ok_iconst (n := 0) (by decide +kernel) (by decide +kernel)) <|
  rg_fc (rg_ok_puti (idx := 84) rg_cok6 (by decide +kernel) rfl rfl rfl (by decide +kernel) rg_wf_T_84) <|
  rg_fc (rg_ok_aload_n (j := 0) (by decide +kernel) rfl) <|
  rg_fc (rg_ok_iconst (n := 0) (by decide +kernel) (by decide +kernel)) <|
  rg_fc (rg_ok_putz (idx := 87) rg_cok6 (by decide +kernel) rfl rfl rfl (by decide +kernel) rg_wf_T_87) <|
  rg_fc (rg_ok_return (by decide +kernel) rfl) <|
  fun _ h => absurd h List.not_mem_nil
def rg_kd17 : List (List (Nat × rg_S)) := [rg_c17_0]
theorem rg_o17 : ∀ pc f, rg_lk2 rg_kd17 pc = some f → rg_Ok 17 pc f := rg_lk2_ok (rg_fd rg_o17_0 (fun _ h => absurd h List.not_mem_nil))
def rg_c18_0 : List (Nat × rg_S) := [(0, rg_sil 1 1), (1, rg_sic 1 1), (2, rg_sic 5 1), (3, rg_scS 13 3 1), (6, rg_sjeq 18), (9, rg_sil 2 1), (10, rg_sic 1 1), (11, rg_sic 5 1), (12, rg_scS 13 3 1), (15, rg_sjne 20), (18, rg_sK [false, false, false] (rg_sic 0 1)), (19, rg_rz), (20, rg_sal 0 1), (21, rg_sgr 6 2), (24, rg_sil 1 1), (25, rg_sil 2 1), (26, rg_scV 16 2 0 3), (29, rg_sal 0 1), (30, rg_sic 1 1), (31, rg_scV 17 1 0 6), (34, rg_sic 1 1), (35, rg_rz)]
theorem rg_o18_0 : ∀ q ∈ rg_c18_0, rg_Ok 18 q.1 q.2 :=
  rg_fc (rg_ok_iload_n (j := 1) (by decide +kernel) rfl) <|
  rg_fc (rg_ok_iconst (n := 1) (by decide +kernel) (by decide +kernel)) <|
  rg_fc (rg_ok_iconst (n := 5) (by decide +kernel) (by decide +kernel)) <|
  rg_fc (rg_ok_callS (idx := 55) (by decide +kernel) (by decide +kernel) rg_wm_T_55 rg_wt_13 rg_wy_13 rg_wd_13 ⟨by decide +kernel, by decide +kernel, by decide +kernel⟩ (by decide +kernel) (by decide +kernel)) <|
  rg_fc (rg_ok_if_eq (off := 12) (by decide +kernel) (by decide +kernel)) <|
  rg_fc (rg_ok_iload_n (j := 2) (by decide +kernel) rfl) <|
  rg_fc (rg_ok_iconst (n := 1) (by decide +kernel) (by decide +kernel)) <|
  rg_fc (rg_ok_iconst (n := 5) (by decide +kernel) (by decide +kernel)) <|
  rg_fc (rg_ok_callS (idx := 55) (by decide +kernel) (by decide +kernel) rg_wm_T_55 rg_wt_13 rg_wy_13 rg_wd_13 ⟨by decide +kernel, by decide +kernel, by decide +kernel⟩ (by decide +kernel) (by decide +kernel)) <|
  rg_fc (rg_ok_if_ne (off := 5) (by decide +kernel) (by decide +kernel)) <|
  rg_fc (rg_okK _ (rg_ok_iconst (n := 0) (by decide +kernel) (by decide +kernel))) <|
  rg_fc (rg_ok_zreturn (by decide +kernel) rfl) <|
  rg_fc (rg_ok_aload_n (j := 0) (by decide +kernel) rfl) <|
  rg_fc (rg_ok_getr (idx := 30) rg_cok6 (by decide +kernel) rfl (by decide +kernel) rg_wf_T_30) <|
  rg_fc (rg_ok_iload_n (j := 1) (by decide +kernel) rfl) <|
  rg_fc (rg_ok_iload_n (j := 2) (by decide +kernel) rfl) <|
  rg_fc (rg_ok_callV (idx := 59) rg_cok3 (by decide +kernel) (by decide +kernel) rg_wm_T_59 rg_wj_16 rg_ws_16 rg_wz_3 rg_wd_16 ⟨by decide +kernel, by decide +kernel, by decide +kernel, by decide +kernel⟩ (by decide +kernel) (by decide +kernel)) <|
  rg_fc (rg_ok_aload_n (j := 0) (by decide +kernel) rfl) <|
  rg_fc (rg_ok_iconst (n := 1) (by decide +kernel) (by decide +kernel)) <|
  rg_fc (rg_ok_callV (idx := 63) rg_cok6 (by decide +kernel) (by decide +kernel) rg_wm_T_63 rg_wj_17 rg_ws_17 rg_wz_6 rg_wd_17 ⟨by decide +kernel, by decide +kernel, by decide +kernel, by decide +kernel⟩ (by decide +kernel) (by decide +kernel)) <|
  rg_fc (rg_ok_iconst (n := 1) (by decide +kernel) (by decide +kernel)) <|
  rg_fc (rg_ok_zreturn (by decide +kernel) rfl) <|
  fun _ h => absurd h List.not_mem_nil
def rg_kd18 : List (List (Nat × rg_S)) := [rg_c18_0]
theorem rg_o18 : ∀ pc f, rg_lk2 rg_kd18 pc = some f → rg_Ok 18 pc f := rg_lk2_ok (rg_fd rg_o18_0 (fun _ h => absurd h List.not_mem_nil))
def rg_c24_0 : List (Nat × rg_S) := [(0, rg_sal 0 1), (1, rg_sgi 6 6), (4, rg_sic 1 1), (5, rg_skne 15), (8, rg_sal 0 1), (9, rg_sgi 6 7), (12, rg_sjeq 17), (15, rg_sK [false, false, false, false] (rg_sic 0 1)), (16, rg_rz), (17, rg_sal 0 1), (18, rg_sgr 6 1), (21, rg_sic 0 1), (22, rg_sil 1 1), (23, rg_scV 23 2 1 2), (26, rg_sjeq 54), (29, rg_sal 0 1), (30, rg_sgr 6 1), (33, rg_sic 1 1), (34, rg_sil 2 1), (35, rg_scV 23 2 1 2), (38, rg_sjeq 54), (41, rg_sil 3 1), (42, rg_sic (-1000) 3), (45, rg_sic 1000 3), (48, rg_scS 13 3 1)]
theorem rg_o24_0 : ∀ q ∈ rg_c24_0, rg_Ok 24 q.1 q.2 :=
  rg_fc (rg_ok_aload_n (j := 0) (by decide +kernel) rfl) <|
  rg_fc (rg_ok_geti (idx := 51) rg_cok6 (by decide +kernel) rfl (by decide +kernel) rg_wf_T_51) <|
  rg_fc (rg_ok_iconst (n := 1) (by decide +kernel) (by decide +kernel)) <|
  rg_fc (rg_ok_icmp_ne (off := 10) (by decide +kernel) (by decide +kernel)) <|
  rg_fc (rg_ok_aload_n (j := 0) (by decide +kernel) rfl) <|
  rg_fc (rg_ok_geti (idx := 66) rg_cok6 (by decide +kernel) rfl (by decide +kernel) rg_wf_T_66) <|
  rg_fc (rg_ok_if_eq (off := 5) (by decide +kernel) (by decide +kernel)) <|
  rg_fc (rg_okK _ (rg_ok_iconst (n := 0) (by decide +kernel) (by decide +kernel))) <|
  rg_fc (rg_ok_zreturn (by decide +kernel) rfl) <|
  rg_fc (rg_ok_aload_n (j := 0) (by decide +kernel) rfl) <|
  rg_fc (rg_ok_getr (idx := 21) rg_cok6 (by decide +kernel) rfl (by decide +kernel) rg_wf_T_21) <|
  rg_fc (rg_ok_iconst (n := 0) (by decide +kernel) (by decide +kernel)) <|
  rg_fc (rg_ok_iload_n (j := 1) (by decide +kernel) rfl) <|
  rg_fc (rg_ok_callV (idx := 69) rg_cok2 (by decide +kernel) (by decide +kernel) rg_wm_T_69 rg_wj_23 rg_ws_23 rg_wz_2 rg_wd_23 ⟨by decide +kernel, by decide +kernel, by decide +kernel, by decide +kernel⟩ (by decide +kernel) (by decide +kernel)) <|
  rg_fc (rg_ok_if_eq (off := 28) (by decide +kernel) (by decide +kernel)) <|
  rg_fc (rg_ok_aload_n (j := 0) (by decide +kernel) rfl) <|
  rg_fc (rg_ok_getr (idx := 21) rg_cok6 (by decide +kernel) rfl (by decide +kernel) rg_wf_T_21) <|
  rg_fc (rg_ok_iconst (n := 1) (by decide +kernel) (by decide +kernel)) <|
  rg_fc (rg_ok_iload_n (j := 2) (by decide +kernel) rfl) <|
  rg_fc (rg_ok_callV (idx := 69) rg_cok2 (by decide +kernel) (by decide +kernel) rg_wm_T_69 rg_wj_23 rg_ws_23 rg_wz_2 rg_wd_23 ⟨by decide +kernel, by decide +kernel, by decide +kernel, by decide +kernel⟩ (by decide +kernel) (by decide +kernel)) <|
  rg_fc (rg_ok_if_eq (off := 16) (by decide +kernel) (by decide +kernel)) <|
  rg_fc (rg_ok_iload_n (j := 3) (by decide +kernel) rfl) <|
  rg_fc (rg_ok_sipush (n := (-1000)) (by decide +kernel) (by decide +kernel)) <|
  rg_fc (rg_ok_sipush (n := 1000) (by decide +kernel) (by decide +kernel)) <|
  rg_fc (rg_ok_callS (idx := 55) (by decide +kernel) (by decide +kernel) rg_wm_T_55 rg_wt_13 rg_wy_13 rg_wd_13 ⟨by decide +kernel, by decide +kernel, by decide +kernel⟩ (by decide +kernel) (by decide +kernel)) <|
  fun _ h => absurd h List.not_mem_nil
def rg_c24_1 : List (Nat × rg_S) := [(51, rg_sjne 56), (54, rg_sK [false, false, false, false] (rg_sic 0 1)), (55, rg_rz), (56, rg_sal 0 1), (57, rg_sgr 6 2), (60, rg_sgr 3 2), (63, rg_sil 1 1), (64, rg_sic 5 1), (65, rg_s2i (fun x y => x * y)), (66, rg_sil 2 1), (67, rg_s2i (fun x y => x + y)), (68, rg_sil 3 1), (69, rg_swi), (70, rg_sic 1 1), (71, rg_rz)]
theorem rg_o24_1 : ∀ q ∈ rg_c24_1, rg_Ok 24 q.1 q.2 :=
  rg_fc (rg_ok_if_ne (off := 5) (by decide +kernel) (by decide +kernel)) <|
  rg_fc (rg_okK _ (rg_ok_iconst (n := 0) (by decide +kernel) (by decide +kernel))) <|
  rg_fc (rg_ok_zreturn (by decide +kernel) rfl) <|
  rg_fc (rg_ok_aload_n (j := 0) (by decide +kernel) rfl) <|
  rg_fc (rg_ok_getr (idx := 30) rg_cok6 (by decide +kernel) rfl (by decide +kernel) rg_wf_T_30) <|
  rg_fc (rg_ok_getr (idx := 73) rg_cok3 (by decide +kernel) rfl (by decide +kernel) rg_wf_T_73) <|
  rg_fc (rg_ok_iload_n (j := 1) (by decide +kernel) rfl) <|
  rg_fc (rg_ok_iconst (n := 5) (by decide +kernel) (by decide +kernel)) <|
  rg_fc (rg_ok_imul (by decide +kernel)) <|
  rg_fc (rg_ok_iload_n (j := 2) (by decide +kernel) rfl) <|
  rg_fc (rg_ok_iadd (by decide +kernel)) <|
  rg_fc (rg_ok_iload_n (j := 3) (by decide +kernel) rfl) <|
  rg_fc (rg_ok_iastore (by decide +kernel)) <|
  rg_fc (rg_ok_iconst (n := 1) (by decide +kernel) (by decide +kernel)) <|
  rg_fc (rg_ok_zreturn (by decide +kernel) rfl) <|
  fun _ h => absurd h List.not_mem_nil
def rg_kd24 : List (List (Nat × rg_S)) := [rg_c24_0, rg_c24_1]
theorem rg_o24 : ∀ pc f, rg_lk2 rg_kd24 pc = some f → rg_Ok 24 pc f := rg_lk2_ok (rg_fd rg_o24_0 (rg_fd rg_o24_1 (fun _ h => absurd h List.not_mem_nil)))
def rg_c27_0 : List (Nat × rg_S) := [(0, rg_sil 1 1), (1, rg_sic 3 1), (2, rg_sic 5 1), (3, rg_scS 13 3 1), (6, rg_sjne 11), (9, rg_sic 0 1), (10, rg_rz), (11, rg_sal 0 1), (12, rg_sgr 6 3), (15, rg_sil 1 1), (16, rg_scV 26 1 0 0), (19, rg_sal 0 1), (20, rg_sic 2 1), (21, rg_scV 17 1 0 6), (24, rg_sic 1 1), (25, rg_rz)]
theorem rg_o27_0 : ∀ q ∈ rg_c27_0, rg_Ok 27 q.1 q.2 :=
  rg_fc (rg_ok_iload_n (j := 1) (by decide +kernel) rfl) <|
  rg_fc (rg_ok_iconst (n := 3) (by decide +kernel) (by decide +kernel)) <|
  rg_fc (rg_ok_iconst (n := 5) (by decide +kernel) (by decide +kernel)) <|
  rg_fc (rg_ok_callS (idx := 55) (by decide +kernel) (by decide +kernel) rg_wm_T_55 rg_wt_13 rg_wy_13 rg_wd_13 ⟨by decide +kernel, by decide +kernel, by decide +kernel⟩ (by decide +kernel) (by decide +kernel)) <|
  rg_fc (rg_ok_if_ne (off := 5) (by decide +kernel) (by decide +kernel)) <|
  rg_fc (rg_ok_iconst (n := 0) (by decide +kernel) (by decide +kernel)) <|
  rg_fc (rg_ok_zreturn (by decide +kernel) rfl) <|
  rg_fc (rg_ok_aload_n (j := 0) (by decide +kernel) rfl) <|
  rg_fc (rg_ok_getr (idx := 37) rg_cok6 (by decide +kernel) rfl (by decide +kernel) rg_wf_T_37) <|
  rg_fc (rg_ok_iload_n (j := 1) (by decide +kernel) rfl) <|
  rg_fc (rg_ok_callV (idx := 77) rg_cok0 (by decide +kernel) (by decide +kernel) rg_wm_T_77 rg_wj_26 rg_ws_26 rg_wz_0 rg_wd_26 ⟨by decide +kernel, by decide +kernel, by decide +kernel, by decide +kernel⟩ (by decide +kernel) (by decide +kernel)) <|
  rg_fc (rg_ok_aload_n (j := 0) (by decide +kernel) rfl) <|
  rg_fc (rg_ok_iconst (n := 2) (by decide +kernel) (by decide +kernel)) <|
  rg_fc (rg_ok_callV (idx := 63) rg_cok6 (by decide +kernel) (by decide +kernel) rg_wm_T_63 rg_wj_17 rg_ws_17 rg_wz_6 rg_wd_17 ⟨by decide +kernel, by decide +kernel, by decide +kernel, by decide +kernel⟩ (by decide +kernel) (by decide +kernel)) <|
  rg_fc (rg_ok_iconst (n := 1) (by decide +kernel) (by decide +kernel)) <|
  rg_fc (rg_ok_zreturn (by decide +kernel) rfl) <|
  fun _ h => absurd h List.not_mem_nil
def rg_kd27 : List (List (Nat × rg_S)) := [rg_c27_0]
theorem rg_o27 : ∀ pc f, rg_lk2 rg_kd27 pc = some f → rg_Ok 27 pc f := rg_lk2_ok (rg_fd rg_o27_0 (fun _ h => absurd h List.not_mem_nil))
def rg_c65_0 : List (Nat × rg_S) := [(0, rg_sal 0 1), (1, rg_sgi 6 6), (4, rg_sic 1 1), (5, rg_skne 22), (8, rg_sal 0 1), (9, rg_sgr 6 1), (12, rg_sic 1 1), (13, rg_sil 1 1), (14, rg_s2i (fun x y => x - y)), (15, rg_sil 2 1), (16, rg_scV 23 2 1 2), (19, rg_sjne 24), (22, rg_sK [false, false, false] (rg_sic 0 1)), (23, rg_rz), (24, rg_sal 0 1), (25, rg_sgr 6 2), (28, rg_sil 1 1), (29, rg_sil 2 1), (30, rg_scV 63 2 1 3), (33, rg_sjne 38), (36, rg_sic 0 1), (37, rg_rz), (38, rg_sal 0 1), (39, rg_sgr 6 1), (42, rg_sil 1 1)]
theorem rg_o65_0 : ∀ q ∈ rg_c65_0, rg_Ok 65 q.1 q.2 :=
  rg_fc (rg_ok_aload_n (j := 0) (by decide +kernel) rfl) <|
  rg_fc (rg_ok_geti (idx := 51) rg_cok6 (by decide +kernel) rfl (by decide +kernel) rg_wf_T_51) <|
  rg_fc (rg_ok_iconst (n := 1) (by decide +kernel) (by decide +kernel)) <|
  rg_fc (rg_ok_icmp_ne (off := 17) (by decide +kernel) (by decide +kernel)) <|
  rg_fc (rg_ok_aload_n (j := 0) (by decide +kernel) rfl) <|
  rg_fc (rg_ok_getr (idx := 21) rg_cok6 (by decide +kernel) rfl (by decide +kernel) rg_wf_T_21) <|
  rg_fc (rg_ok_iconst (n := 1) (by decide +kernel) (by decide +kernel)) <|
  rg_fc (rg_ok_iload_n (j := 1) (by decide +kernel) rfl) <|
  rg_fc (rg_ok_isub (by decide +kernel)) <|
  rg_fc (rg_ok_iload_n (j := 2) (by decide +kernel) rfl) <|
  rg_fc (rg_ok_callV (idx := 69) rg_cok2 (by decide +kernel) (by decide +kernel) rg_wm_T_69 rg_wj_23 rg_ws_23 rg_wz_2 rg_wd_23 ⟨by decide +kernel, by decide +kernel, by decide +kernel, by decide +kernel⟩ (by decide +kernel) (by decide +kernel)) <|
  rg_fc (rg_ok_if_ne (off := 5) (by decide +kernel) (by decide +kernel)) <|
  rg_fc (rg_okK _ (rg_ok_iconst (n := 0) (by decide +kernel) (by decide +kernel))) <|
  rg_fc (rg_ok_zreturn (by decide +kernel) rfl) <|
  rg_fc (rg_ok_aload_n (j := 0) (by decide +kernel) rfl) <|
  rg_fc (rg_ok_getr (idx := 30) rg_cok6 (by decide +kernel) rfl (by decide +kernel) rg_wf_T_30) <|
  rg_fc (rg_ok_iload_n (j := 1) (by decide +kernel) rfl) <|
  rg_fc (rg_ok_iload_n (j := 2) (by decide +kernel) rfl) <|
  rg_fc (rg_ok_callV (idx := 161) rg_cok3 (by decide +kernel) (by decide +kernel) rg_wm_T_161 rg_wj_63 rg_ws_63 rg_wz_3 rg_wd_63 ⟨by decide +kernel, by decide +kernel, by decide +kernel, by decide +kernel⟩ (by decide +kernel) (by decide +kernel)) <|
  rg_fc (rg_ok_if_ne (off := 5) (by decide +kernel) (by decide +kernel)) <|
  rg_fc (rg_ok_iconst (n := 0) (by decide +kernel) (by decide +kernel)) <|
  rg_fc (rg_ok_zreturn (by decide +kernel) rfl) <|
  rg_fc (rg_ok_aload_n (j := 0) (by decide +kernel) rfl) <|
  rg_fc (rg_ok_getr (idx := 21) rg_cok6 (by decide +kernel) rfl (by decide +kernel) rg_wf_T_21) <|
  rg_fc (rg_ok_iload_n (j := 1) (by decide +kernel) rfl) <|
  fun _ h => absurd h List.not_mem_nil
def rg_c65_1 : List (Nat × rg_S) := [(43, rg_scV 64 1 0 2), (46, rg_sal 0 1), (47, rg_sdu), (48, rg_sgi 6 7), (51, rg_sic 1 1), (52, rg_s2i (fun x y => x + y)), (53, rg_spi 6 7), (56, rg_sal 0 1), (57, rg_sic 0 1), (58, rg_spz 6 10), (61, rg_sic 1 1), (62, rg_rz)]
theorem rg_o65_1 : ∀ q ∈ rg_c65_1, rg_Ok 65 q.1 q.2 :=
  rg_fc (rg_ok_callV (idx := 99) rg_cok2 (by decide +kernel) (by decide +kernel) rg_wm_T_99 rg_wj_64 rg_ws_64 rg_wz_2 rg_wd_64 ⟨by decide +kernel, by decide +kernel, by decide +kernel, by decide +kernel⟩ (by decide +kernel) (by decide +kernel)) <|
  rg_fc (rg_ok_aload_n (j := 0) (by decide +kernel) rfl) <|
  rg_fc (rg_ok_dup (by decide +kernel)) <|
  rg_fc (rg_ok_geti (idx := 66) rg_cok6 (by decide +kernel) rfl (by decide +kernel) rg_wf_T_66) <|
  rg_fc (rg_ok_iconst (n := 1) (by decide +kernel) (by decide +kernel)) <|
  rg_fc (rg_ok_iadd (by decide +kernel)) <|
  rg_fc (rg_ok_puti (idx := 66) rg_cok6 (by decide +kernel) rfl rfl rfl (by decide +kernel) rg_wf_T_66) <|
  rg_fc (rg_ok_aload_n (j := 0) (by decide +kernel) rfl) <|
  rg_fc (rg_ok_iconst (n := 0) (by decide +kernel) (by decide +kernel)) <|
  rg_fc (rg_ok_putz (idx := 87) rg_cok6 (by decide +kernel) rfl rfl rfl (by decide +kernel) rg_wf_T_87) <|
  rg_fc (rg_ok_iconst (n := 1) (by decide +kernel) (by decide +kernel)) <|
  rg_fc (rg_ok_zreturn (by decide +kernel) rfl) <|
  fun _ h => absurd h List.not_mem_nil
def rg_kd65 : List (List (Nat × rg_S)) := [rg_c65_0, rg_c65_1]
theorem rg_o65 : ∀ pc f, rg_lk2 rg_kd65 pc = some f → rg_Ok 65 pc f := rg_lk2_ok (rg_fd rg_o65_0 (rg_fd rg_o65_1 (fun _ h => absurd h List.not_mem_nil)))
def rg_c66_0 : List (Nat × rg_S) := [(0, rg_sal 0 1), (1, rg_sic 0 1), (2, rg_sil 1 1), (3, rg_scV 65 2 1 6), (6, rg_sjne 11), (9, rg_sic 0 1), (10, rg_rz), (11, rg_sal 0 1), (12, rg_sdu), (13, rg_sgi 6 8), (16, rg_sic 1 1), (17, rg_s2i (fun x y => x + y)), (18, rg_spi 6 8), (21, rg_sic 1 1), (22, rg_rz)]
theorem rg_o66_0 : ∀ q ∈ rg_c66_0, rg_Ok 66 q.1 q.2 :=
  rg_fc (rg_ok_aload_n (j := 0) (by decide +kernel) rfl) <|
  rg_fc (rg_ok_iconst (n := 0) (by decide +kernel) (by decide +kernel)) <|
  rg_fc (rg_ok_iload_n (j := 1) (by decide +kernel) rfl) <|
  rg_fc (rg_ok_callV (idx := 78) rg_cok6 (by decide +kernel) (by decide +kernel) rg_wm_T_78 rg_wj_65 rg_ws_65 rg_wz_6 rg_wd_65 ⟨by decide +kernel, by decide +kernel, by decide +kernel, by decide +kernel⟩ (by decide +kernel) (by decide +kernel)) <|
  rg_fc (rg_ok_if_ne (off := 5) (by decide +kernel) (by decide +kernel)) <|
  rg_fc (rg_ok_iconst (n := 0) (by decide +kernel) (by decide +kernel)) <|
  rg_fc (rg_ok_zreturn (by decide +kernel) rfl) <|
  rg_fc (rg_ok_aload_n (j := 0) (by decide +kernel) rfl) <|
  rg_fc (rg_ok_dup (by decide +kernel)) <|
  rg_fc (rg_ok_geti (idx := 81) rg_cok6 (by decide +kernel) rfl (by decide +kernel) rg_wf_T_81) <|
  rg_fc (rg_ok_iconst (n := 1) (by decide +kernel) (by decide +kernel)) <|
  rg_fc (rg_ok_iadd (by decide +kernel)) <|
  rg_fc (rg_ok_puti (idx := 81) rg_cok6 (by decide +kernel) rfl rfl rfl (by decide +kernel) rg_wf_T_81) <|
  rg_fc (rg_ok_iconst (n := 1) (by decide +kernel) (by decide +kernel)) <|
  rg_fc (rg_ok_zreturn (by decide +kernel) rfl) <|
  fun _ h => absurd h List.not_mem_nil
def rg_kd66 : List (List (Nat × rg_S)) := [rg_c66_0]
theorem rg_o66 : ∀ pc f, rg_lk2 rg_kd66 pc = some f → rg_Ok 66 pc f := rg_lk2_ok (rg_fd rg_o66_0 (fun _ h => absurd h List.not_mem_nil))
def rg_c93_0 : List (Nat × rg_S) := [(0, rg_sal 0 1), (1, rg_sic 1 1), (2, rg_sil 1 1), (3, rg_scV 65 2 1 6), (6, rg_sjne 11), (9, rg_sic 0 1), (10, rg_rz), (11, rg_sal 0 1), (12, rg_sdu), (13, rg_sgi 6 9), (16, rg_sic 1 1), (17, rg_s2i (fun x y => x + y)), (18, rg_spi 6 9), (21, rg_sic 1 1), (22, rg_rz)]
theorem rg_o93_0 : ∀ q ∈ rg_c93_0, rg_Ok 93 q.1 q.2 :=
  rg_fc (rg_ok_aload_n (j := 0) (by decide +kernel) rfl) <|
  rg_fc (rg_ok_iconst (n := 1) (by decide +kernel) (by decide +kernel)) <|
  rg_fc (rg_ok_iload_n (j := 1) (by decide +kernel) rfl) <|
  rg_fc (rg_ok_callV (idx := 78) rg_cok6 (by decide +kernel) (by decide +kernel) rg_wm_T_78 rg_wj_65 rg_ws_65 rg_wz_6 rg_wd_65 ⟨by decide +kernel, by decide +kernel, by decide +kernel, by decide +kernel⟩ (by decide +kernel) (by decide +kernel)) <|
  rg_fc (rg_ok_if_ne (off := 5) (by decide +kernel) (by decide +kernel)) <|
  rg_fc (rg_ok_iconst (n := 0) (by decide +kernel) (by decide +kernel)) <|
  rg_fc (rg_ok_zreturn (by decide +kernel) rfl) <|
  rg_fc (rg_ok_aload_n (j := 0) (by decide +kernel) rfl) <|
  rg_fc (rg_ok_dup (by decide +kernel)) <|
  rg_fc (rg_ok_geti (idx := 84) rg_cok6 (by decide +kernel) rfl (by decide +kernel) rg_wf_T_84) <|
  rg_fc (rg_ok_iconst (n := 1) (by decide +kernel) (by decide +kernel)) <|
  rg_fc (rg_ok_iadd (by decide +kernel)) <|
  rg_fc (rg_ok_puti (idx := 84) rg_cok6 (by decide +kernel) rfl rfl rfl (by decide +kernel) rg_wf_T_84) <|
  rg_fc (rg_ok_iconst (n := 1) (by decide +kernel) (by decide +kernel)) <|
  rg_fc (rg_ok_zreturn (by decide +kernel) rfl) <|
  fun _ h => absurd h List.not_mem_nil
def rg_kd93 : List (List (Nat × rg_S)) := [rg_c93_0]
theorem rg_o93 : ∀ pc f, rg_lk2 rg_kd93 pc = some f → rg_Ok 93 pc f := rg_lk2_ok (rg_fd rg_o93_0 (fun _ h => absurd h List.not_mem_nil))
def rg_c104_0 : List (Nat × rg_S) := [(0, rg_sal 0 1), (1, rg_sgi 6 6), (4, rg_sjeq 14), (7, rg_sal 0 1), (8, rg_sgi 6 10), (11, rg_sjeq 16), (14, rg_sK [false, false, false] (rg_sic (-1) 1)), (15, rg_ri), (16, rg_sal 0 1), (17, rg_sgi 6 6), (20, rg_sic 2 1), (21, rg_skne 34), (24, rg_sal 0 1), (25, rg_sgr 6 3), (28, rg_scV 102 0 1 0), (31, rg_sgo 41), (34, rg_sal 0 1), (35, rg_sgr 6 2), (38, rg_scV 103 0 1 3), (41, rg_sK [true, false, false] (rg_sis 1 1)), (42, rg_sil 1 1), (43, rg_sjne 53), (46, rg_sal 0 1), (47, rg_sic 1 1), (48, rg_spz 6 10)]
theorem rg_o104_0 : ∀ q ∈ rg_c104_0, rg_Ok 104 q.1 q.2 :=
  rg_fc (rg_ok_aload_n (j := 0) (by decide +kernel) rfl) <|
  rg_fc (rg_ok_geti (idx := 51) rg_cok6 (by decide +kernel) rfl (by decide +kernel) rg_wf_T_51) <|
  rg_fc (rg_ok_if_eq (off := 10) (by decide +kernel) (by decide +kernel)) <|
  rg_fc (rg_ok_aload_n (j := 0) (by decide +kernel) rfl) <|
  rg_fc (rg_ok_geti (idx := 87) rg_cok6 (by decide +kernel) rfl (by decide +kernel) rg_wf_T_87) <|
  rg_fc (rg_ok_if_eq (off := 5) (by decide +kernel) (by decide +kernel)) <|
  rg_fc (rg_okK _ (rg_ok_iconst (n := (-1)) (by decide +kernel) (by decide +kernel))) <|
  rg_fc (rg_ok_ireturn (by decide +kernel) rfl) <|
  rg_fc (rg_ok_aload_n (j := 0) (by decide +kernel) rfl) <|
  rg_fc (rg_ok_geti (idx := 51) rg_cok6 (by decide +kernel) rfl (by decide +kernel) rg_wf_T_51) <|
  rg_fc (rg_ok_iconst (n := 2) (by decide +kernel) (by decide +kernel)) <|
  rg_fc (rg_ok_icmp_ne (off := 13) (by decide +kernel) (by decide +kernel)) <|
  rg_fc (rg_ok_aload_n (j := 0) (by decide +kernel) rfl) <|
  rg_fc (rg_ok_getr (idx := 37) rg_cok6 (by decide +kernel) rfl (by decide +kernel) rg_wf_T_37) <|
  rg_fc (rg_ok_callV (idx := 91) rg_cok0 (by decide +kernel) (by decide +kernel) rg_wm_T_91 rg_wj_102 rg_ws_102 rg_wz_0 rg_wd_102 ⟨by decide +kernel, by decide +kernel, by decide +kernel, by decide +kernel⟩ (by decide +kernel) (by decide +kernel)) <|
  rg_fc (rg_ok_goto (off := 10) (by decide +kernel) (by decide +kernel)) <|
  rg_fc (rg_ok_aload_n (j := 0) (by decide +kernel) rfl) <|
  rg_fc (rg_ok_getr (idx := 30) rg_cok6 (by decide +kernel) rfl (by decide +kernel) rg_wf_T_30) <|
  rg_fc (rg_ok_callV (idx := 95) rg_cok3 (by decide +kernel) (by decide +kernel) rg_wm_T_95 rg_wj_103 rg_ws_103 rg_wz_3 rg_wd_103 ⟨by decide +kernel, by decide +kernel, by decide +kernel, by decide +kernel⟩ (by decide +kernel) (by decide +kernel)) <|
  rg_fc (rg_okK _ (rg_ok_istore_n (j := 1) (by decide +kernel) rfl (by decide +kernel))) <|
  rg_fc (rg_ok_iload_n (j := 1) (by decide +kernel) rfl) <|
  rg_fc (rg_ok_if_ne (off := 10) (by decide +kernel) (by decide +kernel)) <|
  rg_fc (rg_ok_aload_n (j := 0) (by decide +kernel) rfl) <|
  rg_fc (rg_ok_iconst (n := 1) (by decide +kernel) (by decide +kernel)) <|
  rg_fc (rg_ok_putz (idx := 87) rg_cok6 (by decide +kernel) rfl rfl rfl (by decide +kernel) rg_wf_T_87) <|
  fun _ h => absurd h List.not_mem_nil
def rg_c104_1 : List (Nat × rg_S) := [(51, rg_sic (-1) 1), (52, rg_ri), (53, rg_sic 0 1), (54, rg_sis 2 1), (55, rg_sK [true, false, true] (rg_sil 2 1)), (56, rg_sal 0 1), (57, rg_sgr 6 1), (60, rg_sgi 2 10), (63, rg_skge 80), (66, rg_sal 0 1), (67, rg_sgr 6 1), (70, rg_sil 2 1), (71, rg_scV 64 1 0 2), (74, rg_sin 2 1), (77, rg_sgo 55), (80, rg_sal 0 1), (81, rg_sdu), (82, rg_sgi 6 7), (85, rg_sic 1 1), (86, rg_s2i (fun x y => x + y)), (87, rg_spi 6 7), (90, rg_sal 0 1), (91, rg_sgi 6 7), (94, rg_ri)]
theorem rg_o104_1 : ∀ q ∈ rg_c104_1, rg_Ok 104 q.1 q.2 :=
  rg_fc (rg_ok_iconst (n := (-1)) (by decide +kernel) (by decide +kernel)) <|
  rg_fc (rg_ok_ireturn (by decide +kernel) rfl) <|
  rg_fc (rg_ok_iconst (n := 0) (by decide +kernel) (by decide +kernel)) <|
  rg_fc (rg_ok_istore_n (j := 2) (by decide +kernel) rfl (by decide +kernel)) <|
  rg_fc (rg_okK _ (rg_ok_iload_n (j := 2) (by decide +kernel) rfl)) <|
  rg_fc (rg_ok_aload_n (j := 0) (by decide +kernel) rfl) <|
  rg_fc (rg_ok_getr (idx := 21) rg_cok6 (by decide +kernel) rfl (by decide +kernel) rg_wf_T_21) <|
  rg_fc (rg_ok_geti (idx := 96) rg_cok2 (by decide +kernel) rfl (by decide +kernel) rg_wf_T_96) <|
  rg_fc (rg_ok_icmp_ge (off := 17) (by decide +kernel) (by decide +kernel)) <|
  rg_fc (rg_ok_aload_n (j := 0) (by decide +kernel) rfl) <|
  rg_fc (rg_ok_getr (idx := 21) rg_cok6 (by decide +kernel) rfl (by decide +kernel) rg_wf_T_21) <|
  rg_fc (rg_ok_iload_n (j := 2) (by decide +kernel) rfl) <|
  rg_fc (rg_ok_callV (idx := 99) rg_cok2 (by decide +kernel) (by decide +kernel) rg_wm_T_99 rg_wj_64 rg_ws_64 rg_wz_2 rg_wd_64 ⟨by decide +kernel, by decide +kernel, by decide +kernel, by decide +kernel⟩ (by decide +kernel) (by decide +kernel)) <|
  rg_fc (rg_ok_iinc (n := 1) (by decide +kernel) (by decide +kernel) (by decide +kernel)) <|
  rg_fc (rg_ok_goto (off := (-22)) (by decide +kernel) (by decide +kernel)) <|
  rg_fc (rg_ok_aload_n (j := 0) (by decide +kernel) rfl) <|
  rg_fc (rg_ok_dup (by decide +kernel)) <|
  rg_fc (rg_ok_geti (idx := 66) rg_cok6 (by decide +kernel) rfl (by decide +kernel) rg_wf_T_66) <|
  rg_fc (rg_ok_iconst (n := 1) (by decide +kernel) (by decide +kernel)) <|
  rg_fc (rg_ok_iadd (by decide +kernel)) <|
  rg_fc (rg_ok_puti (idx := 66) rg_cok6 (by decide +kernel) rfl rfl rfl (by decide +kernel) rg_wf_T_66) <|
  rg_fc (rg_ok_aload_n (j := 0) (by decide +kernel) rfl) <|
  rg_fc (rg_ok_geti (idx := 66) rg_cok6 (by decide +kernel) rfl (by decide +kernel) rg_wf_T_66) <|
  rg_fc (rg_ok_ireturn (by decide +kernel) rfl) <|
  fun _ h => absurd h List.not_mem_nil
def rg_kd104 : List (List (Nat × rg_S)) := [rg_c104_0, rg_c104_1]
theorem rg_o104 : ∀ pc f, rg_lk2 rg_kd104 pc = some f → rg_Ok 104 pc f := rg_lk2_ok (rg_fd rg_o104_0 (rg_fd rg_o104_1 (fun _ h => absurd h List.not_mem_nil)))
def rg_c119_0 : List (Nat × rg_S) := [(0, rg_sal 0 1), (1, rg_sgi 6 6), (4, rg_sjeq 19), (7, rg_sal 0 1), (8, rg_sgr 6 1), (11, rg_sil 2 1), (12, rg_sil 3 1), (13, rg_scV 23 2 1 2), (16, rg_sjne 21), (19, rg_sK [false, false, false, false, false, false] (rg_sic 0 1)), (20, rg_rz), (21, rg_sal 0 1), (22, rg_sgr 6 1), (25, rg_sil 2 1), (26, rg_sil 3 1), (27, rg_scV 29 2 1 2), (30, rg_sis 4 2), (32, rg_sil 1 1), (33, rg_sjeq 41), (36, rg_sil 1 1), (37, rg_sic 2 1), (38, rg_skne 51), (41, rg_sK [true, true, true, false, true, false] (rg_sal 0 1)), (42, rg_sgr 6 1), (45, rg_sgr 2 1)]
theorem rg_o119_0 : ∀ q ∈ rg_c119_0, rg_Ok 119 q.1 q.2 :=
  rg_fc (rg_ok_aload_n (j := 0) (by decide +kernel) rfl) <|
  rg_fc (rg_ok_geti (idx := 51) rg_cok6 (by decide +kernel) rfl (by decide +kernel) rg_wf_T_51) <|
  rg_fc (rg_ok_if_eq (off := 15) (by decide +kernel) (by decide +kernel)) <|
  rg_fc (rg_ok_aload_n (j := 0) (by decide +kernel) rfl) <|
  rg_fc (rg_ok_getr (idx := 21) rg_cok6 (by decide +kernel) rfl (by decide +kernel) rg_wf_T_21) <|
  rg_fc (rg_ok_iload_n (j := 2) (by decide +kernel) rfl) <|
  rg_fc (rg_ok_iload_n (j := 3) (by decide +kernel) rfl) <|
  rg_fc (rg_ok_callV (idx := 69) rg_cok2 (by decide +kernel) (by decide +kernel) rg_wm_T_69 rg_wj_23 rg_ws_23 rg_wz_2 rg_wd_23 ⟨by decide +kernel, by decide +kernel, by decide +kernel, by decide +kernel⟩ (by decide +kernel) (by decide +kernel)) <|
  rg_fc (rg_ok_if_ne (off := 5) (by decide +kernel) (by decide +kernel)) <|
  rg_fc (rg_okK _ (rg_ok_iconst (n := 0) (by decide +kernel) (by decide +kernel))) <|
  rg_fc (rg_ok_zreturn (by decide +kernel) rfl) <|
  rg_fc (rg_ok_aload_n (j := 0) (by decide +kernel) rfl) <|
  rg_fc (rg_ok_getr (idx := 21) rg_cok6 (by decide +kernel) rfl (by decide +kernel) rg_wf_T_21) <|
  rg_fc (rg_ok_iload_n (j := 2) (by decide +kernel) rfl) <|
  rg_fc (rg_ok_iload_n (j := 3) (by decide +kernel) rfl) <|
  rg_fc (rg_ok_callV (idx := 164) rg_cok2 (by decide +kernel) (by decide +kernel) rg_wm_T_164 rg_wj_29 rg_ws_29 rg_wz_2 rg_wd_29 ⟨by decide +kernel, by decide +kernel, by decide +kernel, by decide +kernel⟩ (by decide +kernel) (by decide +kernel)) <|
  rg_fc (rg_ok_istore (i := 4) (by decide +kernel) (by decide +kernel)) <|
  rg_fc (rg_ok_iload_n (j := 1) (by decide +kernel) rfl) <|
  rg_fc (rg_ok_if_eq (off := 8) (by decide +kernel) (by decide +kernel)) <|
  rg_fc (rg_ok_iload_n (j := 1) (by decide +kernel) rfl) <|
  rg_fc (rg_ok_iconst (n := 2) (by decide +kernel) (by decide +kernel)) <|
  rg_fc (rg_ok_icmp_ne (off := 13) (by decide +kernel) (by decide +kernel)) <|
  rg_fc (rg_okK _ (rg_ok_aload_n (j := 0) (by decide +kernel) rfl)) <|
  rg_fc (rg_ok_getr (idx := 21) rg_cok6 (by decide +kernel) rfl (by decide +kernel) rg_wf_T_21) <|
  rg_fc (rg_ok_getr (idx := 167) rg_cok2 (by decide +kernel) rfl (by decide +kernel) rg_wf_T_167) <|
  fun _ h => absurd h List.not_mem_nil
def rg_c119_1 : List (Nat × rg_S) := [(48, rg_sgo 58), (51, rg_sal 0 1), (52, rg_sgr 6 1), (55, rg_sgr 2 2), (58, rg_sK [true, true, true, false, true, false] (rg_sas 5 2)), (60, rg_sil 1 1), (61, rg_sic 1 1), (62, rg_skgt 80), (65, rg_sal 0 1), (66, rg_sgr 6 4), (69, rg_sal 5 2), (71, rg_sil 4 2), (73, rg_saq), (74, rg_scV 53 1 0 1), (77, rg_sgo 107), (80, rg_sal 0 1), (81, rg_sgr 6 1), (84, rg_sil 2 1), (85, rg_sal 5 2), (87, rg_scV 55 2 0 2), (90, rg_sal 0 1), (91, rg_sgr 6 4), (94, rg_sal 0 1), (95, rg_sgr 6 1), (98, rg_sgr 2 5)]
theorem rg_o119_1 : ∀ q ∈ rg_c119_1, rg_Ok 119 q.1 q.2 :=
  rg_fc (rg_ok_goto (off := 10) (by decide +kernel) (by decide +kernel)) <|
  rg_fc (rg_ok_aload_n (j := 0) (by decide +kernel) rfl) <|
  rg_fc (rg_ok_getr (idx := 21) rg_cok6 (by decide +kernel) rfl (by decide +kernel) rg_wf_T_21) <|
  rg_fc (rg_ok_getr (idx := 171) rg_cok2 (by decide +kernel) rfl (by decide +kernel) rg_wf_T_171) <|
  rg_fc (rg_okK _ (rg_ok_astore (i := 5) (by decide +kernel) (by decide +kernel))) <|
  rg_fc (rg_ok_iload_n (j := 1) (by decide +kernel) rfl) <|
  rg_fc (rg_ok_iconst (n := 1) (by decide +kernel) (by decide +kernel)) <|
  rg_fc (rg_ok_icmp_gt (off := 18) (by decide +kernel) (by decide +kernel)) <|
  rg_fc (rg_ok_aload_n (j := 0) (by decide +kernel) rfl) <|
  rg_fc (rg_ok_getr (idx := 44) rg_cok6 (by decide +kernel) rfl (by decide +kernel) rg_wf_T_44) <|
  rg_fc (rg_ok_aload (i := 5) (by decide +kernel)) <|
  rg_fc (rg_ok_iload (i := 4) (by decide +kernel)) <|
  rg_fc (rg_ok_aaload (by decide +kernel)) <|
  rg_fc (rg_ok_callV (idx := 174) rg_cok1 (by decide +kernel) (by decide +kernel) rg_wm_T_174 rg_wj_53 rg_ws_53 rg_wz_1 rg_wd_53 ⟨by decide +kernel, by decide +kernel, by decide +kernel, by decide +kernel⟩ (by decide +kernel) (by decide +kernel)) <|
  rg_fc (rg_ok_goto (off := 30) (by decide +kernel) (by decide +kernel)) <|
  rg_fc (rg_ok_aload_n (j := 0) (by decide +kernel) rfl) <|
  rg_fc (rg_ok_getr (idx := 21) rg_cok6 (by decide +kernel) rfl (by decide +kernel) rg_wf_T_21) <|
  rg_fc (rg_ok_iload_n (j := 2) (by decide +kernel) rfl) <|
  rg_fc (rg_ok_aload (i := 5) (by decide +kernel)) <|
  rg_fc (rg_ok_callV (idx := 178) rg_cok2 (by decide +kernel) (by decide +kernel) rg_wm_T_178 rg_wj_55 rg_ws_55 rg_wz_2 rg_wd_55 ⟨by decide +kernel, by decide +kernel, by decide +kernel, by decide +kernel⟩ (by decide +kernel) (by decide +kernel)) <|
  rg_fc (rg_ok_aload_n (j := 0) (by decide +kernel) rfl) <|
  rg_fc (rg_ok_getr (idx := 44) rg_cok6 (by decide +kernel) rfl (by decide +kernel) rg_wf_T_44) <|
  rg_fc (rg_ok_aload_n (j := 0) (by decide +kernel) rfl) <|
  rg_fc (rg_ok_getr (idx := 21) rg_cok6 (by decide +kernel) rfl (by decide +kernel) rg_wf_T_21) <|
  rg_fc (rg_ok_getr (idx := 182) rg_cok2 (by decide +kernel) rfl (by decide +kernel) rg_wf_T_182) <|
  fun _ h => absurd h List.not_mem_nil
def rg_c119_2 : List (Nat × rg_S) := [(101, rg_sil 4 2), (103, rg_saq), (104, rg_scV 53 1 0 1), (107, rg_sK [false, false, false, false, false, false] (rg_sic 1 1)), (108, rg_rz)]
theorem rg_o119_2 : ∀ q ∈ rg_c119_2, rg_Ok 119 q.1 q.2 :=
  rg_fc (rg_ok_iload (i := 4) (by decide +kernel)) <|
  rg_fc (rg_ok_aaload (by decide +kernel)) <|
  rg_fc (rg_ok_callV (idx := 174) rg_cok1 (by decide +kernel) (by decide +kernel) rg_wm_T_174 rg_wj_53 rg_ws_53 rg_wz_1 rg_wd_53 ⟨by decide +kernel, by decide +kernel, by decide +kernel, by decide +kernel⟩ (by decide +kernel) (by decide +kernel)) <|
  rg_fc (rg_okK _ (rg_ok_iconst (n := 1) (by decide +kernel) (by decide +kernel))) <|
  rg_fc (rg_ok_zreturn (by decide +kernel) rfl) <|
  fun _ h => absurd h List.not_mem_nil
def rg_kd119 : List (List (Nat × rg_S)) := [rg_c119_0, rg_c119_1, rg_c119_2]
theorem rg_o119 : ∀ pc f, rg_lk2 rg_kd119 pc = some f → rg_Ok 119 pc f := rg_lk2_ok (rg_fd rg_o119_0 (rg_fd rg_o119_1 (rg_fd rg_o119_2 (fun _ h => absurd h List.not_mem_nil))))
def rg_c126_0 : List (Nat × rg_S) := [(0, rg_sil 1 1), (1, rg_sic 0 1), (2, rg_sic 3 1), (3, rg_scS 13 3 1), (6, rg_sjeq 17), (9, rg_sal 0 1), (10, rg_sil 1 1), (11, rg_sil 2 1), (12, rg_sil 3 1), (13, rg_scV 119 3 1 6), (16, rg_rz), (17, rg_sil 1 1), (18, rg_sic 4 1), (19, rg_skne 35), (22, rg_sil 2 1), (23, rg_sic 0 1), (24, rg_sic 1 1), (25, rg_scS 13 3 1), (28, rg_sjeq 35), (31, rg_sic 1 1), (32, rg_sgo 36), (35, rg_sK [true, true, true, true, false, false, false] (rg_sic 0 1)), (36, rg_sK [true, true, true, true, false, false, false] (rg_sis 4 2)), (38, rg_sil 1 1), (39, rg_sic 5 1)]
theorem rg_o126_0 : ∀ q ∈ rg_c126_0, rg_Ok 126 q.1 q.2 :=
  rg_fc (rg_ok_iload_n (j := 1) (by decide +kernel) rfl) <|
  rg_fc (rg_ok_iconst (n := 0) (by decide +kernel) (by decide +kernel)) <|
  rg_fc (rg_ok_iconst (n := 3) (by decide +kernel) (by decide +kernel)) <|
  rg_fc (rg_ok_callS (idx := 55) (by decide +kernel) (by decide +kernel) rg_wm_T_55 rg_wt_13 rg_wy_13 rg_wd_13 ⟨by decide +kernel, by decide +kernel, by decide +kernel⟩ (by decide +kernel) (by decide +kernel)) <|
  rg_fc (rg_ok_if_eq (off := 11) (by decide +kernel) (by decide +kernel)) <|
  rg_fc (rg_ok_aload_n (j := 0) (by decide +kernel) rfl) <|
  rg_fc (rg_ok_iload_n (j := 1) (by decide +kernel) rfl) <|
  rg_fc (rg_ok_iload_n (j := 2) (by decide +kernel) rfl) <|
  rg_fc (rg_ok_iload_n (j := 3) (by decide +kernel) rfl) <|
  rg_fc (rg_ok_callV (idx := 102) rg_cok6 (by decide +kernel) (by decide +kernel) rg_wm_T_102 rg_wj_119 rg_ws_119 rg_wz_6 rg_wd_119 ⟨by decide +kernel, by decide +kernel, by decide +kernel, by decide +kernel⟩ (by decide +kernel) (by decide +kernel)) <|
  rg_fc (rg_ok_zreturn (by decide +kernel) rfl) <|
  rg_fc (rg_ok_iload_n (j := 1) (by decide +kernel) rfl) <|
  rg_fc (rg_ok_iconst (n := 4) (by decide +kernel) (by decide +kernel)) <|
  rg_fc (rg_ok_icmp_ne (off := 16) (by decide +kernel) (by decide +kernel)) <|
  rg_fc (rg_ok_iload_n (j := 2) (by decide +kernel) rfl) <|
  rg_fc (rg_ok_iconst (n := 0) (by decide +kernel) (by decide +kernel)) <|
  rg_fc (rg_ok_iconst (n := 1) (by decide +kernel) (by decide +kernel)) <|
  rg_fc (rg_ok_callS (idx := 55) (by decide +kernel) (by decide +kernel) rg_wm_T_55 rg_wt_13 rg_wy_13 rg_wd_13 ⟨by decide +kernel, by decide +kernel, by decide +kernel⟩ (by decide +kernel) (by decide +kernel)) <|
  rg_fc (rg_ok_if_eq (off := 7) (by decide +kernel) (by decide +kernel)) <|
  rg_fc (rg_ok_iconst (n := 1) (by decide +kernel) (by decide +kernel)) <|
  rg_fc (rg_ok_goto (off := 4) (by decide +kernel) (by decide +kernel)) <|
  rg_fc (rg_okK _ (rg_ok_iconst (n := 0) (by decide +kernel) (by decide +kernel))) <|
  rg_fc (rg_okK _ (rg_ok_istore (i := 4) (by decide +kernel) (by decide +kernel))) <|
  rg_fc (rg_ok_iload_n (j := 1) (by decide +kernel) rfl) <|
  rg_fc (rg_ok_iconst (n := 5) (by decide +kernel) (by decide +kernel)) <|
  fun _ h => absurd h List.not_mem_nil
def rg_c126_1 : List (Nat × rg_S) := [(40, rg_skne 51), (43, rg_sil 2 1), (44, rg_sjne 51), (47, rg_sic 1 1), (48, rg_sgo 52), (51, rg_sK [true, false, true, true, true, false, false] (rg_sic 0 1)), (52, rg_sK [true, false, true, true, true, false, false] (rg_sis 5 2)), (54, rg_sal 0 1), (55, rg_sgi 6 6), (58, rg_sjeq 75), (61, rg_sil 3 1), (62, rg_sjne 75), (65, rg_sil 4 2), (67, rg_sjne 77), (70, rg_sil 5 2), (72, rg_sjne 77), (75, rg_sK [false, false, false, false, false, false, false] (rg_sic 0 1)), (76, rg_rz), (77, rg_sK [true, false, true, false, false, true, false] (rg_sil 5 2)), (79, rg_sjeq 86), (82, rg_sic 2 1), (83, rg_sgo 87), (86, rg_sil 2 1), (87, rg_sK [true, false, false, false, false, false, false] (rg_sis 6 2)), (89, rg_sal 0 1)]
theorem rg_o126_1 : ∀ q ∈ rg_c126_1, rg_Ok 126 q.1 q.2 :=
  rg_fc (rg_ok_icmp_ne (off := 11) (by decide +kernel) (by decide +kernel)) <|
  rg_fc (rg_ok_iload_n (j := 2) (by decide +kernel) rfl) <|
  rg_fc (rg_ok_if_ne (off := 7) (by decide +kernel) (by decide +kernel)) <|
  rg_fc (rg_ok_iconst (n := 1) (by decide +kernel) (by decide +kernel)) <|
  rg_fc (rg_ok_goto (off := 4) (by decide +kernel) (by decide +kernel)) <|
  rg_fc (rg_okK _ (rg_ok_iconst (n := 0) (by decide +kernel) (by decide +kernel))) <|
  rg_fc (rg_okK _ (rg_ok_istore (i := 5) (by decide +kernel) (by decide +kernel))) <|
  rg_fc (rg_ok_aload_n (j := 0) (by decide +kernel) rfl) <|
  rg_fc (rg_ok_geti (idx := 51) rg_cok6 (by decide +kernel) rfl (by decide +kernel) rg_wf_T_51) <|
  rg_fc (rg_ok_if_eq (off := 17) (by decide +kernel) (by decide +kernel)) <|
  rg_fc (rg_ok_iload_n (j := 3) (by decide +kernel) rfl) <|
  rg_fc (rg_ok_if_ne (off := 13) (by decide +kernel) (by decide +kernel)) <|
  rg_fc (rg_ok_iload (i := 4) (by decide +kernel)) <|
  rg_fc (rg_ok_if_ne (off := 10) (by decide +kernel) (by decide +kernel)) <|
  rg_fc (rg_ok_iload (i := 5) (by decide +kernel)) <|
  rg_fc (rg_ok_if_ne (off := 5) (by decide +kernel) (by decide +kernel)) <|
  rg_fc (rg_okK _ (rg_ok_iconst (n := 0) (by decide +kernel) (by decide +kernel))) <|
  rg_fc (rg_ok_zreturn (by decide +kernel) rfl) <|
  rg_fc (rg_okK _ (rg_ok_iload (i := 5) (by decide +kernel))) <|
  rg_fc (rg_ok_if_eq (off := 7) (by decide +kernel) (by decide +kernel)) <|
  rg_fc (rg_ok_iconst (n := 2) (by decide +kernel) (by decide +kernel)) <|
  rg_fc (rg_ok_goto (off := 4) (by decide +kernel) (by decide +kernel)) <|
  rg_fc (rg_ok_iload_n (j := 2) (by decide +kernel) rfl) <|
  rg_fc (rg_okK _ (rg_ok_istore (i := 6) (by decide +kernel) (by decide +kernel))) <|
  rg_fc (rg_ok_aload_n (j := 0) (by decide +kernel) rfl) <|
  fun _ h => absurd h List.not_mem_nil
def rg_c126_2 : List (Nat × rg_S) := [(90, rg_sgi 6 6), (93, rg_sic 2 1), (94, rg_skne 113), (97, rg_sal 0 1), (98, rg_sgr 6 3), (101, rg_sal 0 1), (102, rg_sgr 6 4), (105, rg_sil 6 2), (107, rg_scV 124 2 0 0), (110, rg_sgo 126), (113, rg_sal 0 1), (114, rg_sgr 6 2), (117, rg_sal 0 1), (118, rg_sgr 6 4), (121, rg_sil 6 2), (123, rg_scV 125 2 0 3), (126, rg_sK [false, false, false, false, false, false, false] (rg_sic 1 1)), (127, rg_rz)]
theorem rg_o126_2 : ∀ q ∈ rg_c126_2, rg_Ok 126 q.1 q.2 :=
  rg_fc (rg_ok_geti (idx := 51) rg_cok6 (by decide +kernel) rfl (by decide +kernel) rg_wf_T_51) <|
  rg_fc (rg_ok_iconst (n := 2) (by decide +kernel) (by decide +kernel)) <|
  rg_fc (rg_ok_icmp_ne (off := 19) (by decide +kernel) (by decide +kernel)) <|
  rg_fc (rg_ok_aload_n (j := 0) (by decide +kernel) rfl) <|
  rg_fc (rg_ok_getr (idx := 37) rg_cok6 (by decide +kernel) rfl (by decide +kernel) rg_wf_T_37) <|
  rg_fc (rg_ok_aload_n (j := 0) (by decide +kernel) rfl) <|
  rg_fc (rg_ok_getr (idx := 44) rg_cok6 (by decide +kernel) rfl (by decide +kernel) rg_wf_T_44) <|
  rg_fc (rg_ok_iload (i := 6) (by decide +kernel)) <|
  rg_fc (rg_ok_callV (idx := 105) rg_cok0 (by decide +kernel) (by decide +kernel) rg_wm_T_105 rg_wj_124 rg_ws_124 rg_wz_0 rg_wd_124 ⟨by decide +kernel, by decide +kernel, by decide +kernel, by decide +kernel⟩ (by decide +kernel) (by decide +kernel)) <|
  rg_fc (rg_ok_goto (off := 16) (by decide +kernel) (by decide +kernel)) <|
  rg_fc (rg_ok_aload_n (j := 0) (by decide +kernel) rfl) <|
  rg_fc (rg_ok_getr (idx := 30) rg_cok6 (by decide +kernel) rfl (by decide +kernel) rg_wf_T_30) <|
  rg_fc (rg_ok_aload_n (j := 0) (by decide +kernel) rfl) <|
  rg_fc (rg_ok_getr (idx := 44) rg_cok6 (by decide +kernel) rfl (by decide +kernel) rg_wf_T_44) <|
  rg_fc (rg_ok_iload (i := 6) (by decide +kernel)) <|
  rg_fc (rg_ok_callV (idx := 109) rg_cok3 (by decide +kernel) (by decide +kernel) rg_wm_T_109 rg_wj_125 rg_ws_125 rg_wz_3 rg_wd_125 ⟨by decide +kernel, by decide +kernel, by decide +kernel, by decide +kernel⟩ (by decide +kernel) (by decide +kernel)) <|
  rg_fc (rg_okK _ (rg_ok_iconst (n := 1) (by decide +kernel) (by decide +kernel))) <|
  rg_fc (rg_ok_zreturn (by decide +kernel) rfl) <|
  fun _ h => absurd h List.not_mem_nil
def rg_kd126 : List (List (Nat × rg_S)) := [rg_c126_0, rg_c126_1, rg_c126_2]
theorem rg_o126 : ∀ pc f, rg_lk2 rg_kd126 pc = some f → rg_Ok 126 pc f := rg_lk2_ok (rg_fd rg_o126_0 (rg_fd rg_o126_1 (rg_fd rg_o126_2 (fun _ h => absurd h List.not_mem_nil))))
def rg_c135_0 : List (Nat × rg_S) := [(0, rg_sil 1 1), (1, rg_stb (nI 0) [28, 39, 50] 61), (28, rg_sal 0 1), (29, rg_sgr 6 4), (32, rg_sgr 1 0), (35, rg_scV 30 0 1 5), (38, rg_ri), (39, rg_sal 0 1), (40, rg_sgr 6 4), (43, rg_sgr 1 0), (46, rg_scV 59 0 1 5), (49, rg_ri), (50, rg_sal 0 1), (51, rg_sgr 6 4), (54, rg_sgr 1 1), (57, rg_scV 59 0 1 5), (60, rg_ri), (61, rg_sic (-2) 2), (63, rg_ri)]
theorem rg_o135_0 : ∀ q ∈ rg_c135_0, rg_Ok 135 q.1 q.2 :=
  rg_fc (rg_ok_iload_n (j := 1) (by decide +kernel) rfl) <|
  rg_fc (rg_ok_tsw (dflt := 60) (lo := 0) (hi := 2) (offs := #[27, 38, 49]) (len := 27) (by decide +kernel) rfl rfl (by decide +kernel) rfl (rg_swp _ _ _ (by decide +kernel)) (by decide +kernel)) <|
  rg_fc (rg_ok_aload_n (j := 0) (by decide +kernel) rfl) <|
  rg_fc (rg_ok_getr (idx := 44) rg_cok6 (by decide +kernel) rfl (by decide +kernel) rg_wf_T_44) <|
  rg_fc (rg_ok_getr (idx := 110) rg_cok1 (by decide +kernel) rfl (by decide +kernel) rg_wf_T_110) <|
  rg_fc (rg_ok_callV (idx := 114) rg_cok5 (by decide +kernel) (by decide +kernel) rg_wm_T_114 rg_wj_30 rg_ws_30 rg_wz_5 rg_wd_30 ⟨by decide +kernel, by decide +kernel, by decide +kernel, by decide +kernel⟩ (by decide +kernel) (by decide +kernel)) <|
  rg_fc (rg_ok_ireturn (by decide +kernel) rfl) <|
  rg_fc (rg_ok_aload_n (j := 0) (by decide +kernel) rfl) <|
  rg_fc (rg_ok_getr (idx := 44) rg_cok6 (by decide +kernel) rfl (by decide +kernel) rg_wf_T_44) <|
  rg_fc (rg_ok_getr (idx := 110) rg_cok1 (by decide +kernel) rfl (by decide +kernel) rg_wf_T_110) <|
  rg_fc (rg_ok_callV (idx := 120) rg_cok5 (by decide +kernel) (by decide +kernel) rg_wm_T_120 rg_wj_59 rg_ws_59 rg_wz_5 rg_wd_59 ⟨by decide +kernel, by decide +kernel, by decide +kernel, by decide +kernel⟩ (by decide +kernel) (by decide +kernel)) <|
  rg_fc (rg_ok_ireturn (by decide +kernel) rfl) <|
  rg_fc (rg_ok_aload_n (j := 0) (by decide +kernel) rfl) <|
  rg_fc (rg_ok_getr (idx := 44) rg_cok6 (by decide +kernel) rfl (by decide +kernel) rg_wf_T_44) <|
  rg_fc (rg_ok_getr (idx := 123) rg_cok1 (by decide +kernel) rfl (by decide +kernel) rg_wf_T_123) <|
  rg_fc (rg_ok_callV (idx := 120) rg_cok5 (by decide +kernel) (by decide +kernel) rg_wm_T_120 rg_wj_59 rg_ws_59 rg_wz_5 rg_wd_59 ⟨by decide +kernel, by decide +kernel, by decide +kernel, by decide +kernel⟩ (by decide +kernel) (by decide +kernel)) <|
  rg_fc (rg_ok_ireturn (by decide +kernel) rfl) <|
  rg_fc (rg_ok_bipush (n := (-2)) (by decide +kernel) (by decide +kernel)) <|
  rg_fc (rg_ok_ireturn (by decide +kernel) rfl) <|
  fun _ h => absurd h List.not_mem_nil
def rg_kd135 : List (List (Nat × rg_S)) := [rg_c135_0]
theorem rg_o135 : ∀ pc f, rg_lk2 rg_kd135 pc = some f → rg_Ok 135 pc f := rg_lk2_ok (rg_fd rg_o135_0 (fun _ h => absurd h List.not_mem_nil))
def rg_c138_0 : List (Nat × rg_S) := [(0, rg_sil 1 1), (1, rg_sjne 16), (4, rg_sal 0 1), (5, rg_sgr 6 4), (8, rg_sgr 1 0), (11, rg_sil 2 1), (12, rg_scV 137 1 1 5), (15, rg_ri), (16, rg_sil 1 1), (17, rg_sic 1 1), (18, rg_skne 35), (21, rg_sal 0 1), (22, rg_sgr 6 4), (25, rg_sgr 1 1), (28, rg_sil 2 1), (29, rg_scV 137 1 1 5), (32, rg_sgo 36), (35, rg_sic 0 1), (36, rg_sK [false, false, false] (rg_ri))]
theorem rg_o138_0 : ∀ q ∈ rg_c138_0, rg_Ok 138 q.1 q.2 :=
  rg_fc (rg_ok_iload_n (j := 1) (by decide +kernel) rfl) <|
  rg_fc (rg_ok_if_ne (off := 15) (by decide +kernel) (by decide +kernel)) <|
  rg_fc (rg_ok_aload_n (j := 0) (by decide +kernel) rfl) <|
  rg_fc (rg_ok_getr (idx := 44) rg_cok6 (by decide +kernel) rfl (by decide +kernel) rg_wf_T_44) <|
  rg_fc (rg_ok_getr (idx := 110) rg_cok1 (by decide +kernel) rfl (by decide +kernel) rg_wf_T_110) <|
  rg_fc (rg_ok_iload_n (j := 2) (by decide +kernel) rfl) <|
  rg_fc (rg_ok_callV (idx := 126) rg_cok5 (by decide +kernel) (by decide +kernel) rg_wm_T_126 rg_wj_137 rg_ws_137 rg_wz_5 rg_wd_137 ⟨by decide +kernel, by decide +kernel, by decide +kernel, by decide +kernel⟩ (by decide +kernel) (by decide +kernel)) <|
  rg_fc (rg_ok_ireturn (by decide +kernel) rfl) <|
  rg_fc (rg_ok_iload_n (j := 1) (by decide +kernel) rfl) <|
  rg_fc (rg_ok_iconst (n := 1) (by decide +kernel) (by decide +kernel)) <|
  rg_fc (rg_ok_icmp_ne (off := 17) (by decide +kernel) (by decide +kernel)) <|
  rg_fc (rg_ok_aload_n (j := 0) (by decide +kernel) rfl) <|
  rg_fc (rg_ok_getr (idx := 44) rg_cok6 (by decide +kernel) rfl (by decide +kernel) rg_wf_T_44) <|
  rg_fc (rg_ok_getr (idx := 123) rg_cok1 (by decide +kernel) rfl (by decide +kernel) rg_wf_T_123) <|
  rg_fc (rg_ok_iload_n (j := 2) (by decide +kernel) rfl) <|
  rg_fc (rg_ok_callV (idx := 126) rg_cok5 (by decide +kernel) (by decide +kernel) rg_wm_T_126 rg_wj_137 rg_ws_137 rg_wz_5 rg_wd_137 ⟨by decide +kernel, by decide +kernel, by decide +kernel, by decide +kernel⟩ (by decide +kernel) (by decide +kernel)) <|
  rg_fc (rg_ok_goto (off := 4) (by decide +kernel) (by decide +kernel)) <|
  rg_fc (rg_ok_iconst (n := 0) (by decide +kernel) (by decide +kernel)) <|
  rg_fc (rg_okK _ (rg_ok_ireturn (by decide +kernel) rfl)) <|
  fun _ h => absurd h List.not_mem_nil
def rg_kd138 : List (List (Nat × rg_S)) := [rg_c138_0]
theorem rg_o138 : ∀ pc f, rg_lk2 rg_kd138 pc = some f → rg_Ok 138 pc f := rg_lk2_ok (rg_fd rg_o138_0 (fun _ h => absurd h List.not_mem_nil))
def rg_c141_0 : List (Nat × rg_S) := [(0, rg_sil 1 1), (1, rg_sic 1 1), (2, rg_sic 1000000000 2), (4, rg_scS 13 3 1), (7, rg_sjeq 25), (10, rg_sal 0 1), (11, rg_sgr 6 0), (14, rg_sal 0 1), (15, rg_sgr 6 4), (18, rg_sil 1 1), (19, rg_scV 140 2 2 4), (22, rg_sgo 28), (25, rg_slc (-9223372036854775808) 3), (28, rg_sK [false, false] (rg_rl))]
theorem rg_o141_0 : ∀ q ∈ rg_c141_0, rg_Ok 141 q.1 q.2 :=
  rg_fc (rg_ok_iload_n (j := 1) (by decide +kernel) rfl) <|
  rg_fc (rg_ok_iconst (n := 1) (by decide +kernel) (by decide +kernel)) <|
  rg_fc (rg_ok_ldc (n := 130) (by decide +kernel) rg_wc_T_130) <|
  rg_fc (rg_ok_callS (idx := 55) (by decide +kernel) (by decide +kernel) rg_wm_T_55 rg_wt_13 rg_wy_13 rg_wd_13 ⟨by decide +kernel, by decide +kernel, by decide +kernel⟩ (by decide +kernel) (by decide +kernel)) <|
  rg_fc (rg_ok_if_eq (off := 18) (by decide +kernel) (by decide +kernel)) <|
  rg_fc (rg_ok_aload_n (j := 0) (by decide +kernel) rfl) <|
  rg_fc (rg_ok_getr (idx := 12) rg_cok6 (by decide +kernel) rfl (by decide +kernel) rg_wf_T_12) <|
  rg_fc (rg_ok_aload_n (j := 0) (by decide +kernel) rfl) <|
  rg_fc (rg_ok_getr (idx := 44) rg_cok6 (by decide +kernel) rfl (by decide +kernel) rg_wf_T_44) <|
  rg_fc (rg_ok_iload_n (j := 1) (by decide +kernel) rfl) <|
  rg_fc (rg_ok_callV (idx := 131) rg_cok4 (by decide +kernel) (by decide +kernel) rg_wm_T_131 rg_wj_140 rg_ws_140 rg_wz_4 rg_wd_140 ⟨by decide +kernel, by decide +kernel, by decide +kernel, by decide +kernel⟩ (by decide +kernel) (by decide +kernel)) <|
  rg_fc (rg_ok_goto (off := 6) (by decide +kernel) (by decide +kernel)) <|
  rg_fc (rg_ok_ldc2 (n := 137) (by decide +kernel) rg_wc_T_137) <|
  rg_fc (rg_okK _ (rg_ok_lreturn (by decide +kernel) rfl)) <|
  fun _ h => absurd h List.not_mem_nil
def rg_kd141 : List (List (Nat × rg_S)) := [rg_c141_0]
theorem rg_o141 : ∀ pc f, rg_lk2 rg_kd141 pc = some f → rg_Ok 141 pc f := rg_lk2_ok (rg_fd rg_o141_0 (fun _ h => absurd h List.not_mem_nil))
def rg_c147_0 : List (Nat × rg_S) := [(0, rg_sal 0 1), (1, rg_sgi 6 6), (4, rg_sic 1 1), (5, rg_skne 16), (8, rg_sil 2 1), (9, rg_sal 0 1), (10, rg_sgi 6 7), (13, rg_skeq 18), (16, rg_sK [false, false, false, false, false, false, false, false] (rg_sic (-1) 1)), (17, rg_ri), (18, rg_sal 0 1), (19, rg_sgr 6 2), (22, rg_scV 144 0 1 3), (25, rg_si2l), (26, rg_sls 3 1), (27, rg_sll 3 1), (28, rg_sll 3 1), (29, rg_s2l (fun x y => x * y)), (30, rg_sal 0 1), (31, rg_sgr 6 1), (34, rg_sil 1 1), (35, rg_scV 22 1 1 2), (38, rg_si2l), (39, rg_s2l (fun x y => x * y)), (40, rg_sal 0 1)]
theorem rg_o147_0 : ∀ q ∈ rg_c147_0, rg_Ok 147 q.1 q.2 :=
  rg_fc (rg_ok_aload_n (j := 0) (by decide +kernel) rfl) <|
  rg_fc (rg_ok_geti (idx := 51) rg_cok6 (by decide +kernel) rfl (by decide +kernel) rg_wf_T_51) <|
  rg_fc (rg_ok_iconst (n := 1) (by decide +kernel) (by decide +kernel)) <|
  rg_fc (rg_ok_icmp_ne (off := 11) (by decide +kernel) (by decide +kernel)) <|
  rg_fc (rg_ok_iload_n (j := 2) (by decide +kernel) rfl) <|
  rg_fc (rg_ok_aload_n (j := 0) (by decide +kernel) rfl) <|
  rg_fc (rg_ok_geti (idx := 66) rg_cok6 (by decide +kernel) rfl (by decide +kernel) rg_wf_T_66) <|
  rg_fc (rg_ok_icmp_eq (off := 5) (by decide +kernel) (by decide +kernel)) <|
  rg_fc (rg_okK _ (rg_ok_iconst (n := (-1)) (by decide +kernel) (by decide +kernel))) <|
  rg_fc (rg_ok_ireturn (by decide +kernel) rfl) <|
  rg_fc (rg_ok_aload_n (j := 0) (by decide +kernel) rfl) <|
  rg_fc (rg_ok_getr (idx := 30) rg_cok6 (by decide +kernel) rfl (by decide +kernel) rg_wf_T_30) <|
  rg_fc (rg_ok_callV (idx := 155) rg_cok3 (by decide +kernel) (by decide +kernel) rg_wm_T_155 rg_wj_144 rg_ws_144 rg_wz_3 rg_wd_144 ⟨by decide +kernel, by decide +kernel, by decide +kernel, by decide +kernel⟩ (by decide +kernel) (by decide +kernel)) <|
  rg_fc (rg_ok_i2l (by decide +kernel)) <|
  rg_fc (rg_ok_lstore_n (j := 3) (by decide +kernel) rfl (by decide +kernel)) <|
  rg_fc (rg_ok_lload_n (j := 3) (by decide +kernel) rfl) <|
  rg_fc (rg_ok_lload_n (j := 3) (by decide +kernel) rfl) <|
  rg_fc (rg_ok_lmul (by decide +kernel)) <|
  rg_fc (rg_ok_aload_n (j := 0) (by decide +kernel) rfl) <|
  rg_fc (rg_ok_getr (idx := 21) rg_cok6 (by decide +kernel) rfl (by decide +kernel) rg_wf_T_21) <|
  rg_fc (rg_ok_iload_n (j := 1) (by decide +kernel) rfl) <|
  rg_fc (rg_ok_callV (idx := 152) rg_cok2 (by decide +kernel) (by decide +kernel) rg_wm_T_152 rg_wj_22 rg_ws_22 rg_wz_2 rg_wd_22 ⟨by decide +kernel, by decide +kernel, by decide +kernel, by decide +kernel⟩ (by decide +kernel) (by decide +kernel)) <|
  rg_fc (rg_ok_i2l (by decide +kernel)) <|
  rg_fc (rg_ok_lmul (by decide +kernel)) <|
  rg_fc (rg_ok_aload_n (j := 0) (by decide +kernel) rfl) <|
  fun _ h => absurd h List.not_mem_nil
def rg_c147_1 : List (Nat × rg_S) := [(41, rg_sgi 6 7), (44, rg_si2l), (45, rg_s2l (fun x y => x * y)), (46, rg_sls 5 2), (48, rg_sal 0 1), (49, rg_sgr 6 1), (52, rg_sil 1 1), (53, rg_scV 145 1 3 2), (56, rg_sas 7 2), (58, rg_sal 7 2), (60, rg_sgr 1 0), (63, rg_scV 30 0 1 5), (66, rg_sjle 84), (69, rg_sal 0 1), (70, rg_sgr 6 0), (73, rg_sal 7 2), (75, rg_slc 1 1), (76, rg_sll 5 2), (78, rg_scV 146 3 1 4), (81, rg_sjeq 88), (84, rg_sK [false, false, false, false, false, false, false, false] (rg_sic 1 1)), (85, rg_sgo 89), (88, rg_sic 0 1), (89, rg_sK [false, false, false, false, false, false, false, false] (rg_ri))]
theorem rg_o147_1 : ∀ q ∈ rg_c147_1, rg_Ok 147 q.1 q.2 :=
  rg_fc (rg_ok_geti (idx := 66) rg_cok6 (by decide +kernel) rfl (by decide +kernel) rg_wf_T_66) <|
  rg_fc (rg_ok_i2l (by decide +kernel)) <|
  rg_fc (rg_ok_lmul (by decide +kernel)) <|
  rg_fc (rg_ok_lstore (i := 5) (by decide +kernel) (by decide +kernel)) <|
  rg_fc (rg_ok_aload_n (j := 0) (by decide +kernel) rfl) <|
  rg_fc (rg_ok_getr (idx := 21) rg_cok6 (by decide +kernel) rfl (by decide +kernel) rg_wf_T_21) <|
  rg_fc (rg_ok_iload_n (j := 1) (by decide +kernel) rfl) <|
  rg_fc (rg_ok_callV (idx := 185) rg_cok2 (by decide +kernel) (by decide +kernel) rg_wm_T_185 rg_wj_145 rg_ws_145 rg_wz_2 rg_wd_145 ⟨by decide +kernel, by decide +kernel, by decide +kernel, by decide +kernel⟩ (by decide +kernel) (by decide +kernel)) <|
  rg_fc (rg_ok_astore (i := 7) (by decide +kernel) (by decide +kernel)) <|
  rg_fc (rg_ok_aload (i := 7) (by decide +kernel)) <|
  rg_fc (rg_ok_getr (idx := 110) rg_cok1 (by decide +kernel) rfl (by decide +kernel) rg_wf_T_110) <|
  rg_fc (rg_ok_callV (idx := 114) rg_cok5 (by decide +kernel) (by decide +kernel) rg_wm_T_114 rg_wj_30 rg_ws_30 rg_wz_5 rg_wd_30 ⟨by decide +kernel, by decide +kernel, by decide +kernel, by decide +kernel⟩ (by decide +kernel) (by decide +kernel)) <|
  rg_fc (rg_ok_if_le (off := 18) (by decide +kernel) (by decide +kernel)) <|
  rg_fc (rg_ok_aload_n (j := 0) (by decide +kernel) rfl) <|
  rg_fc (rg_ok_getr (idx := 12) rg_cok6 (by decide +kernel) rfl (by decide +kernel) rg_wf_T_12) <|
  rg_fc (rg_ok_aload (i := 7) (by decide +kernel)) <|
  rg_fc (rg_ok_lconst (n := 1) (by decide +kernel) (by decide +kernel)) <|
  rg_fc (rg_ok_lload (i := 5) (by decide +kernel)) <|
  rg_fc (rg_ok_callV (idx := 148) rg_cok4 (by decide +kernel) (by decide +kernel) rg_wm_T_148 rg_wj_146 rg_ws_146 rg_wz_4 rg_wd_146 ⟨by decide +kernel, by decide +kernel, by decide +kernel, by decide +kernel⟩ (by decide +kernel) (by decide +kernel)) <|
  rg_fc (rg_ok_if_eq (off := 7) (by decide +kernel) (by decide +kernel)) <|
  rg_fc (rg_okK _ (rg_ok_iconst (n := 1) (by decide +kernel) (by decide +kernel))) <|
  rg_fc (rg_ok_goto (off := 4) (by decide +kernel) (by decide +kernel)) <|
  rg_fc (rg_ok_iconst (n := 0) (by decide +kernel) (by decide +kernel)) <|
  rg_fc (rg_okK _ (rg_ok_ireturn (by decide +kernel) rfl)) <|
  fun _ h => absurd h List.not_mem_nil
def rg_kd147 : List (List (Nat × rg_S)) := [rg_c147_0, rg_c147_1]
theorem rg_o147 : ∀ pc f, rg_lk2 rg_kd147 pc = some f → rg_Ok 147 pc f := rg_lk2_ok (rg_fd rg_o147_0 (rg_fd rg_o147_1 (fun _ h => absurd h List.not_mem_nil)))
def rg_c148_0 : List (Nat × rg_S) := [(0, rg_sil 1 1), (1, rg_stb (nI 0) [28, 38, 48] 109), (28, rg_sal 0 1), (29, rg_sic 0 1), (30, rg_sal 0 1), (31, rg_sgi 6 8), (34, rg_scV 147 2 1 6), (37, rg_ri), (38, rg_sal 0 1), (39, rg_sic 1 1), (40, rg_sal 0 1), (41, rg_sgi 6 9), (44, rg_scV 147 2 1 6), (47, rg_ri), (48, rg_sal 0 1), (49, rg_sgi 6 6), (52, rg_sic 2 1), (53, rg_skne 67), (56, rg_sal 0 1), (57, rg_sgr 6 3), (60, rg_sgi 0 6), (63, rg_sic 3 1), (64, rg_skeq 69), (67, rg_sK [false, false] (rg_sic (-1) 1)), (68, rg_ri)]
theorem rg_o148_0 : ∀ q ∈ rg_c148_0, rg_Ok 148 q.1 q.2 :=
  rg_fc (rg_ok_iload_n (j := 1) (by decide +kernel) rfl) <|
  rg_fc (rg_ok_tsw (dflt := 108) (lo := 0) (hi := 2) (offs := #[27, 37, 47]) (len := 27) (by decide +kernel) rfl rfl (by decide +kernel) rfl (rg_swp _ _ _ (by decide +kernel)) (by decide +kernel)) <|
  rg_fc (rg_ok_aload_n (j := 0) (by decide +kernel) rfl) <|
  rg_fc (rg_ok_iconst (n := 0) (by decide +kernel) (by decide +kernel)) <|
  rg_fc (rg_ok_aload_n (j := 0) (by decide +kernel) rfl) <|
  rg_fc (rg_ok_geti (idx := 81) rg_cok6 (by decide +kernel) rfl (by decide +kernel) rg_wf_T_81) <|
  rg_fc (rg_ok_callV (idx := 139) rg_cok6 (by decide +kernel) (by decide +kernel) rg_wm_T_139 rg_wj_147 rg_ws_147 rg_wz_6 rg_wd_147 ⟨by decide +kernel, by decide +kernel, by decide +kernel, by decide +kernel⟩ (by decide +kernel) (by decide +kernel)) <|
  rg_fc (rg_ok_ireturn (by decide +kernel) rfl) <|
  rg_fc (rg_ok_aload_n (j := 0) (by decide +kernel) rfl) <|
  rg_fc (rg_ok_iconst (n := 1) (by decide +kernel) (by decide +kernel)) <|
  rg_fc (rg_ok_aload_n (j := 0) (by decide +kernel) rfl) <|
  rg_fc (rg_ok_geti (idx := 84) rg_cok6 (by decide +kernel) rfl (by decide +kernel) rg_wf_T_84) <|
  rg_fc (rg_ok_callV (idx := 139) rg_cok6 (by decide +kernel) (by decide +kernel) rg_wm_T_139 rg_wj_147 rg_ws_147 rg_wz_6 rg_wd_147 ⟨by decide +kernel, by decide +kernel, by decide +kernel, by decide +kernel⟩ (by decide +kernel) (by decide +kernel)) <|
  rg_fc (rg_ok_ireturn (by decide +kernel) rfl) <|
  rg_fc (rg_ok_aload_n (j := 0) (by decide +kernel) rfl) <|
  rg_fc (rg_ok_geti (idx := 51) rg_cok6 (by decide +kernel) rfl (by decide +kernel) rg_wf_T_51) <|
  rg_fc (rg_ok_iconst (n := 2) (by decide +kernel) (by decide +kernel)) <|
  rg_fc (rg_ok_icmp_ne (off := 14) (by decide +kernel) (by decide +kernel)) <|
  rg_fc (rg_ok_aload_n (j := 0) (by decide +kernel) rfl) <|
  rg_fc (rg_ok_getr (idx := 37) rg_cok6 (by decide +kernel) rfl (by decide +kernel) rg_wf_T_37) <|
  rg_fc (rg_ok_geti (idx := 143) rg_cok0 (by decide +kernel) rfl (by decide +kernel) rg_wf_T_143) <|
  rg_fc (rg_ok_iconst (n := 3) (by decide +kernel) (by decide +kernel)) <|
  rg_fc (rg_ok_icmp_eq (off := 5) (by decide +kernel) (by decide +kernel)) <|
  rg_fc (rg_okK _ (rg_ok_iconst (n := (-1)) (by decide +kernel) (by decide +kernel))) <|
  rg_fc (rg_ok_ireturn (by decide +kernel) rfl) <|
  fun _ h => absurd h List.not_mem_nil
def rg_c148_1 : List (Nat × rg_S) := [(69, rg_sal 0 1), (70, rg_sgr 6 3), (73, rg_sal 0 1), (74, rg_sgr 6 5), (77, rg_sic 2 1), (78, rg_scV 124 2 0 0), (81, rg_sal 0 1), (82, rg_sgr 6 0), (85, rg_sal 0 1), (86, rg_sgr 6 5), (89, rg_sal 0 1), (90, rg_sgi 6 7), (93, rg_si2l), (94, rg_slc 4608 3), (97, rg_scV 146 3 1 4), (100, rg_sjeq 107), (103, rg_sic 1 1), (104, rg_sgo 108), (107, rg_sic 0 1), (108, rg_sK [false, false] (rg_ri)), (109, rg_sic (-1) 1), (110, rg_ri)]
theorem rg_o148_1 : ∀ q ∈ rg_c148_1, rg_Ok 148 q.1 q.2 :=
  rg_fc (rg_ok_aload_n (j := 0) (by decide +kernel) rfl) <|
  rg_fc (rg_ok_getr (idx := 37) rg_cok6 (by decide +kernel) rfl (by decide +kernel) rg_wf_T_37) <|
  rg_fc (rg_ok_aload_n (j := 0) (by decide +kernel) rfl) <|
  rg_fc (rg_ok_getr (idx := 48) rg_cok6 (by decide +kernel) rfl (by decide +kernel) rg_wf_T_48) <|
  rg_fc (rg_ok_iconst (n := 2) (by decide +kernel) (by decide +kernel)) <|
  rg_fc (rg_ok_callV (idx := 105) rg_cok0 (by decide +kernel) (by decide +kernel) rg_wm_T_105 rg_wj_124 rg_ws_124 rg_wz_0 rg_wd_124 ⟨by decide +kernel, by decide +kernel, by decide +kernel, by decide +kernel⟩ (by decide +kernel) (by decide +kernel)) <|
  rg_fc (rg_ok_aload_n (j := 0) (by decide +kernel) rfl) <|
  rg_fc (rg_ok_getr (idx := 12) rg_cok6 (by decide +kernel) rfl (by decide +kernel) rg_wf_T_12) <|
  rg_fc (rg_ok_aload_n (j := 0) (by decide +kernel) rfl) <|
  rg_fc (rg_ok_getr (idx := 48) rg_cok6 (by decide +kernel) rfl (by decide +kernel) rg_wf_T_48) <|
  rg_fc (rg_ok_aload_n (j := 0) (by decide +kernel) rfl) <|
  rg_fc (rg_ok_geti (idx := 66) rg_cok6 (by decide +kernel) rfl (by decide +kernel) rg_wf_T_66) <|
  rg_fc (rg_ok_i2l (by decide +kernel)) <|
  rg_fc (rg_ok_ldc2 (n := 146) (by decide +kernel) rg_wc_T_146) <|
  rg_fc (rg_ok_callV (idx := 148) rg_cok4 (by decide +kernel) (by decide +kernel) rg_wm_T_148 rg_wj_146 rg_ws_146 rg_wz_4 rg_wd_146 ⟨by decide +kernel, by decide +kernel, by decide +kernel, by decide +kernel⟩ (by decide +kernel) (by decide +kernel)) <|
  rg_fc (rg_ok_if_eq (off := 7) (by decide +kernel) (by decide +kernel)) <|
  rg_fc (rg_ok_iconst (n := 1) (by decide +kernel) (by decide +kernel)) <|
  rg_fc (rg_ok_goto (off := 4) (by decide +kernel) (by decide +kernel)) <|
  rg_fc (rg_ok_iconst (n := 0) (by decide +kernel) (by decide +kernel)) <|
  rg_fc (rg_okK _ (rg_ok_ireturn (by decide +kernel) rfl)) <|
  rg_fc (rg_ok_iconst (n := (-1)) (by decide +kernel) (by decide +kernel)) <|
  rg_fc (rg_ok_ireturn (by decide +kernel) rfl) <|
  fun _ h => absurd h List.not_mem_nil
def rg_kd148 : List (List (Nat × rg_S)) := [rg_c148_0, rg_c148_1]
theorem rg_o148 : ∀ pc f, rg_lk2 rg_kd148 pc = some f → rg_Ok 148 pc f := rg_lk2_ok (rg_fd rg_o148_0 (rg_fd rg_o148_1 (fun _ h => absurd h List.not_mem_nil)))
def rg_c153_0 : List (Nat × rg_S) := [(0, rg_sil 1 1), (1, rg_stb (nI 0) [44, 49, 70, 91, 111, 116, 136] 155), (44, rg_sal 0 1), (45, rg_sgi 6 6), (48, rg_ri), (49, rg_sal 0 1), (50, rg_sgi 6 6), (53, rg_sic 1 1), (54, rg_skne 68), (57, rg_sal 0 1), (58, rg_sgr 6 1), (61, rg_sic 0 1), (62, rg_scV 22 1 1 2), (65, rg_sgo 69), (68, rg_sic 0 1), (69, rg_sK [false, false] (rg_ri)), (70, rg_sal 0 1), (71, rg_sgi 6 6), (74, rg_sic 1 1), (75, rg_skne 89), (78, rg_sal 0 1), (79, rg_sgr 6 1), (82, rg_sic 1 1), (83, rg_scV 22 1 1 2), (86, rg_sgo 90)]
theorem rg_o153_0 : ∀ q ∈ rg_c153_0, rg_Ok 153 q.1 q.2 :=
  rg_fc (rg_ok_iload_n (j := 1) (by decide +kernel) rfl) <|
  rg_fc (rg_ok_tsw (dflt := 154) (lo := 0) (hi := 6) (offs := #[43, 48, 69, 90, 110, 115, 135]) (len := 43) (by decide +kernel) rfl rfl (by decide +kernel) rfl (rg_swp _ _ _ (by decide +kernel)) (by decide +kernel)) <|
  rg_fc (rg_ok_aload_n (j := 0) (by decide +kernel) rfl) <|
  rg_fc (rg_ok_geti (idx := 51) rg_cok6 (by decide +kernel) rfl (by decide +kernel) rg_wf_T_51) <|
  rg_fc (rg_ok_ireturn (by decide +kernel) rfl) <|
  rg_fc (rg_ok_aload_n (j := 0) (by decide +kernel) rfl) <|
  rg_fc (rg_ok_geti (idx := 51) rg_cok6 (by decide +kernel) rfl (by decide +kernel) rg_wf_T_51) <|
  rg_fc (rg_ok_iconst (n := 1) (by decide +kernel) (by decide +kernel)) <|
  rg_fc (rg_ok_icmp_ne (off := 14) (by decide +kernel) (by decide +kernel)) <|
  rg_fc (rg_ok_aload_n (j := 0) (by decide +kernel) rfl) <|
  rg_fc (rg_ok_getr (idx := 21) rg_cok6 (by decide +kernel) rfl (by decide +kernel) rg_wf_T_21) <|
  rg_fc (rg_ok_iconst (n := 0) (by decide +kernel) (by decide +kernel)) <|
  rg_fc (rg_ok_callV (idx := 152) rg_cok2 (by decide +kernel) (by decide +kernel) rg_wm_T_152 rg_wj_22 rg_ws_22 rg_wz_2 rg_wd_22 ⟨by decide +kernel, by decide +kernel, by decide +kernel, by decide +kernel⟩ (by decide +kernel) (by decide +kernel)) <|
  rg_fc (rg_ok_goto (off := 4) (by decide +kernel) (by decide +kernel)) <|
  rg_fc (rg_ok_iconst (n := 0) (by decide +kernel) (by decide +kernel)) <|
  rg_fc (rg_okK _ (rg_ok_ireturn (by decide +kernel) rfl)) <|
  rg_fc (rg_ok_aload_n (j := 0) (by decide +kernel) rfl) <|
  rg_fc (rg_ok_geti (idx := 51) rg_cok6 (by decide +kernel) rfl (by decide +kernel) rg_wf_T_51) <|
  rg_fc (rg_ok_iconst (n := 1) (by decide +kernel) (by decide +kernel)) <|
  rg_fc (rg_ok_icmp_ne (off := 14) (by decide +kernel) (by decide +kernel)) <|
  rg_fc (rg_ok_aload_n (j := 0) (by decide +kernel) rfl) <|
  rg_fc (rg_ok_getr (idx := 21) rg_cok6 (by decide +kernel) rfl (by decide +kernel) rg_wf_T_21) <|
  rg_fc (rg_ok_iconst (n := 1) (by decide +kernel) (by decide +kernel)) <|
  rg_fc (rg_ok_callV (idx := 152) rg_cok2 (by decide +kernel) (by decide +kernel) rg_wm_T_152 rg_wj_22 rg_ws_22 rg_wz_2 rg_wd_22 ⟨by decide +kernel, by decide +kernel, by decide +kernel, by decide +kernel⟩ (by decide +kernel) (by decide +kernel)) <|
  rg_fc (rg_ok_goto (off := 4) (by decide +kernel) (by decide +kernel)) <|
  fun _ h => absurd h List.not_mem_nil
def rg_c153_1 : List (Nat × rg_S) := [(89, rg_sic 0 1), (90, rg_sK [false, false] (rg_ri)), (91, rg_sal 0 1), (92, rg_sgi 6 6), (95, rg_sic 2 1), (96, rg_skne 109), (99, rg_sal 0 1), (100, rg_sgr 6 3), (103, rg_sgi 0 6), (106, rg_sgo 110), (109, rg_sic 0 1), (110, rg_sK [false, false] (rg_ri)), (111, rg_sal 0 1), (112, rg_sgi 6 7), (115, rg_ri), (116, rg_sal 0 1), (117, rg_sgi 6 6), (120, rg_sic 1 1), (121, rg_skne 134), (124, rg_sal 0 1), (125, rg_sgr 6 2), (128, rg_scV 144 0 1 3), (131, rg_sgo 135), (134, rg_sic 0 1), (135, rg_sK [false, false] (rg_ri))]
theorem rg_o153_1 : ∀ q ∈ rg_c153_1, rg_Ok 153 q.1 q.2 :=
  rg_fc (rg_ok_iconst (n := 0) (by decide +kernel) (by decide +kernel)) <|
  rg_fc (rg_okK _ (rg_ok_ireturn (by decide +kernel) rfl)) <|
  rg_fc (rg_ok_aload_n (j := 0) (by decide +kernel) rfl) <|
  rg_fc (rg_ok_geti (idx := 51) rg_cok6 (by decide +kernel) rfl (by decide +kernel) rg_wf_T_51) <|
  rg_fc (rg_ok_iconst (n := 2) (by decide +kernel) (by decide +kernel)) <|
  rg_fc (rg_ok_icmp_ne (off := 13) (by decide +kernel) (by decide +kernel)) <|
  rg_fc (rg_ok_aload_n (j := 0) (by decide +kernel) rfl) <|
  rg_fc (rg_ok_getr (idx := 37) rg_cok6 (by decide +kernel) rfl (by decide +kernel) rg_wf_T_37) <|
  rg_fc (rg_ok_geti (idx := 143) rg_cok0 (by decide +kernel) rfl (by decide +kernel) rg_wf_T_143) <|
  rg_fc (rg_ok_goto (off := 4) (by decide +kernel) (by decide +kernel)) <|
  rg_fc (rg_ok_iconst (n := 0) (by decide +kernel) (by decide +kernel)) <|
  rg_fc (rg_okK _ (rg_ok_ireturn (by decide +kernel) rfl)) <|
  rg_fc (rg_ok_aload_n (j := 0) (by decide +kernel) rfl) <|
  rg_fc (rg_ok_geti (idx := 66) rg_cok6 (by decide +kernel) rfl (by decide +kernel) rg_wf_T_66) <|
  rg_fc (rg_ok_ireturn (by decide +kernel) rfl) <|
  rg_fc (rg_ok_aload_n (j := 0) (by decide +kernel) rfl) <|
  rg_fc (rg_ok_geti (idx := 51) rg_cok6 (by decide +kernel) rfl (by decide +kernel) rg_wf_T_51) <|
  rg_fc (rg_ok_iconst (n := 1) (by decide +kernel) (by decide +kernel)) <|
  rg_fc (rg_ok_icmp_ne (off := 13) (by decide +kernel) (by decide +kernel)) <|
  rg_fc (rg_ok_aload_n (j := 0) (by decide +kernel) rfl) <|
  rg_fc (rg_ok_getr (idx := 30) rg_cok6 (by decide +kernel) rfl (by decide +kernel) rg_wf_T_30) <|
  rg_fc (rg_ok_callV (idx := 155) rg_cok3 (by decide +kernel) (by decide +kernel) rg_wm_T_155 rg_wj_144 rg_ws_144 rg_wz_3 rg_wd_144 ⟨by decide +kernel, by decide +kernel, by decide +kernel, by decide +kernel⟩ (by decide +kernel) (by decide +kernel)) <|
  rg_fc (rg_ok_goto (off := 4) (by decide +kernel) (by decide +kernel)) <|
  rg_fc (rg_ok_iconst (n := 0) (by decide +kernel) (by decide +kernel)) <|
  rg_fc (rg_okK _ (rg_ok_ireturn (by decide +kernel) rfl)) <|
  fun _ h => absurd h List.not_mem_nil
def rg_c153_2 : List (Nat × rg_S) := [(136, rg_sal 0 1), (137, rg_sgi 6 6), (140, rg_sjne 147), (143, rg_sic 0 1), (144, rg_sgo 154), (147, rg_sal 0 1), (148, rg_sgr 6 1), (151, rg_scV 152 0 1 2), (154, rg_sK [false, false] (rg_ri)), (155, rg_sic (-1) 1), (156, rg_ri)]
theorem rg_o153_2 : ∀ q ∈ rg_c153_2, rg_Ok 153 q.1 q.2 :=
  rg_fc (rg_ok_aload_n (j := 0) (by decide +kernel) rfl) <|
  rg_fc (rg_ok_geti (idx := 51) rg_cok6 (by decide +kernel) rfl (by decide +kernel) rg_wf_T_51) <|
  rg_fc (rg_ok_if_ne (off := 7) (by decide +kernel) (by decide +kernel)) <|
  rg_fc (rg_ok_iconst (n := 0) (by decide +kernel) (by decide +kernel)) <|
  rg_fc (rg_ok_goto (off := 10) (by decide +kernel) (by decide +kernel)) <|
  rg_fc (rg_ok_aload_n (j := 0) (by decide +kernel) rfl) <|
  rg_fc (rg_ok_getr (idx := 21) rg_cok6 (by decide +kernel) rfl (by decide +kernel) rg_wf_T_21) <|
  rg_fc (rg_ok_callV (idx := 158) rg_cok2 (by decide +kernel) (by decide +kernel) rg_wm_T_158 rg_wj_152 rg_ws_152 rg_wz_2 rg_wd_152 ⟨by decide +kernel, by decide +kernel, by decide +kernel, by decide +kernel⟩ (by decide +kernel) (by decide +kernel)) <|
  rg_fc (rg_okK _ (rg_ok_ireturn (by decide +kernel) rfl)) <|
  rg_fc (rg_ok_iconst (n := (-1)) (by decide +kernel) (by decide +kernel)) <|
  rg_fc (rg_ok_ireturn (by decide +kernel) rfl) <|
  fun _ h => absurd h List.not_mem_nil
def rg_kd153 : List (List (Nat × rg_S)) := [rg_c153_0, rg_c153_1, rg_c153_2]
theorem rg_o153 : ∀ pc f, rg_lk2 rg_kd153 pc = some f → rg_Ok 153 pc f := rg_lk2_ok (rg_fd rg_o153_0 (rg_fd rg_o153_1 (rg_fd rg_o153_2 (fun _ h => absurd h List.not_mem_nil))))

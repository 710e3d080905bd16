def rg_c7_0 : List (Nat × rg_S) := [(0, rg_sal 0 1), (1, rg_sob), (4, rg_sal 0 1), (5, rg_sic 40 2), (7, rg_sna 12 3), (10, rg_spr 0 2), (13, rg_sal 0 1), (14, rg_snw 1), (17, rg_sdu), (18, rg_scI 4 0 0), (21, rg_spr 0 3), (24, rg_sal 0 1), (25, rg_snw 1), (28, rg_sdu), (29, rg_scI 4 0 0), (32, rg_spr 0 4), (35, rg_sal 0 1), (36, rg_snw 1), (39, rg_sdu), (40, rg_scI 4 0 0), (43, rg_spr 0 5), (46, rg_sal 0 1), (47, rg_sal 1 1), (48, rg_spr 0 0), (51, rg_sal 0 1)]
theorem rg_o7_0 : ∀ q ∈ rg_c7_0, rg_Ok 7 q.1 q.2 :=
  rg_fc (rg_ok_aload_n (j := 0) (by decide +kernel) rfl) <|
  rg_fc (rg_ok_objinit (idx := 3) (by decide +kernel) rg_wm_C_3 rg_wo_1 rg_wo_2 (by decide +kernel) (by decide +kernel)) <|
  rg_fc (rg_ok_aload_n (j := 0) (by decide +kernel) rfl) <|
  rg_fc (rg_ok_bipush (n := 40) (by decide +kernel) (by decide +kernel)) <|
  rg_fc (rg_ok_anewa (idx := 9) (by decide +kernel) rg_wk_C_9) <|
  rg_fc (rg_ok_putr (idx := 11) rg_cok0 (by decide +kernel) rfl (fun _ => ⟨rfl, rfl⟩) (Or.inr ⟨rfl, rfl, rfl⟩) (by decide +kernel) rg_wf_C_11) <|
  rg_fc (rg_ok_aload_n (j := 0) (by decide +kernel) rfl) <|
  rg_fc (rg_ok_new (idx := 9) rg_cok1 (by decide +kernel) (by decide +kernel) rg_wk_C_9 rg_wi_1 rg_wz_1) <|
  rg_fc (rg_ok_dup (by decide +kernel)) <|
  rg_fc (rg_ok_callI (idx := 17) (by decide +kernel) (by decide +kernel) rg_wm_C_17 rg_wj_4 rfl rfl rg_wz_1 rg_wd_4 ⟨by decide +kernel, by decide +kernel, by decide +kernel⟩ (by decide +kernel) (by decide +kernel)) <|
  rg_fc (rg_ok_putr (idx := 18) rg_cok0 (by decide +kernel) rfl (fun _ => ⟨rfl, rfl⟩) (Or.inr ⟨rfl, rfl, rfl⟩) (by decide +kernel) rg_wf_C_18) <|
  rg_fc (rg_ok_aload_n (j := 0) (by decide +kernel) rfl) <|
  rg_fc (rg_ok_new (idx := 9) rg_cok1 (by decide +kernel) (by decide +kernel) rg_wk_C_9 rg_wi_1 rg_wz_1) <|
  rg_fc (rg_ok_dup (by decide +kernel)) <|
  rg_fc (rg_ok_callI (idx := 17) (by decide +kernel) (by decide +kernel) rg_wm_C_17 rg_wj_4 rfl rfl rg_wz_1 rg_wd_4 ⟨by decide +kernel, by decide +kernel, by decide +kernel⟩ (by decide +kernel) (by decide +kernel)) <|
  rg_fc (rg_ok_putr (idx := 22) rg_cok0 (by decide +kernel) rfl (fun _ => ⟨rfl, rfl⟩) (Or.inr ⟨rfl, rfl, rfl⟩) (by decide +kernel) rg_wf_C_22) <|
  rg_fc (rg_ok_aload_n (j := 0) (by decide +kernel) rfl) <|
  rg_fc (rg_ok_new (idx := 9) rg_cok1 (by decide +kernel) (by decide +kernel) rg_wk_C_9 rg_wi_1 rg_wz_1) <|
  rg_fc (rg_ok_dup (by decide +kernel)) <|
  rg_fc (rg_ok_callI (idx := 17) (by decide +kernel) (by decide +kernel) rg_wm_C_17 rg_wj_4 rfl rfl rg_wz_1 rg_wd_4 ⟨by decide +kernel, by decide +kernel, by decide +kernel⟩ (by decide +kernel) (by decide +kernel)) <|
  rg_fc (rg_ok_putr (idx := 25) rg_cok0 (by decide +kernel) rfl (fun _ => ⟨rfl, rfl⟩) (Or.inr ⟨rfl, rfl, rfl⟩) (by decide +kernel) rg_wf_C_25) <|
  rg_fc (rg_ok_aload_n (j := 0) (by decide +kernel) rfl) <|
  rg_fc (rg_ok_aload_n (j := 1) (by decide +kernel) rfl) <|
  rg_fc (rg_ok_putr (idx := 28) rg_cok0 (by decide +kernel) rfl (fun _ => ⟨rfl, rfl⟩) (Or.inr ⟨rfl, rfl, rfl⟩) (by decide +kernel) rg_wf_C_28) <|
  rg_fc (rg_ok_aload_n (j := 0) (by decide +kernel) rfl) <|
  fun _ h => absurd h List.not_mem_nil
def rg_c7_1 : List (Nat × rg_S) := [(52, rg_sal 2 1), (53, rg_spr 0 1), (56, rg_sic 0 1), (57, rg_sis 3 1), (58, rg_sK [true, false, true, true] (rg_sil 3 1)), (59, rg_sic 40 2), (61, rg_skge 101), (64, rg_sal 0 1), (65, rg_sgr 0 2), (68, rg_sil 3 1), (69, rg_sil 3 1), (70, rg_sic 8 2), (72, rg_sdi (fun x y => x - x / y * y)), (73, rg_sic 6 2), (75, rg_skge 87), (78, rg_sal 2 1), (79, rg_sgr 2 5), (82, rg_sil 3 1), (83, rg_saq), (84, rg_sgo 94), (87, rg_snw 1), (90, rg_sdu), (91, rg_scI 4 0 0), (94, rg_sK [true, false, true, true] (rg_swq)), (95, rg_sin 3 1)]
theorem rg_o7_1 : ∀ q ∈ rg_c7_1, rg_Ok 7 q.1 q.2 :=
  rg_fc (rg_ok_aload_n (j := 2) (by decide +kernel) rfl) <|
  rg_fc (rg_ok_putr (idx := 32) rg_cok0 (by decide +kernel) rfl (fun _ => ⟨rfl, rfl⟩) (Or.inr ⟨rfl, rfl, rfl⟩) (by decide +kernel) rg_wf_C_32) <|
  rg_fc (rg_ok_iconst (n := 0) (by decide +kernel) (by decide +kernel)) <|
  rg_fc (rg_ok_istore_n (j := 3) (by decide +kernel) rfl (by decide +kernel)) <|
  rg_fc (rg_okK _ (rg_ok_iload_n (j := 3) (by decide +kernel) rfl)) <|
  rg_fc (rg_ok_bipush (n := 40) (by decide +kernel) (by decide +kernel)) <|
  rg_fc (rg_ok_icmp_ge (off := 40) (by decide +kernel) (by decide +kernel)) <|
  rg_fc (rg_ok_aload_n (j := 0) (by decide +kernel) rfl) <|
  rg_fc (rg_ok_getr (idx := 11) rg_cok0 (by decide +kernel) rfl (by decide +kernel) rg_wf_C_11) <|
  rg_fc (rg_ok_iload_n (j := 3) (by decide +kernel) rfl) <|
  rg_fc (rg_ok_iload_n (j := 3) (by decide +kernel) rfl) <|
  rg_fc (rg_ok_bipush (n := 8) (by decide +kernel) (by decide +kernel)) <|
  rg_fc (rg_ok_irem (by decide +kernel)) <|
  rg_fc (rg_ok_bipush (n := 6) (by decide +kernel) (by decide +kernel)) <|
  rg_fc (rg_ok_icmp_ge (off := 12) (by decide +kernel) (by decide +kernel)) <|
  rg_fc (rg_ok_aload_n (j := 2) (by decide +kernel) rfl) <|
  rg_fc (rg_ok_getr (idx := 36) rg_cok2 (by decide +kernel) rfl (by decide +kernel) rg_wf_C_36) <|
  rg_fc (rg_ok_iload_n (j := 3) (by decide +kernel) rfl) <|
  rg_fc (rg_ok_aaload (by decide +kernel)) <|
  rg_fc (rg_ok_goto (off := 10) (by decide +kernel) (by decide +kernel)) <|
  rg_fc (rg_ok_new (idx := 9) rg_cok1 (by decide +kernel) (by decide +kernel) rg_wk_C_9 rg_wi_1 rg_wz_1) <|
  rg_fc (rg_ok_dup (by decide +kernel)) <|
  rg_fc (rg_ok_callI (idx := 17) (by decide +kernel) (by decide +kernel) rg_wm_C_17 rg_wj_4 rfl rfl rg_wz_1 rg_wd_4 ⟨by decide +kernel, by decide +kernel, by decide +kernel⟩ (by decide +kernel) (by decide +kernel)) <|
  rg_fc (rg_okK _ (rg_ok_aastore (by decide +kernel))) <|
  rg_fc (rg_ok_iinc (n := 1) (by decide +kernel) (by decide +kernel) (by decide +kernel)) <|
  fun _ h => absurd h List.not_mem_nil
def rg_c7_2 : List (Nat × rg_S) := [(98, rg_sgo 58), (101, rg_rv)]
theorem rg_o7_2 : ∀ q ∈ rg_c7_2, rg_Ok 7 q.1 q.2 :=
  rg_fc (rg_ok_goto (off := (-40)) (by decide +kernel) (by decide +kernel)) <|
  rg_fc (rg_ok_return (by decide +kernel) rfl) <|
  fun _ h => absurd h List.not_mem_nil
def rg_kd7 : List (List (Nat × rg_S)) := [rg_c7_0, rg_c7_1, rg_c7_2]
theorem rg_o7 : ∀ pc f, rg_lk2 rg_kd7 pc = some f → rg_Ok 7 pc f := rg_lk2_ok (rg_fd rg_o7_0 (rg_fd rg_o7_1 (rg_fd rg_o7_2 (fun _ h => absurd h List.not_mem_nil))))
def rg_c26_0 : List (Nat × rg_S) := [(0, rg_sal 0 1), (1, rg_sil 1 1), (2, rg_spi 0 6), (5, rg_sal 0 1), (6, rg_sgr 0 3), (9, rg_sic 1 1), (10, rg_sil 1 1), (11, rg_sil 1 1), (12, rg_sic 1 1), (13, rg_s2i (fun x y => x - y)), (14, rg_s2i (fun x y => x * y)), (15, rg_scV 14 2 0 1), (18, rg_sal 0 1), (19, rg_sgr 0 1), (22, rg_sic 4 1), (23, rg_sil 1 1), (24, rg_s2i (fun x y => x * y)), (25, rg_sic 2 1), (26, rg_sic 2 1), (27, rg_sic 2 1), (28, rg_scV 15 4 0 2), (31, rg_rv)]
theorem rg_o26_0 : ∀ q ∈ rg_c26_0, rg_Ok 26 q.1 q.2 :=
  rg_fc (rg_ok_aload_n (j := 0) (by decide +kernel) rfl) <|
  rg_fc (rg_ok_iload_n (j := 1) (by decide +kernel) rfl) <|
  rg_fc (rg_ok_puti (idx := 41) rg_cok0 (by decide +kernel) rfl rfl rfl (by decide +kernel) rg_wf_C_41) <|
  rg_fc (rg_ok_aload_n (j := 0) (by decide +kernel) rfl) <|
  rg_fc (rg_ok_getr (idx := 18) rg_cok0 (by decide +kernel) rfl (by decide +kernel) rg_wf_C_18) <|
  rg_fc (rg_ok_iconst (n := 1) (by decide +kernel) (by decide +kernel)) <|
  rg_fc (rg_ok_iload_n (j := 1) (by decide +kernel) rfl) <|
  rg_fc (rg_ok_iload_n (j := 1) (by decide +kernel) rfl) <|
  rg_fc (rg_ok_iconst (n := 1) (by decide +kernel) (by decide +kernel)) <|
  rg_fc (rg_ok_isub (by decide +kernel)) <|
  rg_fc (rg_ok_imul (by decide +kernel)) <|
  rg_fc (rg_ok_callV (idx := 45) rg_cok1 (by decide +kernel) (by decide +kernel) rg_wm_C_45 rg_wj_14 rg_ws_14 rg_wz_1 rg_wd_14 ⟨by decide +kernel, by decide +kernel, by decide +kernel, by decide +kernel⟩ (by decide +kernel) (by decide +kernel)) <|
  rg_fc (rg_ok_aload_n (j := 0) (by decide +kernel) rfl) <|
  rg_fc (rg_ok_getr (idx := 32) rg_cok0 (by decide +kernel) rfl (by decide +kernel) rg_wf_C_32) <|
  rg_fc (rg_ok_iconst (n := 4) (by decide +kernel) (by decide +kernel)) <|
  rg_fc (rg_ok_iload_n (j := 1) (by decide +kernel) rfl) <|
  rg_fc (rg_ok_imul (by decide +kernel)) <|
  rg_fc (rg_ok_iconst (n := 2) (by decide +kernel) (by decide +kernel)) <|
  rg_fc (rg_ok_iconst (n := 2) (by decide +kernel) (by decide +kernel)) <|
  rg_fc (rg_ok_iconst (n := 2) (by decide +kernel) (by decide +kernel)) <|
  rg_fc (rg_ok_callV (idx := 49) rg_cok2 (by decide +kernel) (by decide +kernel) rg_wm_C_49 rg_wj_15 rg_ws_15 rg_wz_2 rg_wd_15 ⟨by decide +kernel, by decide +kernel, by decide +kernel, by decide +kernel⟩ (by decide +kernel) (by decide +kernel)) <|
  rg_fc (rg_ok_return (by decide +kernel) rfl) <|
  fun _ h => absurd h List.not_mem_nil
def rg_kd26 : List (List (Nat × rg_S)) := [rg_c26_0]
theorem rg_o26 : ∀ pc f, rg_lk2 rg_kd26 pc = some f → rg_Ok 26 pc f := rg_lk2_ok (rg_fd rg_o26_0 (fun _ h => absurd h List.not_mem_nil))
def rg_c96_0 : List (Nat × rg_S) := [(0, rg_sic 0 1), (1, rg_sis 1 1), (2, rg_sK [true, true, false, false] (rg_sil 1 1)), (3, rg_sal 0 1), (4, rg_sgi 0 6), (7, rg_skge 82), (10, rg_sic 8 2), (12, rg_sil 1 1), (13, rg_s2i (fun x y => x * y)), (14, rg_sis 2 1), (15, rg_sil 2 1), (16, rg_sic 6 2), (18, rg_s2i (fun x y => x + y)), (19, rg_sis 3 1), (20, rg_sK [true, true, true, true] (rg_sil 3 1)), (21, rg_sil 2 1), (22, rg_sic 7 2), (24, rg_s2i (fun x y => x + y)), (25, rg_skgt 76), (28, rg_sal 0 1), (29, rg_sgr 0 2), (32, rg_sil 3 1), (33, rg_saq), (34, rg_sal 0 1), (35, rg_sgr 0 1)]
theorem rg_o96_0 : ∀ q ∈ rg_c96_0, rg_Ok 96 q.1 q.2 :=
  rg_fc (rg_ok_iconst (n := 0) (by decide +kernel) (by decide +kernel)) <|
  rg_fc (rg_ok_istore_n (j := 1) (by decide +kernel) rfl (by decide +kernel)) <|
  rg_fc (rg_okK _ (rg_ok_iload_n (j := 1) (by decide +kernel) rfl)) <|
  rg_fc (rg_ok_aload_n (j := 0) (by decide +kernel) rfl) <|
  rg_fc (rg_ok_geti (idx := 41) rg_cok0 (by decide +kernel) rfl (by decide +kernel) rg_wf_C_41) <|
  rg_fc (rg_ok_icmp_ge (off := 75) (by decide +kernel) (by decide +kernel)) <|
  rg_fc (rg_ok_bipush (n := 8) (by decide +kernel) (by decide +kernel)) <|
  rg_fc (rg_ok_iload_n (j := 1) (by decide +kernel) rfl) <|
  rg_fc (rg_ok_imul (by decide +kernel)) <|
  rg_fc (rg_ok_istore_n (j := 2) (by decide +kernel) rfl (by decide +kernel)) <|
  rg_fc (rg_ok_iload_n (j := 2) (by decide +kernel) rfl) <|
  rg_fc (rg_ok_bipush (n := 6) (by decide +kernel) (by decide +kernel)) <|
  rg_fc (rg_ok_iadd (by decide +kernel)) <|
  rg_fc (rg_ok_istore_n (j := 3) (by decide +kernel) rfl (by decide +kernel)) <|
  rg_fc (rg_okK _ (rg_ok_iload_n (j := 3) (by decide +kernel) rfl)) <|
  rg_fc (rg_ok_iload_n (j := 2) (by decide +kernel) rfl) <|
  rg_fc (rg_ok_bipush (n := 7) (by decide +kernel) (by decide +kernel)) <|
  rg_fc (rg_ok_iadd (by decide +kernel)) <|
  rg_fc (rg_ok_icmp_gt (off := 51) (by decide +kernel) (by decide +kernel)) <|
  rg_fc (rg_ok_aload_n (j := 0) (by decide +kernel) rfl) <|
  rg_fc (rg_ok_getr (idx := 11) rg_cok0 (by decide +kernel) rfl (by decide +kernel) rg_wf_C_11) <|
  rg_fc (rg_ok_iload_n (j := 3) (by decide +kernel) rfl) <|
  rg_fc (rg_ok_aaload (by decide +kernel)) <|
  rg_fc (rg_ok_aload_n (j := 0) (by decide +kernel) rfl) <|
  rg_fc (rg_ok_getr (idx := 32) rg_cok0 (by decide +kernel) rfl (by decide +kernel) rg_wf_C_32) <|
  fun _ h => absurd h List.not_mem_nil
def rg_c96_1 : List (Nat × rg_S) := [(38, rg_sgr 2 5), (41, rg_sil 3 1), (42, rg_saq), (43, rg_scV 53 1 0 1), (46, rg_sal 0 1), (47, rg_sgr 0 0), (50, rg_sal 0 1), (51, rg_sgr 0 2), (54, rg_sil 3 1), (55, rg_saq), (56, rg_sal 0 1), (57, rg_sgr 0 1), (60, rg_sgr 2 5), (63, rg_sil 2 1), (64, rg_sic 0 1), (65, rg_s2i (fun x y => x + y)), (66, rg_saq), (67, rg_scV 54 2 0 4), (70, rg_sin 3 1), (73, rg_sgo 20), (76, rg_sin 1 1), (79, rg_sgo 2), (82, rg_rv)]
theorem rg_o96_1 : ∀ q ∈ rg_c96_1, rg_Ok 96 q.1 q.2 :=
  rg_fc (rg_ok_getr (idx := 36) rg_cok2 (by decide +kernel) rfl (by decide +kernel) rg_wf_C_36) <|
  rg_fc (rg_ok_iload_n (j := 3) (by decide +kernel) rfl) <|
  rg_fc (rg_ok_aaload (by decide +kernel)) <|
  rg_fc (rg_ok_callV (idx := 53) rg_cok1 (by decide +kernel) (by decide +kernel) rg_wm_C_53 rg_wj_53 rg_ws_53 rg_wz_1 rg_wd_53 ⟨by decide +kernel, by decide +kernel, by decide +kernel, by decide +kernel⟩ (by decide +kernel) (by decide +kernel)) <|
  rg_fc (rg_ok_aload_n (j := 0) (by decide +kernel) rfl) <|
  rg_fc (rg_ok_getr (idx := 28) rg_cok0 (by decide +kernel) rfl (by decide +kernel) rg_wf_C_28) <|
  rg_fc (rg_ok_aload_n (j := 0) (by decide +kernel) rfl) <|
  rg_fc (rg_ok_getr (idx := 11) rg_cok0 (by decide +kernel) rfl (by decide +kernel) rg_wf_C_11) <|
  rg_fc (rg_ok_iload_n (j := 3) (by decide +kernel) rfl) <|
  rg_fc (rg_ok_aaload (by decide +kernel)) <|
  rg_fc (rg_ok_aload_n (j := 0) (by decide +kernel) rfl) <|
  rg_fc (rg_ok_getr (idx := 32) rg_cok0 (by decide +kernel) rfl (by decide +kernel) rg_wf_C_32) <|
  rg_fc (rg_ok_getr (idx := 36) rg_cok2 (by decide +kernel) rfl (by decide +kernel) rg_wf_C_36) <|
  rg_fc (rg_ok_iload_n (j := 2) (by decide +kernel) rfl) <|
  rg_fc (rg_ok_iconst (n := 0) (by decide +kernel) (by decide +kernel)) <|
  rg_fc (rg_ok_iadd (by decide +kernel)) <|
  rg_fc (rg_ok_aaload (by decide +kernel)) <|
  rg_fc (rg_ok_callV (idx := 57) rg_cok4 (by decide +kernel) (by decide +kernel) rg_wm_C_57 rg_wj_54 rg_ws_54 rg_wz_4 rg_wd_54 ⟨by decide +kernel, by decide +kernel, by decide +kernel, by decide +kernel⟩ (by decide +kernel) (by decide +kernel)) <|
  rg_fc (rg_ok_iinc (n := 1) (by decide +kernel) (by decide +kernel) (by decide +kernel)) <|
  rg_fc (rg_ok_goto (off := (-53)) (by decide +kernel) (by decide +kernel)) <|
  rg_fc (rg_ok_iinc (n := 1) (by decide +kernel) (by decide +kernel) (by decide +kernel)) <|
  rg_fc (rg_ok_goto (off := (-77)) (by decide +kernel) (by decide +kernel)) <|
  rg_fc (rg_ok_return (by decide +kernel) rfl) <|
  fun _ h => absurd h List.not_mem_nil
def rg_kd96 : List (List (Nat × rg_S)) := [rg_c96_0, rg_c96_1]
theorem rg_o96 : ∀ pc f, rg_lk2 rg_kd96 pc = some f → rg_Ok 96 pc f := rg_lk2_ok (rg_fd rg_o96_0 (rg_fd rg_o96_1 (fun _ h => absurd h List.not_mem_nil)))
def rg_c98_0 : List (Nat × rg_S) := [(0, rg_sal 0 1), (1, rg_sgr 0 1), (4, rg_sgr 2 6), (7, rg_sic 8 2), (9, rg_sil 1 1), (10, rg_s2i (fun x y => x * y)), (11, rg_sil 2 1), (12, rg_s2i (fun x y => x + y)), (13, rg_saq), (14, rg_sas 6 2), (16, rg_sic 0 1), (17, rg_sis 7 2), (19, rg_sK [true, true, false, true, true, true, true, true, false] (rg_sil 7 2)), (21, rg_sal 0 1), (22, rg_sgi 0 6), (25, rg_skge 78), (28, rg_sil 7 2), (30, rg_sil 1 1), (31, rg_skeq 72), (34, rg_sal 0 1), (35, rg_sgr 0 2), (38, rg_sic 8 2), (40, rg_sil 7 2), (42, rg_s2i (fun x y => x * y)), (43, rg_sil 3 1)]
theorem rg_o98_0 : ∀ q ∈ rg_c98_0, rg_Ok 98 q.1 q.2 :=
  rg_fc (rg_ok_aload_n (j := 0) (by decide +kernel) rfl) <|
  rg_fc (rg_ok_getr (idx := 32) rg_cok0 (by decide +kernel) rfl (by decide +kernel) rg_wf_C_32) <|
  rg_fc (rg_ok_getr (idx := 63) rg_cok2 (by decide +kernel) rfl (by decide +kernel) rg_wf_C_63) <|
  rg_fc (rg_ok_bipush (n := 8) (by decide +kernel) (by decide +kernel)) <|
  rg_fc (rg_ok_iload_n (j := 1) (by decide +kernel) rfl) <|
  rg_fc (rg_ok_imul (by decide +kernel)) <|
  rg_fc (rg_ok_iload_n (j := 2) (by decide +kernel) rfl) <|
  rg_fc (rg_ok_iadd (by decide +kernel)) <|
  rg_fc (rg_ok_aaload (by decide +kernel)) <|
  rg_fc (rg_ok_astore (i := 6) (by decide +kernel) (by decide +kernel)) <|
  rg_fc (rg_ok_iconst (n := 0) (by decide +kernel) (by decide +kernel)) <|
  rg_fc (rg_ok_istore (i := 7) (by decide +kernel) (by decide +kernel)) <|
  rg_fc (rg_okK _ (rg_ok_iload (i := 7) (by decide +kernel))) <|
  rg_fc (rg_ok_aload_n (j := 0) (by decide +kernel) rfl) <|
  rg_fc (rg_ok_geti (idx := 41) rg_cok0 (by decide +kernel) rfl (by decide +kernel) rg_wf_C_41) <|
  rg_fc (rg_ok_icmp_ge (off := 53) (by decide +kernel) (by decide +kernel)) <|
  rg_fc (rg_ok_iload (i := 7) (by decide +kernel)) <|
  rg_fc (rg_ok_iload_n (j := 1) (by decide +kernel) rfl) <|
  rg_fc (rg_ok_icmp_eq (off := 41) (by decide +kernel) (by decide +kernel)) <|
  rg_fc (rg_ok_aload_n (j := 0) (by decide +kernel) rfl) <|
  rg_fc (rg_ok_getr (idx := 11) rg_cok0 (by decide +kernel) rfl (by decide +kernel) rg_wf_C_11) <|
  rg_fc (rg_ok_bipush (n := 8) (by decide +kernel) (by decide +kernel)) <|
  rg_fc (rg_ok_iload (i := 7) (by decide +kernel)) <|
  rg_fc (rg_ok_imul (by decide +kernel)) <|
  rg_fc (rg_ok_iload_n (j := 3) (by decide +kernel) rfl) <|
  fun _ h => absurd h List.not_mem_nil
def rg_c98_1 : List (Nat × rg_S) := [(44, rg_s2i (fun x y => x + y)), (45, rg_saq), (46, rg_sas 8 2), (48, rg_sal 0 1), (49, rg_sgr 0 0), (52, rg_sal 6 2), (54, rg_sal 8 2), (56, rg_sil 1 1), (57, rg_sil 7 2), (59, rg_skle 67), (62, rg_sil 4 2), (64, rg_sgo 69), (67, rg_sil 5 2), (69, rg_sK [true, true, false, true, true, true, true, true, false] (rg_scV 51 3 0 4)), (72, rg_sK [true, true, false, true, true, true, true, true, false] (rg_sin 7 1)), (75, rg_sgo 19), (78, rg_rv)]
theorem rg_o98_1 : ∀ q ∈ rg_c98_1, rg_Ok 98 q.1 q.2 :=
  rg_fc (rg_ok_iadd (by decide +kernel)) <|
  rg_fc (rg_ok_aaload (by decide +kernel)) <|
  rg_fc (rg_ok_astore (i := 8) (by decide +kernel) (by decide +kernel)) <|
  rg_fc (rg_ok_aload_n (j := 0) (by decide +kernel) rfl) <|
  rg_fc (rg_ok_getr (idx := 28) rg_cok0 (by decide +kernel) rfl (by decide +kernel) rg_wf_C_28) <|
  rg_fc (rg_ok_aload (i := 6) (by decide +kernel)) <|
  rg_fc (rg_ok_aload (i := 8) (by decide +kernel)) <|
  rg_fc (rg_ok_iload_n (j := 1) (by decide +kernel) rfl) <|
  rg_fc (rg_ok_iload (i := 7) (by decide +kernel)) <|
  rg_fc (rg_ok_icmp_le (off := 8) (by decide +kernel) (by decide +kernel)) <|
  rg_fc (rg_ok_iload (i := 4) (by decide +kernel)) <|
  rg_fc (rg_ok_goto (off := 5) (by decide +kernel) (by decide +kernel)) <|
  rg_fc (rg_ok_iload (i := 5) (by decide +kernel)) <|
  rg_fc (rg_okK _ (rg_ok_callV (idx := 66) rg_cok4 (by decide +kernel) (by decide +kernel) rg_wm_C_66 rg_wj_51 rg_ws_51 rg_wz_4 rg_wd_51 ⟨by decide +kernel, by decide +kernel, by decide +kernel, by decide +kernel⟩ (by decide +kernel) (by decide +kernel))) <|
  rg_fc (rg_okK _ (rg_ok_iinc (n := 1) (by decide +kernel) (by decide +kernel) (by decide +kernel))) <|
  rg_fc (rg_ok_goto (off := (-56)) (by decide +kernel) (by decide +kernel)) <|
  rg_fc (rg_ok_return (by decide +kernel) rfl) <|
  fun _ h => absurd h List.not_mem_nil
def rg_kd98 : List (List (Nat × rg_S)) := [rg_c98_0, rg_c98_1]
theorem rg_o98 : ∀ pc f, rg_lk2 rg_kd98 pc = some f → rg_Ok 98 pc f := rg_lk2_ok (rg_fd rg_o98_0 (rg_fd rg_o98_1 (fun _ h => absurd h List.not_mem_nil)))
def rg_c99_0 : List (Nat × rg_S) := [(0, rg_sic 0 1), (1, rg_sis 1 1), (2, rg_sK [true, true] (rg_sil 1 1)), (3, rg_sal 0 1), (4, rg_sgi 0 6), (7, rg_skge 65), (10, rg_sal 0 1), (11, rg_sil 1 1), (12, rg_sic 0 1), (13, rg_sic 2 1), (14, rg_sic 1 1), (15, rg_sic (-1) 1), (16, rg_scV 98 5 0 0), (19, rg_sal 0 1), (20, rg_sil 1 1), (21, rg_sic 1 1), (22, rg_sic 4 1), (23, rg_sic 1 1), (24, rg_sic 1 1), (25, rg_scV 98 5 0 0), (28, rg_sal 0 1), (29, rg_sil 1 1), (30, rg_sic 1 1), (31, rg_sic 5 1), (32, rg_sic 2 1)]
theorem rg_o99_0 : ∀ q ∈ rg_c99_0, rg_Ok 99 q.1 q.2 :=
  rg_fc (rg_ok_iconst (n := 0) (by decide +kernel) (by decide +kernel)) <|
  rg_fc (rg_ok_istore_n (j := 1) (by decide +kernel) rfl (by decide +kernel)) <|
  rg_fc (rg_okK _ (rg_ok_iload_n (j := 1) (by decide +kernel) rfl)) <|
  rg_fc (rg_ok_aload_n (j := 0) (by decide +kernel) rfl) <|
  rg_fc (rg_ok_geti (idx := 41) rg_cok0 (by decide +kernel) rfl (by decide +kernel) rg_wf_C_41) <|
  rg_fc (rg_ok_icmp_ge (off := 58) (by decide +kernel) (by decide +kernel)) <|
  rg_fc (rg_ok_aload_n (j := 0) (by decide +kernel) rfl) <|
  rg_fc (rg_ok_iload_n (j := 1) (by decide +kernel) rfl) <|
  rg_fc (rg_ok_iconst (n := 0) (by decide +kernel) (by decide +kernel)) <|
  rg_fc (rg_ok_iconst (n := 2) (by decide +kernel) (by decide +kernel)) <|
  rg_fc (rg_ok_iconst (n := 1) (by decide +kernel) (by decide +kernel)) <|
  rg_fc (rg_ok_iconst (n := (-1)) (by decide +kernel) (by decide +kernel)) <|
  rg_fc (rg_ok_callV (idx := 70) rg_cok0 (by decide +kernel) (by decide +kernel) rg_wm_C_70 rg_wj_98 rg_ws_98 rg_wz_0 rg_wd_98 ⟨by decide +kernel, by decide +kernel, by decide +kernel, by decide +kernel⟩ (by decide +kernel) (by decide +kernel)) <|
  rg_fc (rg_ok_aload_n (j := 0) (by decide +kernel) rfl) <|
  rg_fc (rg_ok_iload_n (j := 1) (by decide +kernel) rfl) <|
  rg_fc (rg_ok_iconst (n := 1) (by decide +kernel) (by decide +kernel)) <|
  rg_fc (rg_ok_iconst (n := 4) (by decide +kernel) (by decide +kernel)) <|
  rg_fc (rg_ok_iconst (n := 1) (by decide +kernel) (by decide +kernel)) <|
  rg_fc (rg_ok_iconst (n := 1) (by decide +kernel) (by decide +kernel)) <|
  rg_fc (rg_ok_callV (idx := 70) rg_cok0 (by decide +kernel) (by decide +kernel) rg_wm_C_70 rg_wj_98 rg_ws_98 rg_wz_0 rg_wd_98 ⟨by decide +kernel, by decide +kernel, by decide +kernel, by decide +kernel⟩ (by decide +kernel) (by decide +kernel)) <|
  rg_fc (rg_ok_aload_n (j := 0) (by decide +kernel) rfl) <|
  rg_fc (rg_ok_iload_n (j := 1) (by decide +kernel) rfl) <|
  rg_fc (rg_ok_iconst (n := 1) (by decide +kernel) (by decide +kernel)) <|
  rg_fc (rg_ok_iconst (n := 5) (by decide +kernel) (by decide +kernel)) <|
  rg_fc (rg_ok_iconst (n := 2) (by decide +kernel) (by decide +kernel)) <|
  fun _ h => absurd h List.not_mem_nil
def rg_c99_1 : List (Nat × rg_S) := [(33, rg_sic (-2) 2), (35, rg_scV 98 5 0 0), (38, rg_sal 0 1), (39, rg_sil 1 1), (40, rg_sic 6 2), (42, rg_sic 3 1), (43, rg_sic (-1) 1), (44, rg_sic (-1) 1), (45, rg_scV 98 5 0 0), (48, rg_sal 0 1), (49, rg_sil 1 1), (50, rg_sic 7 2), (52, rg_sic 3 1), (53, rg_sic 2 1), (54, rg_sic (-2) 2), (56, rg_scV 98 5 0 0), (59, rg_sin 1 1), (62, rg_sgo 2), (65, rg_rv)]
theorem rg_o99_1 : ∀ q ∈ rg_c99_1, rg_Ok 99 q.1 q.2 :=
  rg_fc (rg_ok_bipush (n := (-2)) (by decide +kernel) (by decide +kernel)) <|
  rg_fc (rg_ok_callV (idx := 70) rg_cok0 (by decide +kernel) (by decide +kernel) rg_wm_C_70 rg_wj_98 rg_ws_98 rg_wz_0 rg_wd_98 ⟨by decide +kernel, by decide +kernel, by decide +kernel, by decide +kernel⟩ (by decide +kernel) (by decide +kernel)) <|
  rg_fc (rg_ok_aload_n (j := 0) (by decide +kernel) rfl) <|
  rg_fc (rg_ok_iload_n (j := 1) (by decide +kernel) rfl) <|
  rg_fc (rg_ok_bipush (n := 6) (by decide +kernel) (by decide +kernel)) <|
  rg_fc (rg_ok_iconst (n := 3) (by decide +kernel) (by decide +kernel)) <|
  rg_fc (rg_ok_iconst (n := (-1)) (by decide +kernel) (by decide +kernel)) <|
  rg_fc (rg_ok_iconst (n := (-1)) (by decide +kernel) (by decide +kernel)) <|
  rg_fc (rg_ok_callV (idx := 70) rg_cok0 (by decide +kernel) (by decide +kernel) rg_wm_C_70 rg_wj_98 rg_ws_98 rg_wz_0 rg_wd_98 ⟨by decide +kernel, by decide +kernel, by decide +kernel, by decide +kernel⟩ (by decide +kernel) (by decide +kernel)) <|
  rg_fc (rg_ok_aload_n (j := 0) (by decide +kernel) rfl) <|
  rg_fc (rg_ok_iload_n (j := 1) (by decide +kernel) rfl) <|
  rg_fc (rg_ok_bipush (n := 7) (by decide +kernel) (by decide +kernel)) <|
  rg_fc (rg_ok_iconst (n := 3) (by decide +kernel) (by decide +kernel)) <|
  rg_fc (rg_ok_iconst (n := 2) (by decide +kernel) (by decide +kernel)) <|
  rg_fc (rg_ok_bipush (n := (-2)) (by decide +kernel) (by decide +kernel)) <|
  rg_fc (rg_ok_callV (idx := 70) rg_cok0 (by decide +kernel) (by decide +kernel) rg_wm_C_70 rg_wj_98 rg_ws_98 rg_wz_0 rg_wd_98 ⟨by decide +kernel, by decide +kernel, by decide +kernel, by decide +kernel⟩ (by decide +kernel) (by decide +kernel)) <|
  rg_fc (rg_ok_iinc (n := 1) (by decide +kernel) (by decide +kernel) (by decide +kernel)) <|
  rg_fc (rg_ok_goto (off := (-60)) (by decide +kernel) (by decide +kernel)) <|
  rg_fc (rg_ok_return (by decide +kernel) rfl) <|
  fun _ h => absurd h List.not_mem_nil
def rg_kd99 : List (List (Nat × rg_S)) := [rg_c99_0, rg_c99_1]
theorem rg_o99 : ∀ pc f, rg_lk2 rg_kd99 pc = some f → rg_Ok 99 pc f := rg_lk2_ok (rg_fd rg_o99_0 (rg_fd rg_o99_1 (fun _ h => absurd h List.not_mem_nil)))
def rg_c100_0 : List (Nat × rg_S) := [(0, rg_sic 0 1), (1, rg_sis 1 1), (2, rg_sK [true, true] (rg_sil 1 1)), (3, rg_sal 0 1), (4, rg_sgi 0 6), (7, rg_skge 65), (10, rg_sal 0 1), (11, rg_sil 1 1), (12, rg_sic 2 1), (13, rg_sic 0 1), (14, rg_sic 1 1), (15, rg_sic (-1) 1), (16, rg_scV 98 5 0 0), (19, rg_sal 0 1), (20, rg_sil 1 1), (21, rg_sic 3 1), (22, rg_sic 6 2), (24, rg_sic 1 1), (25, rg_sic 1 1), (26, rg_scV 98 5 0 0), (29, rg_sal 0 1), (30, rg_sil 1 1), (31, rg_sic 3 1), (32, rg_sic 7 2), (34, rg_sic 2 1)]
theorem rg_o100_0 : ∀ q ∈ rg_c100_0, rg_Ok 100 q.1 q.2 :=
  rg_fc (rg_ok_iconst (n := 0) (by decide +kernel) (by decide +kernel)) <|
  rg_fc (rg_ok_istore_n (j := 1) (by decide +kernel) rfl (by decide +kernel)) <|
  rg_fc (rg_okK _ (rg_ok_iload_n (j := 1) (by decide +kernel) rfl)) <|
  rg_fc (rg_ok_aload_n (j := 0) (by decide +kernel) rfl) <|
  rg_fc (rg_ok_geti (idx := 41) rg_cok0 (by decide +kernel) rfl (by decide +kernel) rg_wf_C_41) <|
  rg_fc (rg_ok_icmp_ge (off := 58) (by decide +kernel) (by decide +kernel)) <|
  rg_fc (rg_ok_aload_n (j := 0) (by decide +kernel) rfl) <|
  rg_fc (rg_ok_iload_n (j := 1) (by decide +kernel) rfl) <|
  rg_fc (rg_ok_iconst (n := 2) (by decide +kernel) (by decide +kernel)) <|
  rg_fc (rg_ok_iconst (n := 0) (by decide +kernel) (by decide +kernel)) <|
  rg_fc (rg_ok_iconst (n := 1) (by decide +kernel) (by decide +kernel)) <|
  rg_fc (rg_ok_iconst (n := (-1)) (by decide +kernel) (by decide +kernel)) <|
  rg_fc (rg_ok_callV (idx := 70) rg_cok0 (by decide +kernel) (by decide +kernel) rg_wm_C_70 rg_wj_98 rg_ws_98 rg_wz_0 rg_wd_98 ⟨by decide +kernel, by decide +kernel, by decide +kernel, by decide +kernel⟩ (by decide +kernel) (by decide +kernel)) <|
  rg_fc (rg_ok_aload_n (j := 0) (by decide +kernel) rfl) <|
  rg_fc (rg_ok_iload_n (j := 1) (by decide +kernel) rfl) <|
  rg_fc (rg_ok_iconst (n := 3) (by decide +kernel) (by decide +kernel)) <|
  rg_fc (rg_ok_bipush (n := 6) (by decide +kernel) (by decide +kernel)) <|
  rg_fc (rg_ok_iconst (n := 1) (by decide +kernel) (by decide +kernel)) <|
  rg_fc (rg_ok_iconst (n := 1) (by decide +kernel) (by decide +kernel)) <|
  rg_fc (rg_ok_callV (idx := 70) rg_cok0 (by decide +kernel) (by decide +kernel) rg_wm_C_70 rg_wj_98 rg_ws_98 rg_wz_0 rg_wd_98 ⟨by decide +kernel, by decide +kernel, by decide +kernel, by decide +kernel⟩ (by decide +kernel) (by decide +kernel)) <|
  rg_fc (rg_ok_aload_n (j := 0) (by decide +kernel) rfl) <|
  rg_fc (rg_ok_iload_n (j := 1) (by decide +kernel) rfl) <|
  rg_fc (rg_ok_iconst (n := 3) (by decide +kernel) (by decide +kernel)) <|
  rg_fc (rg_ok_bipush (n := 7) (by decide +kernel) (by decide +kernel)) <|
  rg_fc (rg_ok_iconst (n := 2) (by decide +kernel) (by decide +kernel)) <|
  fun _ h => absurd h List.not_mem_nil
def rg_c100_1 : List (Nat × rg_S) := [(35, rg_sic (-2) 2), (37, rg_scV 98 5 0 0), (40, rg_sal 0 1), (41, rg_sil 1 1), (42, rg_sic 4 1), (43, rg_sic 1 1), (44, rg_sic (-1) 1), (45, rg_sic (-1) 1), (46, rg_scV 98 5 0 0), (49, rg_sal 0 1), (50, rg_sil 1 1), (51, rg_sic 5 1), (52, rg_sic 1 1), (53, rg_sic 2 1), (54, rg_sic (-2) 2), (56, rg_scV 98 5 0 0), (59, rg_sin 1 1), (62, rg_sgo 2), (65, rg_rv)]
theorem rg_o100_1 : ∀ q ∈ rg_c100_1, rg_Ok 100 q.1 q.2 :=
  rg_fc (rg_ok_bipush (n := (-2)) (by decide +kernel) (by decide +kernel)) <|
  rg_fc (rg_ok_callV (idx := 70) rg_cok0 (by decide +kernel) (by decide +kernel) rg_wm_C_70 rg_wj_98 rg_ws_98 rg_wz_0 rg_wd_98 ⟨by decide +kernel, by decide +kernel, by decide +kernel, by decide +kernel⟩ (by decide +kernel) (by decide +kernel)) <|
  rg_fc (rg_ok_aload_n (j := 0) (by decide +kernel) rfl) <|
  rg_fc (rg_ok_iload_n (j := 1) (by decide +kernel) rfl) <|
  rg_fc (rg_ok_iconst (n := 4) (by decide +kernel) (by decide +kernel)) <|
  rg_fc (rg_ok_iconst (n := 1) (by decide +kernel) (by decide +kernel)) <|
  rg_fc (rg_ok_iconst (n := (-1)) (by decide +kernel) (by decide +kernel)) <|
  rg_fc (rg_ok_iconst (n := (-1)) (by decide +kernel) (by decide +kernel)) <|
  rg_fc (rg_ok_callV (idx := 70) rg_cok0 (by decide +kernel) (by decide +kernel) rg_wm_C_70 rg_wj_98 rg_ws_98 rg_wz_0 rg_wd_98 ⟨by decide +kernel, by decide +kernel, by decide +kernel, by decide +kernel⟩ (by decide +kernel) (by decide +kernel)) <|
  rg_fc (rg_ok_aload_n (j := 0) (by decide +kernel) rfl) <|
  rg_fc (rg_ok_iload_n (j := 1) (by decide +kernel) rfl) <|
  rg_fc (rg_ok_iconst (n := 5) (by decide +kernel) (by decide +kernel)) <|
  rg_fc (rg_ok_iconst (n := 1) (by decide +kernel) (by decide +kernel)) <|
  rg_fc (rg_ok_iconst (n := 2) (by decide +kernel) (by decide +kernel)) <|
  rg_fc (rg_ok_bipush (n := (-2)) (by decide +kernel) (by decide +kernel)) <|
  rg_fc (rg_ok_callV (idx := 70) rg_cok0 (by decide +kernel) (by decide +kernel) rg_wm_C_70 rg_wj_98 rg_ws_98 rg_wz_0 rg_wd_98 ⟨by decide +kernel, by decide +kernel, by decide +kernel, by decide +kernel⟩ (by decide +kernel) (by decide +kernel)) <|
  rg_fc (rg_ok_iinc (n := 1) (by decide +kernel) (by decide +kernel) (by decide +kernel)) <|
  rg_fc (rg_ok_goto (off := (-60)) (by decide +kernel) (by decide +kernel)) <|
  rg_fc (rg_ok_return (by decide +kernel) rfl) <|
  fun _ h => absurd h List.not_mem_nil
def rg_kd100 : List (List (Nat × rg_S)) := [rg_c100_0, rg_c100_1]
theorem rg_o100 : ∀ pc f, rg_lk2 rg_kd100 pc = some f → rg_Ok 100 pc f := rg_lk2_ok (rg_fd rg_o100_0 (rg_fd rg_o100_1 (fun _ h => absurd h List.not_mem_nil)))
def rg_c101_0 : List (Nat × rg_S) := [(0, rg_sic 0 1), (1, rg_sis 1 1), (2, rg_sK [true, true, false, false] (rg_sil 1 1)), (3, rg_sal 0 1), (4, rg_sgi 0 6), (7, rg_skge 99), (10, rg_sic 8 2), (12, rg_sil 1 1), (13, rg_s2i (fun x y => x * y)), (14, rg_sis 2 1), (15, rg_sil 2 1), (16, rg_sic 6 2), (18, rg_s2i (fun x y => x + y)), (19, rg_sis 3 1), (20, rg_sK [true, true, true, true] (rg_sil 3 1)), (21, rg_sil 2 1), (22, rg_sic 7 2), (24, rg_s2i (fun x y => x + y)), (25, rg_skgt 93), (28, rg_sal 0 1), (29, rg_sgr 0 4), (32, rg_sal 0 1), (33, rg_sgr 0 1), (36, rg_sgr 2 6), (39, rg_sil 3 1)]
theorem rg_o101_0 : ∀ q ∈ rg_c101_0, rg_Ok 101 q.1 q.2 :=
  rg_fc (rg_ok_iconst (n := 0) (by decide +kernel) (by decide +kernel)) <|
  rg_fc (rg_ok_istore_n (j := 1) (by decide +kernel) rfl (by decide +kernel)) <|
  rg_fc (rg_okK _ (rg_ok_iload_n (j := 1) (by decide +kernel) rfl)) <|
  rg_fc (rg_ok_aload_n (j := 0) (by decide +kernel) rfl) <|
  rg_fc (rg_ok_geti (idx := 41) rg_cok0 (by decide +kernel) rfl (by decide +kernel) rg_wf_C_41) <|
  rg_fc (rg_ok_icmp_ge (off := 92) (by decide +kernel) (by decide +kernel)) <|
  rg_fc (rg_ok_bipush (n := 8) (by decide +kernel) (by decide +kernel)) <|
  rg_fc (rg_ok_iload_n (j := 1) (by decide +kernel) rfl) <|
  rg_fc (rg_ok_imul (by decide +kernel)) <|
  rg_fc (rg_ok_istore_n (j := 2) (by decide +kernel) rfl (by decide +kernel)) <|
  rg_fc (rg_ok_iload_n (j := 2) (by decide +kernel) rfl) <|
  rg_fc (rg_ok_bipush (n := 6) (by decide +kernel) (by decide +kernel)) <|
  rg_fc (rg_ok_iadd (by decide +kernel)) <|
  rg_fc (rg_ok_istore_n (j := 3) (by decide +kernel) rfl (by decide +kernel)) <|
  rg_fc (rg_okK _ (rg_ok_iload_n (j := 3) (by decide +kernel) rfl)) <|
  rg_fc (rg_ok_iload_n (j := 2) (by decide +kernel) rfl) <|
  rg_fc (rg_ok_bipush (n := 7) (by decide +kernel) (by decide +kernel)) <|
  rg_fc (rg_ok_iadd (by decide +kernel)) <|
  rg_fc (rg_ok_icmp_gt (off := 68) (by decide +kernel) (by decide +kernel)) <|
  rg_fc (rg_ok_aload_n (j := 0) (by decide +kernel) rfl) <|
  rg_fc (rg_ok_getr (idx := 22) rg_cok0 (by decide +kernel) rfl (by decide +kernel) rg_wf_C_22) <|
  rg_fc (rg_ok_aload_n (j := 0) (by decide +kernel) rfl) <|
  rg_fc (rg_ok_getr (idx := 32) rg_cok0 (by decide +kernel) rfl (by decide +kernel) rg_wf_C_32) <|
  rg_fc (rg_ok_getr (idx := 63) rg_cok2 (by decide +kernel) rfl (by decide +kernel) rg_wf_C_63) <|
  rg_fc (rg_ok_iload_n (j := 3) (by decide +kernel) rfl) <|
  fun _ h => absurd h List.not_mem_nil
def rg_c101_1 : List (Nat × rg_S) := [(40, rg_saq), (41, rg_scV 53 1 0 1), (44, rg_sal 0 1), (45, rg_sgr 0 0), (48, rg_sal 0 1), (49, rg_sgr 0 4), (52, rg_sal 0 1), (53, rg_sgr 0 1), (56, rg_sgr 2 5), (59, rg_sil 3 1), (60, rg_saq), (61, rg_scV 54 2 0 4), (64, rg_sal 0 1), (65, rg_sgr 0 0), (68, rg_sal 0 1), (69, rg_sgr 0 1), (72, rg_sgr 2 6), (75, rg_sil 2 1), (76, rg_sic 0 1), (77, rg_s2i (fun x y => x + y)), (78, rg_saq), (79, rg_sal 0 1), (80, rg_sgr 0 4), (83, rg_sic 1 1), (84, rg_scV 51 3 0 4)]
theorem rg_o101_1 : ∀ q ∈ rg_c101_1, rg_Ok 101 q.1 q.2 :=
  rg_fc (rg_ok_aaload (by decide +kernel)) <|
  rg_fc (rg_ok_callV (idx := 53) rg_cok1 (by decide +kernel) (by decide +kernel) rg_wm_C_53 rg_wj_53 rg_ws_53 rg_wz_1 rg_wd_53 ⟨by decide +kernel, by decide +kernel, by decide +kernel, by decide +kernel⟩ (by decide +kernel) (by decide +kernel)) <|
  rg_fc (rg_ok_aload_n (j := 0) (by decide +kernel) rfl) <|
  rg_fc (rg_ok_getr (idx := 28) rg_cok0 (by decide +kernel) rfl (by decide +kernel) rg_wf_C_28) <|
  rg_fc (rg_ok_aload_n (j := 0) (by decide +kernel) rfl) <|
  rg_fc (rg_ok_getr (idx := 22) rg_cok0 (by decide +kernel) rfl (by decide +kernel) rg_wf_C_22) <|
  rg_fc (rg_ok_aload_n (j := 0) (by decide +kernel) rfl) <|
  rg_fc (rg_ok_getr (idx := 32) rg_cok0 (by decide +kernel) rfl (by decide +kernel) rg_wf_C_32) <|
  rg_fc (rg_ok_getr (idx := 36) rg_cok2 (by decide +kernel) rfl (by decide +kernel) rg_wf_C_36) <|
  rg_fc (rg_ok_iload_n (j := 3) (by decide +kernel) rfl) <|
  rg_fc (rg_ok_aaload (by decide +kernel)) <|
  rg_fc (rg_ok_callV (idx := 57) rg_cok4 (by decide +kernel) (by decide +kernel) rg_wm_C_57 rg_wj_54 rg_ws_54 rg_wz_4 rg_wd_54 ⟨by decide +kernel, by decide +kernel, by decide +kernel, by decide +kernel⟩ (by decide +kernel) (by decide +kernel)) <|
  rg_fc (rg_ok_aload_n (j := 0) (by decide +kernel) rfl) <|
  rg_fc (rg_ok_getr (idx := 28) rg_cok0 (by decide +kernel) rfl (by decide +kernel) rg_wf_C_28) <|
  rg_fc (rg_ok_aload_n (j := 0) (by decide +kernel) rfl) <|
  rg_fc (rg_ok_getr (idx := 32) rg_cok0 (by decide +kernel) rfl (by decide +kernel) rg_wf_C_32) <|
  rg_fc (rg_ok_getr (idx := 63) rg_cok2 (by decide +kernel) rfl (by decide +kernel) rg_wf_C_63) <|
  rg_fc (rg_ok_iload_n (j := 2) (by decide +kernel) rfl) <|
  rg_fc (rg_ok_iconst (n := 0) (by decide +kernel) (by decide +kernel)) <|
  rg_fc (rg_ok_iadd (by decide +kernel)) <|
  rg_fc (rg_ok_aaload (by decide +kernel)) <|
  rg_fc (rg_ok_aload_n (j := 0) (by decide +kernel) rfl) <|
  rg_fc (rg_ok_getr (idx := 22) rg_cok0 (by decide +kernel) rfl (by decide +kernel) rg_wf_C_22) <|
  rg_fc (rg_ok_iconst (n := 1) (by decide +kernel) (by decide +kernel)) <|
  rg_fc (rg_ok_callV (idx := 66) rg_cok4 (by decide +kernel) (by decide +kernel) rg_wm_C_66 rg_wj_51 rg_ws_51 rg_wz_4 rg_wd_51 ⟨by decide +kernel, by decide +kernel, by decide +kernel, by decide +kernel⟩ (by decide +kernel) (by decide +kernel)) <|
  fun _ h => absurd h List.not_mem_nil
def rg_c101_2 : List (Nat × rg_S) := [(87, rg_sin 3 1), (90, rg_sgo 20), (93, rg_sin 1 1), (96, rg_sgo 2), (99, rg_rv)]
theorem rg_o101_2 : ∀ q ∈ rg_c101_2, rg_Ok 101 q.1 q.2 :=
  rg_fc (rg_ok_iinc (n := 1) (by decide +kernel) (by decide +kernel) (by decide +kernel)) <|
  rg_fc (rg_ok_goto (off := (-70)) (by decide +kernel) (by decide +kernel)) <|
  rg_fc (rg_ok_iinc (n := 1) (by decide +kernel) (by decide +kernel) (by decide +kernel)) <|
  rg_fc (rg_ok_goto (off := (-94)) (by decide +kernel) (by decide +kernel)) <|
  rg_fc (rg_ok_return (by decide +kernel) rfl) <|
  fun _ h => absurd h List.not_mem_nil
def rg_kd101 : List (List (Nat × rg_S)) := [rg_c101_0, rg_c101_1, rg_c101_2]
theorem rg_o101 : ∀ pc f, rg_lk2 rg_kd101 pc = some f → rg_Ok 101 pc f := rg_lk2_ok (rg_fd rg_o101_0 (rg_fd rg_o101_1 (rg_fd rg_o101_2 (fun _ h => absurd h List.not_mem_nil))))
def rg_c102_0 : List (Nat × rg_S) := [(0, rg_sal 0 1), (1, rg_sgr 0 1), (4, rg_sal 0 1), (5, rg_sgr 0 1), (8, rg_sgr 2 1), (11, rg_scV 95 1 0 2), (14, rg_sal 0 1), (15, rg_scV 96 0 0 0), (18, rg_sal 0 1), (19, rg_sgr 0 1), (22, rg_scV 97 0 0 2), (25, rg_sal 0 1), (26, rg_scV 99 0 0 0), (29, rg_sal 0 1), (30, rg_scV 100 0 0 0), (33, rg_sal 0 1), (34, rg_scV 101 0 0 0), (37, rg_sic 0 1), (38, rg_sis 1 1), (39, rg_sK [true, true] (rg_sil 1 1)), (40, rg_sic 8 2), (42, rg_sal 0 1), (43, rg_sgi 0 6), (46, rg_s2i (fun x y => x * y)), (47, rg_skge 76)]
theorem rg_o102_0 : ∀ q ∈ rg_c102_0, rg_Ok 102 q.1 q.2 :=
  rg_fc (rg_ok_aload_n (j := 0) (by decide +kernel) rfl) <|
  rg_fc (rg_ok_getr (idx := 32) rg_cok0 (by decide +kernel) rfl (by decide +kernel) rg_wf_C_32) <|
  rg_fc (rg_ok_aload_n (j := 0) (by decide +kernel) rfl) <|
  rg_fc (rg_ok_getr (idx := 32) rg_cok0 (by decide +kernel) rfl (by decide +kernel) rg_wf_C_32) <|
  rg_fc (rg_ok_getr (idx := 74) rg_cok2 (by decide +kernel) rfl (by decide +kernel) rg_wf_C_74) <|
  rg_fc (rg_ok_callV (idx := 77) rg_cok2 (by decide +kernel) (by decide +kernel) rg_wm_C_77 rg_wj_95 rg_ws_95 rg_wz_2 rg_wd_95 ⟨by decide +kernel, by decide +kernel, by decide +kernel, by decide +kernel⟩ (by decide +kernel) (by decide +kernel)) <|
  rg_fc (rg_ok_aload_n (j := 0) (by decide +kernel) rfl) <|
  rg_fc (rg_ok_callV (idx := 81) rg_cok0 (by decide +kernel) (by decide +kernel) rg_wm_C_81 rg_wj_96 rg_ws_96 rg_wz_0 rg_wd_96 ⟨by decide +kernel, by decide +kernel, by decide +kernel, by decide +kernel⟩ (by decide +kernel) (by decide +kernel)) <|
  rg_fc (rg_ok_aload_n (j := 0) (by decide +kernel) rfl) <|
  rg_fc (rg_ok_getr (idx := 32) rg_cok0 (by decide +kernel) rfl (by decide +kernel) rg_wf_C_32) <|
  rg_fc (rg_ok_callV (idx := 84) rg_cok2 (by decide +kernel) (by decide +kernel) rg_wm_C_84 rg_wj_97 rg_ws_97 rg_wz_2 rg_wd_97 ⟨by decide +kernel, by decide +kernel, by decide +kernel, by decide +kernel⟩ (by decide +kernel) (by decide +kernel)) <|
  rg_fc (rg_ok_aload_n (j := 0) (by decide +kernel) rfl) <|
  rg_fc (rg_ok_callV (idx := 87) rg_cok0 (by decide +kernel) (by decide +kernel) rg_wm_C_87 rg_wj_99 rg_ws_99 rg_wz_0 rg_wd_99 ⟨by decide +kernel, by decide +kernel, by decide +kernel, by decide +kernel⟩ (by decide +kernel) (by decide +kernel)) <|
  rg_fc (rg_ok_aload_n (j := 0) (by decide +kernel) rfl) <|
  rg_fc (rg_ok_callV (idx := 90) rg_cok0 (by decide +kernel) (by decide +kernel) rg_wm_C_90 rg_wj_100 rg_ws_100 rg_wz_0 rg_wd_100 ⟨by decide +kernel, by decide +kernel, by decide +kernel, by decide +kernel⟩ (by decide +kernel) (by decide +kernel)) <|
  rg_fc (rg_ok_aload_n (j := 0) (by decide +kernel) rfl) <|
  rg_fc (rg_ok_callV (idx := 93) rg_cok0 (by decide +kernel) (by decide +kernel) rg_wm_C_93 rg_wj_101 rg_ws_101 rg_wz_0 rg_wd_101 ⟨by decide +kernel, by decide +kernel, by decide +kernel, by decide +kernel⟩ (by decide +kernel) (by decide +kernel)) <|
  rg_fc (rg_ok_iconst (n := 0) (by decide +kernel) (by decide +kernel)) <|
  rg_fc (rg_ok_istore_n (j := 1) (by decide +kernel) rfl (by decide +kernel)) <|
  rg_fc (rg_okK _ (rg_ok_iload_n (j := 1) (by decide +kernel) rfl)) <|
  rg_fc (rg_ok_bipush (n := 8) (by decide +kernel) (by decide +kernel)) <|
  rg_fc (rg_ok_aload_n (j := 0) (by decide +kernel) rfl) <|
  rg_fc (rg_ok_geti (idx := 41) rg_cok0 (by decide +kernel) rfl (by decide +kernel) rg_wf_C_41) <|
  rg_fc (rg_ok_imul (by decide +kernel)) <|
  rg_fc (rg_ok_icmp_ge (off := 29) (by decide +kernel) (by decide +kernel)) <|
  fun _ h => absurd h List.not_mem_nil
def rg_c102_1 : List (Nat × rg_S) := [(50, rg_sal 0 1), (51, rg_sgr 0 0), (54, rg_sal 0 1), (55, rg_sgr 0 1), (58, rg_sgr 2 6), (61, rg_sil 1 1), (62, rg_saq), (63, rg_sal 0 1), (64, rg_sgr 0 3), (67, rg_scV 54 2 0 4), (70, rg_sin 1 1), (73, rg_sgo 39), (76, rg_sic 0 1), (77, rg_sis 1 1), (78, rg_sK [true, true] (rg_sil 1 1)), (79, rg_sal 0 1), (80, rg_sgr 0 1), (83, rg_sgi 2 10), (86, rg_skge 112), (89, rg_sal 0 1), (90, rg_sgr 0 1), (93, rg_sil 1 1), (94, rg_sal 0 1), (95, rg_sgr 0 2), (98, rg_scV 62 2 1 2)]
theorem rg_o102_1 : ∀ q ∈ rg_c102_1, rg_Ok 102 q.1 q.2 :=
  rg_fc (rg_ok_aload_n (j := 0) (by decide +kernel) rfl) <|
  rg_fc (rg_ok_getr (idx := 28) rg_cok0 (by decide +kernel) rfl (by decide +kernel) rg_wf_C_28) <|
  rg_fc (rg_ok_aload_n (j := 0) (by decide +kernel) rfl) <|
  rg_fc (rg_ok_getr (idx := 32) rg_cok0 (by decide +kernel) rfl (by decide +kernel) rg_wf_C_32) <|
  rg_fc (rg_ok_getr (idx := 63) rg_cok2 (by decide +kernel) rfl (by decide +kernel) rg_wf_C_63) <|
  rg_fc (rg_ok_iload_n (j := 1) (by decide +kernel) rfl) <|
  rg_fc (rg_ok_aaload (by decide +kernel)) <|
  rg_fc (rg_ok_aload_n (j := 0) (by decide +kernel) rfl) <|
  rg_fc (rg_ok_getr (idx := 18) rg_cok0 (by decide +kernel) rfl (by decide +kernel) rg_wf_C_18) <|
  rg_fc (rg_ok_callV (idx := 57) rg_cok4 (by decide +kernel) (by decide +kernel) rg_wm_C_57 rg_wj_54 rg_ws_54 rg_wz_4 rg_wd_54 ⟨by decide +kernel, by decide +kernel, by decide +kernel, by decide +kernel⟩ (by decide +kernel) (by decide +kernel)) <|
  rg_fc (rg_ok_iinc (n := 1) (by decide +kernel) (by decide +kernel) (by decide +kernel)) <|
  rg_fc (rg_ok_goto (off := (-34)) (by decide +kernel) (by decide +kernel)) <|
  rg_fc (rg_ok_iconst (n := 0) (by decide +kernel) (by decide +kernel)) <|
  rg_fc (rg_ok_istore_n (j := 1) (by decide +kernel) rfl (by decide +kernel)) <|
  rg_fc (rg_okK _ (rg_ok_iload_n (j := 1) (by decide +kernel) rfl)) <|
  rg_fc (rg_ok_aload_n (j := 0) (by decide +kernel) rfl) <|
  rg_fc (rg_ok_getr (idx := 32) rg_cok0 (by decide +kernel) rfl (by decide +kernel) rg_wf_C_32) <|
  rg_fc (rg_ok_geti (idx := 96) rg_cok2 (by decide +kernel) rfl (by decide +kernel) rg_wf_C_96) <|
  rg_fc (rg_ok_icmp_ge (off := 26) (by decide +kernel) (by decide +kernel)) <|
  rg_fc (rg_ok_aload_n (j := 0) (by decide +kernel) rfl) <|
  rg_fc (rg_ok_getr (idx := 32) rg_cok0 (by decide +kernel) rfl (by decide +kernel) rg_wf_C_32) <|
  rg_fc (rg_ok_iload_n (j := 1) (by decide +kernel) rfl) <|
  rg_fc (rg_ok_aload_n (j := 0) (by decide +kernel) rfl) <|
  rg_fc (rg_ok_getr (idx := 11) rg_cok0 (by decide +kernel) rfl (by decide +kernel) rg_wf_C_11) <|
  rg_fc (rg_ok_callV (idx := 99) rg_cok2 (by decide +kernel) (by decide +kernel) rg_wm_C_99 rg_wj_62 rg_ws_62 rg_wz_2 rg_wd_62 ⟨by decide +kernel, by decide +kernel, by decide +kernel, by decide +kernel⟩ (by decide +kernel) (by decide +kernel)) <|
  fun _ h => absurd h List.not_mem_nil
def rg_c102_2 : List (Nat × rg_S) := [(101, rg_sjne 106), (104, rg_sic 0 1), (105, rg_rz), (106, rg_sin 1 1), (109, rg_sgo 78), (112, rg_sic 1 1), (113, rg_rz)]
theorem rg_o102_2 : ∀ q ∈ rg_c102_2, rg_Ok 102 q.1 q.2 :=
  rg_fc (rg_ok_if_ne (off := 5) (by decide +kernel) (by decide +kernel)) <|
  rg_fc (rg_ok_iconst (n := 0) (by decide +kernel) (by decide +kernel)) <|
  rg_fc (rg_ok_zreturn (by decide +kernel) rfl) <|
  rg_fc (rg_ok_iinc (n := 1) (by decide +kernel) (by decide +kernel) (by decide +kernel)) <|
  rg_fc (rg_ok_goto (off := (-31)) (by decide +kernel) (by decide +kernel)) <|
  rg_fc (rg_ok_iconst (n := 1) (by decide +kernel) (by decide +kernel)) <|
  rg_fc (rg_ok_zreturn (by decide +kernel) rfl) <|
  fun _ h => absurd h List.not_mem_nil
def rg_kd102 : List (List (Nat × rg_S)) := [rg_c102_0, rg_c102_1, rg_c102_2]
theorem rg_o102 : ∀ pc f, rg_lk2 rg_kd102 pc = some f → rg_Ok 102 pc f := rg_lk2_ok (rg_fd rg_o102_0 (rg_fd rg_o102_1 (rg_fd rg_o102_2 (fun _ h => absurd h List.not_mem_nil))))
def rg_c121_0 : List (Nat × rg_S) := [(0, rg_sal 0 1), (1, rg_sgr 0 5), (4, rg_sal 0 1), (5, rg_sgr 0 1), (8, rg_sgr 2 6), (11, rg_sil 1 1), (12, rg_saq), (13, rg_scV 53 1 0 1), (16, rg_sal 0 1), (17, rg_sgr 0 0), (20, rg_sal 0 1), (21, rg_sgr 0 5), (24, rg_sal 0 1), (25, rg_sgr 0 1), (28, rg_sgr 2 6), (31, rg_sil 1 1), (32, rg_sic 1 1), (33, rg_s2i (fun x y => x + y)), (34, rg_saq), (35, rg_scV 120 2 0 4), (38, rg_rv)]
theorem rg_o121_0 : ∀ q ∈ rg_c121_0, rg_Ok 121 q.1 q.2 :=
  rg_fc (rg_ok_aload_n (j := 0) (by decide +kernel) rfl) <|
  rg_fc (rg_ok_getr (idx := 25) rg_cok0 (by decide +kernel) rfl (by decide +kernel) rg_wf_C_25) <|
  rg_fc (rg_ok_aload_n (j := 0) (by decide +kernel) rfl) <|
  rg_fc (rg_ok_getr (idx := 32) rg_cok0 (by decide +kernel) rfl (by decide +kernel) rg_wf_C_32) <|
  rg_fc (rg_ok_getr (idx := 63) rg_cok2 (by decide +kernel) rfl (by decide +kernel) rg_wf_C_63) <|
  rg_fc (rg_ok_iload_n (j := 1) (by decide +kernel) rfl) <|
  rg_fc (rg_ok_aaload (by decide +kernel)) <|
  rg_fc (rg_ok_callV (idx := 53) rg_cok1 (by decide +kernel) (by decide +kernel) rg_wm_C_53 rg_wj_53 rg_ws_53 rg_wz_1 rg_wd_53 ⟨by decide +kernel, by decide +kernel, by decide +kernel, by decide +kernel⟩ (by decide +kernel) (by decide +kernel)) <|
  rg_fc (rg_ok_aload_n (j := 0) (by decide +kernel) rfl) <|
  rg_fc (rg_ok_getr (idx := 28) rg_cok0 (by decide +kernel) rfl (by decide +kernel) rg_wf_C_28) <|
  rg_fc (rg_ok_aload_n (j := 0) (by decide +kernel) rfl) <|
  rg_fc (rg_ok_getr (idx := 25) rg_cok0 (by decide +kernel) rfl (by decide +kernel) rg_wf_C_25) <|
  rg_fc (rg_ok_aload_n (j := 0) (by decide +kernel) rfl) <|
  rg_fc (rg_ok_getr (idx := 32) rg_cok0 (by decide +kernel) rfl (by decide +kernel) rg_wf_C_32) <|
  rg_fc (rg_ok_getr (idx := 63) rg_cok2 (by decide +kernel) rfl (by decide +kernel) rg_wf_C_63) <|
  rg_fc (rg_ok_iload_n (j := 1) (by decide +kernel) rfl) <|
  rg_fc (rg_ok_iconst (n := 1) (by decide +kernel) (by decide +kernel)) <|
  rg_fc (rg_ok_iadd (by decide +kernel)) <|
  rg_fc (rg_ok_aaload (by decide +kernel)) <|
  rg_fc (rg_ok_callV (idx := 116) rg_cok4 (by decide +kernel) (by decide +kernel) rg_wm_C_116 rg_wj_120 rg_ws_120 rg_wz_4 rg_wd_120 ⟨by decide +kernel, by decide +kernel, by decide +kernel, by decide +kernel⟩ (by decide +kernel) (by decide +kernel)) <|
  rg_fc (rg_ok_return (by decide +kernel) rfl) <|
  fun _ h => absurd h List.not_mem_nil
def rg_kd121 : List (List (Nat × rg_S)) := [rg_c121_0]
theorem rg_o121 : ∀ pc f, rg_lk2 rg_kd121 pc = some f → rg_Ok 121 pc f := rg_lk2_ok (rg_fd rg_o121_0 (fun _ h => absurd h List.not_mem_nil))
def rg_c122_0 : List (Nat × rg_S) := [(0, rg_sic 0 1), (1, rg_sis 2 1), (2, rg_sK [true, true, true, false] (rg_sil 2 1)), (3, rg_sal 0 1), (4, rg_sgi 0 6), (7, rg_skge 72), (10, rg_sic 8 2), (12, rg_sil 2 1), (13, rg_s2i (fun x y => x * y)), (14, rg_sis 3 1), (15, rg_sal 0 1), (16, rg_sil 3 1), (17, rg_sic 6 2), (19, rg_s2i (fun x y => x + y)), (20, rg_scV 121 1 0 0), (23, rg_sal 0 1), (24, rg_sgr 0 0), (27, rg_sal 0 1), (28, rg_sgr 0 1), (31, rg_sgr 2 6), (34, rg_sil 3 1), (35, rg_sic 0 1), (36, rg_s2i (fun x y => x + y)), (37, rg_saq), (38, rg_sal 0 1)]
theorem rg_o122_0 : ∀ q ∈ rg_c122_0, rg_Ok 122 q.1 q.2 :=
  rg_fc (rg_ok_iconst (n := 0) (by decide +kernel) (by decide +kernel)) <|
  rg_fc (rg_ok_istore_n (j := 2) (by decide +kernel) rfl (by decide +kernel)) <|
  rg_fc (rg_okK _ (rg_ok_iload_n (j := 2) (by decide +kernel) rfl)) <|
  rg_fc (rg_ok_aload_n (j := 0) (by decide +kernel) rfl) <|
  rg_fc (rg_ok_geti (idx := 41) rg_cok0 (by decide +kernel) rfl (by decide +kernel) rg_wf_C_41) <|
  rg_fc (rg_ok_icmp_ge (off := 65) (by decide +kernel) (by decide +kernel)) <|
  rg_fc (rg_ok_bipush (n := 8) (by decide +kernel) (by decide +kernel)) <|
  rg_fc (rg_ok_iload_n (j := 2) (by decide +kernel) rfl) <|
  rg_fc (rg_ok_imul (by decide +kernel)) <|
  rg_fc (rg_ok_istore_n (j := 3) (by decide +kernel) rfl (by decide +kernel)) <|
  rg_fc (rg_ok_aload_n (j := 0) (by decide +kernel) rfl) <|
  rg_fc (rg_ok_iload_n (j := 3) (by decide +kernel) rfl) <|
  rg_fc (rg_ok_bipush (n := 6) (by decide +kernel) (by decide +kernel)) <|
  rg_fc (rg_ok_iadd (by decide +kernel)) <|
  rg_fc (rg_ok_callV (idx := 112) rg_cok0 (by decide +kernel) (by decide +kernel) rg_wm_C_112 rg_wj_121 rg_ws_121 rg_wz_0 rg_wd_121 ⟨by decide +kernel, by decide +kernel, by decide +kernel, by decide +kernel⟩ (by decide +kernel) (by decide +kernel)) <|
  rg_fc (rg_ok_aload_n (j := 0) (by decide +kernel) rfl) <|
  rg_fc (rg_ok_getr (idx := 28) rg_cok0 (by decide +kernel) rfl (by decide +kernel) rg_wf_C_28) <|
  rg_fc (rg_ok_aload_n (j := 0) (by decide +kernel) rfl) <|
  rg_fc (rg_ok_getr (idx := 32) rg_cok0 (by decide +kernel) rfl (by decide +kernel) rg_wf_C_32) <|
  rg_fc (rg_ok_getr (idx := 63) rg_cok2 (by decide +kernel) rfl (by decide +kernel) rg_wf_C_63) <|
  rg_fc (rg_ok_iload_n (j := 3) (by decide +kernel) rfl) <|
  rg_fc (rg_ok_iconst (n := 0) (by decide +kernel) (by decide +kernel)) <|
  rg_fc (rg_ok_iadd (by decide +kernel)) <|
  rg_fc (rg_ok_aaload (by decide +kernel)) <|
  rg_fc (rg_ok_aload_n (j := 0) (by decide +kernel) rfl) <|
  fun _ h => absurd h List.not_mem_nil
def rg_c122_1 : List (Nat × rg_S) := [(39, rg_sgr 0 5), (42, rg_sic 1 1), (43, rg_scV 51 3 0 4), (46, rg_sal 0 1), (47, rg_sil 3 1), (48, rg_sic 0 1), (49, rg_s2i (fun x y => x + y)), (50, rg_scV 121 1 0 0), (53, rg_sal 0 1), (54, rg_sgr 0 0), (57, rg_sal 1 1), (58, rg_sal 0 1), (59, rg_sgr 0 5), (62, rg_sic 1 1), (63, rg_scV 51 3 0 4), (66, rg_sin 2 1), (69, rg_sgo 2), (72, rg_rv)]
theorem rg_o122_1 : ∀ q ∈ rg_c122_1, rg_Ok 122 q.1 q.2 :=
  rg_fc (rg_ok_getr (idx := 25) rg_cok0 (by decide +kernel) rfl (by decide +kernel) rg_wf_C_25) <|
  rg_fc (rg_ok_iconst (n := 1) (by decide +kernel) (by decide +kernel)) <|
  rg_fc (rg_ok_callV (idx := 66) rg_cok4 (by decide +kernel) (by decide +kernel) rg_wm_C_66 rg_wj_51 rg_ws_51 rg_wz_4 rg_wd_51 ⟨by decide +kernel, by decide +kernel, by decide +kernel, by decide +kernel⟩ (by decide +kernel) (by decide +kernel)) <|
  rg_fc (rg_ok_aload_n (j := 0) (by decide +kernel) rfl) <|
  rg_fc (rg_ok_iload_n (j := 3) (by decide +kernel) rfl) <|
  rg_fc (rg_ok_iconst (n := 0) (by decide +kernel) (by decide +kernel)) <|
  rg_fc (rg_ok_iadd (by decide +kernel)) <|
  rg_fc (rg_ok_callV (idx := 112) rg_cok0 (by decide +kernel) (by decide +kernel) rg_wm_C_112 rg_wj_121 rg_ws_121 rg_wz_0 rg_wd_121 ⟨by decide +kernel, by decide +kernel, by decide +kernel, by decide +kernel⟩ (by decide +kernel) (by decide +kernel)) <|
  rg_fc (rg_ok_aload_n (j := 0) (by decide +kernel) rfl) <|
  rg_fc (rg_ok_getr (idx := 28) rg_cok0 (by decide +kernel) rfl (by decide +kernel) rg_wf_C_28) <|
  rg_fc (rg_ok_aload_n (j := 1) (by decide +kernel) rfl) <|
  rg_fc (rg_ok_aload_n (j := 0) (by decide +kernel) rfl) <|
  rg_fc (rg_ok_getr (idx := 25) rg_cok0 (by decide +kernel) rfl (by decide +kernel) rg_wf_C_25) <|
  rg_fc (rg_ok_iconst (n := 1) (by decide +kernel) (by decide +kernel)) <|
  rg_fc (rg_ok_callV (idx := 66) rg_cok4 (by decide +kernel) (by decide +kernel) rg_wm_C_66 rg_wj_51 rg_ws_51 rg_wz_4 rg_wd_51 ⟨by decide +kernel, by decide +kernel, by decide +kernel, by decide +kernel⟩ (by decide +kernel) (by decide +kernel)) <|
  rg_fc (rg_ok_iinc (n := 1) (by decide +kernel) (by decide +kernel) (by decide +kernel)) <|
  rg_fc (rg_ok_goto (off := (-67)) (by decide +kernel) (by decide +kernel)) <|
  rg_fc (rg_ok_return (by decide +kernel) rfl) <|
  fun _ h => absurd h List.not_mem_nil
def rg_kd122 : List (List (Nat × rg_S)) := [rg_c122_0, rg_c122_1]
theorem rg_o122 : ∀ pc f, rg_lk2 rg_kd122 pc = some f → rg_Ok 122 pc f := rg_lk2_ok (rg_fd rg_o122_0 (rg_fd rg_o122_1 (fun _ h => absurd h List.not_mem_nil)))
def rg_c123_0 : List (Nat × rg_S) := [(0, rg_sic 0 1), (1, rg_sis 2 1), (2, rg_sK [true, true, true, false] (rg_sil 2 1)), (3, rg_sal 0 1), (4, rg_sgi 0 6), (7, rg_skge 61), (10, rg_sic 8 2), (12, rg_sil 2 1), (13, rg_s2i (fun x y => x * y)), (14, rg_sis 3 1), (15, rg_sal 0 1), (16, rg_sil 3 1), (17, rg_sic 2 1), (18, rg_s2i (fun x y => x + y)), (19, rg_scV 121 1 0 0), (22, rg_sal 0 1), (23, rg_sgr 0 0), (26, rg_sal 1 1), (27, rg_sal 0 1), (28, rg_sgr 0 5), (31, rg_sic 1 1), (32, rg_scV 51 3 0 4), (35, rg_sal 0 1), (36, rg_sil 3 1), (37, rg_sic 4 1)]
theorem rg_o123_0 : ∀ q ∈ rg_c123_0, rg_Ok 123 q.1 q.2 :=
  rg_fc (rg_ok_iconst (n := 0) (by decide +kernel) (by decide +kernel)) <|
  rg_fc (rg_ok_istore_n (j := 2) (by decide +kernel) rfl (by decide +kernel)) <|
  rg_fc (rg_okK _ (rg_ok_iload_n (j := 2) (by decide +kernel) rfl)) <|
  rg_fc (rg_ok_aload_n (j := 0) (by decide +kernel) rfl) <|
  rg_fc (rg_ok_geti (idx := 41) rg_cok0 (by decide +kernel) rfl (by decide +kernel) rg_wf_C_41) <|
  rg_fc (rg_ok_icmp_ge (off := 54) (by decide +kernel) (by decide +kernel)) <|
  rg_fc (rg_ok_bipush (n := 8) (by decide +kernel) (by decide +kernel)) <|
  rg_fc (rg_ok_iload_n (j := 2) (by decide +kernel) rfl) <|
  rg_fc (rg_ok_imul (by decide +kernel)) <|
  rg_fc (rg_ok_istore_n (j := 3) (by decide +kernel) rfl (by decide +kernel)) <|
  rg_fc (rg_ok_aload_n (j := 0) (by decide +kernel) rfl) <|
  rg_fc (rg_ok_iload_n (j := 3) (by decide +kernel) rfl) <|
  rg_fc (rg_ok_iconst (n := 2) (by decide +kernel) (by decide +kernel)) <|
  rg_fc (rg_ok_iadd (by decide +kernel)) <|
  rg_fc (rg_ok_callV (idx := 112) rg_cok0 (by decide +kernel) (by decide +kernel) rg_wm_C_112 rg_wj_121 rg_ws_121 rg_wz_0 rg_wd_121 ⟨by decide +kernel, by decide +kernel, by decide +kernel, by decide +kernel⟩ (by decide +kernel) (by decide +kernel)) <|
  rg_fc (rg_ok_aload_n (j := 0) (by decide +kernel) rfl) <|
  rg_fc (rg_ok_getr (idx := 28) rg_cok0 (by decide +kernel) rfl (by decide +kernel) rg_wf_C_28) <|
  rg_fc (rg_ok_aload_n (j := 1) (by decide +kernel) rfl) <|
  rg_fc (rg_ok_aload_n (j := 0) (by decide +kernel) rfl) <|
  rg_fc (rg_ok_getr (idx := 25) rg_cok0 (by decide +kernel) rfl (by decide +kernel) rg_wf_C_25) <|
  rg_fc (rg_ok_iconst (n := 1) (by decide +kernel) (by decide +kernel)) <|
  rg_fc (rg_ok_callV (idx := 66) rg_cok4 (by decide +kernel) (by decide +kernel) rg_wm_C_66 rg_wj_51 rg_ws_51 rg_wz_4 rg_wd_51 ⟨by decide +kernel, by decide +kernel, by decide +kernel, by decide +kernel⟩ (by decide +kernel) (by decide +kernel)) <|
  rg_fc (rg_ok_aload_n (j := 0) (by decide +kernel) rfl) <|
  rg_fc (rg_ok_iload_n (j := 3) (by decide +kernel) rfl) <|
  rg_fc (rg_ok_iconst (n := 4) (by decide +kernel) (by decide +kernel)) <|
  fun _ h => absurd h List.not_mem_nil
def rg_c123_1 : List (Nat × rg_S) := [(38, rg_s2i (fun x y => x + y)), (39, rg_scV 121 1 0 0), (42, rg_sal 0 1), (43, rg_sgr 0 0), (46, rg_sal 1 1), (47, rg_sal 0 1), (48, rg_sgr 0 5), (51, rg_sic 1 1), (52, rg_scV 51 3 0 4), (55, rg_sin 2 1), (58, rg_sgo 2), (61, rg_rv)]
theorem rg_o123_1 : ∀ q ∈ rg_c123_1, rg_Ok 123 q.1 q.2 :=
  rg_fc (rg_ok_iadd (by decide +kernel)) <|
  rg_fc (rg_ok_callV (idx := 112) rg_cok0 (by decide +kernel) (by decide +kernel) rg_wm_C_112 rg_wj_121 rg_ws_121 rg_wz_0 rg_wd_121 ⟨by decide +kernel, by decide +kernel, by decide +kernel, by decide +kernel⟩ (by decide +kernel) (by decide +kernel)) <|
  rg_fc (rg_ok_aload_n (j := 0) (by decide +kernel) rfl) <|
  rg_fc (rg_ok_getr (idx := 28) rg_cok0 (by decide +kernel) rfl (by decide +kernel) rg_wf_C_28) <|
  rg_fc (rg_ok_aload_n (j := 1) (by decide +kernel) rfl) <|
  rg_fc (rg_ok_aload_n (j := 0) (by decide +kernel) rfl) <|
  rg_fc (rg_ok_getr (idx := 25) rg_cok0 (by decide +kernel) rfl (by decide +kernel) rg_wf_C_25) <|
  rg_fc (rg_ok_iconst (n := 1) (by decide +kernel) (by decide +kernel)) <|
  rg_fc (rg_ok_callV (idx := 66) rg_cok4 (by decide +kernel) (by decide +kernel) rg_wm_C_66 rg_wj_51 rg_ws_51 rg_wz_4 rg_wd_51 ⟨by decide +kernel, by decide +kernel, by decide +kernel, by decide +kernel⟩ (by decide +kernel) (by decide +kernel)) <|
  rg_fc (rg_ok_iinc (n := 1) (by decide +kernel) (by decide +kernel) (by decide +kernel)) <|
  rg_fc (rg_ok_goto (off := (-56)) (by decide +kernel) (by decide +kernel)) <|
  rg_fc (rg_ok_return (by decide +kernel) rfl) <|
  fun _ h => absurd h List.not_mem_nil
def rg_kd123 : List (List (Nat × rg_S)) := [rg_c123_0, rg_c123_1]
theorem rg_o123 : ∀ pc f, rg_lk2 rg_kd123 pc = some f → rg_Ok 123 pc f := rg_lk2_ok (rg_fd rg_o123_0 (rg_fd rg_o123_1 (fun _ h => absurd h List.not_mem_nil)))
def rg_c124_0 : List (Nat × rg_S) := [(0, rg_sal 0 1), (1, rg_sgr 0 1), (4, rg_sal 0 1), (5, rg_sgr 0 1), (8, rg_sgr 2 2), (11, rg_scV 95 1 0 2), (14, rg_sal 0 1), (15, rg_scV 96 0 0 0), (18, rg_sal 0 1), (19, rg_sgr 0 1), (22, rg_scV 97 0 0 2), (25, rg_sal 1 1), (26, rg_sic 0 1), (27, rg_sic 1 1), (28, rg_scV 14 2 0 1), (31, rg_sil 2 1), (32, rg_sic 1 1), (33, rg_skeq 45), (36, rg_sal 0 1), (37, rg_scV 99 0 0 0), (40, rg_sal 0 1), (41, rg_sal 1 1), (42, rg_scV 122 1 0 0), (45, rg_sK [true, true, true] (rg_sil 2 1)), (46, rg_sjeq 58)]
theorem rg_o124_0 : ∀ q ∈ rg_c124_0, rg_Ok 124 q.1 q.2 :=
  rg_fc (rg_ok_aload_n (j := 0) (by decide +kernel) rfl) <|
  rg_fc (rg_ok_getr (idx := 32) rg_cok0 (by decide +kernel) rfl (by decide +kernel) rg_wf_C_32) <|
  rg_fc (rg_ok_aload_n (j := 0) (by decide +kernel) rfl) <|
  rg_fc (rg_ok_getr (idx := 32) rg_cok0 (by decide +kernel) rfl (by decide +kernel) rg_wf_C_32) <|
  rg_fc (rg_ok_getr (idx := 103) rg_cok2 (by decide +kernel) rfl (by decide +kernel) rg_wf_C_103) <|
  rg_fc (rg_ok_callV (idx := 77) rg_cok2 (by decide +kernel) (by decide +kernel) rg_wm_C_77 rg_wj_95 rg_ws_95 rg_wz_2 rg_wd_95 ⟨by decide +kernel, by decide +kernel, by decide +kernel, by decide +kernel⟩ (by decide +kernel) (by decide +kernel)) <|
  rg_fc (rg_ok_aload_n (j := 0) (by decide +kernel) rfl) <|
  rg_fc (rg_ok_callV (idx := 81) rg_cok0 (by decide +kernel) (by decide +kernel) rg_wm_C_81 rg_wj_96 rg_ws_96 rg_wz_0 rg_wd_96 ⟨by decide +kernel, by decide +kernel, by decide +kernel, by decide +kernel⟩ (by decide +kernel) (by decide +kernel)) <|
  rg_fc (rg_ok_aload_n (j := 0) (by decide +kernel) rfl) <|
  rg_fc (rg_ok_getr (idx := 32) rg_cok0 (by decide +kernel) rfl (by decide +kernel) rg_wf_C_32) <|
  rg_fc (rg_ok_callV (idx := 84) rg_cok2 (by decide +kernel) (by decide +kernel) rg_wm_C_84 rg_wj_97 rg_ws_97 rg_wz_2 rg_wd_97 ⟨by decide +kernel, by decide +kernel, by decide +kernel, by decide +kernel⟩ (by decide +kernel) (by decide +kernel)) <|
  rg_fc (rg_ok_aload_n (j := 1) (by decide +kernel) rfl) <|
  rg_fc (rg_ok_iconst (n := 0) (by decide +kernel) (by decide +kernel)) <|
  rg_fc (rg_ok_iconst (n := 1) (by decide +kernel) (by decide +kernel)) <|
  rg_fc (rg_ok_callV (idx := 45) rg_cok1 (by decide +kernel) (by decide +kernel) rg_wm_C_45 rg_wj_14 rg_ws_14 rg_wz_1 rg_wd_14 ⟨by decide +kernel, by decide +kernel, by decide +kernel, by decide +kernel⟩ (by decide +kernel) (by decide +kernel)) <|
  rg_fc (rg_ok_iload_n (j := 2) (by decide +kernel) rfl) <|
  rg_fc (rg_ok_iconst (n := 1) (by decide +kernel) (by decide +kernel)) <|
  rg_fc (rg_ok_icmp_eq (off := 12) (by decide +kernel) (by decide +kernel)) <|
  rg_fc (rg_ok_aload_n (j := 0) (by decide +kernel) rfl) <|
  rg_fc (rg_ok_callV (idx := 87) rg_cok0 (by decide +kernel) (by decide +kernel) rg_wm_C_87 rg_wj_99 rg_ws_99 rg_wz_0 rg_wd_99 ⟨by decide +kernel, by decide +kernel, by decide +kernel, by decide +kernel⟩ (by decide +kernel) (by decide +kernel)) <|
  rg_fc (rg_ok_aload_n (j := 0) (by decide +kernel) rfl) <|
  rg_fc (rg_ok_aload_n (j := 1) (by decide +kernel) rfl) <|
  rg_fc (rg_ok_callV (idx := 106) rg_cok0 (by decide +kernel) (by decide +kernel) rg_wm_C_106 rg_wj_122 rg_ws_122 rg_wz_0 rg_wd_122 ⟨by decide +kernel, by decide +kernel, by decide +kernel, by decide +kernel⟩ (by decide +kernel) (by decide +kernel)) <|
  rg_fc (rg_okK _ (rg_ok_iload_n (j := 2) (by decide +kernel) rfl)) <|
  rg_fc (rg_ok_if_eq (off := 12) (by decide +kernel) (by decide +kernel)) <|
  fun _ h => absurd h List.not_mem_nil
def rg_c124_1 : List (Nat × rg_S) := [(49, rg_sal 0 1), (50, rg_scV 100 0 0 0), (53, rg_sal 0 1), (54, rg_sal 1 1), (55, rg_scV 123 1 0 0), (58, rg_sK [true, true, false] (rg_sal 0 1)), (59, rg_sgr 0 0), (62, rg_sal 1 1), (63, rg_sal 0 1), (64, rg_sgr 0 3), (67, rg_scV 54 2 0 4), (70, rg_rv)]
theorem rg_o124_1 : ∀ q ∈ rg_c124_1, rg_Ok 124 q.1 q.2 :=
  rg_fc (rg_ok_aload_n (j := 0) (by decide +kernel) rfl) <|
  rg_fc (rg_ok_callV (idx := 90) rg_cok0 (by decide +kernel) (by decide +kernel) rg_wm_C_90 rg_wj_100 rg_ws_100 rg_wz_0 rg_wd_100 ⟨by decide +kernel, by decide +kernel, by decide +kernel, by decide +kernel⟩ (by decide +kernel) (by decide +kernel)) <|
  rg_fc (rg_ok_aload_n (j := 0) (by decide +kernel) rfl) <|
  rg_fc (rg_ok_aload_n (j := 1) (by decide +kernel) rfl) <|
  rg_fc (rg_ok_callV (idx := 109) rg_cok0 (by decide +kernel) (by decide +kernel) rg_wm_C_109 rg_wj_123 rg_ws_123 rg_wz_0 rg_wd_123 ⟨by decide +kernel, by decide +kernel, by decide +kernel, by decide +kernel⟩ (by decide +kernel) (by decide +kernel)) <|
  rg_fc (rg_okK _ (rg_ok_aload_n (j := 0) (by decide +kernel) rfl)) <|
  rg_fc (rg_ok_getr (idx := 28) rg_cok0 (by decide +kernel) rfl (by decide +kernel) rg_wf_C_28) <|
  rg_fc (rg_ok_aload_n (j := 1) (by decide +kernel) rfl) <|
  rg_fc (rg_ok_aload_n (j := 0) (by decide +kernel) rfl) <|
  rg_fc (rg_ok_getr (idx := 18) rg_cok0 (by decide +kernel) rfl (by decide +kernel) rg_wf_C_18) <|
  rg_fc (rg_ok_callV (idx := 57) rg_cok4 (by decide +kernel) (by decide +kernel) rg_wm_C_57 rg_wj_54 rg_ws_54 rg_wz_4 rg_wd_54 ⟨by decide +kernel, by decide +kernel, by decide +kernel, by decide +kernel⟩ (by decide +kernel) (by decide +kernel)) <|
  rg_fc (rg_ok_return (by decide +kernel) rfl) <|
  fun _ h => absurd h List.not_mem_nil
def rg_kd124 : List (List (Nat × rg_S)) := [rg_c124_0, rg_c124_1]
theorem rg_o124 : ∀ pc f, rg_lk2 rg_kd124 pc = some f → rg_Ok 124 pc f := rg_lk2_ok (rg_fd rg_o124_0 (rg_fd rg_o124_1 (fun _ h => absurd h List.not_mem_nil)))

def rg_c4_0 : List (Nat × rg_S) := [(0, rg_sal 0 1), (1, rg_sob), (4, rg_sal 0 1), (5, rg_snw 5), (8, rg_sdu), (9, rg_scI 0 0 0), (12, rg_spr 1 0), (15, rg_sal 0 1), (16, rg_snw 5), (19, rg_sdu), (20, rg_scI 0 0 0), (23, rg_spr 1 1), (26, rg_sal 0 1), (27, rg_sgr 1 1), (30, rg_slc 1 1), (31, rg_scV 3 1 0 5), (34, rg_rv)]
theorem rg_o4_0 : ∀ q ∈ rg_c4_0, rg_Ok 4 q.1 q.2 :=
  rg_fc (rg_ok_aload_n (j := 0) (by decide +kernel) rfl) <|
  rg_fc (rg_ok_objinit (idx := 1) (by decide +kernel) rg_wm_F_1 rg_wo_1 rg_wo_2 (by decide +kernel) (by decide +kernel)) <|
  rg_fc (rg_ok_aload_n (j := 0) (by decide +kernel) rfl) <|
  rg_fc (rg_ok_new (idx := 7) rg_cok5 (by decide +kernel) (by decide +kernel) rg_wk_F_7 rg_wi_5 rg_wz_5) <|
  rg_fc (rg_ok_dup (by decide +kernel)) <|
  rg_fc (rg_ok_callIN (idx := 9) (host := "RegretTable")  (by decide +kernel) (by decide +kernel) (fun s h => h.2.2.2.1) rg_wj_0 rfl rfl rg_wz_5 rg_wd_0 ⟨by decide +kernel, by decide +kernel, by decide +kernel⟩ (by decide +kernel) (by decide +kernel)) <|
  rg_fc (rg_ok_putr (idx := 10) rg_cok1 (by decide +kernel) rfl (fun _ => ⟨rfl, rfl⟩) (Or.inl rfl) (by decide +kernel) rg_wf_F_10) <|
  rg_fc (rg_ok_aload_n (j := 0) (by decide +kernel) rfl) <|
  rg_fc (rg_ok_new (idx := 7) rg_cok5 (by decide +kernel) (by decide +kernel) rg_wk_F_7 rg_wi_5 rg_wz_5) <|
  rg_fc (rg_ok_dup (by decide +kernel)) <|
  rg_fc (rg_ok_callIN (idx := 9) (host := "RegretTable")  (by decide +kernel) (by decide +kernel) (fun s h => h.2.2.2.1) rg_wj_0 rfl rfl rg_wz_5 rg_wd_0 ⟨by decide +kernel, by decide +kernel, by decide +kernel⟩ (by decide +kernel) (by decide +kernel)) <|
  rg_fc (rg_ok_putr (idx := 16) rg_cok1 (by decide +kernel) rfl (fun _ => ⟨rfl, rfl⟩) (Or.inl rfl) (by decide +kernel) rg_wf_F_16) <|
  rg_fc (rg_ok_aload_n (j := 0) (by decide +kernel) rfl) <|
  rg_fc (rg_ok_getr (idx := 16) rg_cok1 (by decide +kernel) rfl (by decide +kernel) rg_wf_F_16) <|
  rg_fc (rg_ok_lconst (n := 1) (by decide +kernel) (by decide +kernel)) <|
  rg_fc (rg_ok_callV (idx := 19) rg_cok5 (by decide +kernel) (by decide +kernel) rg_wm_F_19 rg_wj_3 rg_ws_3 rg_wz_5 rg_wd_3 ⟨by decide +kernel, by decide +kernel, by decide +kernel, by decide +kernel⟩ (by decide +kernel) (by decide +kernel)) <|
  rg_fc (rg_ok_return (by decide +kernel) rfl) <|
  fun _ h => absurd h List.not_mem_nil
def rg_kd4 : List (List (Nat × rg_S)) := [rg_c4_0]
theorem rg_o4 : ∀ pc f, rg_lk2 rg_kd4 pc = some f → rg_Ok 4 pc f := rg_lk2_ok (rg_fd rg_o4_0 (fun _ h => absurd h List.not_mem_nil))
def rg_c14_0 : List (Nat × rg_S) := [(0, rg_sal 0 1), (1, rg_sgr 1 0), (4, rg_sil 1 1), (5, rg_si2l), (6, rg_scV 3 1 0 5), (9, rg_sal 0 1), (10, rg_sgr 1 1), (13, rg_sil 2 1), (14, rg_si2l), (15, rg_scV 3 1 0 5), (18, rg_rv)]
theorem rg_o14_0 : ∀ q ∈ rg_c14_0, rg_Ok 14 q.1 q.2 :=
  rg_fc (rg_ok_aload_n (j := 0) (by decide +kernel) rfl) <|
  rg_fc (rg_ok_getr (idx := 10) rg_cok1 (by decide +kernel) rfl (by decide +kernel) rg_wf_F_10) <|
  rg_fc (rg_ok_iload_n (j := 1) (by decide +kernel) rfl) <|
  rg_fc (rg_ok_i2l (by decide +kernel)) <|
  rg_fc (rg_ok_callV (idx := 19) rg_cok5 (by decide +kernel) (by decide +kernel) rg_wm_F_19 rg_wj_3 rg_ws_3 rg_wz_5 rg_wd_3 ⟨by decide +kernel, by decide +kernel, by decide +kernel, by decide +kernel⟩ (by decide +kernel) (by decide +kernel)) <|
  rg_fc (rg_ok_aload_n (j := 0) (by decide +kernel) rfl) <|
  rg_fc (rg_ok_getr (idx := 16) rg_cok1 (by decide +kernel) rfl (by decide +kernel) rg_wf_F_16) <|
  rg_fc (rg_ok_iload_n (j := 2) (by decide +kernel) rfl) <|
  rg_fc (rg_ok_i2l (by decide +kernel)) <|
  rg_fc (rg_ok_callV (idx := 19) rg_cok5 (by decide +kernel) (by decide +kernel) rg_wm_F_19 rg_wj_3 rg_ws_3 rg_wz_5 rg_wd_3 ⟨by decide +kernel, by decide +kernel, by decide +kernel, by decide +kernel⟩ (by decide +kernel) (by decide +kernel)) <|
  rg_fc (rg_ok_return (by decide +kernel) rfl) <|
  fun _ h => absurd h List.not_mem_nil
def rg_kd14 : List (List (Nat × rg_S)) := [rg_c14_0]
theorem rg_o14 : ∀ pc f, rg_lk2 rg_kd14 pc = some f → rg_Ok 14 pc f := rg_lk2_ok (rg_fd rg_o14_0 (fun _ h => absurd h List.not_mem_nil))
def rg_c52_0 : List (Nat × rg_S) := [(0, rg_sal 0 1), (1, rg_sgr 1 1), (4, rg_sas 1 1), (5, rg_sal 0 1), (6, rg_sal 0 1), (7, rg_sgr 1 0), (10, rg_spr 1 1), (13, rg_sal 0 1), (14, rg_sal 1 1), (15, rg_spr 1 0), (18, rg_rv)]
theorem rg_o52_0 : ∀ q ∈ rg_c52_0, rg_Ok 52 q.1 q.2 :=
  rg_fc (rg_ok_aload_n (j := 0) (by decide +kernel) rfl) <|
  rg_fc (rg_ok_getr (idx := 16) rg_cok1 (by decide +kernel) rfl (by decide +kernel) rg_wf_F_16) <|
  rg_fc (rg_ok_astore_n (j := 1) (by decide +kernel) rfl (by decide +kernel)) <|
  rg_fc (rg_ok_aload_n (j := 0) (by decide +kernel) rfl) <|
  rg_fc (rg_ok_aload_n (j := 0) (by decide +kernel) rfl) <|
  rg_fc (rg_ok_getr (idx := 10) rg_cok1 (by decide +kernel) rfl (by decide +kernel) rg_wf_F_10) <|
  rg_fc (rg_ok_putr (idx := 16) rg_cok1 (by decide +kernel) rfl (fun _ => ⟨rfl, rfl⟩) (Or.inl rfl) (by decide +kernel) rg_wf_F_16) <|
  rg_fc (rg_ok_aload_n (j := 0) (by decide +kernel) rfl) <|
  rg_fc (rg_ok_aload_n (j := 1) (by decide +kernel) rfl) <|
  rg_fc (rg_ok_putr (idx := 10) rg_cok1 (by decide +kernel) rfl (fun _ => ⟨rfl, rfl⟩) (Or.inl rfl) (by decide +kernel) rg_wf_F_10) <|
  rg_fc (rg_ok_return (by decide +kernel) rfl) <|
  fun _ h => absurd h List.not_mem_nil
def rg_kd52 : List (List (Nat × rg_S)) := [rg_c52_0]
theorem rg_o52 : ∀ pc f, rg_lk2 rg_kd52 pc = some f → rg_Ok 52 pc f := rg_lk2_ok (rg_fd rg_o52_0 (fun _ h => absurd h List.not_mem_nil))
def rg_c53_0 : List (Nat × rg_S) := [(0, rg_sal 0 1), (1, rg_sgr 1 0), (4, rg_sal 1 1), (5, rg_sgr 1 0), (8, rg_scV 36 1 0 5), (11, rg_sal 0 1), (12, rg_sgr 1 1), (15, rg_sal 1 1), (16, rg_sgr 1 1), (19, rg_scV 36 1 0 5), (22, rg_rv)]
theorem rg_o53_0 : ∀ q ∈ rg_c53_0, rg_Ok 53 q.1 q.2 :=
  rg_fc (rg_ok_aload_n (j := 0) (by decide +kernel) rfl) <|
  rg_fc (rg_ok_getr (idx := 10) rg_cok1 (by decide +kernel) rfl (by decide +kernel) rg_wf_F_10) <|
  rg_fc (rg_ok_aload_n (j := 1) (by decide +kernel) rfl) <|
  rg_fc (rg_ok_getr (idx := 10) rg_cok1 (by decide +kernel) rfl (by decide +kernel) rg_wf_F_10) <|
  rg_fc (rg_ok_callV (idx := 23) rg_cok5 (by decide +kernel) (by decide +kernel) rg_wm_F_23 rg_wj_36 rg_ws_36 rg_wz_5 rg_wd_36 ⟨by decide +kernel, by decide +kernel, by decide +kernel, by decide +kernel⟩ (by decide +kernel) (by decide +kernel)) <|
  rg_fc (rg_ok_aload_n (j := 0) (by decide +kernel) rfl) <|
  rg_fc (rg_ok_getr (idx := 16) rg_cok1 (by decide +kernel) rfl (by decide +kernel) rg_wf_F_16) <|
  rg_fc (rg_ok_aload_n (j := 1) (by decide +kernel) rfl) <|
  rg_fc (rg_ok_getr (idx := 16) rg_cok1 (by decide +kernel) rfl (by decide +kernel) rg_wf_F_16) <|
  rg_fc (rg_ok_callV (idx := 23) rg_cok5 (by decide +kernel) (by decide +kernel) rg_wm_F_23 rg_wj_36 rg_ws_36 rg_wz_5 rg_wd_36 ⟨by decide +kernel, by decide +kernel, by decide +kernel, by decide +kernel⟩ (by decide +kernel) (by decide +kernel)) <|
  rg_fc (rg_ok_return (by decide +kernel) rfl) <|
  fun _ h => absurd h List.not_mem_nil
def rg_kd53 : List (List (Nat × rg_S)) := [rg_c53_0]
theorem rg_o53 : ∀ pc f, rg_lk2 rg_kd53 pc = some f → rg_Ok 53 pc f := rg_lk2_ok (rg_fd rg_o53_0 (fun _ h => absurd h List.not_mem_nil))
def rg_c61_0 : List (Nat × rg_S) := [(0, rg_sal 0 1), (1, rg_sgr 1 0), (4, rg_scV 59 0 1 5), (7, rg_sal 0 1), (8, rg_sgr 1 1), (11, rg_scV 59 0 1 5), (14, rg_smx), (17, rg_ri)]
theorem rg_o61_0 : ∀ q ∈ rg_c61_0, rg_Ok 61 q.1 q.2 :=
  rg_fc (rg_ok_aload_n (j := 0) (by decide +kernel) rfl) <|
  rg_fc (rg_ok_getr (idx := 10) rg_cok1 (by decide +kernel) rfl (by decide +kernel) rg_wf_F_10) <|
  rg_fc (rg_ok_callV (idx := 27) rg_cok5 (by decide +kernel) (by decide +kernel) rg_wm_F_27 rg_wj_59 rg_ws_59 rg_wz_5 rg_wd_59 ⟨by decide +kernel, by decide +kernel, by decide +kernel, by decide +kernel⟩ (by decide +kernel) (by decide +kernel)) <|
  rg_fc (rg_ok_aload_n (j := 0) (by decide +kernel) rfl) <|
  rg_fc (rg_ok_getr (idx := 16) rg_cok1 (by decide +kernel) rfl (by decide +kernel) rg_wf_F_16) <|
  rg_fc (rg_ok_callV (idx := 27) rg_cok5 (by decide +kernel) (by decide +kernel) rg_wm_F_27 rg_wj_59 rg_ws_59 rg_wz_5 rg_wd_59 ⟨by decide +kernel, by decide +kernel, by decide +kernel, by decide +kernel⟩ (by decide +kernel) (by decide +kernel)) <|
  rg_fc (rg_ok_mmax (idx := 31) (by decide +kernel) rg_wq_F_31 rg_wq1_max rg_wq2 rg_wq3_max (by decide +kernel) (by decide +kernel)) <|
  rg_fc (rg_ok_ireturn (by decide +kernel) rfl) <|
  fun _ h => absurd h List.not_mem_nil
def rg_kd61 : List (List (Nat × rg_S)) := [rg_c61_0]
theorem rg_o61 : ∀ pc f, rg_lk2 rg_kd61 pc = some f → rg_Ok 61 pc f := rg_lk2_ok (rg_fd rg_o61_0 (fun _ h => absurd h List.not_mem_nil))

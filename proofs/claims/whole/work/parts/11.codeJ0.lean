def rg_c37_0 : List (Nat × rg_S) := [(0, rg_sil 0 1), (1, rg_sjgt 15), (4, rg_sil 0 1), (5, rg_sjne 13), (8, rg_sic 32 2), (10, rg_sgo 14), (13, rg_sic 0 1), (14, rg_sK [false, false] (rg_ri)), (15, rg_sic 31 2), (17, rg_sis 1 1), (18, rg_sil 0 1), (19, rg_sic 65536 3), (22, rg_sklt 33), (25, rg_sin 1 (-16)), (28, rg_sil 0 1), (29, rg_sic 16 2), (31, rg_s2i (fun x y => (x.toUInt32 >>> (y.toUInt32 &&& Int32.toUInt32 31)).toInt32)), (32, rg_sis 0 1), (33, rg_sK [true, true] (rg_sil 0 1)), (34, rg_sic 256 3), (37, rg_sklt 48), (40, rg_sin 1 (-8)), (43, rg_sil 0 1), (44, rg_sic 8 2), (46, rg_s2i (fun x y => (x.toUInt32 >>> (y.toUInt32 &&& Int32.toUInt32 31)).toInt32))]
theorem rg_o37_0 : ∀ q ∈ rg_c37_0, rg_Ok 37 q.1 q.2 :=
  rg_fc (rg_ok_iload_n (j := 0) (by decide +kernel) rfl) <|
  rg_fc (rg_ok_if_gt (off := 14) (by decide +kernel) (by decide +kernel)) <|
  rg_fc (rg_ok_iload_n (j := 0) (by decide +kernel) rfl) <|
  rg_fc (rg_ok_if_ne (off := 8) (by decide +kernel) (by decide +kernel)) <|
  rg_fc (rg_ok_bipush (n := 32) (by decide +kernel) (by decide +kernel)) <|
  rg_fc (rg_ok_goto (off := 4) (by decide +kernel) (by decide +kernel)) <|
  rg_fc (rg_ok_iconst (n := 0) (by decide +kernel) (by decide +kernel)) <|
  rg_fc (rg_okK _ (rg_ok_ireturn (by decide +kernel) rfl)) <|
  rg_fc (rg_ok_bipush (n := 31) (by decide +kernel) (by decide +kernel)) <|
  rg_fc (rg_ok_istore_n (j := 1) (by decide +kernel) rfl (by decide +kernel)) <|
  rg_fc (rg_ok_iload_n (j := 0) (by decide +kernel) rfl) <|
  rg_fc (rg_ok_ldcw (n := 264) (by decide +kernel) rg_wc_J_264) <|
  rg_fc (rg_ok_icmp_lt (off := 11) (by decide +kernel) (by decide +kernel)) <|
  rg_fc (rg_ok_iinc (n := (-16)) (by decide +kernel) (by decide +kernel) (by decide +kernel)) <|
  rg_fc (rg_ok_iload_n (j := 0) (by decide +kernel) rfl) <|
  rg_fc (rg_ok_bipush (n := 16) (by decide +kernel) (by decide +kernel)) <|
  rg_fc (rg_ok_iushr (by decide +kernel)) <|
  rg_fc (rg_ok_istore_n (j := 0) (by decide +kernel) rfl (by decide +kernel)) <|
  rg_fc (rg_okK _ (rg_ok_iload_n (j := 0) (by decide +kernel) rfl)) <|
  rg_fc (rg_ok_sipush (n := 256) (by decide +kernel) (by decide +kernel)) <|
  rg_fc (rg_ok_icmp_lt (off := 11) (by decide +kernel) (by decide +kernel)) <|
  rg_fc (rg_ok_iinc (n := (-8)) (by decide +kernel) (by decide +kernel) (by decide +kernel)) <|
  rg_fc (rg_ok_iload_n (j := 0) (by decide +kernel) rfl) <|
  rg_fc (rg_ok_bipush (n := 8) (by decide +kernel) (by decide +kernel)) <|
  rg_fc (rg_ok_iushr (by decide +kernel)) <|
  fun _ h => absurd h List.not_mem_nil
def rg_c37_1 : List (Nat × rg_S) := [(47, rg_sis 0 1), (48, rg_sK [true, true] (rg_sil 0 1)), (49, rg_sic 16 2), (51, rg_sklt 61), (54, rg_sin 1 (-4)), (57, rg_sil 0 1), (58, rg_sic 4 1), (59, rg_s2i (fun x y => (x.toUInt32 >>> (y.toUInt32 &&& Int32.toUInt32 31)).toInt32)), (60, rg_sis 0 1), (61, rg_sK [true, true] (rg_sil 0 1)), (62, rg_sic 4 1), (63, rg_sklt 73), (66, rg_sin 1 (-2)), (69, rg_sil 0 1), (70, rg_sic 2 1), (71, rg_s2i (fun x y => (x.toUInt32 >>> (y.toUInt32 &&& Int32.toUInt32 31)).toInt32)), (72, rg_sis 0 1), (73, rg_sK [true, true] (rg_sil 1 1)), (74, rg_sil 0 1), (75, rg_sic 1 1), (76, rg_s2i (fun x y => (x.toUInt32 >>> (y.toUInt32 &&& Int32.toUInt32 31)).toInt32)), (77, rg_s2i (fun x y => x - y)), (78, rg_ri)]
theorem rg_o37_1 : ∀ q ∈ rg_c37_1, rg_Ok 37 q.1 q.2 :=
  rg_fc (rg_ok_istore_n (j := 0) (by decide +kernel) rfl (by decide +kernel)) <|
  rg_fc (rg_okK _ (rg_ok_iload_n (j := 0) (by decide +kernel) rfl)) <|
  rg_fc (rg_ok_bipush (n := 16) (by decide +kernel) (by decide +kernel)) <|
  rg_fc (rg_ok_icmp_lt (off := 10) (by decide +kernel) (by decide +kernel)) <|
  rg_fc (rg_ok_iinc (n := (-4)) (by decide +kernel) (by decide +kernel) (by decide +kernel)) <|
  rg_fc (rg_ok_iload_n (j := 0) (by decide +kernel) rfl) <|
  rg_fc (rg_ok_iconst (n := 4) (by decide +kernel) (by decide +kernel)) <|
  rg_fc (rg_ok_iushr (by decide +kernel)) <|
  rg_fc (rg_ok_istore_n (j := 0) (by decide +kernel) rfl (by decide +kernel)) <|
  rg_fc (rg_okK _ (rg_ok_iload_n (j := 0) (by decide +kernel) rfl)) <|
  rg_fc (rg_ok_iconst (n := 4) (by decide +kernel) (by decide +kernel)) <|
  rg_fc (rg_ok_icmp_lt (off := 10) (by decide +kernel) (by decide +kernel)) <|
  rg_fc (rg_ok_iinc (n := (-2)) (by decide +kernel) (by decide +kernel) (by decide +kernel)) <|
  rg_fc (rg_ok_iload_n (j := 0) (by decide +kernel) rfl) <|
  rg_fc (rg_ok_iconst (n := 2) (by decide +kernel) (by decide +kernel)) <|
  rg_fc (rg_ok_iushr (by decide +kernel)) <|
  rg_fc (rg_ok_istore_n (j := 0) (by decide +kernel) rfl (by decide +kernel)) <|
  rg_fc (rg_okK _ (rg_ok_iload_n (j := 1) (by decide +kernel) rfl)) <|
  rg_fc (rg_ok_iload_n (j := 0) (by decide +kernel) rfl) <|
  rg_fc (rg_ok_iconst (n := 1) (by decide +kernel) (by decide +kernel)) <|
  rg_fc (rg_ok_iushr (by decide +kernel)) <|
  rg_fc (rg_ok_isub (by decide +kernel)) <|
  rg_fc (rg_ok_ireturn (by decide +kernel) rfl) <|
  fun _ h => absurd h List.not_mem_nil
def rg_kd37 : List (List (Nat × rg_S)) := [rg_c37_0, rg_c37_1]
theorem rg_o37 : ∀ pc f, rg_lk2 rg_kd37 pc = some f → rg_Ok 37 pc f := rg_lk2_ok (rg_fd rg_o37_0 (rg_fd rg_o37_1 (fun _ h => absurd h List.not_mem_nil)))
def rg_c39_0 : List (Nat × rg_S) := [(0, rg_sll 0 1), (1, rg_slc 0 1), (2, rg_scm), (3, rg_sjge 11), (6, rg_sll 0 1), (7, rg_s1l (fun x => -x)), (8, rg_sgo 12), (11, rg_sll 0 1), (12, rg_sK [false, false] (rg_rl))]
theorem rg_o39_0 : ∀ q ∈ rg_c39_0, rg_Ok 39 q.1 q.2 :=
  rg_fc (rg_ok_lload_n (j := 0) (by decide +kernel) rfl) <|
  rg_fc (rg_ok_lconst (n := 0) (by decide +kernel) (by decide +kernel)) <|
  rg_fc (rg_ok_lcmp (by decide +kernel)) <|
  rg_fc (rg_ok_if_ge (off := 8) (by decide +kernel) (by decide +kernel)) <|
  rg_fc (rg_ok_lload_n (j := 0) (by decide +kernel) rfl) <|
  rg_fc (rg_ok_lneg (by decide +kernel)) <|
  rg_fc (rg_ok_goto (off := 4) (by decide +kernel) (by decide +kernel)) <|
  rg_fc (rg_ok_lload_n (j := 0) (by decide +kernel) rfl) <|
  rg_fc (rg_okK _ (rg_ok_lreturn (by decide +kernel) rfl)) <|
  fun _ h => absurd h List.not_mem_nil
def rg_kd39 : List (List (Nat × rg_S)) := [rg_c39_0]
theorem rg_o39 : ∀ pc f, rg_lk2 rg_kd39 pc = some f → rg_Ok 39 pc f := rg_lk2_ok (rg_fd rg_o39_0 (fun _ h => absurd h List.not_mem_nil))
def rg_c60_0 : List (Nat × rg_S) := [(0, rg_sil 0 1), (1, rg_sil 1 1), (2, rg_sklt 9), (5, rg_sil 0 1), (6, rg_sgo 10), (9, rg_sil 1 1), (10, rg_sK [false, false] (rg_ri))]
theorem rg_o60_0 : ∀ q ∈ rg_c60_0, rg_Ok 60 q.1 q.2 :=
  rg_fc (rg_ok_iload_n (j := 0) (by decide +kernel) rfl) <|
  rg_fc (rg_ok_iload_n (j := 1) (by decide +kernel) rfl) <|
  rg_fc (rg_ok_icmp_lt (off := 7) (by decide +kernel) (by decide +kernel)) <|
  rg_fc (rg_ok_iload_n (j := 0) (by decide +kernel) rfl) <|
  rg_fc (rg_ok_goto (off := 4) (by decide +kernel) (by decide +kernel)) <|
  rg_fc (rg_ok_iload_n (j := 1) (by decide +kernel) rfl) <|
  rg_fc (rg_okK _ (rg_ok_ireturn (by decide +kernel) rfl)) <|
  fun _ h => absurd h List.not_mem_nil
def rg_kd60 : List (List (Nat × rg_S)) := [rg_c60_0]
theorem rg_o60 : ∀ pc f, rg_lk2 rg_kd60 pc = some f → rg_Ok 60 pc f := rg_lk2_ok (rg_fd rg_o60_0 (fun _ h => absurd h List.not_mem_nil))
def rg_c143_0 : List (Nat × rg_S) := [(0, rg_sil 0 1), (1, rg_sil 1 1), (2, rg_skgt 9), (5, rg_sil 0 1), (6, rg_sgo 10), (9, rg_sil 1 1), (10, rg_sK [false, false] (rg_ri))]
theorem rg_o143_0 : ∀ q ∈ rg_c143_0, rg_Ok 143 q.1 q.2 :=
  rg_fc (rg_ok_iload_n (j := 0) (by decide +kernel) rfl) <|
  rg_fc (rg_ok_iload_n (j := 1) (by decide +kernel) rfl) <|
  rg_fc (rg_ok_icmp_gt (off := 7) (by decide +kernel) (by decide +kernel)) <|
  rg_fc (rg_ok_iload_n (j := 0) (by decide +kernel) rfl) <|
  rg_fc (rg_ok_goto (off := 4) (by decide +kernel) (by decide +kernel)) <|
  rg_fc (rg_ok_iload_n (j := 1) (by decide +kernel) rfl) <|
  rg_fc (rg_okK _ (rg_ok_ireturn (by decide +kernel) rfl)) <|
  fun _ h => absurd h List.not_mem_nil
def rg_kd143 : List (List (Nat × rg_S)) := [rg_c143_0]
theorem rg_o143 : ∀ pc f, rg_lk2 rg_kd143 pc = some f → rg_Ok 143 pc f := rg_lk2_ok (rg_fd rg_o143_0 (fun _ h => absurd h List.not_mem_nil))

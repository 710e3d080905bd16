def rg_sic (v : Int32) (n : Nat) : rg_S := fun c => .inl (c.1 + n, c.2.1, .int v :: c.2.2.1, c.2.2.2)
def rg_slc (v : Int64) (n : Nat) : rg_S := fun c => .inl (c.1 + n, c.2.1, .long v :: c.2.2.1, c.2.2.2)
theorem rg_ok_iconst {k pc : Nat} {n : Int} {v : Int32} (hd : decode (rg_b k) pc = .ok (.iconst n, 1)) (hv : Int32.ofInt n = v) : rg_Ok k pc (rg_sic v 1) := by
  refine rg_mkP (fun c o h => by cases h) (fun c c' hc h => ?_)
  cases h; subst hc
  refine ⟨rfl, fun p l e R s m args below meth cd H locs cells slots Q ls hx hb hown hts hl kk => ?_⟩
  exact lv_iconst hx hb hd hv (kk ls hl)
theorem rg_ok_bipush {k pc : Nat} {n : Int} {v : Int32} (hd : decode (rg_b k) pc = .ok (.bipush n, 2)) (hv : (Int8.ofInt n).toInt32 = v) : rg_Ok k pc (rg_sic v 2) := by
  refine rg_mkP (fun c o h => by cases h) (fun c c' hc h => ?_)
  cases h; subst hc
  refine ⟨rfl, fun p l e R s m args below meth cd H locs cells slots Q ls hx hb hown hts hl kk => ?_⟩
  exact lv_bipush hx hb hd hv (kk ls hl)
theorem rg_ok_sipush {k pc : Nat} {n : Int} {v : Int32} (hd : decode (rg_b k) pc = .ok (.sipush n, 3)) (hv : (Int16.ofInt n).toInt32 = v) : rg_Ok k pc (rg_sic v 3) := by
  refine rg_mkP (fun c o h => by cases h) (fun c c' hc h => ?_)
  cases h; subst hc
  refine ⟨rfl, fun p l e R s m args below meth cd H locs cells slots Q ls hx hb hown hts hl kk => ?_⟩
  exact lv_sipush hx hb hd hv (kk ls hl)
theorem rg_ok_ldc {k pc : Nat} {n : Nat} {v : Int32} (hd : decode (rg_b k) pc = .ok (.ldc n, 2)) (hw : Cond.constant (rg_y k).cls n v ∈ rg_gd) : rg_Ok k pc (rg_sic v 2) := by
  refine rg_mkP (fun c o h => by cases h) (fun c c' hc h => ?_)
  cases h; subst hc
  refine ⟨rfl, fun p l e R s m args below meth cd H locs cells slots Q ls hx hb hown hts hl kk => ?_⟩
  exact lv_ldc hx hb hown (hts _ (List.mem_cons_of_mem _ hw)) hd (kk ls hl)
theorem rg_ok_ldcw {k pc : Nat} {n : Nat} {v : Int32} (hd : decode (rg_b k) pc = .ok (.ldc_w n, 3)) (hw : Cond.constant (rg_y k).cls n v ∈ rg_gd) : rg_Ok k pc (rg_sic v 3) := by
  refine rg_mkP (fun c o h => by cases h) (fun c c' hc h => ?_)
  cases h; subst hc
  refine ⟨rfl, fun p l e R s m args below meth cd H locs cells slots Q ls hx hb hown hts hl kk => ?_⟩
  exact lv_ldcw hx hb hown (hts _ (List.mem_cons_of_mem _ hw)) hd (kk ls hl)
theorem rg_ok_lconst {k pc : Nat} {n : Fin 2} {v : Int64} (hd : decode (rg_b k) pc = .ok (.lconst n, 1)) (hv : Int64.ofNat (n : Nat) = v) : rg_Ok k pc (rg_slc v 1) := by
  refine rg_mkP (fun c o h => by cases h) (fun c c' hc h => ?_)
  cases h; subst hc
  refine ⟨rfl, fun p l e R s m args below meth cd H locs cells slots Q ls hx hb hown hts hl kk => ?_⟩
  exact lv_lconst hx hb hd hv (kk ls hl)
theorem rg_ok_ldc2 {k pc : Nat} {n : Nat} {v : Int64} (hd : decode (rg_b k) pc = .ok (.ldc2_w n, 3)) (hw : Cond.constantLong (rg_y k).cls n v ∈ rg_gd) : rg_Ok k pc (rg_slc v 3) := by
  refine rg_mkP (fun c o h => by cases h) (fun c c' hc h => ?_)
  cases h; subst hc
  refine ⟨rfl, fun p l e R s m args below meth cd H locs cells slots Q ls hx hb hown hts hl kk => ?_⟩
  exact lv_ldc2 hx hb hown (hts _ (List.mem_cons_of_mem _ hw)) hd (kk ls hl)
def rg_sil (i n : Nat) : rg_S := fun c => match c.2.1[i]? with
  | some (some (.int x)) => .inl (c.1 + n, c.2.1, .int x :: c.2.2.1, c.2.2.2)
  | _ => rg_no
theorem rg_ok_iload_n {k pc : Nat} {j : Fin 4} {i : Nat} (hd : decode (rg_b k) pc = .ok (.iload_n j, 1)) (hi : (j : Nat) = i) : rg_Ok k pc (rg_sil i 1) := by
  refine rg_mkP (fun c o h => ?_) (fun c c' hc h => ?_)
  · unfold rg_sil at h; split at h
    · cases h
    · cases h; rfl
  · unfold rg_sil at h; split at h
    · rename_i x e1
      cases h; subst hc
      refine ⟨rfl, fun p l e R s m args below meth cd H locs cells slots Q ls hx hb hown hts hl kk => ?_⟩
      exact lv_iload_n hx hb hd hi (hl.2.2 _ _ e1) (kk ls hl)
    · cases h
theorem rg_ok_iload {k pc : Nat} {i : Nat} (hd : decode (rg_b k) pc = .ok (.iload i, 2)) : rg_Ok k pc (rg_sil i 2) := by
  refine rg_mkP (fun c o h => ?_) (fun c c' hc h => ?_)
  · unfold rg_sil at h; split at h
    · cases h
    · cases h; rfl
  · unfold rg_sil at h; split at h
    · rename_i x e1
      cases h; subst hc
      refine ⟨rfl, fun p l e R s m args below meth cd H locs cells slots Q ls hx hb hown hts hl kk => ?_⟩
      exact lv_iload hx hb hd (hl.2.2 _ _ e1) (kk ls hl)
    · cases h
def rg_sll (i n : Nat) : rg_S := fun c => match c.2.1[i]? with
  | some (some (.long x)) => .inl (c.1 + n, c.2.1, .long x :: c.2.2.1, c.2.2.2)
  | _ => rg_no
theorem rg_ok_lload_n {k pc : Nat} {j : Fin 4} {i : Nat} (hd : decode (rg_b k) pc = .ok (.lload_n j, 1)) (hi : (j : Nat) = i) : rg_Ok k pc (rg_sll i 1) := by
  refine rg_mkP (fun c o h => ?_) (fun c c' hc h => ?_)
  · unfold rg_sll at h; split at h
    · cases h
    · cases h; rfl
  · unfold rg_sll at h; split at h
    · rename_i x e1
      cases h; subst hc
      refine ⟨rfl, fun p l e R s m args below meth cd H locs cells slots Q ls hx hb hown hts hl kk => ?_⟩
      exact lv_lload_n hx hb hd hi (hl.2.2 _ _ e1) (kk ls hl)
    · cases h
theorem rg_ok_lload {k pc : Nat} {i : Nat} (hd : decode (rg_b k) pc = .ok (.lload i, 2)) : rg_Ok k pc (rg_sll i 2) := by
  refine rg_mkP (fun c o h => ?_) (fun c c' hc h => ?_)
  · unfold rg_sll at h; split at h
    · cases h
    · cases h; rfl
  · unfold rg_sll at h; split at h
    · rename_i x e1
      cases h; subst hc
      refine ⟨rfl, fun p l e R s m args below meth cd H locs cells slots Q ls hx hb hown hts hl kk => ?_⟩
      exact lv_lload hx hb hd (hl.2.2 _ _ e1) (kk ls hl)
    · cases h
def rg_sal (i n : Nat) : rg_S := fun c => match c.2.1[i]? with
  | some (some (.ref x)) => .inl (c.1 + n, c.2.1, .ref x :: c.2.2.1, c.2.2.2)
  | _ => rg_no
theorem rg_ok_aload_n {k pc : Nat} {j : Fin 4} {i : Nat} (hd : decode (rg_b k) pc = .ok (.aload_n j, 1)) (hi : (j : Nat) = i) : rg_Ok k pc (rg_sal i 1) := by
  refine rg_mkP (fun c o h => ?_) (fun c c' hc h => ?_)
  · unfold rg_sal at h; split at h
    · cases h
    · cases h; rfl
  · unfold rg_sal at h; split at h
    · rename_i x e1
      cases h; subst hc
      refine ⟨rfl, fun p l e R s m args below meth cd H locs cells slots Q ls hx hb hown hts hl kk => ?_⟩
      exact lv_aload_n hx hb hd hi (hl.2.2 _ _ e1) (kk ls hl)
    · cases h
theorem rg_ok_aload {k pc : Nat} {i : Nat} (hd : decode (rg_b k) pc = .ok (.aload i, 2)) : rg_Ok k pc (rg_sal i 2) := by
  refine rg_mkP (fun c o h => ?_) (fun c c' hc h => ?_)
  · unfold rg_sal at h; split at h
    · cases h
    · cases h; rfl
  · unfold rg_sal at h; split at h
    · rename_i x e1
      cases h; subst hc
      refine ⟨rfl, fun p l e R s m args below meth cd H locs cells slots Q ls hx hb hown hts hl kk => ?_⟩
      exact lv_aload hx hb hd (hl.2.2 _ _ e1) (kk ls hl)
    · cases h
def rg_sis (i n : Nat) : rg_S := fun c => match c with
  | (pc, L, .int x :: st, M) => .inl (pc + n, rg_st L i (some (.int x)), st, M)
  | _ => rg_no
theorem rg_ok_istore_n {k pc : Nat} {j : Fin 4} {i : Nat} (hd : decode (rg_b k) pc = .ok (.istore_n j, 1)) (hi : (j : Nat) = i) (hn : i < rg_ml k) : rg_Ok k pc (rg_sis i 1) := by
  refine rg_mkP (fun c o h => ?_) (fun c c' hc h => ?_)
  · unfold rg_sis at h; split at h
    · cases h
    · cases h; rfl
  · unfold rg_sis at h; split at h
    · cases h; dsimp only at hc; subst hc
      refine ⟨rfl, fun p l e R s m args below meth cd H locs cells slots Q ls hx hb hown hts hl kk => ?_⟩
      exact lv_istore_n hx hb hd hi hl.has hn rfl (fun ls' h' => kk ls' (rg_lv.set1 h'))
    · cases h
theorem rg_ok_istore {k pc : Nat} {i : Nat} (hd : decode (rg_b k) pc = .ok (.istore i, 2)) (hn : i < rg_ml k) : rg_Ok k pc (rg_sis i 2) := by
  refine rg_mkP (fun c o h => ?_) (fun c c' hc h => ?_)
  · unfold rg_sis at h; split at h
    · cases h
    · cases h; rfl
  · unfold rg_sis at h; split at h
    · cases h; dsimp only at hc; subst hc
      refine ⟨rfl, fun p l e R s m args below meth cd H locs cells slots Q ls hx hb hown hts hl kk => ?_⟩
      exact lv_istore hx hb hd hl.has hn rfl (fun ls' h' => kk ls' (rg_lv.set1 h'))
    · cases h
def rg_sas (i n : Nat) : rg_S := fun c => match c with
  | (pc, L, .ref x :: st, M) => .inl (pc + n, rg_st L i (some (.ref x)), st, M)
  | _ => rg_no
theorem rg_ok_astore_n {k pc : Nat} {j : Fin 4} {i : Nat} (hd : decode (rg_b k) pc = .ok (.astore_n j, 1)) (hi : (j : Nat) = i) (hn : i < rg_ml k) : rg_Ok k pc (rg_sas i 1) := by
  refine rg_mkP (fun c o h => ?_) (fun c c' hc h => ?_)
  · unfold rg_sas at h; split at h
    · cases h
    · cases h; rfl
  · unfold rg_sas at h; split at h
    · cases h; dsimp only at hc; subst hc
      refine ⟨rfl, fun p l e R s m args below meth cd H locs cells slots Q ls hx hb hown hts hl kk => ?_⟩
      exact lv_astore_n hx hb hd hi hl.has hn rfl (fun ls' h' => kk ls' (rg_lv.set1 h'))
    · cases h
theorem rg_ok_astore {k pc : Nat} {i : Nat} (hd : decode (rg_b k) pc = .ok (.astore i, 2)) (hn : i < rg_ml k) : rg_Ok k pc (rg_sas i 2) := by
  refine rg_mkP (fun c o h => ?_) (fun c c' hc h => ?_)
  · unfold rg_sas at h; split at h
    · cases h
    · cases h; rfl
  · unfold rg_sas at h; split at h
    · cases h; dsimp only at hc; subst hc
      refine ⟨rfl, fun p l e R s m args below meth cd H locs cells slots Q ls hx hb hown hts hl kk => ?_⟩
      exact lv_astore hx hb hd hl.has hn rfl (fun ls' h' => kk ls' (rg_lv.set1 h'))
    · cases h
def rg_sls (i n : Nat) : rg_S := fun c => match c with
  | (pc, L, .long x :: st, M) => .inl (pc + n, rg_st (rg_st L (i + 1) none) i (some (.long x)), st, M)
  | _ => rg_no
theorem rg_ok_lstore_n {k pc : Nat} {j : Fin 4} {i : Nat} (hd : decode (rg_b k) pc = .ok (.lstore_n j, 1)) (hi : (j : Nat) = i) (hn : i + 1 < rg_ml k) : rg_Ok k pc (rg_sls i 1) := by
  refine rg_mkP (fun c o h => ?_) (fun c c' hc h => ?_)
  · unfold rg_sls at h; split at h
    · cases h
    · cases h; rfl
  · unfold rg_sls at h; split at h
    · cases h; dsimp only at hc; subst hc
      refine ⟨rfl, fun p l e R s m args below meth cd H locs cells slots Q ls hx hb hown hts hl kk => ?_⟩
      exact lv_lstore_n hx hb hd hi hl.has hn rfl (fun ls' h' => kk ls' (rg_lv.set2 h'))
    · cases h
theorem rg_ok_lstore {k pc : Nat} {i : Nat} (hd : decode (rg_b k) pc = .ok (.lstore i, 2)) (hn : i + 1 < rg_ml k) : rg_Ok k pc (rg_sls i 2) := by
  refine rg_mkP (fun c o h => ?_) (fun c c' hc h => ?_)
  · unfold rg_sls at h; split at h
    · cases h
    · cases h; rfl
  · unfold rg_sls at h; split at h
    · cases h; dsimp only at hc; subst hc
      refine ⟨rfl, fun p l e R s m args below meth cd H locs cells slots Q ls hx hb hown hts hl kk => ?_⟩
      exact lv_lstore hx hb hd hl.has hn rfl (fun ls' h' => kk ls' (rg_lv.set2 h'))
    · cases h
def rg_sin (i : Nat) (d : Int32) : rg_S := fun c => match c.2.1[i]? with
  | some (some (.int x)) => .inl (c.1 + 3, rg_st c.2.1 i (some (.int (x + d))), c.2.2.1, c.2.2.2)
  | _ => rg_no
theorem rg_ok_iinc {k pc : Nat} {i : Nat} {n : Int} {d : Int32} (hd : decode (rg_b k) pc = .ok (.iinc i n, 3)) (hv : Int32.ofInt n = d) (hn : i < rg_ml k) : rg_Ok k pc (rg_sin i d) := by
  refine rg_mkP (fun c o h => ?_) (fun c c' hc h => ?_)
  · unfold rg_sin at h; split at h
    · cases h
    · cases h; rfl
  · unfold rg_sin at h; split at h
    · rename_i x e1
      cases h; subst hc
      refine ⟨rfl, fun p l e R s m args below meth cd H locs cells slots Q ls hx hb hown hts hl kk => ?_⟩
      obtain ⟨j, hj⟩ := List.getElem?_of_mem (rg_asc_mem c.2.1 0 i _ e1)
      exact lv_iinc hx hb hd hl.has (k := j) (by simpa using hj) (by rw [hv]) hn rfl (fun ls' h' => kk ls' (rg_lv.set1 h'))
    · cases h
def rg_s2i (g : Int32 → Int32 → Int32) : rg_S := fun c => match c with
  | (pc, L, .int y :: .int x :: st, M) => .inl (pc + 1, L, .int (g x y) :: st, M)
  | _ => rg_no
def rg_s2l (g : Int64 → Int64 → Int64) : rg_S := fun c => match c with
  | (pc, L, .long y :: .long x :: st, M) => .inl (pc + 1, L, .long (g x y) :: st, M)
  | _ => rg_no
def rg_s1i (g : Int32 → Int32) : rg_S := fun c => match c with
  | (pc, L, .int x :: st, M) => .inl (pc + 1, L, .int (g x) :: st, M)
  | _ => rg_no
def rg_s1l (g : Int64 → Int64) : rg_S := fun c => match c with
  | (pc, L, .long x :: st, M) => .inl (pc + 1, L, .long (g x) :: st, M)
  | _ => rg_no
def rg_ssh (g : Int64 → Int32 → Int64) : rg_S := fun c => match c with
  | (pc, L, .int y :: .long x :: st, M) => .inl (pc + 1, L, .long (g x y) :: st, M)
  | _ => rg_no
def rg_si2l : rg_S := fun c => match c with
  | (pc, L, .int x :: st, M) => .inl (pc + 1, L, .long x.toInt64 :: st, M)
  | _ => rg_no
def rg_sl2i : rg_S := fun c => match c with
  | (pc, L, .long x :: st, M) => .inl (pc + 1, L, .int x.toInt32 :: st, M)
  | _ => rg_no
def rg_scm : rg_S := fun c => match c with
  | (pc, L, .long y :: .long x :: st, M) => .inl (pc + 1, L, .int (lg_cmp x y) :: st, M)
  | _ => rg_no
def rg_sdu : rg_S := fun c => match c with
  | (pc, L, .ref x :: st, M) => .inl (pc + 1, L, .ref x :: .ref x :: st, M)
  | _ => rg_no
def rg_sd2 : rg_S := fun c => match c with
  | (pc, L, .int y :: .ref x :: st, M) => .inl (pc + 1, L, .int y :: .ref x :: .int y :: .ref x :: st, M)
  | _ => rg_no
theorem rg_ok_iadd {k pc : Nat} (hd : decode (rg_b k) pc = .ok (.iadd, 1)) : rg_Ok k pc (rg_s2i (fun x y => x + y)) := by
  refine rg_mkP (fun c o h => ?_) (fun c c' hc h => ?_)
  · unfold rg_s2i at h; split at h
    · cases h
    · cases h; rfl
  · unfold rg_s2i at h; split at h
    · cases h; dsimp only at hc; subst hc
      refine ⟨rfl, fun p l e R s m args below meth cd H locs cells slots Q ls hx hb hown hts hl kk => ?_⟩
      exact lv_iadd hx hb hd (kk ls hl)
    · cases h
theorem rg_ok_isub {k pc : Nat} (hd : decode (rg_b k) pc = .ok (.isub, 1)) : rg_Ok k pc (rg_s2i (fun x y => x - y)) := by
  refine rg_mkP (fun c o h => ?_) (fun c c' hc h => ?_)
  · unfold rg_s2i at h; split at h
    · cases h
    · cases h; rfl
  · unfold rg_s2i at h; split at h
    · cases h; dsimp only at hc; subst hc
      refine ⟨rfl, fun p l e R s m args below meth cd H locs cells slots Q ls hx hb hown hts hl kk => ?_⟩
      exact lv_isub hx hb hd (kk ls hl)
    · cases h
theorem rg_ok_imul {k pc : Nat} (hd : decode (rg_b k) pc = .ok (.imul, 1)) : rg_Ok k pc (rg_s2i (fun x y => x * y)) := by
  refine rg_mkP (fun c o h => ?_) (fun c c' hc h => ?_)
  · unfold rg_s2i at h; split at h
    · cases h
    · cases h; rfl
  · unfold rg_s2i at h; split at h
    · cases h; dsimp only at hc; subst hc
      refine ⟨rfl, fun p l e R s m args below meth cd H locs cells slots Q ls hx hb hown hts hl kk => ?_⟩
      exact lv_imul hx hb hd (kk ls hl)
    · cases h
theorem rg_ok_iand {k pc : Nat} (hd : decode (rg_b k) pc = .ok (.iand, 1)) : rg_Ok k pc (rg_s2i (fun x y => x &&& y)) := by
  refine rg_mkP (fun c o h => ?_) (fun c c' hc h => ?_)
  · unfold rg_s2i at h; split at h
    · cases h
    · cases h; rfl
  · unfold rg_s2i at h; split at h
    · cases h; dsimp only at hc; subst hc
      refine ⟨rfl, fun p l e R s m args below meth cd H locs cells slots Q ls hx hb hown hts hl kk => ?_⟩
      exact lv_iand hx hb hd (kk ls hl)
    · cases h
theorem rg_ok_ishr {k pc : Nat} (hd : decode (rg_b k) pc = .ok (.ishr, 1)) : rg_Ok k pc (rg_s2i (fun x y => x >>> (y &&& 31))) := by
  refine rg_mkP (fun c o h => ?_) (fun c c' hc h => ?_)
  · unfold rg_s2i at h; split at h
    · cases h
    · cases h; rfl
  · unfold rg_s2i at h; split at h
    · cases h; dsimp only at hc; subst hc
      refine ⟨rfl, fun p l e R s m args below meth cd H locs cells slots Q ls hx hb hown hts hl kk => ?_⟩
      exact lv_ishr hx hb hd (kk ls hl)
    · cases h
theorem rg_ok_iushr {k pc : Nat} (hd : decode (rg_b k) pc = .ok (.iushr, 1)) : rg_Ok k pc (rg_s2i (fun x y => (x.toUInt32 >>> (y.toUInt32 &&& Int32.toUInt32 31)).toInt32)) := by
  refine rg_mkP (fun c o h => ?_) (fun c c' hc h => ?_)
  · unfold rg_s2i at h; split at h
    · cases h
    · cases h; rfl
  · unfold rg_s2i at h; split at h
    · cases h; dsimp only at hc; subst hc
      refine ⟨rfl, fun p l e R s m args below meth cd H locs cells slots Q ls hx hb hown hts hl kk => ?_⟩
      exact lv_iushr hx hb hd rfl (kk ls hl)
    · cases h
theorem rg_ok_ladd {k pc : Nat} (hd : decode (rg_b k) pc = .ok (.ladd, 1)) : rg_Ok k pc (rg_s2l (fun x y => x + y)) := by
  refine rg_mkP (fun c o h => ?_) (fun c c' hc h => ?_)
  · unfold rg_s2l at h; split at h
    · cases h
    · cases h; rfl
  · unfold rg_s2l at h; split at h
    · cases h; dsimp only at hc; subst hc
      refine ⟨rfl, fun p l e R s m args below meth cd H locs cells slots Q ls hx hb hown hts hl kk => ?_⟩
      exact lv_ladd hx hb hd (kk ls hl)
    · cases h
theorem rg_ok_lsub {k pc : Nat} (hd : decode (rg_b k) pc = .ok (.lsub, 1)) : rg_Ok k pc (rg_s2l (fun x y => x - y)) := by
  refine rg_mkP (fun c o h => ?_) (fun c c' hc h => ?_)
  · unfold rg_s2l at h; split at h
    · cases h
    · cases h; rfl
  · unfold rg_s2l at h; split at h
    · cases h; dsimp only at hc; subst hc
      refine ⟨rfl, fun p l e R s m args below meth cd H locs cells slots Q ls hx hb hown hts hl kk => ?_⟩
      exact lv_lsub hx hb hd (kk ls hl)
    · cases h
theorem rg_ok_lmul {k pc : Nat} (hd : decode (rg_b k) pc = .ok (.lmul, 1)) : rg_Ok k pc (rg_s2l (fun x y => x * y)) := by
  refine rg_mkP (fun c o h => ?_) (fun c c' hc h => ?_)
  · unfold rg_s2l at h; split at h
    · cases h
    · cases h; rfl
  · unfold rg_s2l at h; split at h
    · cases h; dsimp only at hc; subst hc
      refine ⟨rfl, fun p l e R s m args below meth cd H locs cells slots Q ls hx hb hown hts hl kk => ?_⟩
      exact lv_lmul hx hb hd (kk ls hl)
    · cases h
theorem rg_ok_land {k pc : Nat} (hd : decode (rg_b k) pc = .ok (.land, 1)) : rg_Ok k pc (rg_s2l (fun x y => x &&& y)) := by
  refine rg_mkP (fun c o h => ?_) (fun c c' hc h => ?_)
  · unfold rg_s2l at h; split at h
    · cases h
    · cases h; rfl
  · unfold rg_s2l at h; split at h
    · cases h; dsimp only at hc; subst hc
      refine ⟨rfl, fun p l e R s m args below meth cd H locs cells slots Q ls hx hb hown hts hl kk => ?_⟩
      exact lv_land hx hb hd (kk ls hl)
    · cases h
theorem rg_ok_lor {k pc : Nat} (hd : decode (rg_b k) pc = .ok (.lor, 1)) : rg_Ok k pc (rg_s2l (fun x y => x ||| y)) := by
  refine rg_mkP (fun c o h => ?_) (fun c c' hc h => ?_)
  · unfold rg_s2l at h; split at h
    · cases h
    · cases h; rfl
  · unfold rg_s2l at h; split at h
    · cases h; dsimp only at hc; subst hc
      refine ⟨rfl, fun p l e R s m args below meth cd H locs cells slots Q ls hx hb hown hts hl kk => ?_⟩
      exact lv_lor hx hb hd (kk ls hl)
    · cases h
theorem rg_ok_ineg {k pc : Nat} (hd : decode (rg_b k) pc = .ok (.ineg, 1)) : rg_Ok k pc (rg_s1i (fun x => -x)) := by
  refine rg_mkP (fun c o h => ?_) (fun c c' hc h => ?_)
  · unfold rg_s1i at h; split at h
    · cases h
    · cases h; rfl
  · unfold rg_s1i at h; split at h
    · cases h; dsimp only at hc; subst hc
      refine ⟨rfl, fun p l e R s m args below meth cd H locs cells slots Q ls hx hb hown hts hl kk => ?_⟩
      exact lv_ineg hx hb hd (kk ls hl)
    · cases h
theorem rg_ok_lneg {k pc : Nat} (hd : decode (rg_b k) pc = .ok (.lneg, 1)) : rg_Ok k pc (rg_s1l (fun x => -x)) := by
  refine rg_mkP (fun c o h => ?_) (fun c c' hc h => ?_)
  · unfold rg_s1l at h; split at h
    · cases h
    · cases h; rfl
  · unfold rg_s1l at h; split at h
    · cases h; dsimp only at hc; subst hc
      refine ⟨rfl, fun p l e R s m args below meth cd H locs cells slots Q ls hx hb hown hts hl kk => ?_⟩
      exact lv_lneg hx hb hd (kk ls hl)
    · cases h
theorem rg_ok_lshl {k pc : Nat} (hd : decode (rg_b k) pc = .ok (.lshl, 1)) : rg_Ok k pc (rg_ssh (fun x y => x <<< (y.toInt64 &&& 63))) := by
  refine rg_mkP (fun c o h => ?_) (fun c c' hc h => ?_)
  · unfold rg_ssh at h; split at h
    · cases h
    · cases h; rfl
  · unfold rg_ssh at h; split at h
    · cases h; dsimp only at hc; subst hc
      refine ⟨rfl, fun p l e R s m args below meth cd H locs cells slots Q ls hx hb hown hts hl kk => ?_⟩
      exact lv_lshl hx hb hd rfl (kk ls hl)
    · cases h
theorem rg_ok_lshr {k pc : Nat} (hd : decode (rg_b k) pc = .ok (.lshr, 1)) : rg_Ok k pc (rg_ssh (fun x y => x >>> (y.toInt64 &&& 63))) := by
  refine rg_mkP (fun c o h => ?_) (fun c c' hc h => ?_)
  · unfold rg_ssh at h; split at h
    · cases h
    · cases h; rfl
  · unfold rg_ssh at h; split at h
    · cases h; dsimp only at hc; subst hc
      refine ⟨rfl, fun p l e R s m args below meth cd H locs cells slots Q ls hx hb hown hts hl kk => ?_⟩
      exact lv_lshr hx hb hd rfl (kk ls hl)
    · cases h
theorem rg_ok_lushr {k pc : Nat} (hd : decode (rg_b k) pc = .ok (.lushr, 1)) : rg_Ok k pc (rg_ssh (fun x y => (x.toUInt64 >>> (y.toInt64.toUInt64 &&& Int64.toUInt64 63)).toInt64)) := by
  refine rg_mkP (fun c o h => ?_) (fun c c' hc h => ?_)
  · unfold rg_ssh at h; split at h
    · cases h
    · cases h; rfl
  · unfold rg_ssh at h; split at h
    · cases h; dsimp only at hc; subst hc
      refine ⟨rfl, fun p l e R s m args below meth cd H locs cells slots Q ls hx hb hown hts hl kk => ?_⟩
      exact lv_lushr hx hb hd rfl (kk ls hl)
    · cases h
theorem rg_ok_i2l {k pc : Nat} (hd : decode (rg_b k) pc = .ok (.i2l, 1)) : rg_Ok k pc (rg_si2l) := by
  refine rg_mkP (fun c o h => ?_) (fun c c' hc h => ?_)
  · unfold rg_si2l at h; split at h
    · cases h
    · cases h; rfl
  · unfold rg_si2l at h; split at h
    · cases h; dsimp only at hc; subst hc
      refine ⟨rfl, fun p l e R s m args below meth cd H locs cells slots Q ls hx hb hown hts hl kk => ?_⟩
      exact lv_i2l hx hb hd rfl (kk ls hl)
    · cases h
theorem rg_ok_l2i {k pc : Nat} (hd : decode (rg_b k) pc = .ok (.l2i, 1)) : rg_Ok k pc (rg_sl2i) := by
  refine rg_mkP (fun c o h => ?_) (fun c c' hc h => ?_)
  · unfold rg_sl2i at h; split at h
    · cases h
    · cases h; rfl
  · unfold rg_sl2i at h; split at h
    · cases h; dsimp only at hc; subst hc
      refine ⟨rfl, fun p l e R s m args below meth cd H locs cells slots Q ls hx hb hown hts hl kk => ?_⟩
      exact lv_l2i hx hb hd rfl (kk ls hl)
    · cases h
theorem rg_ok_lcmp {k pc : Nat} (hd : decode (rg_b k) pc = .ok (.lcmp, 1)) : rg_Ok k pc (rg_scm) := by
  refine rg_mkP (fun c o h => ?_) (fun c c' hc h => ?_)
  · unfold rg_scm at h; split at h
    · cases h
    · cases h; rfl
  · unfold rg_scm at h; split at h
    · cases h; dsimp only at hc; subst hc
      refine ⟨rfl, fun p l e R s m args below meth cd H locs cells slots Q ls hx hb hown hts hl kk => ?_⟩
      exact W.lcmp hx hb hd (kk ls hl)
    · cases h
theorem rg_ok_dup {k pc : Nat} (hd : decode (rg_b k) pc = .ok (.dup, 1)) : rg_Ok k pc (rg_sdu) := by
  refine rg_mkP (fun c o h => ?_) (fun c c' hc h => ?_)
  · unfold rg_sdu at h; split at h
    · cases h
    · cases h; rfl
  · unfold rg_sdu at h; split at h
    · cases h; dsimp only at hc; subst hc
      refine ⟨rfl, fun p l e R s m args below meth cd H locs cells slots Q ls hx hb hown hts hl kk => ?_⟩
      exact lv_dup hx hb hd rfl (kk ls hl)
    · cases h
theorem rg_ok_dup2 {k pc : Nat} (hd : decode (rg_b k) pc = .ok (.dup2, 1)) : rg_Ok k pc (rg_sd2) := by
  refine rg_mkP (fun c o h => ?_) (fun c c' hc h => ?_)
  · unfold rg_sd2 at h; split at h
    · cases h
    · cases h; rfl
  · unfold rg_sd2 at h; split at h
    · cases h; dsimp only at hc; subst hc
      refine ⟨rfl, fun p l e R s m args below meth cd H locs cells slots Q ls hx hb hown hts hl kk => ?_⟩
      exact lv_dup2_11 hx hb hd rfl rfl (kk ls hl)
    · cases h
def rg_sdi (g : Int32 → Int32 → Int32) : rg_S := fun c => match c with
  | (pc, L, .int y :: .int x :: st, M) => if y = 0 then rg_no else .inl (pc + 1, L, .int (g x y) :: st, M)
  | _ => rg_no
theorem rg_ok_idiv {k pc : Nat} (hd : decode (rg_b k) pc = .ok (.idiv, 1)) : rg_Ok k pc (rg_sdi (fun x y => x / y)) := by
  refine rg_mkP (fun c o h => ?_) (fun c c' hc h => ?_)
  · unfold rg_sdi at h; split at h
    · split at h
      · cases h; rfl
      · cases h
    · cases h; rfl
  · unfold rg_sdi at h; split at h
    · split at h
      · cases h
      · rename_i h0
        cases h; dsimp only at hc; subst hc
        refine ⟨rfl, fun p l e R s m args below meth cd H locs cells slots Q ls hx hb hown hts hl kk => ?_⟩
        exact lv_idiv hx hb hd h0 (kk ls hl)
    · cases h
theorem rg_ok_irem {k pc : Nat} (hd : decode (rg_b k) pc = .ok (.irem, 1)) : rg_Ok k pc (rg_sdi (fun x y => x - x / y * y)) := by
  refine rg_mkP (fun c o h => ?_) (fun c c' hc h => ?_)
  · unfold rg_sdi at h; split at h
    · split at h
      · cases h; rfl
      · cases h
    · cases h; rfl
  · unfold rg_sdi at h; split at h
    · split at h
      · cases h
      · rename_i h0
        cases h; dsimp only at hc; subst hc
        refine ⟨rfl, fun p l e R s m args below meth cd H locs cells slots Q ls hx hb hown hts hl kk => ?_⟩
        exact lv_irem hx hb hd h0 (kk ls hl)
    · cases h
def rg_sdl (g : Int64 → Int64 → Int64) : rg_S := fun c => match c with
  | (pc, L, .long y :: .long x :: st, M) => if y = 0 then rg_no else .inl (pc + 1, L, .long (g x y) :: st, M)
  | _ => rg_no
theorem rg_ok_ldiv {k pc : Nat} (hd : decode (rg_b k) pc = .ok (.ldiv, 1)) : rg_Ok k pc (rg_sdl (fun x y => x / y)) := by
  refine rg_mkP (fun c o h => ?_) (fun c c' hc h => ?_)
  · unfold rg_sdl at h; split at h
    · split at h
      · cases h; rfl
      · cases h
    · cases h; rfl
  · unfold rg_sdl at h; split at h
    · split at h
      · cases h
      · rename_i h0
        cases h; dsimp only at hc; subst hc
        refine ⟨rfl, fun p l e R s m args below meth cd H locs cells slots Q ls hx hb hown hts hl kk => ?_⟩
        exact lv_ldiv hx hb hd h0 (kk ls hl)
    · cases h
theorem rg_ok_lrem {k pc : Nat} (hd : decode (rg_b k) pc = .ok (.lrem, 1)) : rg_Ok k pc (rg_sdl (fun x y => x - x / y * y)) := by
  refine rg_mkP (fun c o h => ?_) (fun c c' hc h => ?_)
  · unfold rg_sdl at h; split at h
    · split at h
      · cases h; rfl
      · cases h
    · cases h; rfl
  · unfold rg_sdl at h; split at h
    · split at h
      · cases h
      · rename_i h0
        cases h; dsimp only at hc; subst hc
        refine ⟨rfl, fun p l e R s m args below meth cd H locs cells slots Q ls hx hb hown hts hl kk => ?_⟩
        exact lv_lrem hx hb hd h0 (kk ls hl)
    · cases h
def rg_sjeq (t : Nat) : rg_S := fun c => match c with
  | (pc, L, .int x :: st, M) => if x = 0 then .inl (t, L, st, M) else .inl (pc + 3, L, st, M)
  | _ => rg_no
theorem rg_ok_if_eq {k pc : Nat} {off : Int} {t : Nat} (hd : decode (rg_b k) pc = .ok (.ifCond .eq off, 3)) (ht : (pc : Int) + off = (t : Int)) : rg_Ok k pc (rg_sjeq t) := by
  refine rg_mkP (fun c o h => ?_) (fun c c' hc h => ?_)
  · unfold rg_sjeq at h; split at h
    · split at h <;> cases h
    · cases h; rfl
  · unfold rg_sjeq at h; split at h
    · split at h
      · rename_i h0
        cases h; dsimp only at hc; subst hc
        refine ⟨rfl, fun p l e R s m args below meth cd H locs cells slots Q ls hx hb hown hts hl kk => ?_⟩
        exact lv_if_eq hx hb hd ht (fun _ => kk ls hl) (fun q => absurd h0 q)
      · rename_i h0
        cases h; dsimp only at hc; subst hc
        refine ⟨rfl, fun p l e R s m args below meth cd H locs cells slots Q ls hx hb hown hts hl kk => ?_⟩
        exact lv_if_eq hx hb hd ht (fun q => absurd q h0) (fun _ => kk ls hl)
    · cases h
def rg_sjne (t : Nat) : rg_S := fun c => match c with
  | (pc, L, .int x :: st, M) => if x = 0 then .inl (pc + 3, L, st, M) else .inl (t, L, st, M)
  | _ => rg_no
theorem rg_ok_if_ne {k pc : Nat} {off : Int} {t : Nat} (hd : decode (rg_b k) pc = .ok (.ifCond .ne off, 3)) (ht : (pc : Int) + off = (t : Int)) : rg_Ok k pc (rg_sjne t) := by
  refine rg_mkP (fun c o h => ?_) (fun c c' hc h => ?_)
  · unfold rg_sjne at h; split at h
    · split at h <;> cases h
    · cases h; rfl
  · unfold rg_sjne at h; split at h
    · split at h
      · rename_i h0
        cases h; dsimp only at hc; subst hc
        refine ⟨rfl, fun p l e R s m args below meth cd H locs cells slots Q ls hx hb hown hts hl kk => ?_⟩
        exact lv_if_ne hx hb hd ht (fun q => absurd h0 q) (fun _ => kk ls hl)
      · rename_i h0
        cases h; dsimp only at hc; subst hc
        refine ⟨rfl, fun p l e R s m args below meth cd H locs cells slots Q ls hx hb hown hts hl kk => ?_⟩
        exact lv_if_ne hx hb hd ht (fun _ => kk ls hl) (fun q => absurd q h0)
    · cases h
def rg_sjlt (t : Nat) : rg_S := fun c => match c with
  | (pc, L, .int x :: st, M) => if x < 0 then .inl (t, L, st, M) else .inl (pc + 3, L, st, M)
  | _ => rg_no
theorem rg_ok_if_lt {k pc : Nat} {off : Int} {t : Nat} (hd : decode (rg_b k) pc = .ok (.ifCond .lt off, 3)) (ht : (pc : Int) + off = (t : Int)) : rg_Ok k pc (rg_sjlt t) := by
  refine rg_mkP (fun c o h => ?_) (fun c c' hc h => ?_)
  · unfold rg_sjlt at h; split at h
    · split at h <;> cases h
    · cases h; rfl
  · unfold rg_sjlt at h; split at h
    · split at h
      · rename_i h0
        cases h; dsimp only at hc; subst hc
        refine ⟨rfl, fun p l e R s m args below meth cd H locs cells slots Q ls hx hb hown hts hl kk => ?_⟩
        exact lv_if_lt hx hb hd ht (fun _ => kk ls hl) (fun q => absurd h0 q)
      · rename_i h0
        cases h; dsimp only at hc; subst hc
        refine ⟨rfl, fun p l e R s m args below meth cd H locs cells slots Q ls hx hb hown hts hl kk => ?_⟩
        exact lv_if_lt hx hb hd ht (fun q => absurd q h0) (fun _ => kk ls hl)
    · cases h
def rg_sjge (t : Nat) : rg_S := fun c => match c with
  | (pc, L, .int x :: st, M) => if 0 ≤ x then .inl (t, L, st, M) else .inl (pc + 3, L, st, M)
  | _ => rg_no
theorem rg_ok_if_ge {k pc : Nat} {off : Int} {t : Nat} (hd : decode (rg_b k) pc = .ok (.ifCond .ge off, 3)) (ht : (pc : Int) + off = (t : Int)) : rg_Ok k pc (rg_sjge t) := by
  refine rg_mkP (fun c o h => ?_) (fun c c' hc h => ?_)
  · unfold rg_sjge at h; split at h
    · split at h <;> cases h
    · cases h; rfl
  · unfold rg_sjge at h; split at h
    · split at h
      · rename_i h0
        cases h; dsimp only at hc; subst hc
        refine ⟨rfl, fun p l e R s m args below meth cd H locs cells slots Q ls hx hb hown hts hl kk => ?_⟩
        exact lv_if_ge hx hb hd ht (fun _ => kk ls hl) (fun q => absurd h0 q)
      · rename_i h0
        cases h; dsimp only at hc; subst hc
        refine ⟨rfl, fun p l e R s m args below meth cd H locs cells slots Q ls hx hb hown hts hl kk => ?_⟩
        exact lv_if_ge hx hb hd ht (fun q => absurd q h0) (fun _ => kk ls hl)
    · cases h
def rg_sjgt (t : Nat) : rg_S := fun c => match c with
  | (pc, L, .int x :: st, M) => if 0 < x then .inl (t, L, st, M) else .inl (pc + 3, L, st, M)
  | _ => rg_no
theorem rg_ok_if_gt {k pc : Nat} {off : Int} {t : Nat} (hd : decode (rg_b k) pc = .ok (.ifCond .gt off, 3)) (ht : (pc : Int) + off = (t : Int)) : rg_Ok k pc (rg_sjgt t) := by
  refine rg_mkP (fun c o h => ?_) (fun c c' hc h => ?_)
  · unfold rg_sjgt at h; split at h
    · split at h <;> cases h
    · cases h; rfl
  · unfold rg_sjgt at h; split at h
    · split at h
      · rename_i h0
        cases h; dsimp only at hc; subst hc
        refine ⟨rfl, fun p l e R s m args below meth cd H locs cells slots Q ls hx hb hown hts hl kk => ?_⟩
        exact lv_if_gt hx hb hd ht (fun _ => kk ls hl) (fun q => absurd h0 q)
      · rename_i h0
        cases h; dsimp only at hc; subst hc
        refine ⟨rfl, fun p l e R s m args below meth cd H locs cells slots Q ls hx hb hown hts hl kk => ?_⟩
        exact lv_if_gt hx hb hd ht (fun q => absurd q h0) (fun _ => kk ls hl)
    · cases h
def rg_sjle (t : Nat) : rg_S := fun c => match c with
  | (pc, L, .int x :: st, M) => if x ≤ 0 then .inl (t, L, st, M) else .inl (pc + 3, L, st, M)
  | _ => rg_no
theorem rg_ok_if_le {k pc : Nat} {off : Int} {t : Nat} (hd : decode (rg_b k) pc = .ok (.ifCond .le off, 3)) (ht : (pc : Int) + off = (t : Int)) : rg_Ok k pc (rg_sjle t) := by
  refine rg_mkP (fun c o h => ?_) (fun c c' hc h => ?_)
  · unfold rg_sjle at h; split at h
    · split at h <;> cases h
    · cases h; rfl
  · unfold rg_sjle at h; split at h
    · split at h
      · rename_i h0
        cases h; dsimp only at hc; subst hc
        refine ⟨rfl, fun p l e R s m args below meth cd H locs cells slots Q ls hx hb hown hts hl kk => ?_⟩
        exact lv_if_le hx hb hd ht (fun _ => kk ls hl) (fun q => absurd h0 q)
      · rename_i h0
        cases h; dsimp only at hc; subst hc
        refine ⟨rfl, fun p l e R s m args below meth cd H locs cells slots Q ls hx hb hown hts hl kk => ?_⟩
        exact lv_if_le hx hb hd ht (fun q => absurd q h0) (fun _ => kk ls hl)
    · cases h
def rg_skeq (t : Nat) : rg_S := fun c => match c with
  | (pc, L, .int y :: .int x :: st, M) => if x = y then .inl (t, L, st, M) else .inl (pc + 3, L, st, M)
  | _ => rg_no
theorem rg_ok_icmp_eq {k pc : Nat} {off : Int} {t : Nat} (hd : decode (rg_b k) pc = .ok (.if_icmp .eq off, 3)) (ht : (pc : Int) + off = (t : Int)) : rg_Ok k pc (rg_skeq t) := by
  refine rg_mkP (fun c o h => ?_) (fun c c' hc h => ?_)
  · unfold rg_skeq at h; split at h
    · split at h <;> cases h
    · cases h; rfl
  · unfold rg_skeq at h; split at h
    · split at h
      · rename_i h0
        cases h; dsimp only at hc; subst hc
        refine ⟨rfl, fun p l e R s m args below meth cd H locs cells slots Q ls hx hb hown hts hl kk => ?_⟩
        exact lv_icmp_eq hx hb hd ht (fun _ => kk ls hl) (fun q => absurd h0 q)
      · rename_i h0
        cases h; dsimp only at hc; subst hc
        refine ⟨rfl, fun p l e R s m args below meth cd H locs cells slots Q ls hx hb hown hts hl kk => ?_⟩
        exact lv_icmp_eq hx hb hd ht (fun q => absurd q h0) (fun _ => kk ls hl)
    · cases h
def rg_skne (t : Nat) : rg_S := fun c => match c with
  | (pc, L, .int y :: .int x :: st, M) => if x = y then .inl (pc + 3, L, st, M) else .inl (t, L, st, M)
  | _ => rg_no
theorem rg_ok_icmp_ne {k pc : Nat} {off : Int} {t : Nat} (hd : decode (rg_b k) pc = .ok (.if_icmp .ne off, 3)) (ht : (pc : Int) + off = (t : Int)) : rg_Ok k pc (rg_skne t) := by
  refine rg_mkP (fun c o h => ?_) (fun c c' hc h => ?_)
  · unfold rg_skne at h; split at h
    · split at h <;> cases h
    · cases h; rfl
  · unfold rg_skne at h; split at h
    · split at h
      · rename_i h0
        cases h; dsimp only at hc; subst hc
        refine ⟨rfl, fun p l e R s m args below meth cd H locs cells slots Q ls hx hb hown hts hl kk => ?_⟩
        exact lv_icmp_ne hx hb hd ht (fun q => absurd h0 q) (fun _ => kk ls hl)
      · rename_i h0
        cases h; dsimp only at hc; subst hc
        refine ⟨rfl, fun p l e R s m args below meth cd H locs cells slots Q ls hx hb hown hts hl kk => ?_⟩
        exact lv_icmp_ne hx hb hd ht (fun _ => kk ls hl) (fun q => absurd q h0)
    · cases h
def rg_sklt (t : Nat) : rg_S := fun c => match c with
  | (pc, L, .int y :: .int x :: st, M) => if x < y then .inl (t, L, st, M) else .inl (pc + 3, L, st, M)
  | _ => rg_no
theorem rg_ok_icmp_lt {k pc : Nat} {off : Int} {t : Nat} (hd : decode (rg_b k) pc = .ok (.if_icmp .lt off, 3)) (ht : (pc : Int) + off = (t : Int)) : rg_Ok k pc (rg_sklt t) := by
  refine rg_mkP (fun c o h => ?_) (fun c c' hc h => ?_)
  · unfold rg_sklt at h; split at h
    · split at h <;> cases h
    · cases h; rfl
  · unfold rg_sklt at h; split at h
    · split at h
      · rename_i h0
        cases h; dsimp only at hc; subst hc
        refine ⟨rfl, fun p l e R s m args below meth cd H locs cells slots Q ls hx hb hown hts hl kk => ?_⟩
        exact lv_icmp_lt hx hb hd ht (fun _ => kk ls hl) (fun q => absurd h0 q)
      · rename_i h0
        cases h; dsimp only at hc; subst hc
        refine ⟨rfl, fun p l e R s m args below meth cd H locs cells slots Q ls hx hb hown hts hl kk => ?_⟩
        exact lv_icmp_lt hx hb hd ht (fun q => absurd q h0) (fun _ => kk ls hl)
    · cases h
def rg_skge (t : Nat) : rg_S := fun c => match c with
  | (pc, L, .int y :: .int x :: st, M) => if y ≤ x then .inl (t, L, st, M) else .inl (pc + 3, L, st, M)
  | _ => rg_no
theorem rg_ok_icmp_ge {k pc : Nat} {off : Int} {t : Nat} (hd : decode (rg_b k) pc = .ok (.if_icmp .ge off, 3)) (ht : (pc : Int) + off = (t : Int)) : rg_Ok k pc (rg_skge t) := by
  refine rg_mkP (fun c o h => ?_) (fun c c' hc h => ?_)
  · unfold rg_skge at h; split at h
    · split at h <;> cases h
    · cases h; rfl
  · unfold rg_skge at h; split at h
    · split at h
      · rename_i h0
        cases h; dsimp only at hc; subst hc
        refine ⟨rfl, fun p l e R s m args below meth cd H locs cells slots Q ls hx hb hown hts hl kk => ?_⟩
        exact lv_icmp_ge hx hb hd ht (fun _ => kk ls hl) (fun q => absurd h0 q)
      · rename_i h0
        cases h; dsimp only at hc; subst hc
        refine ⟨rfl, fun p l e R s m args below meth cd H locs cells slots Q ls hx hb hown hts hl kk => ?_⟩
        exact lv_icmp_ge hx hb hd ht (fun q => absurd q h0) (fun _ => kk ls hl)
    · cases h
def rg_skgt (t : Nat) : rg_S := fun c => match c with
  | (pc, L, .int y :: .int x :: st, M) => if y < x then .inl (t, L, st, M) else .inl (pc + 3, L, st, M)
  | _ => rg_no
theorem rg_ok_icmp_gt {k pc : Nat} {off : Int} {t : Nat} (hd : decode (rg_b k) pc = .ok (.if_icmp .gt off, 3)) (ht : (pc : Int) + off = (t : Int)) : rg_Ok k pc (rg_skgt t) := by
  refine rg_mkP (fun c o h => ?_) (fun c c' hc h => ?_)
  · unfold rg_skgt at h; split at h
    · split at h <;> cases h
    · cases h; rfl
  · unfold rg_skgt at h; split at h
    · split at h
      · rename_i h0
        cases h; dsimp only at hc; subst hc
        refine ⟨rfl, fun p l e R s m args below meth cd H locs cells slots Q ls hx hb hown hts hl kk => ?_⟩
        exact lv_icmp_gt hx hb hd ht (fun _ => kk ls hl) (fun q => absurd h0 q)
      · rename_i h0
        cases h; dsimp only at hc; subst hc
        refine ⟨rfl, fun p l e R s m args below meth cd H locs cells slots Q ls hx hb hown hts hl kk => ?_⟩
        exact lv_icmp_gt hx hb hd ht (fun q => absurd q h0) (fun _ => kk ls hl)
    · cases h
def rg_skle (t : Nat) : rg_S := fun c => match c with
  | (pc, L, .int y :: .int x :: st, M) => if x ≤ y then .inl (t, L, st, M) else .inl (pc + 3, L, st, M)
  | _ => rg_no
theorem rg_ok_icmp_le {k pc : Nat} {off : Int} {t : Nat} (hd : decode (rg_b k) pc = .ok (.if_icmp .le off, 3)) (ht : (pc : Int) + off = (t : Int)) : rg_Ok k pc (rg_skle t) := by
  refine rg_mkP (fun c o h => ?_) (fun c c' hc h => ?_)
  · unfold rg_skle at h; split at h
    · split at h <;> cases h
    · cases h; rfl
  · unfold rg_skle at h; split at h
    · split at h
      · rename_i h0
        cases h; dsimp only at hc; subst hc
        refine ⟨rfl, fun p l e R s m args below meth cd H locs cells slots Q ls hx hb hown hts hl kk => ?_⟩
        exact lv_icmp_le hx hb hd ht (fun _ => kk ls hl) (fun q => absurd h0 q)
      · rename_i h0
        cases h; dsimp only at hc; subst hc
        refine ⟨rfl, fun p l e R s m args below meth cd H locs cells slots Q ls hx hb hown hts hl kk => ?_⟩
        exact lv_icmp_le hx hb hd ht (fun q => absurd q h0) (fun _ => kk ls hl)
    · cases h
def rg_sgo (t : Nat) : rg_S := fun c => .inl (t, c.2.1, c.2.2.1, c.2.2.2)
theorem rg_ok_goto {k pc : Nat} {off : Int} {t : Nat} (hd : decode (rg_b k) pc = .ok (.goto off, 3)) (ht : (pc : Int) + off = (t : Int)) : rg_Ok k pc (rg_sgo t) := by
  refine rg_mkP (fun c o h => by cases h) (fun c c' hc h => ?_)
  cases h; subst hc
  refine ⟨rfl, fun p l e R s m args below meth cd H locs cells slots Q ls hx hb hown hts hl kk => ?_⟩
  exact lv_goto hx hb hd ht (kk ls hl)
/-- a switch's target -/
def rg_sw (x : Int32) : Int32 → List Nat → Nat → Nat
  | _, [], d => d
  | lo, t :: ts, d => if x = lo then t else rg_sw x (lo + 1) ts d
def rg_stb (lo : Int32) (ts : List Nat) (d : Nat) : rg_S := fun c => match c with
  | (pc, L, .int x :: st, M) => .inl (rg_sw x lo ts d, L, st, M)
  | _ => rg_no
theorem rg_sw_spec {pc : Nat} {x : Int32} : ∀ (ts : List Nat) (lo : Nat) (offs : List Int) (d : Nat), offs.length = ts.length → (∀ j : Nat, j < ts.length → ∃ o t, offs[j]? = some o ∧ ts[j]? = some t ∧ (pc : Int) + o = (t : Int)) → lo + ts.length < 1000 →
    (∃ j o, j < ts.length ∧ x.toInt = ((lo + j : Nat) : Int) ∧ offs[j]? = some o ∧ (pc : Int) + o = (rg_sw x (nI lo) ts d : Int)) ∨ ((x.toInt < (lo : Int) ∨ ((lo + ts.length : Nat) : Int) ≤ x.toInt) ∧ rg_sw x (nI lo) ts d = d)
  | [], lo, offs, d, _, _, _ => Or.inr ⟨by simp only [List.length_nil]; omega, rfl⟩
  | t :: ts, lo, offs, d, hl, h, hb => by
    have e0 : x = nI lo ↔ x.toInt = (lo : Int) := by rw [← Int32.toInt_inj, nI_toInt (by simp only [List.length_cons] at hb; omega)]
    by_cases hx : x = nI lo
    · obtain ⟨o, t', a, b, c⟩ := h 0 (by simp)
      refine Or.inl ⟨0, o, by simp, by simpa using e0.mp hx, a, ?_⟩
      simp only [rg_sw, if_pos hx]
      simp at b; subst b; exact c
    · cases offs with
      | nil => simp at hl
      | cons o0 offs =>
        have ih := rg_sw_spec (pc := pc) (x := x) ts (lo + 1) offs d (by simpa using hl) (fun j hj => by
          obtain ⟨o, t', a, b, c⟩ := h (j + 1) (by simp; omega)
          exact ⟨o, t', by simpa using a, by simpa using b, c⟩) (by simp only [List.length_cons] at hb; omega)
        have e1 : rg_sw x (nI lo) (t :: ts) d = rg_sw x (nI (lo + 1)) ts d := by simp only [rg_sw, if_neg hx]; rw [nI_1]
        rw [e1]
        rcases ih with ⟨j, o, a, b, c, e⟩ | ⟨a, b⟩
        · exact Or.inl ⟨j + 1, o, by simp; omega, by rw [b]; omega, by simpa using c, e⟩
        · refine Or.inr ⟨?_, b⟩
          have : ¬ x.toInt = (lo : Int) := fun q => hx (e0.mpr q)
          simp only [List.length_cons]
          omega
theorem rg_ok_tsw {k pc : Nat} {dflt lo hi : Int} {offs : Array Int} {len ln d : Nat} {ts : List Nat} (hd : decode (rg_b k) pc = .ok (.tableswitch dflt lo hi offs, len)) (hlo : lo = (ln : Int)) (hhi : hi = lo + ts.length - 1) (hdd : (pc : Int) + dflt = (d : Int)) (hl : offs.toList.length = ts.length)
    (hts : ∀ j : Nat, j < ts.length → ∃ o t, offs.toList[j]? = some o ∧ ts[j]? = some t ∧ (pc : Int) + o = (t : Int)) (hbb : ln + ts.length < 1000) : rg_Ok k pc (rg_stb (nI ln) ts d) := by
  refine rg_mkP (fun c o h => ?_) (fun c c' hc h => ?_)
  · unfold rg_stb at h; split at h
    · cases h
    · cases h; rfl
  · unfold rg_stb at h; split at h
    · rename_i pc0 L x st M
      cases h; dsimp only at hc; subst hc
      refine ⟨rfl, fun p l e R s m args below meth cd H locs cells slots Q ls hx hb hown hts' hl' kk => ?_⟩
      rcases rg_sw_spec (pc := pc0) (x := x) ts ln offs.toList d hl hts hbb with ⟨j, o, a, b, c, e⟩ | ⟨a, b⟩
      · exact lv_tableIn hx hb hd (by rw [b, hlo]; omega) (by rw [b, hhi, hlo]; omega) (by rw [b, hlo, show (((ln + j : Nat) : Int) - (ln : Int)).toNat = j by omega, ← Array.getElem?_toList]; exact c) e (kk ls hl')
      · dsimp only at kk ⊢
        rw [b] at kk
        exact lv_tableOut hx hb hd (by rw [hhi, hlo]; omega) hdd (kk ls hl')
    · cases h
def rg_ri : rg_S := fun c => match c with
  | (pc, L, [.int x], M) => .inr (.inl (some (.int x), M))
  | _ => rg_no
theorem rg_ok_ireturn {k pc : Nat} (hd : decode (rg_b k) pc = .ok (.ireturn, 1)) (hr0 : rg_rt k = some .int) : rg_Ok k pc rg_ri := by
  intro l G c hc
  refine ⟨fun c' h => ?_, fun r h => ?_, fun k' av c1 t h => ?_⟩
  · unfold rg_ri at h; split at h
    · cases h
    · cases h
  · unfold rg_ri at h; split at h
    · cases h; dsimp only at hc; subst hc
      refine ⟨rfl, fun p e R s m args below meth cd H locs cells slots ls M0 X hm hl ho h1 h2 h3 h4 h5 h6 => ?_⟩
      obtain ⟨hx, hb, hml, hr, hown, hts, hlocks, hnm, hW⟩ := X
      dsimp only [rg_cM] at h1 h2 hm ⊢
      rw [← h1, ← h2, Nat.add_sub_cancel, Nat.add_sub_cancel]
      exact W.iret hx hb (hr.trans hr0) (fun t ht _ => ⟨rfl, by rw [ht]; exact hm⟩) ho hd hlocks
    · cases h
  · unfold rg_ri at h; split at h
    · cases h
    · cases h
def rg_rz : rg_S := fun c => match c with
  | (pc, L, [.int x], M) => if x = 0 ∨ x = 1 then .inr (.inl (some (.int x), M)) else rg_no
  | _ => rg_no
theorem rg_ok_zreturn {k pc : Nat} (hd : decode (rg_b k) pc = .ok (.ireturn, 1)) (hr0 : rg_rt k = some .boolean) : rg_Ok k pc rg_rz := by
  intro l G c hc
  refine ⟨fun c' h => ?_, fun r h => ?_, fun k' av c1 t h => ?_⟩
  · unfold rg_rz at h; split at h
    · split at h <;> cases h
    · cases h
  · unfold rg_rz at h; split at h
    · split at h
      · rename_i hg
        cases h; dsimp only at hc; subst hc
        refine ⟨rfl, fun p e R s m args below meth cd H locs cells slots ls M0 X hm hl ho h1 h2 h3 h4 h5 h6 => ?_⟩
        obtain ⟨hx, hb, hml, hr, hown, hts, hlocks, hnm, hW⟩ := X
        dsimp only [rg_cM] at h1 h2 hm ⊢
        rw [← h1, ← h2, Nat.add_sub_cancel, Nat.add_sub_cancel]
        exact W.zret hx hb (hr.trans hr0) (by rcases hg with rfl | rfl <;> rfl) (fun t ht _ => ⟨rfl, by rw [ht]; exact hm⟩) ho hd hlocks
      · cases h
    · cases h
  · unfold rg_rz at h; split at h
    · split at h <;> cases h
    · cases h
def rg_rl : rg_S := fun c => match c with
  | (pc, L, [.long x], M) => .inr (.inl (some (.long x), M))
  | _ => rg_no
theorem rg_ok_lreturn {k pc : Nat} (hd : decode (rg_b k) pc = .ok (.lreturn, 1)) (hr0 : rg_rt k = some .long) : rg_Ok k pc rg_rl := by
  intro l G c hc
  refine ⟨fun c' h => ?_, fun r h => ?_, fun k' av c1 t h => ?_⟩
  · unfold rg_rl at h; split at h
    · cases h
    · cases h
  · unfold rg_rl at h; split at h
    · cases h; dsimp only at hc; subst hc
      refine ⟨rfl, fun p e R s m args below meth cd H locs cells slots ls M0 X hm hl ho h1 h2 h3 h4 h5 h6 => ?_⟩
      obtain ⟨hx, hb, hml, hr, hown, hts, hlocks, hnm, hW⟩ := X
      dsimp only [rg_cM] at h1 h2 hm ⊢
      rw [← h1, ← h2, Nat.add_sub_cancel, Nat.add_sub_cancel]
      exact W.lret hx hb (hr.trans hr0) (fun t ht _ => ⟨rfl, by rw [ht]; exact hm⟩) ho hd hlocks
    · cases h
  · unfold rg_rl at h; split at h
    · cases h
    · cases h
def rg_ra : rg_S := fun c => match c with
  | (pc, L, [.ref x], M) => .inr (.inl (some (.ref x), M))
  | _ => rg_no
theorem rg_ok_areturn {k pc : Nat} {C : String} (hd : decode (rg_b k) pc = .ok (.areturn, 1)) (hr0 : rg_rt k = some (.object C)) : rg_Ok k pc rg_ra := by
  intro l G c hc
  refine ⟨fun c' h => ?_, fun r h => ?_, fun k' av c1 t h => ?_⟩
  · unfold rg_ra at h; split at h
    · cases h
    · cases h
  · unfold rg_ra at h; split at h
    · cases h; dsimp only at hc; subst hc
      refine ⟨rfl, fun p e R s m args below meth cd H locs cells slots ls M0 X hm hl ho h1 h2 h3 h4 h5 h6 => ?_⟩
      obtain ⟨hx, hb, hml, hr, hown, hts, hlocks, hnm, hW⟩ := X
      dsimp only [rg_cM] at h1 h2 hm ⊢
      rw [← h1, ← h2, Nat.add_sub_cancel, Nat.add_sub_cancel]
      exact W.aret hx hb (hr.trans hr0) (Or.inl ⟨_, rfl⟩) (Or.inr ⟨_, rfl⟩) (fun t ht _ => ⟨rfl, by rw [ht]; exact hm⟩) ho hd hlocks
    · cases h
  · unfold rg_ra at h; split at h
    · cases h
    · cases h
def rg_rv : rg_S := fun c => match c with
  | (pc, L, [], M) => .inr (.inl (none, M))
  | _ => rg_no
theorem rg_ok_return {k pc : Nat} (hd : decode (rg_b k) pc = .ok (.return_, 1)) (hr0 : rg_rt k = none) : rg_Ok k pc rg_rv := by
  intro l G c hc
  refine ⟨fun c' h => ?_, fun r h => ?_, fun k' av c1 t h => ?_⟩
  · unfold rg_rv at h; split at h
    · cases h
    · cases h
  · unfold rg_rv at h; split at h
    · cases h; dsimp only at hc; subst hc
      refine ⟨rfl, fun p e R s m args below meth cd H locs cells slots ls M0 X hm hl ho h1 h2 h3 h4 h5 h6 => ?_⟩
      obtain ⟨hx, hb, hml, hr, hown, hts, hlocks, hnm, hW⟩ := X
      dsimp only [rg_cM] at h1 h2 hm ⊢
      rw [← h1, ← h2, Nat.add_sub_cancel, Nat.add_sub_cancel]
      exact W.vret hx hb (hr.trans hr0) (fun t ht _ => ⟨rfl, by rw [ht]; exact hm⟩) ho hd hlocks
    · cases h
  · unfold rg_rv at h; split at h
    · cases h
    · cases h

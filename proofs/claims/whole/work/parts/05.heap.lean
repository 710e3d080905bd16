/-! steps that read and write the memory -/
/-- what is shown of a class: its place, its words, its field types -/
def rg_cok (ci : Nat) (C : String) (T : u_T) (N : Nat) (ty : Nat → FieldType) : Prop := ci < 8 ∧ vwCl[ci]? = some (C, T, N) ∧ (∀ w ∈ u_ws C T N, w ∈ rg_gd) ∧ (∀ k, k < N → parseFieldDescriptor (T k).2.2.1 = some (ty k)) ∧ (∀ a, a < N → ∀ b, b < N → a ≠ b → (T a).2.1 ≠ (T b).2.1) ∧ rg_n ci = N
theorem rg_cok0 : rg_cok 0 rg_c0 rg_T0 7 rg_ty0 := ⟨by omega, rfl, rg_in0, rg_tk0, rg_nm0, rfl⟩
theorem rg_cok1 : rg_cok 1 rg_c1 rg_T1 2 rg_ty1 := ⟨by omega, rfl, rg_in1, rg_tk1, rg_nm1, rfl⟩
theorem rg_cok2 : rg_cok 2 rg_c2 rg_T2 14 rg_ty2 := ⟨by omega, rfl, rg_in2, rg_tk2, rg_nm2, rfl⟩
theorem rg_cok3 : rg_cok 3 rg_c3 rg_T3 4 rg_ty3 := ⟨by omega, rfl, rg_in3, rg_tk3, rg_nm3, rfl⟩
theorem rg_cok4 : rg_cok 4 rg_c4 rg_T4 12 rg_ty4 := ⟨by omega, rfl, rg_in4, rg_tk4, rg_nm4, rfl⟩
theorem rg_cok5 : rg_cok 5 rg_c5 rg_T5 3 rg_ty5 := ⟨by omega, rfl, rg_in5, rg_tk5, rg_nm5, rfl⟩
theorem rg_cok6 : rg_cok 6 rg_c6 rg_T6 11 rg_ty6 := ⟨by omega, rfl, rg_in6, rg_tk6, rg_nm6, rfl⟩
theorem rg_cok7 : rg_cok 7 rg_c7 rg_T7 12 rg_ty7 := ⟨by omega, rfl, rg_in7, rg_tk7, rg_nm7, rfl⟩
theorem rg_mo.obj {G : rg_G} {M : rg_M} {H : Heap} (h : rg_mo G M H) {ci a : Nat} (hc : ci < 8) (hk : rg_K M a = ci + 1) : t_OB a ((gD G).1 ci) (rg_n ci) ((gD G).2 ci) H (rg_V M ci a) ∧ gz G ≤ a := h.1 ci a hc hk
theorem rg_mo.lt {G : rg_G} {M : rg_M} {H : Heap} (h : rg_mo G M H) {a : Nat} (hk : rg_K M a ≠ 0) (hk2 : rg_K M a ≤ 12) : a < rg_sz M := by
  rw [← h.2.2.2.2.2.2.1]
  by_cases h8 : rg_K M a < 9
  · obtain ⟨⟨cell, q, -⟩, -⟩ := h.1 (rg_K M a - 1) a (by omega) (by omega)
    exact (Array.getElem?_eq_some_iff.mp q).1
  · rcases (show rg_K M a = 9 ∨ rg_K M a = 10 ∨ rg_K M a = 11 ∨ rg_K M a = 12 by omega) with q | q | q | q
    · exact (Array.getElem?_eq_some_iff.mp (h.2.1 a q).1).1
    · exact (Array.getElem?_eq_some_iff.mp (h.2.2.1 a q).1).1
    · exact (Array.getElem?_eq_some_iff.mp (h.2.2.2.1 a q).1).1
    · exact (Array.getElem?_eq_some_iff.mp (h.2.2.2.2.1 a q).1).1
/-- another memory over another heap: what stands at one address may have changed, all else stands -/
theorem rg_mo.upd {G : rg_G} {M M' : rg_M} {H H' : Heap} {a : Nat} (h : rg_mo G M H) (hz : H'.size = H.size) (ho : ∀ q : Nat, q ≠ a → H'[q]? = H[q]?) (ha : gz G ≤ a) (hs : rg_sz M' = rg_sz M) (hK : rg_K M' = rg_K M) (hL : rg_L M' = rg_L M)
    (hI : ∀ f b, b ≠ a → rg_I M' f b = rg_I M f b) (hR : ∀ f b, b ≠ a → rg_R M' f b = rg_R M f b) (hA : ∀ b, b ≠ a → rg_A M' b = rg_A M b) (hJ : ∀ b, b ≠ a → rg_J M' b = rg_J M b) (hQ : ∀ b, b ≠ a → rg_Q M' b = rg_Q M b) (hne : rg_K M a ≠ 13)
    (c1 : ∀ ci, ci < 8 → rg_K M a = ci + 1 → t_OB a ((gD G).1 ci) (rg_n ci) ((gD G).2 ci) H' (rg_V M' ci a))
    (c2 : rg_K M a = 9 → H'[a]? = some (arrV (gC G 0) (rg_L M a) (fun j => .int (rg_A M' a j)))) (c3 : rg_K M a = 10 → H'[a]? = some (arrV (gC G 1) (rg_L M a) (fun j => .long (rg_J M' a j))))
    (c4 : rg_K M a = 11 → H'[a]? = some (arrV (gC G 2) (rg_L M a) (fun j => .int (rg_A M' a j)))) (c5 : rg_K M a = 12 → H'[a]? = some (arrV (gC G 3) (rg_L M a) (fun j => va_rf (rg_Q M' a j)))) : rg_mo G M' H' := by
  obtain ⟨m1, m2, m3, m4, m5, m6, m7, m8, m9⟩ := h
  refine ⟨fun ci b hc hb => ?_, fun b hb => ?_, fun b hb => ?_, fun b hb => ?_, fun b hb => ?_, fun b hb => ?_, by rw [hz, hs]; exact m7, by rw [hz]; exact m8, fun q hq => by rw [ho q (by omega)]; exact m9 q hq⟩ <;> rw [hK] at hb
  · by_cases e : b = a
    · subst e; exact ⟨c1 ci hc hb, ha⟩
    · refine ⟨((m1 ci b hc hb).1.kept (ho b e)).to (fun k _ => ?_), (m1 ci b hc hb).2⟩
      unfold rg_V
      rw [hI _ b e, hR _ b e]
  · rw [hL]
    by_cases e : b = a
    · subst e; exact ⟨c2 hb, ha⟩
    · rw [ho b e, hA b e]; exact m2 b hb
  · rw [hL]
    by_cases e : b = a
    · subst e; exact ⟨c3 hb, ha⟩
    · rw [ho b e, hJ b e]; exact m3 b hb
  · rw [hL]
    by_cases e : b = a
    · subst e; exact ⟨c4 hb, ha⟩
    · rw [ho b e, hA b e]; exact m4 b hb
  · rw [hL]
    by_cases e : b = a
    · subst e; exact ⟨c5 hb, ha⟩
    · rw [ho b e, hQ b e]; exact m5 b hb
  · have e : b ≠ a := fun e => hne (e ▸ hb)
    rw [hL, hA b e]; exact m6 b hb
theorem rg_u2_ne {α : Type} {g : Nat → Nat → α} {f a x b : Nat} {v : α} (h : b ≠ a) : rg_u2 g f a v x b = g x b := by
  unfold rg_u2; by_cases e : x = f
  · rw [if_pos e, if_neg h]
  · rw [if_neg e]
theorem rg_u2_nf {α : Type} {g : Nat → Nat → α} {f a x b : Nat} {v : α} (h : x ≠ f) : rg_u2 g f a v x b = g x b := by
  unfold rg_u2; rw [if_neg h]
theorem rg_u2_eq {α : Type} {g : Nat → Nat → α} {f a : Nat} {v : α} : rg_u2 g f a v f a = v := by
  unfold rg_u2; rw [if_pos rfl, if_pos rfl]
theorem rg_u2_row {α : Type} {g : Nat → Nat → α} {f a x : Nat} {v : α} (h : x ≠ f) : rg_u2 g f a v x = g x := by
  funext b; exact rg_u2_nf h
/-- the slots of a class lie apart -/
theorem rg_ap {G : rg_G} {s : State} {args : Array Value} {k ci N : Nat} {C : String} {T : u_T} {ty : Nat → FieldType} (hc : rg_cok ci C T N ty) (hts : ∀ w ∈ rg_ws k, w.before args s = true) (hK : va_K (gD G) vwCl (rg_tys G) s) : ∀ x y, x < N → y < N → x ≠ y → (gD G).2 ci x ≠ (gD G).2 ci y :=
  va_apart (own := C) hts (fun w h => List.mem_cons_of_mem _ (hc.2.2.1 w h)) ty hc.2.2.2.1 hc.2.2.2.2.1 hK hc.2.1
def rg_sgi (ci j : Nat) : rg_S := fun c => match c with
  | (pc, L, .ref a :: st, M) => if rg_K M a = ci + 1 then .inl (pc + 3, L, .int (rg_I M (16 * ci + j) a) :: st, M) else rg_no
  | _ => rg_no
def rg_sgr (ci j : Nat) : rg_S := fun c => match c with
  | (pc, L, .ref a :: st, M) => if rg_K M a = ci + 1 then (match rg_R M (16 * ci + j) a with | some b => .inl (pc + 3, L, .ref b :: st, M) | none => rg_no) else rg_no
  | _ => rg_no
theorem rg_getW {k ci j N idx : Nat} {C : String} {T : u_T} {ty : Nat → FieldType} (hc : rg_cok ci C T N ty) (hj : j < N) {pc : Nat} (hd : decode (rg_b k) pc = .ok (.getfield idx, 3)) (hlink : Cond.fieldLink (rg_y k).cls idx (T j).1 (T j).2.1 (T j).2.2.1 ∈ rg_gd)
    {G : rg_G} {p : Program} {l : Launch} {e : Env} {R : Room} {s : State} {m : MethodId} {args : Array Value} {below : List Frame} {meth : Method} {cd : Code} {H : Heap} {locs : List Loc} {cells slots : Nat} {Q : State → Prop} {ls : Array Slot} {st : List Value} {M : rg_M} {a : Nat}
    (X : rg_ctx G k p s m args meth cd) (hm : rg_mo G M H) (hk : rg_K M a = ci + 1) (kk : W p l e R s m args below meth cd H locs cells slots Q (F0 m (pc + 3) ls (rg_V M ci a j :: st))) : W p l e R s m args below meth cd H locs cells slots Q (F0 m pc ls (.ref a :: st)) := by
  obtain ⟨hx, hb, hml, hr, hown, hts, hlocks, hnm, hW⟩ := X
  obtain ⟨⟨cell, q1, q2, q3, q4⟩, -⟩ := hm.obj hc.1 hk
  obtain ⟨hS, hfc, kC, hkC, hkind⟩ := hW.1.1 ci _ hc.2.1
  obtain ⟨cf, kf, fi, f, hi, hsl⟩ := hS j hj
  have hin : ∀ w ∈ u_ws C T N, w ∈ rg_ws k := fun w h => List.mem_cons_of_mem _ (hc.2.2.1 w h)
  refine W.getf hx hb hown (hts _ (List.mem_cons_of_mem _ hlink)) hi (u_facts hfc hkC (u_lays hts hin hj) hi).1 q1 (by rw [q3]; exact fun h => by cases h) (v := rg_V M ci a j) ?_ rfl rfl hd kk
  rw [hsl, q4 j (by rw [hc.2.2.2.2.2]; exact hj)]
theorem rg_ok_geti {k pc ci j N idx : Nat} {C : String} {T : u_T} {ty : Nat → FieldType} (hc : rg_cok ci C T N ty) (hj : j < N) (hr : rg_ir ci j = false) (hd : decode (rg_b k) pc = .ok (.getfield idx, 3)) (hlink : Cond.fieldLink (rg_y k).cls idx (T j).1 (T j).2.1 (T j).2.2.1 ∈ rg_gd) : rg_Ok k pc (rg_sgi ci j) := by
  refine rg_mkG (fun c o h => ?_) (fun l G c c' hpc h => ?_)
  · unfold rg_sgi at h; split at h
    · split at h <;> cases h; rfl
    · cases h; rfl
  · unfold rg_sgi at h; split at h
    · split at h
      · rename_i hk
        cases h; dsimp only at hpc; subst hpc
        refine ⟨⟨Nat.le_refl _, Nat.le_refl _⟩, fun res _ _ hs => ?_⟩
        intro p e R s m args below meth cd H locs cells slots ls M0 X hm hl ho h1 h2 h3 h4 h5 h6
        refine rg_getW hc hj hd hlink X hm hk ?_
        unfold rg_V
        rw [if_neg (by rw [hr]; decide)]
        exact hs p e R s m args below meth cd H locs cells slots ls M0 X hm hl ho h1 h2 h3 h4 h5 h6
      · cases h
    · cases h
theorem rg_ok_getr {k pc ci j N idx : Nat} {C : String} {T : u_T} {ty : Nat → FieldType} (hc : rg_cok ci C T N ty) (hj : j < N) (hr : rg_ir ci j = true) (hd : decode (rg_b k) pc = .ok (.getfield idx, 3)) (hlink : Cond.fieldLink (rg_y k).cls idx (T j).1 (T j).2.1 (T j).2.2.1 ∈ rg_gd) : rg_Ok k pc (rg_sgr ci j) := by
  refine rg_mkG (fun c o h => ?_) (fun l G c c' hpc h => ?_)
  · unfold rg_sgr at h; split at h
    · split at h
      · split at h <;> cases h; rfl
      · cases h; rfl
    · cases h; rfl
  · unfold rg_sgr at h; split at h
    · split at h
      · rename_i hk
        split at h
        · rename_i b hb0
          cases h; dsimp only at hpc; subst hpc
          refine ⟨⟨Nat.le_refl _, Nat.le_refl _⟩, fun res _ _ hs => ?_⟩
          intro p e R s m args below meth cd H locs cells slots ls M0 X hm hl ho h1 h2 h3 h4 h5 h6
          refine rg_getW hc hj hd hlink X hm hk ?_
          unfold rg_V
          dsimp only [rg_cM]
          rw [if_pos hr, hb0]
          exact hs p e R s m args below meth cd H locs cells slots ls M0 X hm hl ho h1 h2 h3 h4 h5 h6
        · cases h
      · cases h
    · cases h

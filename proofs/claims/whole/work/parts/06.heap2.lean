/-! writes of fields -/
def rg_spi (ci j : Nat) : rg_S := fun c => match c with
  | (pc, L, .int v :: .ref a :: st, M) => if rg_K M a = ci + 1 then .inl (pc + 3, L, st, rg_wI M (16 * ci + j) a v) else rg_no
  | _ => rg_no
def rg_spz (ci j : Nat) : rg_S := fun c => match c with
  | (pc, L, .int v :: .ref a :: st, M) => if rg_K M a = ci + 1 ∧ (v = 0 ∨ v = 1) then .inl (pc + 3, L, st, rg_wI M (16 * ci + j) a v) else rg_no
  | _ => rg_no
def rg_spr (ci j : Nat) : rg_S := fun c => match c with
  | (pc, L, .ref v :: .ref a :: st, M) => if rg_K M a = ci + 1 then .inl (pc + 3, L, st, rg_wR M (16 * ci + j) a v) else rg_no
  | _ => rg_no
theorem rg_putW {k ci j N idx : Nat} {C : String} {T : u_T} {ty : Nat → FieldType} (hc : rg_cok ci C T N ty) (hj : j < N) (hfin : (T j).2.2.2 = false ∨ ((T j).2.2.2 = true ∧ (rg_y k).name = "<init>" ∧ (T j).1 = (rg_y k).cls)) {pc : Nat} (hd : decode (rg_b k) pc = .ok (.putfield idx, 3)) (hlink : Cond.fieldLink (rg_y k).cls idx (T j).1 (T j).2.1 (T j).2.2.1 ∈ rg_gd)
    {v : Value} (hn : narrow (ty j) v = v) (hfit : fits (ty j) v = true)
    {G : rg_G} {p : Program} {l : Launch} {e : Env} {R : Room} {s : State} {m : MethodId} {args : Array Value} {below : List Frame} {meth : Method} {cd : Code} {H : Heap} {locs : List Loc} {cells slots : Nat} {Q : State → Prop} {ls : Array Slot} {st : List Value} {M M' : rg_M} {a : Nat}
    (X : rg_ctx G k p s m args meth cd) (hm : rg_mo G M H) (hk : rg_K M a = ci + 1) (ho : ∀ q ∈ locs, gz G ≤ q.base)
    (hs : rg_sz M' = rg_sz M) (hK : rg_K M' = rg_K M) (hL : rg_L M' = rg_L M)
    (hI : ∀ f b, b ≠ a → rg_I M' f b = rg_I M f b) (hR : ∀ f b, b ≠ a → rg_R M' f b = rg_R M f b) (hA : rg_A M' = rg_A M) (hJ : rg_J M' = rg_J M) (hQ : rg_Q M' = rg_Q M)
    (hV : ∀ i, rg_V M' ci a i = if i = j then v else rg_V M ci a i)
    (kk : ∀ (H1 : Heap) (locs1 : List Loc), rg_mo G M' H1 → (∀ q ∈ locs1, gz G ≤ q.base) → W p l e R s m args below meth cd H1 locs1 cells slots Q (F0 m (pc + 3) ls st)) : W p l e R s m args below meth cd H locs cells slots Q (F0 m pc ls (v :: .ref a :: st)) := by
  obtain ⟨hx, hb, hml, hr, hown, hts, hlocks, hnm, hW⟩ := X
  obtain ⟨⟨cell, q1, q2, q3, q4⟩, hza⟩ := hm.obj hc.1 hk
  rw [hc.2.2.2.2.2] at q4
  have hap := rg_ap hc hts hW.1
  obtain ⟨hS, hfc, kC, hkC, hkind⟩ := hW.1.1 ci _ hc.2.1
  obtain ⟨cf, kf, fi, f, hi, hsl⟩ := hS j hj
  have hin : ∀ w ∈ u_ws C T N, w ∈ rg_ws k := fun w h => List.mem_cons_of_mem _ (hc.2.2.1 w h)
  have hst := (u_facts hfc hkC (u_lays hts hin hj) hi).1
  have hlk := hts _ (List.mem_cons_of_mem _ hlink)
  have hlay := hts _ (hin _ (u_in_lay hj))
  unfold u_lay at hlay
  have fin : ∀ (H' : Heap), H'[a]? = some (cell.setSlot f.slot v) → H'.size = H.size → (∀ q, q ≠ a → H'[q]? = H[q]?) → rg_mo G M' H' := by
    intro H' e1 e2 e3
    rw [hsl] at e1
    refine hm.upd e2 e3 hza hs hK hL hI hR (fun b _ => by rw [hA]) (fun b _ => by rw [hJ]) (fun b _ => by rw [hQ]) (by rw [hk]; have := hc.1; omega) (fun ci' h8 hk' => ?_) (fun h => ?_) (fun h => ?_) (fun h => ?_) (fun h => ?_)
    · have e : ci' = ci := by omega
      subst e
      rw [hc.2.2.2.2.2]
      refine t_OB.to (V := updV (rg_V M ci' a) j v) ⟨_, e1, q2, q3, t_set q4 hap hj v⟩ (fun i _ => ?_)
      rw [hV i]; rfl
    all_goals (exfalso; have := hc.1; omega)
  have ho' : ∀ q ∈ locs ++ [(⟨a, f.slot⟩ : Loc)], gz G ≤ q.base := by
    intro q hq
    rcases List.mem_append.mp hq with h | h
    · exact ho q h
    · rw [List.mem_singleton.mp h]; exact hza
  rcases hfin with hfin | ⟨hfin, hin2, hdecl⟩
  · rw [if_neg (by rw [hfin]; decide)] at hlay
    have h6 := u_store hfc hkC hkind hlay hi (hc.2.2.2.1 j hj) hn hfit
    exact W.putK hx hb (f := f) ⟨hown, hlk, ⟨_, _, _, hi⟩, hst⟩ (by rw [q2]; exact h6) q1 q3 (by rw [hsl]; exact k2_hasslot (q4 j hj)) rfl rfl hd fun H' e1 e2 e3 => kk H' _ (fin H' e1 e2 e3) ho'
  · rw [if_pos hfin] at hlay
    have hcf : m.cls = cf := by
      obtain ⟨_, _, c', _, _, _, -, -, hf', -, -, -, hown2, -⟩ := Cond.laysFinal_spec hlay
      have e1 : c' = cf := by have := hi.symm.trans hf'; simp at this; exact this.1.symm
      rw [hdecl] at hown2
      rw [← e1]; exact Option.some.inj (hown.symm.trans hown2)
    have h6 := u_fits hfc hkC hkind (Or.inr hlay) hi (hc.2.2.2.1 j hj) hn hfit
    exact W.putFinK hx hb hown hlk hi hst hcf (hnm.trans hin2) (by rw [q2]; exact h6) q1 q3 (by rw [hsl]; exact k2_hasslot (q4 j hj)) rfl rfl hd fun H' e1 e2 e3 => kk H' _ (fin H' e1 e2 e3) ho'
theorem rg_V_wI {M : rg_M} {ci a j : Nat} {v : Int32} (hr : rg_ir ci j = false) (i : Nat) : rg_V (rg_wI M (16 * ci + j) a v) ci a i = if i = j then .int v else rg_V M ci a i := by
  unfold rg_V
  by_cases e : i = j
  · subst e
    rw [if_pos rfl, if_neg (by rw [hr]; decide)]
    show Value.int (rg_u2 (rg_I M) (16 * ci + i) a v (16 * ci + i) a) = _
    rw [rg_u2_eq]
  · rw [if_neg e]
    show (if rg_ir ci i = true then va_rf (rg_R M (16 * ci + i) a) else Value.int (rg_u2 (rg_I M) (16 * ci + j) a v (16 * ci + i) a)) = _
    rw [rg_u2_nf (by omega)]
theorem rg_V_wR {M : rg_M} {ci a j v : Nat} (hr : rg_ir ci j = true) (i : Nat) : rg_V (rg_wR M (16 * ci + j) a v) ci a i = if i = j then .ref v else rg_V M ci a i := by
  unfold rg_V
  by_cases e : i = j
  · subst e
    rw [if_pos rfl, if_pos hr]
    show va_rf (rg_u2 (rg_R M) (16 * ci + i) a (some v) (16 * ci + i) a) = _
    rw [rg_u2_eq]; rfl
  · rw [if_neg e]
    show (if rg_ir ci i = true then va_rf (rg_u2 (rg_R M) (16 * ci + j) a (some v) (16 * ci + i) a) else Value.int (rg_I M (16 * ci + i) a)) = _
    rw [rg_u2_nf (by omega)]
theorem rg_ok_puti {k pc ci j N idx : Nat} {C : String} {T : u_T} {ty : Nat → FieldType} (hc : rg_cok ci C T N ty) (hj : j < N) (hr : rg_ir ci j = false) (hty : ty j = .int) (hfin : (T j).2.2.2 = false) (hd : decode (rg_b k) pc = .ok (.putfield idx, 3)) (hlink : Cond.fieldLink (rg_y k).cls idx (T j).1 (T j).2.1 (T j).2.2.1 ∈ rg_gd) : rg_Ok k pc (rg_spi ci j) := by
  refine rg_mkG (fun c o h => ?_) (fun l G c c' hpc h => ?_)
  · unfold rg_spi at h; split at h
    · split at h <;> cases h; rfl
    · cases h; rfl
  · unfold rg_spi at h; split at h
    · split at h
      · rename_i pc0 L0 v a st M hk
        cases h; dsimp only at hpc; subst hpc
        refine ⟨⟨Nat.le_refl _, Nat.le_refl _⟩, fun res _ _ hs => ?_⟩
        intro p e R s m args below meth cd H locs cells slots ls M0 X hm hl ho h1 h2 h3 h4 h5 h6
        exact rg_putW (M' := rg_wI M (16 * ci + j) a v) hc hj (Or.inl hfin) hd hlink (by rw [hty]; rfl) (by rw [hty]; rfl) X hm hk ho rfl rfl rfl (fun f b hb => rg_u2_ne hb) (fun _ _ _ => rfl) rfl rfl rfl (rg_V_wI hr) (fun H1 locs1 hm1 ho1 => hs p e R s m args below meth cd H1 locs1 cells slots ls M0 X hm1 hl ho1 h1 h2 h3 h4 h5 h6)
      · cases h
    · cases h
theorem rg_ok_putz {k pc ci j N idx : Nat} {C : String} {T : u_T} {ty : Nat → FieldType} (hc : rg_cok ci C T N ty) (hj : j < N) (hr : rg_ir ci j = false) (hty : ty j = .boolean) (hfin : (T j).2.2.2 = false) (hd : decode (rg_b k) pc = .ok (.putfield idx, 3)) (hlink : Cond.fieldLink (rg_y k).cls idx (T j).1 (T j).2.1 (T j).2.2.1 ∈ rg_gd) : rg_Ok k pc (rg_spz ci j) := by
  refine rg_mkG (fun c o h => ?_) (fun l G c c' hpc h => ?_)
  · unfold rg_spz at h; split at h
    · split at h <;> cases h; rfl
    · cases h; rfl
  · unfold rg_spz at h; split at h
    · split at h
      · rename_i pc0 L0 v a st M hk
        cases h; dsimp only at hpc; subst hpc
        refine ⟨⟨Nat.le_refl _, Nat.le_refl _⟩, fun res _ _ hs => ?_⟩
        intro p e R s m args below meth cd H locs cells slots ls M0 X hm hl ho h1 h2 h3 h4 h5 h6
        exact rg_putW (M' := rg_wI M (16 * ci + j) a v) hc hj (Or.inl hfin) hd hlink (by rw [hty]; rcases hk.2 with rfl | rfl <;> rfl) (by rw [hty]; rcases hk.2 with rfl | rfl <;> rfl) X hm hk.1 ho rfl rfl rfl (fun f b hb => rg_u2_ne hb) (fun _ _ _ => rfl) rfl rfl rfl (rg_V_wI hr) (fun H1 locs1 hm1 ho1 => hs p e R s m args below meth cd H1 locs1 cells slots ls M0 X hm1 hl ho1 h1 h2 h3 h4 h5 h6)
      · cases h
    · cases h
theorem rg_ok_putr {k pc ci j N idx : Nat} {C : String} {T : u_T} {ty : Nat → FieldType} (hc : rg_cok ci C T N ty) (hj : j < N) (hr : rg_ir ci j = true) (hty : ∀ v, narrow (ty j) (.ref v) = .ref v ∧ fits (ty j) (.ref v) = true) (hfin : (T j).2.2.2 = false ∨ ((T j).2.2.2 = true ∧ (rg_y k).name = "<init>" ∧ (T j).1 = (rg_y k).cls)) (hd : decode (rg_b k) pc = .ok (.putfield idx, 3)) (hlink : Cond.fieldLink (rg_y k).cls idx (T j).1 (T j).2.1 (T j).2.2.1 ∈ rg_gd) : rg_Ok k pc (rg_spr ci j) := by
  refine rg_mkG (fun c o h => ?_) (fun l G c c' hpc h => ?_)
  · unfold rg_spr at h; split at h
    · split at h <;> cases h; rfl
    · cases h; rfl
  · unfold rg_spr at h; split at h
    · split at h
      · rename_i pc0 L0 v a st M hk
        cases h; dsimp only at hpc; subst hpc
        refine ⟨⟨Nat.le_refl _, Nat.le_refl _⟩, fun res _ _ hs => ?_⟩
        intro p e R s m args below meth cd H locs cells slots ls M0 X hm hl ho h1 h2 h3 h4 h5 h6
        exact rg_putW (M' := rg_wR M (16 * ci + j) a v) hc hj hfin hd hlink (hty _).1 (hty _).2 X hm hk ho rfl rfl rfl (fun _ _ _ => rfl) (fun f b hb => rg_u2_ne hb) rfl rfl rfl (rg_V_wR hr) (fun H1 locs1 hm1 ho1 => hs p e R s m args below meth cd H1 locs1 cells slots ls M0 X hm1 hl ho1 h1 h2 h3 h4 h5 h6)
      · cases h
    · cases h
/-! arrays -/
def rg_ix (M : rg_M) (a : Nat) (i : Int32) : Prop := 0 ≤ i ∧ i.toNatClampNeg < rg_L M a
def rg_sai : rg_S := fun c => match c with
  | (pc, L, .int i :: .ref a :: st, M) => if rg_K M a = 9 ∧ 0 ≤ i ∧ i.toNatClampNeg < rg_L M a then .inl (pc + 1, L, .int (rg_A M a i.toNatClampNeg) :: st, M) else rg_no
  | _ => rg_no
def rg_sax : rg_S := fun c => match c with
  | (pc, L, .int i :: .ref a :: st, M) => if rg_K M a = 13 ∧ 0 ≤ i ∧ i.toNatClampNeg < rg_L M a then .inl (pc + 1, L, .int (rg_A M a i.toNatClampNeg) :: st, M) else rg_no
  | _ => rg_no
def rg_saz : rg_S := fun c => match c with
  | (pc, L, .int i :: .ref a :: st, M) => if rg_K M a = 11 ∧ 0 ≤ i ∧ i.toNatClampNeg < rg_L M a then .inl (pc + 1, L, .int (rg_A M a i.toNatClampNeg) :: st, M) else rg_no
  | _ => rg_no
def rg_saj : rg_S := fun c => match c with
  | (pc, L, .int i :: .ref a :: st, M) => if rg_K M a = 10 ∧ 0 ≤ i ∧ i.toNatClampNeg < rg_L M a then .inl (pc + 1, L, .long (rg_J M a i.toNatClampNeg) :: st, M) else rg_no
  | _ => rg_no
def rg_saq : rg_S := fun c => match c with
  | (pc, L, .int i :: .ref a :: st, M) => if rg_K M a = 12 ∧ 0 ≤ i ∧ i.toNatClampNeg < rg_L M a then (match rg_Q M a i.toNatClampNeg with | some b => .inl (pc + 1, L, .ref b :: st, M) | none => rg_no) else rg_no
  | _ => rg_no
def rg_sln : rg_S := fun c => match c with
  | (pc, L, .ref a :: st, M) => if rg_K M a = 9 then .inl (pc + 1, L, .int (nI (rg_L M a)) :: st, M) else rg_no
  | _ => rg_no
def rg_slx : rg_S := fun c => match c with
  | (pc, L, .ref a :: st, M) => if rg_K M a = 13 then .inl (pc + 1, L, .int (nI (rg_L M a)) :: st, M) else rg_no
  | _ => rg_no
def rg_swi : rg_S := fun c => match c with
  | (pc, L, .int v :: .int i :: .ref a :: st, M) => if rg_K M a = 9 ∧ 0 ≤ i ∧ i.toNatClampNeg < rg_L M a then .inl (pc + 1, L, st, rg_wA M a i.toNatClampNeg v) else rg_no
  | _ => rg_no
def rg_swz : rg_S := fun c => match c with
  | (pc, L, .int v :: .int i :: .ref a :: st, M) => if rg_K M a = 11 ∧ 0 ≤ i ∧ i.toNatClampNeg < rg_L M a ∧ (v = 0 ∨ v = 1) then .inl (pc + 1, L, st, rg_wA M a i.toNatClampNeg v) else rg_no
  | _ => rg_no
def rg_swj : rg_S := fun c => match c with
  | (pc, L, .long v :: .int i :: .ref a :: st, M) => if rg_K M a = 10 ∧ 0 ≤ i ∧ i.toNatClampNeg < rg_L M a then .inl (pc + 1, L, st, rg_wJ M a i.toNatClampNeg v) else rg_no
  | _ => rg_no
def rg_swq : rg_S := fun c => match c with
  | (pc, L, .ref v :: .int i :: .ref a :: st, M) => if rg_K M a = 12 ∧ 0 ≤ i ∧ i.toNatClampNeg < rg_L M a ∧ rg_K M v = 2 then .inl (pc + 1, L, st, rg_wQ M a i.toNatClampNeg v) else rg_no
  | _ => rg_no
theorem rg_inix {i : Int32} {n : Nat} (h : 0 ≤ i ∧ i.toNatClampNeg < n) : vp_in i n := by
  intro q
  rcases q with q | q
  · exact absurd q (Int32.not_lt.mpr h.1)
  · omega
theorem rg_ok_iaload {k pc : Nat} (hd : decode (rg_b k) pc = .ok (.iaload, 1)) : rg_Ok k pc rg_sai := by
  refine rg_mkG (fun c o h => ?_) (fun l G c c' hpc h => ?_)
  · unfold rg_sai at h; split at h
    · split at h <;> cases h; rfl
    · cases h; rfl
  · unfold rg_sai at h; split at h
    · split at h
      · rename_i hk
        cases h; dsimp only at hpc; subst hpc
        refine ⟨⟨Nat.le_refl _, Nat.le_refl _⟩, fun res _ _ hs => ?_⟩
        intro p e R s m args below meth cd H locs cells slots ls M0 X hm hl ho h1 h2 h3 h4 h5 h6
        have kk := hs p e R s m args below meth cd H locs cells slots ls M0 X hm hl ho h1 h2 h3 h4 h5 h6
        obtain ⟨hx, hb, hml, hr, hown, hts, hlocks, hnm, hW⟩ := X
        dsimp only [rg_cM] at hm kk ⊢
        have hin := rg_inix hk.2
        exact W.iald hx hb (hm.2.1 _ hk.1).1 ((hW.1.2 0 _ rfl).1 _ _) (fun q => by cases q) (by show ¬ (_ < 0 ∨ (arrV _ _ _).slots.size ≤ _); rw [arrV_size]; exact hin) (by show (arrV _ _ _).slots[_]? = _; rw [arrV_read _ _ hk.2.2]) rfl rfl hd kk
      · cases h
    · cases h
theorem rg_ok_xaload {k pc : Nat} (hd : decode (rg_b k) pc = .ok (.iaload, 1)) : rg_Ok k pc rg_sax := by
  refine rg_mkG (fun c o h => ?_) (fun l G c c' hpc h => ?_)
  · unfold rg_sax at h; split at h
    · split at h <;> cases h; rfl
    · cases h; rfl
  · unfold rg_sax at h; split at h
    · split at h
      · rename_i hk
        cases h; dsimp only at hpc; subst hpc
        refine ⟨⟨Nat.le_refl _, Nat.le_refl _⟩, fun res _ _ hs => ?_⟩
        intro p e R s m args below meth cd H locs cells slots ls M0 X hm hl ho h1 h2 h3 h4 h5 h6
        have kk := hs p e R s m args below meth cd H locs cells slots ls M0 X hm hl ho h1 h2 h3 h4 h5 h6
        obtain ⟨hx, hb, hml, hr, hown, hts, hlocks, hnm, hW⟩ := X
        dsimp only [rg_cM] at hm kk ⊢
        have hin := rg_inix hk.2
        obtain ⟨ea, eL, eA⟩ := hm.2.2.2.2.2.1 _ hk.1
        obtain ⟨scr, g1, g2, g3, g4, g5⟩ := hW.2.2.1
        rw [eL] at hin hk; rw [eA] at kk; subst ea
        exact W.iald hx hb (by rw [hm.2.2.2.2.2.2.2.2 _ hW.2.2.2]; exact g1) g2 g3 (by rw [g4]; exact hin) (g5 _ hk.2.2) rfl rfl hd kk
      · cases h
    · cases h
theorem rg_ok_baload {k pc : Nat} (hd : decode (rg_b k) pc = .ok (.baload, 1)) : rg_Ok k pc rg_saz := by
  refine rg_mkG (fun c o h => ?_) (fun l G c c' hpc h => ?_)
  · unfold rg_saz at h; split at h
    · split at h <;> cases h; rfl
    · cases h; rfl
  · unfold rg_saz at h; split at h
    · split at h
      · rename_i hk
        cases h; dsimp only at hpc; subst hpc
        refine ⟨⟨Nat.le_refl _, Nat.le_refl _⟩, fun res _ _ hs => ?_⟩
        intro p e R s m args below meth cd H locs cells slots ls M0 X hm hl ho h1 h2 h3 h4 h5 h6
        have kk := hs p e R s m args below meth cd H locs cells slots ls M0 X hm hl ho h1 h2 h3 h4 h5 h6
        obtain ⟨hx, hb, hml, hr, hown, hts, hlocks, hnm, hW⟩ := X
        dsimp only [rg_cM] at hm kk ⊢
        have hin := rg_inix hk.2
        exact W.zald hx hb (hm.2.2.2.1 _ hk.1).1 ((hW.1.2 2 _ rfl).1 _ _) (fun q => by cases q) (by show ¬ (_ < 0 ∨ (arrV _ _ _).slots.size ≤ _); rw [arrV_size]; exact hin) (by show (arrV _ _ _).slots[_]? = _; rw [arrV_read _ _ hk.2.2]) rfl rfl hd kk
      · cases h
    · cases h
theorem rg_ok_laload {k pc : Nat} (hd : decode (rg_b k) pc = .ok (.laload, 1)) : rg_Ok k pc rg_saj := by
  refine rg_mkG (fun c o h => ?_) (fun l G c c' hpc h => ?_)
  · unfold rg_saj at h; split at h
    · split at h <;> cases h; rfl
    · cases h; rfl
  · unfold rg_saj at h; split at h
    · split at h
      · rename_i hk
        cases h; dsimp only at hpc; subst hpc
        refine ⟨⟨Nat.le_refl _, Nat.le_refl _⟩, fun res _ _ hs => ?_⟩
        intro p e R s m args below meth cd H locs cells slots ls M0 X hm hl ho h1 h2 h3 h4 h5 h6
        have kk := hs p e R s m args below meth cd H locs cells slots ls M0 X hm hl ho h1 h2 h3 h4 h5 h6
        obtain ⟨hx, hb, hml, hr, hown, hts, hlocks, hnm, hW⟩ := X
        dsimp only [rg_cM] at hm kk ⊢
        have hin := rg_inix hk.2
        exact W.lald hx hb (hm.2.2.1 _ hk.1).1 ((hW.1.2 1 _ rfl).1 _ _) (fun q => by cases q) (by show ¬ (_ < 0 ∨ (arrV _ _ _).slots.size ≤ _); rw [arrV_size]; exact hin) (by show (arrV _ _ _).slots[_]? = _; rw [arrV_read _ _ hk.2.2]) rfl rfl hd kk
      · cases h
    · cases h
theorem rg_ok_aaload {k pc : Nat} (hd : decode (rg_b k) pc = .ok (.aaload, 1)) : rg_Ok k pc rg_saq := by
  refine rg_mkG (fun c o h => ?_) (fun l G c c' hpc h => ?_)
  · unfold rg_saq at h; split at h
    · split at h
      · split at h <;> cases h; rfl
      · cases h; rfl
    · cases h; rfl
  · unfold rg_saq at h; split at h
    · split at h
      · rename_i hk
        split at h
        · rename_i b hb0
          cases h; dsimp only at hpc; subst hpc
          refine ⟨⟨Nat.le_refl _, Nat.le_refl _⟩, fun res _ _ hs => ?_⟩
          intro p e R s m args below meth cd H locs cells slots ls M0 X hm hl ho h1 h2 h3 h4 h5 h6
          have kk := hs p e R s m args below meth cd H locs cells slots ls M0 X hm hl ho h1 h2 h3 h4 h5 h6
          obtain ⟨hx, hb, hml, hr, hown, hts, hlocks, hnm, hW⟩ := X
          dsimp only [rg_cM] at hm kk ⊢
          have hin := rg_inix hk.2
          refine W.aald (v := va_rf (rg_Q _ _ _)) (ty := .object "RegretTable$Fraction") hx hb (hm.2.2.2.2.1 _ hk.1).1 ((hW.1.2 3 _ rfl).1 _ _) rfl (fun q => by cases q) (by show ¬ (_ < 0 ∨ (arrV _ _ _).slots.size ≤ _); rw [arrV_size]; exact hin) (by show (arrV _ _ _).slots[_]? = _; rw [arrV_read _ _ hk.2.2]) rfl rfl hd ?_
          rw [hb0]; exact kk
        · cases h
      · cases h
    · cases h
theorem rg_ok_alen {k pc : Nat} (hd : decode (rg_b k) pc = .ok (.arraylength, 1)) : rg_Ok k pc rg_sln := by
  refine rg_mkG (fun c o h => ?_) (fun l G c c' hpc h => ?_)
  · unfold rg_sln at h; split at h
    · split at h <;> cases h; rfl
    · cases h; rfl
  · unfold rg_sln at h; split at h
    · split at h
      · rename_i hk
        cases h; dsimp only at hpc; subst hpc
        refine ⟨⟨Nat.le_refl _, Nat.le_refl _⟩, fun res _ _ hs => ?_⟩
        intro p e R s m args below meth cd H locs cells slots ls M0 X hm hl ho h1 h2 h3 h4 h5 h6
        have kk := hs p e R s m args below meth cd H locs cells slots ls M0 X hm hl ho h1 h2 h3 h4 h5 h6
        obtain ⟨hx, hb, hml, hr, hown, hts, hlocks, hnm, hW⟩ := X
        dsimp only [rg_cM] at hm kk ⊢
        exact W.alen hx hb (hm.2.1 _ hk).1 ((hW.1.2 0 _ rfl).1 _ _) (by rw [arrV_size] <;> rfl) rfl rfl hd kk
      · cases h
    · cases h
theorem rg_ok_xlen {k pc : Nat} (hd : decode (rg_b k) pc = .ok (.arraylength, 1)) : rg_Ok k pc rg_slx := by
  refine rg_mkG (fun c o h => ?_) (fun l G c c' hpc h => ?_)
  · unfold rg_slx at h; split at h
    · split at h <;> cases h; rfl
    · cases h; rfl
  · unfold rg_slx at h; split at h
    · split at h
      · rename_i hk
        cases h; dsimp only at hpc; subst hpc
        refine ⟨⟨Nat.le_refl _, Nat.le_refl _⟩, fun res _ _ hs => ?_⟩
        intro p e R s m args below meth cd H locs cells slots ls M0 X hm hl ho h1 h2 h3 h4 h5 h6
        have kk := hs p e R s m args below meth cd H locs cells slots ls M0 X hm hl ho h1 h2 h3 h4 h5 h6
        obtain ⟨hx, hb, hml, hr, hown, hts, hlocks, hnm, hW⟩ := X
        dsimp only [rg_cM] at hm kk ⊢
        obtain ⟨ea, eL, eA⟩ := hm.2.2.2.2.2.1 _ hk
        obtain ⟨scr, g1, g2, g3, g4, g5⟩ := hW.2.2.1
        rw [eL] at kk; subst ea
        exact W.alen hx hb (by rw [hm.2.2.2.2.2.2.2.2 _ hW.2.2.2]; exact g1) g2 (by rw [g4] <;> rfl) rfl rfl hd kk
      · cases h
    · cases h
theorem rg_ok_iastore {k pc : Nat} (hd : decode (rg_b k) pc = .ok (.iastore, 1)) : rg_Ok k pc rg_swi := by
  refine rg_mkG (fun c o h => ?_) (fun l G c c' hpc h => ?_)
  · unfold rg_swi at h; split at h
    · split at h <;> cases h; rfl
    · cases h; rfl
  · unfold rg_swi at h; split at h
    · split at h
      · rename_i pc0 L0 v i a st M hk
        cases h; dsimp only at hpc; subst hpc
        refine ⟨⟨Nat.le_refl _, Nat.le_refl _⟩, fun res _ _ hs => ?_⟩
        intro p e R s m args below meth cd H locs cells slots ls M0 X hm hl ho h1 h2 h3 h4 h5 h6
        have kk := fun H1 locs1 hm1 ho1 => hs p e R s m args below meth cd H1 locs1 cells slots ls M0 X hm1 hl ho1 h1 h2 h3 h4 h5 h6
        obtain ⟨hx, hb, hml, hr, hown, hts, hlocks, hnm, hW⟩ := X
        dsimp only [rg_cM] at hm kk ⊢
        have hin := rg_inix (n := rg_L M a) (i := i) ⟨hk.2.1, hk.2.2⟩
        have hlt : i.toNatClampNeg < rg_L M a := hk.2.2
        obtain ⟨hA, hza⟩ := hm.2.1 a hk.1
        have fin : ∀ (H1 : Heap), H1[a]? = some ((arrV (gC G 0) (rg_L M a) (fun j => .int (rg_A M a j))).setSlot i.toNatClampNeg (.int v)) → H1.size = H.size → (∀ q, q ≠ a → H1[q]? = H[q]?) → rg_mo G (rg_wA M a i.toNatClampNeg v) H1 := by
          intro H1 e z oq
          rw [arrV_store] at e
          have key : H1[a]? = some (arrV (gC G 0) (rg_L M a) (fun j => .int (rg_A (rg_wA M a i.toNatClampNeg v) a j))) := by
            rw [e]; congr 2; funext q
            by_cases hq : q = i.toNatClampNeg
            · subst hq; simp [updV, rg_wA, rg_A, rg_u2, va_rf]
            · simp [updV, rg_wA, rg_A, rg_u2, hq]
          refine hm.upd z oq hza rfl rfl rfl (fun _ _ _ => rfl) (fun _ _ _ => rfl) (fun b hb => rg_u2_row hb) (fun b hb => rfl) (fun b hb => rfl) (by rw [hk.1]; decide) (fun ci h8 hk2 => ?_) (fun h => ?_) (fun h => ?_) (fun h => ?_) (fun h => ?_)
          · exfalso; omega
          · exact key
          · exfalso; omega
          · exfalso; omega
          · exfalso; omega
        have ho1 : ∀ q ∈ locs ++ [(⟨a, i.toNatClampNeg⟩ : Loc)], gz G ≤ q.base := by
          intro q hq
          rcases List.mem_append.mp hq with h | h
          · exact ho q h
          · rw [List.mem_singleton.mp h]; exact hza
        exact W.iast hx hb hA ((hW.1.2 0 _ rfl).1 _ _) (fun q => by cases q) (by show ¬ (_ < 0 ∨ (arrV _ _ _).slots.size ≤ _); rw [arrV_size]; exact hin) rfl rfl hd fun H1 e z oq => kk H1 _ (fin H1 e z oq) ho1
      · cases h
    · cases h
theorem rg_ok_bastore {k pc : Nat} (hd : decode (rg_b k) pc = .ok (.bastore, 1)) : rg_Ok k pc rg_swz := by
  refine rg_mkG (fun c o h => ?_) (fun l G c c' hpc h => ?_)
  · unfold rg_swz at h; split at h
    · split at h <;> cases h; rfl
    · cases h; rfl
  · unfold rg_swz at h; split at h
    · split at h
      · rename_i pc0 L0 v i a st M hk
        cases h; dsimp only at hpc; subst hpc
        refine ⟨⟨Nat.le_refl _, Nat.le_refl _⟩, fun res _ _ hs => ?_⟩
        intro p e R s m args below meth cd H locs cells slots ls M0 X hm hl ho h1 h2 h3 h4 h5 h6
        have kk := fun H1 locs1 hm1 ho1 => hs p e R s m args below meth cd H1 locs1 cells slots ls M0 X hm1 hl ho1 h1 h2 h3 h4 h5 h6
        obtain ⟨hx, hb, hml, hr, hown, hts, hlocks, hnm, hW⟩ := X
        dsimp only [rg_cM] at hm kk ⊢
        have hin := rg_inix (n := rg_L M a) (i := i) ⟨hk.2.1, hk.2.2.1⟩
        have hlt : i.toNatClampNeg < rg_L M a := hk.2.2.1
        obtain ⟨hA, hza⟩ := hm.2.2.2.1 a hk.1
        have fin : ∀ (H1 : Heap), H1[a]? = some ((arrV (gC G 2) (rg_L M a) (fun j => .int (rg_A M a j))).setSlot i.toNatClampNeg (.int v)) → H1.size = H.size → (∀ q, q ≠ a → H1[q]? = H[q]?) → rg_mo G (rg_wA M a i.toNatClampNeg v) H1 := by
          intro H1 e z oq
          rw [arrV_store] at e
          have key : H1[a]? = some (arrV (gC G 2) (rg_L M a) (fun j => .int (rg_A (rg_wA M a i.toNatClampNeg v) a j))) := by
            rw [e]; congr 2; funext q
            by_cases hq : q = i.toNatClampNeg
            · subst hq; simp [updV, rg_wA, rg_A, rg_u2, va_rf]
            · simp [updV, rg_wA, rg_A, rg_u2, hq]
          refine hm.upd z oq hza rfl rfl rfl (fun _ _ _ => rfl) (fun _ _ _ => rfl) (fun b hb => rg_u2_row hb) (fun b hb => rfl) (fun b hb => rfl) (by rw [hk.1]; decide) (fun ci h8 hk2 => ?_) (fun h => ?_) (fun h => ?_) (fun h => ?_) (fun h => ?_)
          · exfalso; omega
          · exfalso; omega
          · exfalso; omega
          · exact key
          · exfalso; omega
        have ho1 : ∀ q ∈ locs ++ [(⟨a, i.toNatClampNeg⟩ : Loc)], gz G ≤ q.base := by
          intro q hq
          rcases List.mem_append.mp hq with h | h
          · exact ho q h
          · rw [List.mem_singleton.mp h]; exact hza
        refine W.zast hx hb hA ((hW.1.2 2 _ rfl).1 _ _) (fun q => by cases q) (by show ¬ (_ < 0 ∨ (arrV _ _ _).slots.size ≤ _); rw [arrV_size]; exact hin) rfl rfl hd fun H1 e z oq => kk H1 _ (fin H1 ?_ z oq) ho1
        rw [e]; rcases hk.2.2.2 with rfl | rfl <;> rfl
      · cases h
    · cases h
theorem rg_ok_lastore {k pc : Nat} (hd : decode (rg_b k) pc = .ok (.lastore, 1)) : rg_Ok k pc rg_swj := by
  refine rg_mkG (fun c o h => ?_) (fun l G c c' hpc h => ?_)
  · unfold rg_swj at h; split at h
    · split at h <;> cases h; rfl
    · cases h; rfl
  · unfold rg_swj at h; split at h
    · split at h
      · rename_i pc0 L0 v i a st M hk
        cases h; dsimp only at hpc; subst hpc
        refine ⟨⟨Nat.le_refl _, Nat.le_refl _⟩, fun res _ _ hs => ?_⟩
        intro p e R s m args below meth cd H locs cells slots ls M0 X hm hl ho h1 h2 h3 h4 h5 h6
        have kk := fun H1 locs1 hm1 ho1 => hs p e R s m args below meth cd H1 locs1 cells slots ls M0 X hm1 hl ho1 h1 h2 h3 h4 h5 h6
        obtain ⟨hx, hb, hml, hr, hown, hts, hlocks, hnm, hW⟩ := X
        dsimp only [rg_cM] at hm kk ⊢
        have hin := rg_inix (n := rg_L M a) (i := i) ⟨hk.2.1, hk.2.2⟩
        have hlt : i.toNatClampNeg < rg_L M a := hk.2.2
        obtain ⟨hA, hza⟩ := hm.2.2.1 a hk.1
        have fin : ∀ (H1 : Heap), H1[a]? = some ((arrV (gC G 1) (rg_L M a) (fun j => .long (rg_J M a j))).setSlot i.toNatClampNeg (.long v)) → H1.size = H.size → (∀ q, q ≠ a → H1[q]? = H[q]?) → rg_mo G (rg_wJ M a i.toNatClampNeg v) H1 := by
          intro H1 e z oq
          rw [arrV_store] at e
          have key : H1[a]? = some (arrV (gC G 1) (rg_L M a) (fun j => .long (rg_J (rg_wJ M a i.toNatClampNeg v) a j))) := by
            rw [e]; congr 2; funext q
            by_cases hq : q = i.toNatClampNeg
            · subst hq; simp [updV, rg_wJ, rg_J, rg_u2, va_rf]
            · simp [updV, rg_wJ, rg_J, rg_u2, hq]
          refine hm.upd z oq hza rfl rfl rfl (fun _ _ _ => rfl) (fun _ _ _ => rfl) (fun b hb => rfl) (fun b hb => rg_u2_row hb) (fun b hb => rfl) (by rw [hk.1]; decide) (fun ci h8 hk2 => ?_) (fun h => ?_) (fun h => ?_) (fun h => ?_) (fun h => ?_)
          · exfalso; omega
          · exfalso; omega
          · exact key
          · exfalso; omega
          · exfalso; omega
        have ho1 : ∀ q ∈ locs ++ [(⟨a, i.toNatClampNeg⟩ : Loc)], gz G ≤ q.base := by
          intro q hq
          rcases List.mem_append.mp hq with h | h
          · exact ho q h
          · rw [List.mem_singleton.mp h]; exact hza
        exact W.last hx hb hA ((hW.1.2 1 _ rfl).1 _ _) (fun q => by cases q) (by show ¬ (_ < 0 ∨ (arrV _ _ _).slots.size ≤ _); rw [arrV_size]; exact hin) rfl rfl hd fun H1 e z oq => kk H1 _ (fin H1 e z oq) ho1
      · cases h
    · cases h
theorem rg_ok_aastore {k pc : Nat} (hd : decode (rg_b k) pc = .ok (.aastore, 1)) : rg_Ok k pc rg_swq := by
  refine rg_mkG (fun c o h => ?_) (fun l G c c' hpc h => ?_)
  · unfold rg_swq at h; split at h
    · split at h <;> cases h; rfl
    · cases h; rfl
  · unfold rg_swq at h; split at h
    · split at h
      · rename_i pc0 L0 v i a st M hk
        cases h; dsimp only at hpc; subst hpc
        refine ⟨⟨Nat.le_refl _, Nat.le_refl _⟩, fun res _ _ hs => ?_⟩
        intro p e R s m args below meth cd H locs cells slots ls M0 X hm hl ho h1 h2 h3 h4 h5 h6
        have kk := fun H1 locs1 hm1 ho1 => hs p e R s m args below meth cd H1 locs1 cells slots ls M0 X hm1 hl ho1 h1 h2 h3 h4 h5 h6
        obtain ⟨hx, hb, hml, hr, hown, hts, hlocks, hnm, hW⟩ := X
        dsimp only [rg_cM] at hm kk ⊢
        have hin := rg_inix (n := rg_L M a) (i := i) ⟨hk.2.1, hk.2.2.1⟩
        have hlt : i.toNatClampNeg < rg_L M a := hk.2.2.1
        obtain ⟨hA, hza⟩ := hm.2.2.2.2.1 a hk.1
        have fin : ∀ (H1 : Heap), H1[a]? = some ((arrV (gC G 3) (rg_L M a) (fun j => va_rf (rg_Q M a j))).setSlot i.toNatClampNeg (.ref v)) → H1.size = H.size → (∀ q, q ≠ a → H1[q]? = H[q]?) → rg_mo G (rg_wQ M a i.toNatClampNeg v) H1 := by
          intro H1 e z oq
          rw [arrV_store] at e
          have key : H1[a]? = some (arrV (gC G 3) (rg_L M a) (fun j => va_rf (rg_Q (rg_wQ M a i.toNatClampNeg v) a j))) := by
            rw [e]; congr 2; funext q
            by_cases hq : q = i.toNatClampNeg
            · subst hq; simp [updV, rg_wQ, rg_Q, rg_u2, va_rf]
            · simp [updV, rg_wQ, rg_Q, rg_u2, hq]
          refine hm.upd z oq hza rfl rfl rfl (fun _ _ _ => rfl) (fun _ _ _ => rfl) (fun b hb => rfl) (fun b hb => rfl) (fun b hb => rg_u2_row hb) (by rw [hk.1]; decide) (fun ci h8 hk2 => ?_) (fun h => ?_) (fun h => ?_) (fun h => ?_) (fun h => ?_)
          · exfalso; omega
          · exfalso; omega
          · exfalso; omega
          · exfalso; omega
          · exact key
        have ho1 : ∀ q ∈ locs ++ [(⟨a, i.toNatClampNeg⟩ : Loc)], gz G ≤ q.base := by
          intro q hq
          rcases List.mem_append.mp hq with h | h
          · exact ho q h
          · rw [List.mem_singleton.mp h]; exact hza
        have h0 : ¬ i < 0 := Int32.not_lt.mpr hk.2.1
        obtain ⟨⟨cellV, g1, g2, g3, -⟩, -⟩ := hm.obj (ci := 1) (by omega) hk.2.2.2
        have hcls := (hW.1.1 1 _ rfl).2
        obtain ⟨kA, comp, k1, k2, k3, -⟩ := (hW.1.2 3 _ rfl).2
        have hcomp : comp = (gD G).1 1 := Option.some.inj (k3.symm.trans hcls.1)
        subst hcomp
        obtain ⟨kC, hkC, hkk⟩ := hcls.2
        exact W.aast hx hb hA (fun q h => by cases h) (fun h => by cases h) k1 k2 rfl hkC ⟨h0, by show _ < (arrV _ _ _).slots.size; rw [arrV_size]; exact hlt⟩ g1 (fun q h => by rw [g3] at h; cases h) (by rw [g2]; exact hkC) (by rw [g2]; exact va_assign ⟨hcls.1, kC, hkC, hkk⟩) rfl rfl hd fun H1 e z oq => kk H1 _ (fin H1 e z oq) ho1
      · cases h
    · cases h

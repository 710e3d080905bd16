/-! new cells -/
theorem rg_mo.new {G : rg_G} {M M' : rg_M} {H H' : Heap} (h : rg_mo G M H) (hz : H'.size = H.size + 1) (ho : ∀ q : Nat, q < H.size → H'[q]? = H[q]?) (hs : rg_sz M' = rg_sz M + 1) (hK : ∀ b, b ≠ rg_sz M → rg_K M' b = rg_K M b) (hL : ∀ b, b ≠ rg_sz M → rg_L M' b = rg_L M b)
    (hI : ∀ f b, b ≠ rg_sz M → rg_I M' f b = rg_I M f b) (hR : ∀ f b, b ≠ rg_sz M → rg_R M' f b = rg_R M f b) (hA : ∀ b, b ≠ rg_sz M → rg_A M' b = rg_A M b) (hJ : ∀ b, b ≠ rg_sz M → rg_J M' b = rg_J M b) (hQ : ∀ b, b ≠ rg_sz M → rg_Q M' b = rg_Q M b) (hne : rg_K M' (rg_sz M) ≠ 13)
    (c1 : ∀ ci, ci < 8 → rg_K M' (rg_sz M) = ci + 1 → t_OB (rg_sz M) ((gD G).1 ci) (rg_n ci) ((gD G).2 ci) H' (rg_V M' ci (rg_sz M)))
    (c2 : rg_K M' (rg_sz M) = 9 → H'[rg_sz M]? = some (arrV (gC G 0) (rg_L M' (rg_sz M)) (fun j => .int (rg_A M' (rg_sz M) j)))) (c3 : rg_K M' (rg_sz M) = 10 → H'[rg_sz M]? = some (arrV (gC G 1) (rg_L M' (rg_sz M)) (fun j => .long (rg_J M' (rg_sz M) j))))
    (c4 : rg_K M' (rg_sz M) = 11 → H'[rg_sz M]? = some (arrV (gC G 2) (rg_L M' (rg_sz M)) (fun j => .int (rg_A M' (rg_sz M) j)))) (c5 : rg_K M' (rg_sz M) = 12 → H'[rg_sz M]? = some (arrV (gC G 3) (rg_L M' (rg_sz M)) (fun j => va_rf (rg_Q M' (rg_sz M) j)))) : rg_mo G M' H' := by
  have hlt : ∀ b, rg_K M b ≠ 0 → rg_K M b ≤ 12 → b < rg_sz M := fun b => h.lt
  obtain ⟨m1, m2, m3, m4, m5, m6, m7, m8, m9⟩ := h
  have hza : gz G ≤ rg_sz M := by rw [← m7]; exact m8
  rw [← m7] at hs
  refine ⟨fun ci b hc hb => ?_, fun b hb => ?_, fun b hb => ?_, fun b hb => ?_, fun b hb => ?_, fun b hb => ?_, by rw [hz, hs], by omega, fun q hq => by rw [ho q (by omega)]; exact m9 q hq⟩ <;> by_cases e : b = rg_sz M
  · subst e; exact ⟨c1 ci hc hb, hza⟩
  · rw [hK b e] at hb
    have := hlt b (by omega) (by omega)
    refine ⟨((m1 ci b hc hb).1.kept (ho b (by omega))).to (fun k _ => ?_), (m1 ci b hc hb).2⟩
    unfold rg_V
    rw [hI _ b e, hR _ b e]
  · subst e; exact ⟨c2 hb, hza⟩
  · rw [hK b e] at hb
    have := hlt b (by omega) (by omega)
    rw [hL b e, ho b (by omega), hA b e]; exact m2 b hb
  · subst e; exact ⟨c3 hb, hza⟩
  · rw [hK b e] at hb
    have := hlt b (by omega) (by omega)
    rw [hL b e, ho b (by omega), hJ b e]; exact m3 b hb
  · subst e; exact ⟨c4 hb, hza⟩
  · rw [hK b e] at hb
    have := hlt b (by omega) (by omega)
    rw [hL b e, ho b (by omega), hA b e]; exact m4 b hb
  · subst e; exact ⟨c5 hb, hza⟩
  · rw [hK b e] at hb
    have := hlt b (by omega) (by omega)
    rw [hL b e, ho b (by omega), hQ b e]; exact m5 b hb
  · subst e; exact absurd hb hne
  · rw [hK b e] at hb
    rw [hL b e, hA b e]; exact m6 b hb
theorem rg_up_ne {α : Type} {f : Nat → α} {k j : Nat} {v : α} (h : j ≠ k) : va_up f k v j = f j := by unfold va_up; rw [if_neg h]
theorem rg_up_eq {α : Type} {f : Nat → α} {k : Nat} {v : α} : va_up f k v k = v := by unfold va_up; rw [if_pos rfl]
def rg_snw (ci : Nat) : rg_S := fun c => .inl (c.1 + 3, c.2.1, .ref (rg_sz c.2.2.2) :: c.2.2.1, rg_nO c.2.2.2 ci)
theorem rg_ok_new {k pc ci N idx : Nat} {C : String} {T : u_T} {ty : Nat → FieldType} (hc : rg_cok ci C T N ty) (hdef : ∀ j, j < N → defaultValue (ty j) = if rg_ir ci j = true then .null else .int 0) (hd : decode (rg_b k) pc = .ok (.new idx, 3)) (hcl : Cond.classLink (rg_y k).cls idx C ∈ rg_gd) (hinst : Cond.instantiable C N ∈ rg_gd) (hini : Cond.initialized C ∈ rg_gd) : rg_Ok k pc (rg_snw ci) := by
  refine rg_mkG (fun c o h => by cases h) (fun l G c c' hpc h => ?_)
  cases h; subst hpc
  refine ⟨⟨Nat.le_succ _, Nat.le_add_right _ _⟩, fun res g1 g2 hs => ?_⟩
  intro p e R s m args below meth cd H locs cells slots ls M0 X hm hl ho h1 h2 h3 h4 h5 h6
  have kk := fun H1 hm1 a1 a2 => hs p e R s m args below meth cd H1 locs (cells + 1) (slots + N) ls M0 X hm1 hl ho a1 a2 h3 h4 h5 h6
  obtain ⟨hx, hb, hml, hr, hown, hts, hlocks, hnm, hW⟩ := X
  obtain ⟨pc, L, st, M⟩ := c
  have hN := hc.2.2.2.2.2
  dsimp only [rg_cM] at hm kk h1 h2 g1 g2 ⊢
  have e1 : rg_sz (rg_nO M ci) = rg_sz M + 1 := rfl
  have e2 : rg_us (rg_nO M ci) = rg_us M + N := by rw [← hN]; rfl
  rw [e1] at g1; rw [e2] at g2
  have hKn := hW.1.1 ci _ hc.2.1
  have hin : ∀ w ∈ u_ws C T N, w ∈ rg_ws k := fun w h => List.mem_cons_of_mem _ (hc.2.2.1 w h)
  have hg : ∀ w ∈ rg_gd, w.before args s = true := fun w h => hts w (List.mem_cons_of_mem _ h)
  refine W.newcK hx hb hown (hg _ hcl) (hg _ hinst) (hg _ hini) rfl hd (by omega) (by omega) hKn.2.1 hm.2.2.2.2.2.2.1 fun H1 kC hkC b1 z1 o1 => ?_
  refine kk H1 ?_ (by rw [e1]; omega) (by rw [e2]; omega)
  have z0 := hm.2.2.2.2.2.2.1
  have hkk : rg_K (rg_nO M ci) (rg_sz M) = ci + 1 := rg_up_eq
  refine hm.new (by omega) (fun q hq => o1 q (by omega)) e1 (fun b hb => rg_up_ne hb) (fun b _ => rfl) (fun f b hb => if_neg hb) (fun f b hb => if_neg hb) (fun _ _ => rfl) (fun _ _ => rfl) (fun _ _ => rfl) (by rw [hkk]; have := hc.1; omega) (fun ci' h8 hk' => ?_) (fun h => ?_) (fun h => ?_) (fun h => ?_) (fun h => ?_)
  · have ee : ci' = ci := by omega
    subst ee
    rw [hN]
    refine (u_born ty hts hin hKn hkC b1 hc.2.2.2.1).to (fun j hj => ?_)
    rw [hdef j hj]
    show _ = if rg_ir ci' j = true then va_rf (if rg_sz M = rg_sz M then none else _) else Value.int (if rg_sz M = rg_sz M then 0 else _)
    rw [if_pos rfl, if_pos rfl]; rfl
  all_goals (exfalso; have := hc.1; omega)
def rg_sna (kd n : Nat) : rg_S := fun c => match c with
  | (pc, L, .int v :: st, M) => if 0 ≤ v ∧ v.toNatClampNeg ≤ 60000000 then .inl (pc + n, L, .ref (rg_sz M) :: st, rg_nA M kd v.toNatClampNeg) else rg_no
  | _ => rg_no
theorem rg_cA {G : rg_G} {s : State} (h : va_K (gD G) vwCl (rg_tys G) s) {t : Nat} {cA : ClassId} {ty : FieldType} (hq : (rg_tys G)[t]? = some (cA, ty)) {cB : ClassId} (hf : s.vm.findClass ("[" ++ ty.toString) = some cB) : cB = cA := by
  obtain ⟨-, h2⟩ := h.2 t _ hq
  cases ty with
  | object C =>
    obtain ⟨kA, comp, -, -, -, h4⟩ := h2
    exact Option.some.inj (hf.symm.trans h4)
  | _ => exact Option.some.inj (hf.symm.trans h2)
theorem rg_ok_newa {k pc kd t : Nat} {at0 : ArrayType} {ty : FieldType} (hd : decode (rg_b k) pc = .ok (.newarray at0, 2)) (hty : newarray.typeOf at0 = ty) (hw : Cond.arrayClass ty ∈ rg_gd) (hk : (kd = 9 ∧ t = 0 ∧ ty = .int) ∨ (kd = 10 ∧ t = 1 ∧ ty = .long) ∨ (kd = 11 ∧ t = 2 ∧ ty = .boolean)) : rg_Ok k pc (rg_sna kd 2) := by
  refine rg_mkG (fun c o h => ?_) (fun l G c c' hpc h => ?_)
  · unfold rg_sna at h; split at h
    · split at h <;> cases h; rfl
    · cases h; rfl
  · unfold rg_sna at h; split at h
    · split at h
      · rename_i pc0 L0 v st M hv
        cases h; dsimp only at hpc; subst hpc
        refine ⟨⟨Nat.le_succ _, Nat.le_add_right _ _⟩, fun res g1 g2 hs => ?_⟩
        intro p e R s m args below meth cd H locs cells slots ls M0 X hm hl ho h1 h2 h3 h4 h5 h6
        have kk := fun H1 hm1 a1 a2 => hs p e R s m args below meth cd H1 locs (cells + 1) (slots + v.toNatClampNeg) ls M0 X hm1 hl ho a1 a2 h3 h4 h5 h6
        obtain ⟨hx, hb, hml, hr, hown, hts, hlocks, hnm, hW⟩ := X
        dsimp only [rg_cM] at hm kk h1 h2 g1 g2 ⊢
        have e1 : rg_sz (rg_nA M kd v.toNatClampNeg) = rg_sz M + 1 := rfl
        have e2 : rg_us (rg_nA M kd v.toNatClampNeg) = rg_us M + v.toNatClampNeg := rfl
        rw [e1] at g1; rw [e2] at g2
        subst hty
        have hb8 : componentBytes (newarray.typeOf at0) ≤ 8 := by cases at0 <;> decide
        refine va_newaK hx hb (hts _ (List.mem_cons_of_mem _ hw)) rfl hd rfl (Int32.not_lt.mpr hv.1) rfl (Nat.le_trans (Nat.mul_le_mul hv.2 hb8) (by decide)) (by omega) (by omega) hm.2.2.2.2.2.2.1 fun H1 cA b1 z1 o1 hAr hNm => ?_
        refine kk H1 ?_ (by rw [e1]; omega) (by rw [e2]; omega)
        have z0 := hm.2.2.2.2.2.2.1
        have hkk : rg_K (rg_nA M kd v.toNatClampNeg) (rg_sz M) = kd := rg_up_eq
        have hLL : rg_L (rg_nA M kd v.toNatClampNeg) (rg_sz M) = v.toNatClampNeg := rg_up_eq
        have hAA : ∀ j, rg_A (rg_nA M kd v.toNatClampNeg) (rg_sz M) j = 0 := fun j => if_pos rfl
        have hJJ : ∀ j, rg_J (rg_nA M kd v.toNatClampNeg) (rg_sz M) j = 0 := fun j => if_pos rfl
        refine hm.new (by omega) (fun q hq => o1 q (by omega)) e1 (fun b hb => rg_up_ne hb) (fun b hb => rg_up_ne hb) (fun _ _ _ => rfl) (fun _ _ _ => rfl) (fun b hb => funext fun i => if_neg hb) (fun b hb => funext fun i => if_neg hb) (fun b hb => funext fun i => if_neg hb) (by rw [hkk]; omega) (fun ci' h8 hk' => ?_) (fun h => ?_) (fun h => ?_) (fun h => ?_) (fun h => ?_)
        · exfalso; omega
        · rcases hk with ⟨a1, a2, a3⟩ | ⟨a1, a2, a3⟩ | ⟨a1, a2, a3⟩
          · rw [b1, hLL, rg_cA hW.1 (t := 0) (ty := newarray.typeOf at0) (by rw [a3]; rfl) hNm, a3]
            simp only [hAA]; rfl
          all_goals (exfalso; omega)
        · rcases hk with ⟨a1, a2, a3⟩ | ⟨a1, a2, a3⟩ | ⟨a1, a2, a3⟩
          · exfalso; omega
          · rw [b1, hLL, rg_cA hW.1 (t := 1) (ty := newarray.typeOf at0) (by rw [a3]; rfl) hNm, a3]
            simp only [hJJ]; rfl
          · exfalso; omega
        · rcases hk with ⟨a1, a2, a3⟩ | ⟨a1, a2, a3⟩ | ⟨a1, a2, a3⟩
          · exfalso; omega
          · exfalso; omega
          · rw [b1, hLL, rg_cA hW.1 (t := 2) (ty := newarray.typeOf at0) (by rw [a3]; rfl) hNm, a3]
            simp only [hAA]; rfl
        · exfalso; omega
      · cases h
    · cases h
theorem rg_ok_anewa {k pc idx : Nat} (hd : decode (rg_b k) pc = .ok (.anewarray idx, 3)) (hcl : Cond.classLink (rg_y k).cls idx "RegretTable$Fraction" ∈ rg_gd) : rg_Ok k pc (rg_sna 12 3) := by
  refine rg_mkG (fun c o h => ?_) (fun l G c c' hpc h => ?_)
  · unfold rg_sna at h; split at h
    · split at h <;> cases h; rfl
    · cases h; rfl
  · unfold rg_sna at h; split at h
    · split at h
      · rename_i pc0 L0 v st M hv
        cases h; dsimp only at hpc; subst hpc
        refine ⟨⟨Nat.le_succ _, Nat.le_add_right _ _⟩, fun res g1 g2 hs => ?_⟩
        intro p e R s m args below meth cd H locs cells slots ls M0 X hm hl ho h1 h2 h3 h4 h5 h6
        have kk := fun H1 hm1 a1 a2 => hs p e R s m args below meth cd H1 locs (cells + 1) (slots + v.toNatClampNeg) ls M0 X hm1 hl ho a1 a2 h3 h4 h5 h6
        obtain ⟨hx, hb, hml, hr, hown, hts, hlocks, hnm, hW⟩ := X
        dsimp only [rg_cM] at hm kk h1 h2 g1 g2 ⊢
        have e1 : rg_sz (rg_nA M 12 v.toNatClampNeg) = rg_sz M + 1 := rfl
        have e2 : rg_us (rg_nA M 12 v.toNatClampNeg) = rg_us M + v.toNatClampNeg := rfl
        rw [e1] at g1; rw [e2] at g2
        refine W.anew hx hb hown (hts _ (List.mem_cons_of_mem _ hcl)) (va_AO.use hW.2.1.1) rfl hd rfl (Int32.not_lt.mpr hv.1) (Nat.le_trans (Nat.mul_le_mul_right 4 hv.2) (by decide)) (by omega) (by omega) fun cA kA comp f1 f2 f3 f4 => ?_
        have z0 := hm.2.2.2.2.2.2.1
        generalize hH1 : H.push ({ cls := cA, slots := Array.replicate v.toNatClampNeg .null, vm := .none } : Cell) = H1
        have z1 : H1.size = H.size + 1 := by rw [← hH1, Array.size_push]
        have b1 : H1[H.size]? = some (arrV cA v.toNatClampNeg (fun _ => .null)) := by rw [← hH1, Array.getElem?_push_size, ← arrV_new]
        have o1 : ∀ q : Nat, q < H.size → H1[q]? = H[q]? := fun q hq => by rw [← hH1, Array.getElem?_push, if_neg (Nat.ne_of_lt hq)]
        rw [z0]
        refine kk H1 ?_ (by rw [e1]; omega) (by rw [e2]; omega)
        have hkk : rg_K (rg_nA M 12 v.toNatClampNeg) (rg_sz M) = 12 := rg_up_eq
        have hLL : rg_L (rg_nA M 12 v.toNatClampNeg) (rg_sz M) = v.toNatClampNeg := rg_up_eq
        have hQQ : ∀ j, rg_Q (rg_nA M 12 v.toNatClampNeg) (rg_sz M) j = none := fun j => if_pos rfl
        refine hm.new z1 o1 e1 (fun b hb => rg_up_ne hb) (fun b hb => rg_up_ne hb) (fun _ _ _ => rfl) (fun _ _ _ => rfl) (fun b hb => funext fun i => if_neg hb) (fun b hb => funext fun i => if_neg hb) (fun b hb => funext fun i => if_neg hb) (by rw [hkk]; omega) (fun ci' h8 hk' => ?_) (fun h => ?_) (fun h => ?_) (fun h => ?_) (fun h => ?_)
        · exfalso; omega
        · exfalso; omega
        · exfalso; omega
        · exfalso; omega
        · rw [← z0, b1, z0, hLL, rg_cA hW.1 (t := 3) (ty := .object "RegretTable$Fraction") rfl f1]
          simp only [hQQ]; rfl
      · cases h
    · cases h
/-! Object's own constructor; calls -/
def rg_sob : rg_S := fun c => match c with
  | (pc, L, [.ref _], M) => .inl (pc + 3, L, [], M)
  | _ => rg_no
theorem rg_ok_objinit {k pc idx : Nat} (hd : decode (rg_b k) pc = .ok (.invokespecial idx, 3)) (hlink : Cond.methodLink (rg_y k).cls idx Lib.objectInit ∈ rg_gd) (hinst : Cond.instanceMethod Lib.objectInit ∈ rg_gd) (hcode : Cond.code Lib.objectInit ⟨#[0xb1]⟩ 1 none ∈ rg_gd) (hf : 1 ≤ rg_fr k) (hlo : 12 ≤ rg_lo k) : rg_Ok k pc rg_sob := by
  refine rg_mkG (fun c o h => ?_) (fun l G c c' hpc h => ?_)
  · unfold rg_sob at h; split at h
    · cases h
    · cases h; rfl
  · unfold rg_sob at h; split at h
    · cases h; dsimp only at hpc; subst hpc
      refine ⟨⟨Nat.le_refl _, Nat.le_refl _⟩, fun res _ _ hs => ?_⟩
      intro p e R s m args below meth cd H locs cells slots ls M0 X hm hl ho h1 h2 h3 h4 h5 h6
      have kk := hs p e R s m args below meth cd H locs cells slots ls M0 X hm hl ho h1 h2 h3 h4 h5 h6
      obtain ⟨hx, hb, hml, hr, hown, hts, hlocks, hnm, hW⟩ := X
      have hg : ∀ w ∈ rg_gd, w.before args s = true := fun w h => hts w (List.mem_cons_of_mem _ h)
      exact W.objInit hx hb hown (hg _ hlink) (hg _ hinst) (hg _ hcode) rfl (hl.1.trans hml.symm) rfl hd (by omega) (by show 2 * 0 + 0 + 12 ≤ _; omega) kk
    · cases h
/-- a call: the method, how many values, the kind of the answer -/
def rg_scS (k' n t : Nat) : rg_S := fun c => match Nat.ble n c.2.2.1.length && (Nat.ble (((c.2.2.1.drop n).map fun v => v.category).sum) 8 && Nat.ble (rg_ag (c.2.2.1.take n).reverse).length (rg_ml k')) with
  | true => .inr (.inr (.inl (k', (c.2.2.1.take n).reverse, (c.1 + 3, c.2.1, c.2.2.1.drop n, c.2.2.2), t)))
  | false => rg_no
def rg_scI (k' n t : Nat) : rg_S := fun c => match Nat.ble (n + 1) c.2.2.1.length && (Nat.ble (((c.2.2.1.drop (n + 1)).map fun v => v.category).sum) 8 && Nat.ble (rg_ag (c.2.2.1.take (n + 1)).reverse).length (rg_ml k')), (c.2.2.1.take (n + 1)).reverse with
  | true, .ref b :: As => .inr (.inr (.inl (k', .ref b :: As, (c.1 + 3, c.2.1, c.2.2.1.drop (n + 1), c.2.2.2), t)))
  | _, _ => rg_no
def rg_scV (k' n t ci : Nat) : rg_S := fun c => match Nat.ble (n + 1) c.2.2.1.length && (Nat.ble (((c.2.2.1.drop (n + 1)).map fun v => v.category).sum) 8 && Nat.ble (rg_ag (c.2.2.1.take (n + 1)).reverse).length (rg_ml k')), (c.2.2.1.take (n + 1)).reverse with
  | true, .ref b :: As => if rg_K c.2.2.2 b = ci + 1 then .inr (.inr (.inl (k', .ref b :: As, (c.1 + 3, c.2.1, c.2.2.1.drop (n + 1), c.2.2.2), t))) else rg_no
  | _, _ => rg_no
theorem rg_callW {G : rg_G} {p : Program} {l : Launch} {e : Env} {R : Room} {s : State} {m : MethodId} {args : Array Value} {below : List Frame} {meth : Method} {c : Code} {H : Heap} {locs : List Loc} {cells slots : Nat} {Q : State → Prop} {pc : Nat} {ls : Array Slot} {rest st0 : List Value} {a : Array Value} {mc ms : Nat} {r : rg_U}
    (hr : va_Run p l e R s m args below meth c H locs cells slots mc ms (F0 m pc ls st0) rest (rg_Qc G r a) (fun q => gz G ≤ q)) (ho : ∀ q ∈ locs, gz G ≤ q.base)
    (kk : ∀ (H1 : Heap) (locs1 : List Loc), rg_mo G r.2 H1 → (∀ q ∈ locs1, gz G ≤ q.base) → W p l e R s m args below meth c H1 locs1 (cells + mc) (slots + ms) Q (F0 m (pc + 3) ls (r.1.toList ++ rest))) : W p l e R s m args below meth c H locs cells slots Q (F0 m pc ls st0) := by
  intro T hT X
  obtain ⟨v, st₀, t, T', L, h0, X', hL, e1, e2, ⟨hv, hm⟩, st⟩ := hr T hT X
  cases hv
  obtain ⟨t2, a1, b1⟩ := kk T'.heap (locs ++ L) (by rw [e1]; exact hm) (fun q hq => by
    rcases List.mem_append.mp hq with h | h
    · exact ho q h
    · exact hL q h) T' rfl X'
  exact ⟨t2, st t2 a1, b1⟩
theorem rg_bk_spec {t : Nat} {c c' : rg_C} {r : rg_U} (h : rg_bk t c r = some c') : c' = (c.1, c.2.1, r.1.toList ++ c.2.2.1, r.2) := by
  obtain ⟨r1, M⟩ := r
  unfold rg_bk at h
  split at h <;> (dsimp only at *; try subst_vars) <;> first | cases h; done | skip
  all_goals (simp_all)
theorem rg_wk (k : Nat) : ∀ w ∈ rg_ws k, w = Cond.code (rg_y k) (rg_b k) (rg_ml k) (rg_rt k) ∨ w ∈ rg_gd := fun w h => List.mem_cons.mp h
theorem rg_gin {k k' : Nat} (hcode : Cond.code (rg_y k') (rg_b k') (rg_ml k') (rg_rt k') ∈ rg_gd) {ws : List Cond} (hws : ∀ w ∈ ws, w ∈ rg_gd) : GoodIn (rg_ws k) (ws ++ rg_ws k') := by
  intro w h
  have hw : w ∈ rg_gd := by
    rcases List.mem_append.mp h with h | h
    · exact hws w h
    · rcases rg_wk k' w h with rfl | h
      · exact hcode
      · exact h
  exact ⟨List.mem_cons_of_mem _ hw, good_of_word (rg_good w hw)⟩
theorem rg_blind (G : rg_G) (M : rg_M) (av : List Value) : FrameBlind (va_Pc av (fun U => rg_mo G M U.heap ∧ rg_W G U)) := by
  intro a U g mk ⟨h1, h2, h3⟩
  exact ⟨h1, h2, h3.same rfl⟩
theorem rg_pre {G : rg_G} {M : rg_M} {H : Heap} {s : State} (hm : rg_mo G M H) (hW : rg_W G s) (av : List Value) : ∀ U : State, U.heap = H → s.WarmedH U.vm → va_Pc av (fun U => rg_mo G M U.heap ∧ rg_W G U) av.toArray U :=
  fun U hU hw => ⟨rfl, by rw [hU]; exact hm, hW.warm hw⟩

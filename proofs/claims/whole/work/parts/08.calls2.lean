theorem rg_ok_callV {k pc k' n t idx : Nat} {ci N : Nat} {C : String} {T : u_T} {ty : Nat → FieldType} (hc : rg_cok ci C T N ty) (hpn : plainName (rg_y k').cls = true) (hd : decode (rg_b k) pc = .ok (.invokevirtual idx, 3)) (hw1 : Cond.methodLink (rg_y k).cls idx (rg_y k') ∈ rg_gd) (hw2 : Cond.instanceMethod (rg_y k') ∈ rg_gd) (hw3 : Cond.selects C (rg_y k') (rg_y k') ∈ rg_gd) (hw4 : Cond.initialized C ∈ rg_gd) (hw5 : Cond.code (rg_y k') (rg_b k') (rg_ml k') (rg_rt k') ∈ rg_gd) (hdd : (rg_y k').cls = C ∧ (rg_y k').cls ≠ "java/lang/invoke/MethodHandle" ∧ (rg_y k').cls ≠ "java/lang/invoke/VarHandle" ∧ (parseMethodDescriptor (rg_y k').desc).map (fun d => d.parameters.length) = some n) (hfr : rg_fr k' + 1 ≤ rg_fr k) (hlo : 8 + (rg_ml k' + 11) + rg_lo k' ≤ rg_lo k) : rg_Ok k pc (rg_scV k' n t ci) := by
  intro l G c hpc
  obtain ⟨pc0, L, st, M⟩ := c
  dsimp only at hpc; subst hpc
  refine ⟨fun c' h => ?_, fun r h => ?_, fun k0 av c1 t0 h => ?_⟩
  · unfold rg_scV at h; split at h
    · split at h <;> cases h
    · cases h
  · unfold rg_scV at h; split at h
    · split at h <;> cases h
    · cases h
  · unfold rg_scV at h; split at h
    · rename_i b As q1 q2
      split at h
      · rename_i hk
        cases h
        dsimp only at q1 q2
        rw [Bool.and_eq_true, Bool.and_eq_true] at q1
        have q5 := Nat.le_of_ble_eq_true q1.2.2
        rw [q2] at q5
        refine ⟨⟨q5, hpn⟩, rfl, fun r c' res hMet hbk g1 g2 hs => ?_⟩
        intro p e R s m args below meth cd H locs cells slots ls M0 X hm hl ho h1 h2 h3 h4 h5 h6
        rw [rg_bk_spec hbk] at hs
        obtain ⟨hmz, hmu, hMet⟩ := hMet
        have kk := fun H1 locs1 cells1 slots1 hm1 ho1 a1 a2 => hs p e R s m args below meth cd H1 locs1 cells1 slots1 ls M0 X hm1 hl ho1 a1 a2 h3 h4 h5 h6
        obtain ⟨hx, hb, hml, hr, hown, hts, hlocks, hnm, hW⟩ := X
        dsimp only [rg_cM] at hm kk h1 h2 hMet hmz hmu ⊢
        have q3 := Nat.le_of_ble_eq_true q1.1
        have q4 := Nat.le_of_ble_eq_true q1.2.1
        have hg : ∀ w ∈ rg_gd, w.before args s = true := fun w h => hts w (List.mem_cons_of_mem _ h)
        have e1 : st.take (n + 1) = As.reverse ++ [.ref b] := by have := congrArg List.reverse q2; rwa [List.reverse_reverse, List.reverse_cons] at this
        have hst : st = As.reverse ++ .ref b :: st.drop (n + 1) := by have := List.take_append_drop (n + 1) st; rw [e1] at this; simpa using this.symm
        have hlen : As.length = n := by have := congrArg List.length e1; rw [List.length_take] at this; simp at this; omega
        have cw := cwV (R := R) (rm := rg_rm k' M r.2) n hts (rg_gin (k := k) hw5 (ws := [.methodLink (rg_y k).cls idx (rg_y k'), .instanceMethod (rg_y k'), .selects C (rg_y k') (rg_y k'), .initialized C]) (by intro w hw; simp at hw; rcases hw with rfl | rfl | rfl | rfl <;> assumption)) rfl rfl rfl hdd ⟨Nat.le_trans hfr h3, Nat.le_trans hlo h4⟩
        obtain ⟨⟨cell, c1, c2, c3, -⟩, -⟩ := hm.obj hc.1 hk
        have run := va_runV (Ts := rg_ws k) (l := l) (locs := locs) (below := below) (meth := meth) (e := e) (cells := cells) (slots := slots) (g := F0 m pc0 ls st) (rest := st.drop (n + 1)) ⟨hx, hb, hml, hown, hts⟩ hMet cw ⟨rg_blind G M _, ⟨cell, c1, by rw [c3]; rfl, by rw [c2]; exact (hW.1.1 ci _ hc.2.1).2.1⟩, rg_pre hm hW _⟩ rfl hlen hl.1 hst (lv_room q4) hd ⟨by omega, by omega⟩
        exact rg_callW run ho (fun H1 locs1 hm1 ho1 => kk H1 locs1 _ _ hm1 ho1 (by omega) (by omega))
      · cases h
    · cases h
theorem rg_ok_callI {k pc k' n t idx : Nat} (hpn : plainName (rg_y k').cls = true) (hd : decode (rg_b k) pc = .ok (.invokespecial idx, 3)) (hw1 : Cond.methodLink (rg_y k).cls idx (rg_y k') ∈ rg_gd) (hw2 : Cond.instanceMethod (rg_y k') ∈ rg_gd) (hrt : rg_rt k' = none) (hini : (rg_y k').name = "<init>") (hw4 : Cond.initialized (rg_y k').cls ∈ rg_gd) (hw5 : Cond.code (rg_y k') (rg_b k') (rg_ml k') none ∈ rg_gd) (hdd : (rg_y k').cls ≠ "java/lang/invoke/MethodHandle" ∧ (rg_y k').cls ≠ "java/lang/invoke/VarHandle" ∧ (parseMethodDescriptor (rg_y k').desc).map (fun d => d.parameters.length) = some n) (hfr : rg_fr k' + 1 ≤ rg_fr k) (hlo : 8 + (rg_ml k' + 11) + rg_lo k' ≤ rg_lo k) : rg_Ok k pc (rg_scI k' n t) := by
  intro l G c hpc
  obtain ⟨pc0, L, st, M⟩ := c
  dsimp only at hpc; subst hpc
  refine ⟨fun c' h => ?_, fun r h => ?_, fun k0 av c1 t0 h => ?_⟩
  · unfold rg_scI at h; split at h
    · cases h
    · cases h
  · unfold rg_scI at h; split at h
    · cases h
    · cases h
  · unfold rg_scI at h; split at h
    · rename_i b As q1 q2
      cases h
      dsimp only at q1 q2
      rw [Bool.and_eq_true, Bool.and_eq_true] at q1
      have q5 := Nat.le_of_ble_eq_true q1.2.2
      rw [q2] at q5
      refine ⟨⟨q5, hpn⟩, rfl, fun r c' res hMet hbk g1 g2 hs => ?_⟩
      intro p e R s m args below meth cd H locs cells slots ls M0 X hm hl ho h1 h2 h3 h4 h5 h6
      rw [rg_bk_spec hbk] at hs
      obtain ⟨hmz, hmu, hMet⟩ := hMet
      have kk := fun H1 locs1 cells1 slots1 hm1 ho1 a1 a2 => hs p e R s m args below meth cd H1 locs1 cells1 slots1 ls M0 X hm1 hl ho1 a1 a2 h3 h4 h5 h6
      obtain ⟨hx, hb, hml, hr, hown, hts, hlocks, hnm, hW⟩ := X
      dsimp only [rg_cM] at hm kk h1 h2 hMet hmz hmu ⊢
      have q3 := Nat.le_of_ble_eq_true q1.1
      have q4 := Nat.le_of_ble_eq_true q1.2.1
      have hg : ∀ w ∈ rg_gd, w.before args s = true := fun w h => hts w (List.mem_cons_of_mem _ h)
      have e1 : st.take (n + 1) = As.reverse ++ [.ref b] := by have := congrArg List.reverse q2; rwa [List.reverse_reverse, List.reverse_cons] at this
      have hst : st = As.reverse ++ .ref b :: st.drop (n + 1) := by have := List.take_append_drop (n + 1) st; rw [e1] at this; simpa using this.symm
      have hlen : As.length = n := by have := congrArg List.length e1; rw [List.length_take] at this; simp at this; omega
      have cw := cwI (R := R) (rm := rg_rm k' M r.2) n hts (rg_gin (k := k) (ws := []) (by rw [hrt]; exact hw5) (by intro w hw; cases hw)) (by rw [← hrt]; rfl) rfl rfl (hg _ hw4) (hg _ hw1) (hg _ hw2) hini hdd ⟨Nat.le_trans hfr h3, Nat.le_trans hlo h4⟩
      have run := va_runI (Ts := rg_ws k) (l := l) (locs := locs) (below := below) (meth := meth) (e := e) (cells := cells) (slots := slots) (g := F0 m pc0 ls st) (rest := st.drop (n + 1)) ⟨hx, hb, hml, hown, hts⟩ hMet cw ⟨rg_blind G M _, rg_pre hm hW _⟩ rfl hlen hl.1 hst (lv_room q4) hd ⟨by omega, by omega⟩
      exact rg_callW run ho (fun H1 locs1 hm1 ho1 => kk H1 locs1 _ _ hm1 ho1 (by omega) (by omega))
    · cases h
theorem rg_ok_callIN {k pc k' n t idx : Nat} {host : String} (hpn : plainName (rg_y k').cls = true) (hd : decode (rg_b k) pc = .ok (.invokespecial idx, 3)) (hw1 : ∀ s, rg_Nx s → va_Nw (.methodLinkNest (rg_y k).cls idx (rg_y k') host) s) (hw2 : Cond.instanceMethod (rg_y k') ∈ rg_gd) (hrt : rg_rt k' = none) (hini : (rg_y k').name = "<init>") (hw4 : Cond.initialized (rg_y k').cls ∈ rg_gd) (hw5 : Cond.code (rg_y k') (rg_b k') (rg_ml k') none ∈ rg_gd) (hdd : (rg_y k').cls ≠ "java/lang/invoke/MethodHandle" ∧ (rg_y k').cls ≠ "java/lang/invoke/VarHandle" ∧ (parseMethodDescriptor (rg_y k').desc).map (fun d => d.parameters.length) = some n) (hfr : rg_fr k' + 1 ≤ rg_fr k) (hlo : 8 + (rg_ml k' + 11) + rg_lo k' ≤ rg_lo k) : rg_Ok k pc (rg_scI k' n t) := by
  intro l G c hpc
  obtain ⟨pc0, L, st, M⟩ := c
  dsimp only at hpc; subst hpc
  refine ⟨fun c' h => ?_, fun r h => ?_, fun k0 av c1 t0 h => ?_⟩
  · unfold rg_scI at h; split at h
    · cases h
    · cases h
  · unfold rg_scI at h; split at h
    · cases h
    · cases h
  · unfold rg_scI at h; split at h
    · rename_i b As q1 q2
      cases h
      dsimp only at q1 q2
      rw [Bool.and_eq_true, Bool.and_eq_true] at q1
      have q5 := Nat.le_of_ble_eq_true q1.2.2
      rw [q2] at q5
      refine ⟨⟨q5, hpn⟩, rfl, fun r c' res hMet hbk g1 g2 hs => ?_⟩
      intro p e R s m args below meth cd H locs cells slots ls M0 X hm hl ho h1 h2 h3 h4 h5 h6
      rw [rg_bk_spec hbk] at hs
      obtain ⟨hmz, hmu, hMet⟩ := hMet
      have kk := fun H1 locs1 cells1 slots1 hm1 ho1 a1 a2 => hs p e R s m args below meth cd H1 locs1 cells1 slots1 ls M0 X hm1 hl ho1 a1 a2 h3 h4 h5 h6
      obtain ⟨hx, hb, hml, hr, hown, hts, hlocks, hnm, hW⟩ := X
      dsimp only [rg_cM] at hm kk h1 h2 hMet hmz hmu ⊢
      have q3 := Nat.le_of_ble_eq_true q1.1
      have q4 := Nat.le_of_ble_eq_true q1.2.1
      have hg : ∀ w ∈ rg_gd, w.before args s = true := fun w h => hts w (List.mem_cons_of_mem _ h)
      have e1 : st.take (n + 1) = As.reverse ++ [.ref b] := by have := congrArg List.reverse q2; rwa [List.reverse_reverse, List.reverse_cons] at this
      have hst : st = As.reverse ++ .ref b :: st.drop (n + 1) := by have := List.take_append_drop (n + 1) st; rw [e1] at this; simpa using this.symm
      have hlen : As.length = n := by have := congrArg List.length e1; rw [List.length_take] at this; simp at this; omega
      have cw := va_cnB (R := R) (ret := none) (bytes := rg_b k') (ws' := rg_gd) (rm := rg_rm k' M r.2) n hts (rg_gin (k := k) (ws := []) (by rw [hrt]; exact hw5) (by intro w hw; cases hw)) (by rw [← hrt]; rfl) rfl rfl (hw1 s hW.2.1) (hg _ hw4) hdd ⟨Nat.le_trans hfr h3, Nat.le_trans hlo h4⟩
      have run := va_runIN (Ts := rg_ws k) (l := l) (locs := locs) (below := below) (meth := meth) (e := e) (cells := cells) (slots := slots) (g := F0 m pc0 ls st) (rest := st.drop (n + 1)) ⟨hx, hb, hml, hown, hts⟩ hMet ⟨cw, hini, hg _ hw2⟩ ⟨rg_blind G M _, rg_pre hm hW _⟩ rfl hlen hl.1 hst (lv_room q4) hd ⟨by omega, by omega⟩
      exact rg_callW run ho (fun H1 locs1 hm1 ho1 => kk H1 locs1 _ _ hm1 ho1 (by omega) (by omega))
    · cases h
theorem rg_ok_callS {k pc k' n t idx : Nat} (hpn : plainName (rg_y k').cls = true) (hd : decode (rg_b k) pc = .ok (.invokestatic idx, 3)) (hw1 : Cond.methodLink (rg_y k).cls idx (rg_y k') ∈ rg_gd) (hw2 : Cond.static (rg_y k') ∈ rg_gd) (hw4 : Cond.initialized (rg_y k').cls ∈ rg_gd) (hw5 : Cond.code (rg_y k') (rg_b k') (rg_ml k') (rg_rt k') ∈ rg_gd) (hdd : (rg_y k').cls ≠ "java/lang/invoke/MethodHandle" ∧ (rg_y k').cls ≠ "java/lang/invoke/VarHandle" ∧ (parseMethodDescriptor (rg_y k').desc).map (fun d => d.parameters.length) = some n) (hfr : rg_fr k' + 1 ≤ rg_fr k) (hlo : 8 + (rg_ml k' + 11) + rg_lo k' ≤ rg_lo k) : rg_Ok k pc (rg_scS k' n t) := by
  intro l G c hpc
  obtain ⟨pc0, L, st, M⟩ := c
  dsimp only at hpc; subst hpc
  refine ⟨fun c' h => ?_, fun r h => ?_, fun k0 av c1 t0 h => ?_⟩
  · unfold rg_scS at h; split at h
    · cases h
    · cases h
  · unfold rg_scS at h; split at h
    · cases h
    · cases h
  · unfold rg_scS at h; split at h
    · rename_i q1
      cases h
      dsimp only at q1
      rw [Bool.and_eq_true, Bool.and_eq_true] at q1
      have q5 := Nat.le_of_ble_eq_true q1.2.2
      refine ⟨⟨q5, hpn⟩, rfl, fun r c' res hMet hbk g1 g2 hs => ?_⟩
      intro p e R s m args below meth cd H locs cells slots ls M0 X hm hl ho h1 h2 h3 h4 h5 h6
      rw [rg_bk_spec hbk] at hs
      obtain ⟨hmz, hmu, hMet⟩ := hMet
      have kk := fun H1 locs1 cells1 slots1 hm1 ho1 a1 a2 => hs p e R s m args below meth cd H1 locs1 cells1 slots1 ls M0 X hm1 hl ho1 a1 a2 h3 h4 h5 h6
      obtain ⟨hx, hb, hml, hr, hown, hts, hlocks, hnm, hW⟩ := X
      dsimp only [rg_cM] at hm kk h1 h2 hMet hmz hmu ⊢
      have q3 := Nat.le_of_ble_eq_true q1.1
      have q4 := Nat.le_of_ble_eq_true q1.2.1
      have hg : ∀ w ∈ rg_gd, w.before args s = true := fun w h => hts w (List.mem_cons_of_mem _ h)
      have hst : st = ((st.take n).reverse).reverse ++ st.drop n := by rw [List.reverse_reverse, List.take_append_drop]
      have hlen : ((st.take n).reverse).length = n := by rw [List.length_reverse, List.length_take]; omega
      have hG := rg_gin (k := k) (ws := []) hw5 (by intro w hw; cases hw)
      have cw : CallB R s args (rg_y k).cls idx (rg_y k') (rg_b k') (rg_ml k') (rg_rt k') (rg_ws k') (rg_rm k' M r.2) _ _ n := callB_of n hts hG rfl rfl rfl (hg _ hw4) (hg _ hw1) hdd ⟨Nat.le_trans hfr h3, Nat.le_trans hlo h4⟩
      have run := va_runS (Ts := rg_ws k) (l := l) (locs := locs) (below := below) (meth := meth) (e := e) (cells := cells) (slots := slots) (g := F0 m pc0 ls st) (rest := st.drop n) ⟨hx, hb, hml, hown, hts⟩ hMet ⟨cw, hg _ hw2⟩ ⟨rg_blind G M _, rg_pre hm hW _⟩ rfl hlen hl.1 hst (lv_room q4) hd ⟨by omega, by omega⟩
      exact rg_callW run ho (fun H1 locs1 hm1 ho1 => kk H1 locs1 _ _ hm1 ho1 (by omega) (by omega))
    · cases h
theorem rg_ok_callSN {k pc k' n t idx : Nat} {host : String} (hpn : plainName (rg_y k').cls = true) (hd : decode (rg_b k) pc = .ok (.invokestatic idx, 3)) (hw1 : ∀ s, rg_Nx s → va_Nw (.methodLinkNest (rg_y k).cls idx (rg_y k') host) s) (hw2 : Cond.static (rg_y k') ∈ rg_gd) (hw4 : Cond.initialized (rg_y k').cls ∈ rg_gd) (hw5 : Cond.code (rg_y k') (rg_b k') (rg_ml k') (rg_rt k') ∈ rg_gd) (hdd : (rg_y k').cls ≠ "java/lang/invoke/MethodHandle" ∧ (rg_y k').cls ≠ "java/lang/invoke/VarHandle" ∧ (parseMethodDescriptor (rg_y k').desc).map (fun d => d.parameters.length) = some n) (hfr : rg_fr k' + 1 ≤ rg_fr k) (hlo : 8 + (rg_ml k' + 11) + rg_lo k' ≤ rg_lo k) : rg_Ok k pc (rg_scS k' n t) := by
  intro l G c hpc
  obtain ⟨pc0, L, st, M⟩ := c
  dsimp only at hpc; subst hpc
  refine ⟨fun c' h => ?_, fun r h => ?_, fun k0 av c1 t0 h => ?_⟩
  · unfold rg_scS at h; split at h
    · cases h
    · cases h
  · unfold rg_scS at h; split at h
    · cases h
    · cases h
  · unfold rg_scS at h; split at h
    · rename_i q1
      cases h
      dsimp only at q1
      rw [Bool.and_eq_true, Bool.and_eq_true] at q1
      have q5 := Nat.le_of_ble_eq_true q1.2.2
      refine ⟨⟨q5, hpn⟩, rfl, fun r c' res hMet hbk g1 g2 hs => ?_⟩
      intro p e R s m args below meth cd H locs cells slots ls M0 X hm hl ho h1 h2 h3 h4 h5 h6
      rw [rg_bk_spec hbk] at hs
      obtain ⟨hmz, hmu, hMet⟩ := hMet
      have kk := fun H1 locs1 cells1 slots1 hm1 ho1 a1 a2 => hs p e R s m args below meth cd H1 locs1 cells1 slots1 ls M0 X hm1 hl ho1 a1 a2 h3 h4 h5 h6
      obtain ⟨hx, hb, hml, hr, hown, hts, hlocks, hnm, hW⟩ := X
      dsimp only [rg_cM] at hm kk h1 h2 hMet hmz hmu ⊢
      have q3 := Nat.le_of_ble_eq_true q1.1
      have q4 := Nat.le_of_ble_eq_true q1.2.1
      have hg : ∀ w ∈ rg_gd, w.before args s = true := fun w h => hts w (List.mem_cons_of_mem _ h)
      have hst : st = ((st.take n).reverse).reverse ++ st.drop n := by rw [List.reverse_reverse, List.take_append_drop]
      have hlen : ((st.take n).reverse).length = n := by rw [List.length_reverse, List.length_take]; omega
      have hG := rg_gin (k := k) (ws := []) hw5 (by intro w hw; cases hw)
      have cw := va_cnB (R := R) (rm := rg_rm k' M r.2) n hts hG rfl rfl rfl (hw1 s hW.2.1) (hg _ hw4) hdd ⟨Nat.le_trans hfr h3, Nat.le_trans hlo h4⟩
      have run := va_runSN (Ts := rg_ws k) (l := l) (locs := locs) (below := below) (meth := meth) (e := e) (cells := cells) (slots := slots) (g := F0 m pc0 ls st) (rest := st.drop n) ⟨hx, hb, hml, hown, hts⟩ hMet ⟨cw, hg _ hw2, trivial⟩ ⟨rg_blind G M _, rg_pre hm hW _⟩ rfl hlen hl.1 hst (lv_room q4) hd ⟨by omega, by omega⟩
      exact rg_callW run ho (fun H1 locs1 hm1 ho1 => kk H1 locs1 _ _ hm1 ho1 (by omega) (by omega))
    · cases h

def rg_smx : rg_S := fun c => match c with
  | (pc, L, .int y :: .int x :: st, M) => (match Nat.ble ((st.map fun v => v.category).sum) 8 with | true => .inl (pc + 3, L, .int (if x < y then y else x) :: st, M) | false => rg_no)
  | _ => rg_no
theorem rg_ok_mmax {k pc idx : Nat} (hd : decode (rg_b k) pc = .ok (.invokestatic idx, 3)) (hw1 : Cond.methodLink (rg_y k).cls idx Lib.Math.max.name ∈ rg_gd) (hw2 : Cond.static Lib.Math.max.name ∈ rg_gd) (hw3 : Cond.initialized "java/lang/Math" ∈ rg_gd) (hw4 : Cond.code Lib.Math.max.name Lib.Math.max.code 2 (some .int) ∈ rg_gd) (hfr : 1 ≤ rg_fr k) (hlo : 21 ≤ rg_lo k) : rg_Ok k pc rg_smx := by
  refine rg_mkG (fun c o h => ?_) (fun l G c c' hpc h => ?_)
  · unfold rg_smx at h; split at h
    · split at h <;> cases h; rfl
    · cases h; rfl
  · unfold rg_smx at h; split at h
    · split at h
      · rename_i hq
        cases h; dsimp only at hpc; subst hpc
        refine ⟨⟨Nat.le_refl _, Nat.le_refl _⟩, fun res g1 g2 hs => ?_⟩
        intro p e R s m args below meth cd H locs cells slots ls M0 X hm hl ho h1 h2 h3 h4 h5 h6
        have kk := hs p e R s m args below meth cd H locs cells slots ls M0 X hm hl ho h1 h2 h3 h4 h5 h6
        obtain ⟨hx, hb, hml, hr, hown, hts, hlocks, hnm, hW⟩ := X
        have hg : ∀ w ∈ rg_gd, w.before args s = true := fun w h => hts w (List.mem_cons_of_mem _ h)
        have q4 := Nat.le_of_ble_eq_true hq
        dsimp only [rg_cM] at h1 h2 g1 g2
        exact va_mmax hx hb (hml.trans hl.1.symm) hown (hg _ hw1) (hg _ hw2) (hg _ hw3) (hg _ hw4) (by omega) (by omega) (by omega) (by omega) hd kk
      · cases h
    · cases h
def rg_smn : rg_S := fun c => match c with
  | (pc, L, .int y :: .int x :: st, M) => (match Nat.ble ((st.map fun v => v.category).sum) 8 with | true => .inl (pc + 3, L, .int (if y < x then y else x) :: st, M) | false => rg_no)
  | _ => rg_no
theorem rg_ok_mmin {k pc idx : Nat} (hd : decode (rg_b k) pc = .ok (.invokestatic idx, 3)) (hw1 : Cond.methodLink (rg_y k).cls idx Lib.Math.min.name ∈ rg_gd) (hw2 : Cond.static Lib.Math.min.name ∈ rg_gd) (hw3 : Cond.initialized "java/lang/Math" ∈ rg_gd) (hw4 : Cond.code Lib.Math.min.name Lib.Math.min.code 2 (some .int) ∈ rg_gd) (hfr : 1 ≤ rg_fr k) (hlo : 21 ≤ rg_lo k) : rg_Ok k pc rg_smn := by
  refine rg_mkG (fun c o h => ?_) (fun l G c c' hpc h => ?_)
  · unfold rg_smn at h; split at h
    · split at h <;> cases h; rfl
    · cases h; rfl
  · unfold rg_smn at h; split at h
    · split at h
      · rename_i hq
        cases h; dsimp only at hpc; subst hpc
        refine ⟨⟨Nat.le_refl _, Nat.le_refl _⟩, fun res g1 g2 hs => ?_⟩
        intro p e R s m args below meth cd H locs cells slots ls M0 X hm hl ho h1 h2 h3 h4 h5 h6
        have kk := hs p e R s m args below meth cd H locs cells slots ls M0 X hm hl ho h1 h2 h3 h4 h5 h6
        obtain ⟨hx, hb, hml, hr, hown, hts, hlocks, hnm, hW⟩ := X
        have hg : ∀ w ∈ rg_gd, w.before args s = true := fun w h => hts w (List.mem_cons_of_mem _ h)
        have q4 := Nat.le_of_ble_eq_true hq
        dsimp only [rg_cM] at h1 h2 g1 g2
        exact va_mmin hx hb (hml.trans hl.1.symm) hown (hg _ hw1) (hg _ hw2) (hg _ hw3) (hg _ hw4) (by omega) (by omega) (by omega) (by omega) hd kk
      · cases h
    · cases h
def rg_sma : rg_S := fun c => match c with
  | (pc, L, .long x :: st, M) => (match Nat.ble ((st.map fun v => v.category).sum) 8 with | true => .inl (pc + 3, L, .long (if 0 < x then x else -x) :: st, M) | false => rg_no)
  | _ => rg_no
theorem rg_ok_mabs {k pc idx : Nat} (hd : decode (rg_b k) pc = .ok (.invokestatic idx, 3)) (hw1 : Cond.methodLink (rg_y k).cls idx Lib.MathLoose.abs_long.x ∈ rg_gd) (hw2 : Cond.static Lib.MathLoose.abs_long.x ∈ rg_gd) (hw3 : Cond.initialized "java/lang/Math" ∈ rg_gd) (hw4 : Cond.code Lib.MathLoose.abs_long.x Lib.MathLoose.abs_long.code 2 (some .long) ∈ rg_gd) (hfr : 1 ≤ rg_fr k) (hlo : 21 ≤ rg_lo k) : rg_Ok k pc rg_sma := by
  refine rg_mkG (fun c o h => ?_) (fun l G c c' hpc h => ?_)
  · unfold rg_sma at h; split at h
    · split at h <;> cases h; rfl
    · cases h; rfl
  · unfold rg_sma at h; split at h
    · split at h
      · rename_i hq
        cases h; dsimp only at hpc; subst hpc
        refine ⟨⟨Nat.le_refl _, Nat.le_refl _⟩, fun res g1 g2 hs => ?_⟩
        intro p e R s m args below meth cd H locs cells slots ls M0 X hm hl ho h1 h2 h3 h4 h5 h6
        have kk := hs p e R s m args below meth cd H locs cells slots ls M0 X hm hl ho h1 h2 h3 h4 h5 h6
        obtain ⟨hx, hb, hml, hr, hown, hts, hlocks, hnm, hW⟩ := X
        have hg : ∀ w ∈ rg_gd, w.before args s = true := fun w h => hts w (List.mem_cons_of_mem _ h)
        have q4 := Nat.le_of_ble_eq_true hq
        dsimp only [rg_cM] at h1 h2 g1 g2
        exact va_mabs_long hx hb (hml.trans hl.1.symm) hown (hg _ hw1) (hg _ hw2) (hg _ hw3) (hg _ hw4) (by omega) (by omega) (by omega) (by omega) hd kk
      · cases h
    · cases h

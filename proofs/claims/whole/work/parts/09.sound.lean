/-! a method's values in its locals -/
def rg_en (k : Nat) (av : List Value) (M : rg_M) : rg_C := (0, rg_ag av ++ List.replicate (rg_ml k - (rg_ag av).length) none, [], M)
theorem rg_ag_cons (v : Value) (t : List Value) : rg_ag (v :: t) = if v.category = 2 then some v :: none :: rg_ag t else some v :: rg_ag t := by
  cases v <;> simp [rg_ag, Value.category]
theorem rg_ag_args : ∀ (av : List Value) (n i : Nat) (v : Value), (rg_ag av)[i]? = some (some v) → (n + i, v) ∈ lv_args n av
  | [], n, i, v, h => by simp [rg_ag] at h
  | x :: t, n, i, v, h => by
    rw [rg_ag_cons] at h
    unfold lv_args
    by_cases hx : x.category = 2
    · rw [if_pos hx] at h ⊢
      match i, h with
      | 0, h => simp at h; subst h; exact List.mem_cons_self
      | 1, h => simp at h
      | i + 2, h =>
        have := rg_ag_args t (n + 2) i v (by simpa using h)
        rw [show n + (i + 2) = n + 2 + i by omega]
        exact List.mem_cons_of_mem _ this
    · rw [if_neg hx] at h ⊢
      match i, h with
      | 0, h => simp at h; subst h; exact List.mem_cons_self
      | i + 1, h =>
        have := rg_ag_args t (n + 1) i v (by simpa using h)
        rw [show n + (i + 1) = n + 1 + i by omega]
        exact List.mem_cons_of_mem _ this
theorem rg_ag_len : ∀ av : List Value, (lg_sl av).length = (rg_ag av).length
  | [] => rfl
  | x :: t => by
    rw [rg_ag_cons]
    have := rg_ag_len t
    unfold lg_sl at this ⊢
    by_cases hx : x.category = 2 <;> simp [hx, this] <;> omega
theorem rg_rep_none {n i : Nat} {v : Value} : ¬ (List.replicate n (none : Option Value))[i]? = some (some v) := by
  intro h
  have := List.mem_of_getElem? h
  simp at this
theorem rg_Met.of {l : Launch} {G : rg_G} {k : Nat} {av : List Value} {M : rg_M} {res : rg_U} (hp : plainName (rg_y k).cls = true) (hl : (rg_ag av).length ≤ rg_ml k) (h1 : rg_sz M ≤ rg_sz res.2) (h2 : rg_us M ≤ rg_us res.2) (h : rg_Sim l G k (rg_en k av M) res) : rg_Met l G k av M res := by
  refine ⟨h1, h2, Met.ofW (cc := rg_b k) (maxL := rg_ml k) (ret := rg_rt k) (ws' := rg_gd) hp rfl ?_⟩
  intro p e s m args below meth c s₁ B hml hv
  obtain ⟨rfl, hm, hW⟩ := hv
  rw [lg_entry_eq]
  have hle : (lg_sl av).length ≤ rg_ml k := by rw [rg_ag_len]; exact hl
  have he := lv_entry av hle
  refine h p e _ s m _ below meth c s.heap [] 0 0 _ M ⟨B.exec, B.bytes, hml, B.returns, findClass_of_methodNamed B.named, atoms_spec (ws := rg_ws k) B.pre, B.notSynchronized, (name_of_methodNamed B.named B.method).1, hW⟩ hm ⟨he.1, he.2.1, fun i v hi => ?_⟩ (fun q hq => by cases hq) (Nat.zero_add _) (Nat.zero_add _) (Nat.le_refl _) (Nat.le_refl _) ?_ ?_
  · have hi : (rg_ag av ++ List.replicate (rg_ml k - (rg_ag av).length) none)[i]? = some (some v) := hi
    rcases Nat.lt_or_ge i (rg_ag av).length with q | q
    · rw [List.getElem?_append_left q] at hi
      have := rg_ag_args av 0 i v hi
      rw [Nat.zero_add] at this
      exact he.2.2 (i, v) this
    · rw [List.getElem?_append_right q] at hi
      exact absurd hi rg_rep_none
  · show rg_sz res.2 ≤ rg_sz res.2 - rg_sz M + rg_sz M; omega
  · show rg_us res.2 ≤ rg_us res.2 - rg_us M + rg_us M; omega
section
variable (cod : Nat → Nat → Option rg_S)
/-- so many steps of method k's code -/
def rg_ex : Nat → Nat → rg_C → Option rg_U
  | 0, _, _ => none
  | n + 1, k, c => match cod k c.1 with
    | none => none
    | some f => match f c with
      | .inl c' => rg_ex n k c'
      | .inr (.inl r) => some r
      | .inr (.inr (.inl q)) => (rg_ex n q.1 (rg_en q.1 q.2.1 (rg_cM q.2.2.1))).bind fun r => (rg_bk q.2.2.2 q.2.2.1 r).bind fun c' => rg_ex n k c'
      | .inr (.inr (.inr _)) => none
theorem rg_ex_succ : ∀ (n k : Nat) (c : rg_C) (r : rg_U), rg_ex cod n k c = some r → rg_ex cod (n + 1) k c = some r
  | 0, k, c, r, h => by simp [rg_ex] at h
  | n + 1, k, c, r, h => by
    rw [rg_ex] at h ⊢
    cases hc : cod k c.1 with
    | none => rw [hc] at h; exact h
    | some f =>
      rw [hc] at h
      dsimp only at h ⊢
      cases hf : f c with
      | inl c' => rw [hf] at h; exact rg_ex_succ n k c' r h
      | inr o =>
        rw [hf] at h
        rcases o with q | q | q
        · exact h
        · dsimp only at h ⊢
          cases hr : rg_ex cod n q.1 (rg_en q.1 q.2.1 (rg_cM q.2.2.1)) with
          | none => rw [hr] at h; cases h
          | some r1 =>
            rw [hr, Option.bind_some] at h
            rw [rg_ex_succ n _ _ _ hr, Option.bind_some]
            cases hb : rg_bk q.2.2.2 q.2.2.1 r1 with
            | none => rw [hb] at h; cases h
            | some c' =>
              rw [hb, Option.bind_some] at h
              rw [Option.bind_some]
              exact rg_ex_succ n k c' r h
        · cases h
theorem rg_ex_mono {n m k : Nat} {c : rg_C} {r : rg_U} (h : rg_ex cod n k c = some r) (hm : n ≤ m) : rg_ex cod m k c = some r := by
  obtain ⟨d, rfl⟩ := Nat.exists_eq_add_of_le hm
  induction d with
  | zero => exact h
  | succ d ih => exact rg_ex_succ cod _ _ _ _ (ih (by omega))
noncomputable def rg_E (k : Nat) (c : rg_C) : Option rg_U := @dite (Option rg_U) (∃ n r, rg_ex cod n k c = some r) (Classical.propDecidable _) (fun h => rg_ex cod h.choose k c) (fun _ => none)
theorem rg_E_iff {k : Nat} {c : rg_C} {r : rg_U} : rg_E cod k c = some r ↔ ∃ n, rg_ex cod n k c = some r := by
  unfold rg_E
  by_cases h : ∃ n r, rg_ex cod n k c = some r
  · rw [dif_pos h]
    refine ⟨fun q => ⟨_, q⟩, fun ⟨n, hn⟩ => ?_⟩
    obtain ⟨r1, h1⟩ := h.choose_spec
    rcases Nat.le_total n h.choose with q | q
    · exact rg_ex_mono cod hn q
    · have := rg_ex_mono cod h1 q
      rw [h1]; rw [hn] at this; exact this.symm
  · rw [dif_neg h]
    exact ⟨fun q => (by cases q), fun ⟨n, hn⟩ => absurd ⟨n, r, hn⟩ h⟩
theorem rg_E_ext {k k2 : Nat} {c : rg_C} {o : Option rg_U} (h : ∀ r, rg_E cod k c = some r ↔ o = some r) : rg_E cod k c = o := by
  cases h1 : rg_E cod k c with
  | some r => exact ((h r).mp h1).symm
  | none => cases h2 : o with
    | none => rfl
    | some r => rw [(h r).mpr h2] at h1; cases h1
/-- a call of method k -/
noncomputable def rg_run (k : Nat) (av : List Value) (M : rg_M) : Option rg_U := rg_E cod k (rg_en k av M)
theorem rg_E_go {k : Nat} {c c' : rg_C} {f : rg_S} (hc : cod k c.1 = some f) (hf : f c = .inl c') : rg_E cod k c = rg_E cod k c' := by
  refine rg_E_ext cod (k2 := 0) fun r => ?_
  rw [rg_E_iff, rg_E_iff]
  constructor
  · rintro ⟨n, h⟩
    cases n with
    | zero => simp [rg_ex] at h
    | succ n => rw [rg_ex, hc] at h; dsimp only at h; rw [hf] at h; exact ⟨n, h⟩
  · rintro ⟨n, h⟩
    exact ⟨n + 1, by rw [rg_ex, hc]; dsimp only; rw [hf]; exact h⟩
theorem rg_E_rt {k : Nat} {c : rg_C} {r : rg_U} {f : rg_S} (hc : cod k c.1 = some f) (hf : f c = .inr (.inl r)) : rg_E cod k c = some r :=
  (rg_E_iff cod).mpr ⟨1, by rw [rg_ex, hc]; dsimp only; rw [hf]⟩
theorem rg_E_no {k : Nat} {c : rg_C} {f : rg_S} (hc : cod k c.1 = some f) (hf : f c = rg_no) : rg_E cod k c = none := by
  refine rg_E_ext cod (k2 := 0) fun r => ?_
  rw [rg_E_iff]
  refine ⟨fun ⟨n, h⟩ => ?_, fun h => by cases h⟩
  cases n with
  | zero => simp [rg_ex] at h
  | succ n => rw [rg_ex, hc] at h; dsimp only at h; rw [hf] at h; cases h
theorem rg_E_cl {k k' t : Nat} {c c1 : rg_C} {av : List Value} {f : rg_S} (hc : cod k c.1 = some f) (hf : f c = .inr (.inr (.inl (k', av, c1, t)))) : rg_E cod k c = (rg_run cod k' av (rg_cM c1)).bind fun r => (rg_bk t c1 r).bind fun c' => rg_E cod k c' := by
  refine rg_E_ext cod (k2 := 0) fun r => ?_
  rw [rg_E_iff]
  constructor
  · rintro ⟨n, h⟩
    cases n with
    | zero => simp [rg_ex] at h
    | succ n =>
      rw [rg_ex, hc] at h; dsimp only at h; rw [hf] at h; dsimp only at h
      obtain ⟨r1, a1, h⟩ := Option.bind_eq_some_iff.mp h
      obtain ⟨c2, a2, h⟩ := Option.bind_eq_some_iff.mp h
      rw [rg_run, (rg_E_iff cod).mpr ⟨n, a1⟩, Option.bind_some, a2, Option.bind_some]
      exact (rg_E_iff cod).mpr ⟨n, h⟩
  · intro h
    obtain ⟨r1, a1, h⟩ := Option.bind_eq_some_iff.mp h
    obtain ⟨c2, a2, h⟩ := Option.bind_eq_some_iff.mp h
    obtain ⟨n1, b1⟩ := (rg_E_iff cod).mp a1
    obtain ⟨n2, b2⟩ := (rg_E_iff cod).mp h
    refine ⟨n1 + n2 + 1, ?_⟩
    rw [rg_ex, hc]; dsimp only; rw [hf]; dsimp only
    rw [rg_ex_mono cod b1 (by omega), Option.bind_some, a2, Option.bind_some, rg_ex_mono cod b2 (by omega)]
theorem rg_E_eq {k : Nat} {c c2 : rg_C} {f : rg_S} (hp : c.1 = c2.1) (hc : cod k c.1 = some f) (hf : f c = f c2) : rg_E cod k c = rg_E cod k c2 := by
  cases h : f c with
  | inl c' => exact (rg_E_go cod hc h).trans (rg_E_go cod (c := c2) (hp ▸ hc) (hf ▸ h)).symm
  | inr o =>
    rcases o with q | q | q
    · exact (rg_E_rt cod hc h).trans (rg_E_rt cod (c := c2) (hp ▸ hc) (hf ▸ h)).symm
    · obtain ⟨k', av, c1, t⟩ := q
      exact (rg_E_cl cod hc h).trans (rg_E_cl cod (c := c2) (hp ▸ hc) (hf ▸ h)).symm
    · exact (rg_E_no cod hc h).trans (rg_E_no cod (c := c2) (hp ▸ hc) (hf ▸ h)).symm
theorem rg_E_if {k : Nat} {c c1 c2 : rg_C} {f : rg_S} {P : Prop} {_ : Decidable P} (hc : cod k c.1 = some f) (hf : f c = if P then .inl c1 else .inl c2) : rg_E cod k c = if P then rg_E cod k c1 else rg_E cod k c2 := by
  by_cases h : P
  · rw [if_pos h]; rw [if_pos h] at hf; exact rg_E_go cod hc hf
  · rw [if_neg h]; rw [if_neg h] at hf; exact rg_E_go cod hc hf
theorem rg_E_gd {k : Nat} {c c1 : rg_C} {f : rg_S} {P : Prop} {_ : Decidable P} (hc : cod k c.1 = some f) (hf : f c = if P then .inl c1 else rg_no) : rg_E cod k c = if P then rg_E cod k c1 else none := by
  by_cases h : P
  · rw [if_pos h]; rw [if_pos h] at hf; exact rg_E_go cod hc hf
  · rw [if_neg h]; rw [if_neg h] at hf; exact rg_E_no cod hc hf
theorem rg_E_ng {k : Nat} {c c1 : rg_C} {f : rg_S} {P : Prop} {_ : Decidable P} (hc : cod k c.1 = some f) (hf : f c = if P then rg_no else .inl c1) : rg_E cod k c = if P then none else rg_E cod k c1 := by
  by_cases h : P
  · rw [if_pos h]; rw [if_pos h] at hf; exact rg_E_no cod hc hf
  · rw [if_neg h]; rw [if_neg h] at hf; exact rg_E_go cod hc hf
theorem rg_E_gr {k : Nat} {c : rg_C} {r : rg_U} {f : rg_S} {P : Prop} {_ : Decidable P} (hc : cod k c.1 = some f) (hf : f c = if P then .inr (.inl r) else rg_no) : rg_E cod k c = if P then some r else none := by
  by_cases h : P
  · rw [if_pos h]; rw [if_pos h] at hf; exact rg_E_rt cod hc hf
  · rw [if_neg h]; rw [if_neg h] at hf; exact rg_E_no cod hc hf
theorem rg_E_bd {k : Nat} {c : rg_C} {g : Nat → rg_C} {f : rg_S} {P : Prop} {_ : Decidable P} {o : Option Nat} (hc : cod k c.1 = some f) (hf : f c = if P then (match o with | some b => .inl (g b) | none => rg_no) else rg_no) : rg_E cod k c = if P then o.bind (fun b => rg_E cod k (g b)) else none := by
  by_cases h : P
  · rw [if_pos h]; rw [if_pos h] at hf
    cases o with
    | none => exact rg_E_no cod hc hf
    | some b => exact rg_E_go cod hc hf
  · rw [if_neg h]; rw [if_neg h] at hf; exact rg_E_no cod hc hf
/-! typed answers -/
noncomputable def rg_vo (k : Nat) (av : List Value) (M : rg_M) : Option rg_M := (rg_run cod k av M).bind fun r => match r.1 with | none => some r.2 | _ => none
noncomputable def rg_io (k : Nat) (av : List Value) (M : rg_M) : Option (Int32 × rg_M) := (rg_run cod k av M).bind fun r => match r.1 with | some (.int x) => some (x, r.2) | _ => none
noncomputable def rg_lg (k : Nat) (av : List Value) (M : rg_M) : Option (Int64 × rg_M) := (rg_run cod k av M).bind fun r => match r.1 with | some (.long x) => some (x, r.2) | _ => none
noncomputable def rg_rf (k : Nat) (av : List Value) (M : rg_M) : Option (Nat × rg_M) := (rg_run cod k av M).bind fun r => match r.1 with | some (.ref x) => some (x, r.2) | _ => none
theorem rg_E_cv {k k' : Nat} {c c1 : rg_C} {av : List Value} {f : rg_S} (hc : cod k c.1 = some f) (hf : f c = .inr (.inr (.inl (k', av, c1, 0)))) : rg_E cod k c = (rg_vo cod k' av (rg_cM c1)).bind fun M => rg_E cod k (c1.1, c1.2.1, c1.2.2.1, M) := by
  rw [rg_E_cl cod hc hf, rg_vo, Option.bind_assoc]
  congr 1; funext r; obtain ⟨r1, M⟩ := r
  rcases r1 with _ | x
  · rfl
  · cases x <;> rfl
theorem rg_E_ci {k k' : Nat} {c c1 : rg_C} {av : List Value} {f : rg_S} (hc : cod k c.1 = some f) (hf : f c = .inr (.inr (.inl (k', av, c1, 1)))) : rg_E cod k c = (rg_io cod k' av (rg_cM c1)).bind fun r => rg_E cod k (c1.1, c1.2.1, .int r.1 :: c1.2.2.1, r.2) := by
  rw [rg_E_cl cod hc hf, rg_io, Option.bind_assoc]
  congr 1; funext r; obtain ⟨r1, M⟩ := r
  rcases r1 with _ | x
  · rfl
  · cases x <;> rfl
theorem rg_E_cj {k k' : Nat} {c c1 : rg_C} {av : List Value} {f : rg_S} (hc : cod k c.1 = some f) (hf : f c = .inr (.inr (.inl (k', av, c1, 2)))) : rg_E cod k c = (rg_lg cod k' av (rg_cM c1)).bind fun r => rg_E cod k (c1.1, c1.2.1, .long r.1 :: c1.2.2.1, r.2) := by
  rw [rg_E_cl cod hc hf, rg_lg, Option.bind_assoc]
  congr 1; funext r; obtain ⟨r1, M⟩ := r
  rcases r1 with _ | x
  · rfl
  · cases x <;> rfl
theorem rg_E_cr {k k' : Nat} {c c1 : rg_C} {av : List Value} {f : rg_S} (hc : cod k c.1 = some f) (hf : f c = .inr (.inr (.inl (k', av, c1, 3)))) : rg_E cod k c = (rg_rf cod k' av (rg_cM c1)).bind fun r => rg_E cod k (c1.1, c1.2.1, .ref r.1 :: c1.2.2.1, r.2) := by
  rw [rg_E_cl cod hc hf, rg_rf, Option.bind_assoc]
  congr 1; funext r; obtain ⟨r1, M⟩ := r
  rcases r1 with _ | x
  · rfl
  · cases x <;> rfl
theorem rg_E_gc {k k' t : Nat} {c c1 : rg_C} {av : List Value} {f : rg_S} {P : Prop} {_ : Decidable P} {o : Option rg_U} (hc : cod k c.1 = some f) (hf : f c = if P then .inr (.inr (.inl (k', av, c1, t))) else rg_no) (ho : f c = .inr (.inr (.inl (k', av, c1, t))) → rg_E cod k c = o) : rg_E cod k c = if P then o else none := by
  by_cases h : P
  · rw [if_pos h]; rw [if_pos h] at hf; exact ho hf
  · rw [if_neg h]; rw [if_neg h] at hf; exact rg_E_no cod hc hf
/-! steps that need nothing of the memory, one behind another -/
def rg_pu (cd : Nat → Option rg_S) : Nat → rg_C → Option rg_C
  | 0, c => some c
  | n + 1, c => match cd c.1 with
    | some f => match f c with
      | .inl c' => rg_pu cd n c'
      | .inr _ => none
    | none => none
theorem rg_E_pu {k : Nat} : ∀ (n : Nat) {c c' : rg_C} (_ : rg_pu (cod k) n c = some c'), rg_E cod k c = rg_E cod k c'
  | 0, c, c', h => by cases h; rfl
  | n + 1, c, c', h => by
    rw [rg_pu] at h
    cases hc : cod k c.1 with
    | none => rw [hc] at h; cases h
    | some f =>
      rw [hc] at h; dsimp only at h
      cases hf : f c with
      | inl c2 => rw [hf] at h; rw [rg_E_go cod hc hf]; exact rg_E_pu n h
      | inr o => rw [hf] at h; cases h
/-- the soundness of it all -/
theorem rg_sound (hok : ∀ k pc f, cod k pc = some f → rg_Ok k pc f) (l : Launch) (G : rg_G) : ∀ (n k : Nat) (c : rg_C) (r : rg_U), rg_ex cod n k c = some r → (rg_sz (rg_cM c) ≤ rg_sz r.2 ∧ rg_us (rg_cM c) ≤ rg_us r.2) ∧ rg_Sim l G k c r
  | 0, k, c, r, h => by simp [rg_ex] at h
  | n + 1, k, c, r, h => by
    rw [rg_ex] at h
    cases hc : cod k c.1 with
    | none => rw [hc] at h; cases h
    | some f =>
      rw [hc] at h; dsimp only at h
      obtain ⟨a1, a2, a3⟩ := hok k c.1 f hc l G c rfl
      cases hf : f c with
      | inl c' =>
        rw [hf] at h
        obtain ⟨⟨i1, i2⟩, i3⟩ := rg_sound hok l G n k c' r h
        obtain ⟨⟨b1, b2⟩, b3⟩ := a1 c' hf
        exact ⟨⟨Nat.le_trans b1 i1, Nat.le_trans b2 i2⟩, b3 r i1 i2 i3⟩
      | inr o =>
        rw [hf] at h
        rcases o with q | q | q
        · cases h
          obtain ⟨b1, b2⟩ := a2 _ hf
          exact ⟨by rw [b1]; exact ⟨Nat.le_refl _, Nat.le_refl _⟩, b2⟩
        · obtain ⟨k', av, c1, t⟩ := q
          dsimp only at h
          obtain ⟨r1, g1, h⟩ := Option.bind_eq_some_iff.mp h
          obtain ⟨c2, g2, h⟩ := Option.bind_eq_some_iff.mp h
          obtain ⟨⟨d1, d2⟩, b1, b2⟩ := a3 k' av c1 t hf
          obtain ⟨⟨i1, i2⟩, i3⟩ := rg_sound hok l G n k' _ r1 g1
          obtain ⟨⟨j1, j2⟩, j3⟩ := rg_sound hok l G n k c2 r h
          rw [rg_bk_spec g2] at j1 j2
          have i1 : rg_sz (rg_cM c1) ≤ rg_sz r1.2 := i1
          have i2 : rg_us (rg_cM c1) ≤ rg_us r1.2 := i2
          have j1 : rg_sz r1.2 ≤ rg_sz r.2 := j1
          have j2 : rg_us r1.2 ≤ rg_us r.2 := j2
          rw [b1] at i1 i2 i3
          exact ⟨⟨Nat.le_trans i1 j1, Nat.le_trans i2 j2⟩, b2 r1 c2 r (rg_Met.of d2 d1 i1 i2 i3) g2 j1 j2 j3⟩
        · cases h
end

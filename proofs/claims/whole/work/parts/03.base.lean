/-! memory as functions: kinds, int fields, reference fields, lengths, rows of ints, of longs, of references; cells and slots so far -/
abbrev rg_M : Type := (Nat → Nat) × (Nat → Nat → Int32) × (Nat → Nat → Option Nat) × (Nat → Nat) × (Nat → Nat → Int32) × (Nat → Nat → Int64) × (Nat → Nat → Option Nat) × Nat × Nat
def rg_K (M : rg_M) : Nat → Nat := M.1
def rg_I (M : rg_M) : Nat → Nat → Int32 := M.2.1
def rg_R (M : rg_M) : Nat → Nat → Option Nat := M.2.2.1
def rg_L (M : rg_M) : Nat → Nat := M.2.2.2.1
def rg_A (M : rg_M) : Nat → Nat → Int32 := M.2.2.2.2.1
def rg_J (M : rg_M) : Nat → Nat → Int64 := M.2.2.2.2.2.1
def rg_Q (M : rg_M) : Nat → Nat → Option Nat := M.2.2.2.2.2.2.1
def rg_sz (M : rg_M) : Nat := M.2.2.2.2.2.2.2.1
def rg_us (M : rg_M) : Nat := M.2.2.2.2.2.2.2.2
def rg_u2 {α : Type} (g : Nat → Nat → α) (f a : Nat) (v : α) : Nat → Nat → α := fun x b => if x = f then (if b = a then v else g x b) else g x b
def rg_wI (M : rg_M) (f a : Nat) (v : Int32) : rg_M := (rg_K M, rg_u2 (rg_I M) f a v, rg_R M, rg_L M, rg_A M, rg_J M, rg_Q M, rg_sz M, rg_us M)
def rg_wR (M : rg_M) (f a : Nat) (v : Nat) : rg_M := (rg_K M, rg_I M, rg_u2 (rg_R M) f a (some v), rg_L M, rg_A M, rg_J M, rg_Q M, rg_sz M, rg_us M)
def rg_wA (M : rg_M) (a i : Nat) (v : Int32) : rg_M := (rg_K M, rg_I M, rg_R M, rg_L M, rg_u2 (rg_A M) a i v, rg_J M, rg_Q M, rg_sz M, rg_us M)
def rg_wJ (M : rg_M) (a i : Nat) (v : Int64) : rg_M := (rg_K M, rg_I M, rg_R M, rg_L M, rg_A M, rg_u2 (rg_J M) a i v, rg_Q M, rg_sz M, rg_us M)
def rg_wQ (M : rg_M) (a i : Nat) (v : Nat) : rg_M := (rg_K M, rg_I M, rg_R M, rg_L M, rg_A M, rg_J M, rg_u2 (rg_Q M) a i (some v), rg_sz M, rg_us M)
def rg_nO (M : rg_M) (ci : Nat) : rg_M := (va_up (rg_K M) (rg_sz M) (ci + 1), (fun f b => if b = rg_sz M then 0 else rg_I M f b), (fun f b => if b = rg_sz M then none else rg_R M f b), rg_L M, rg_A M, rg_J M, rg_Q M, rg_sz M + 1, rg_us M + rg_n ci)
def rg_nA (M : rg_M) (kd n : Nat) : rg_M := (va_up (rg_K M) (rg_sz M) kd, rg_I M, rg_R M, va_up (rg_L M) (rg_sz M) n, (fun b i => if b = rg_sz M then 0 else rg_A M b i), (fun b i => if b = rg_sz M then 0 else rg_J M b i), (fun b i => if b = rg_sz M then none else rg_Q M b i), rg_sz M + 1, rg_us M + n)
/-! a frame: place, locals, stack, memory; what a step gives -/
abbrev rg_Lc : Type := List (Option Value)
abbrev rg_C : Type := Nat × rg_Lc × List Value × rg_M
def rg_cM (c : rg_C) : rg_M := c.2.2.2
abbrev rg_U : Type := Option Value × rg_M
/-- go on; the end; a call: method, its values, the frame behind, the kind of its answer; no step -/
abbrev rg_O : Type := rg_C ⊕ (rg_U ⊕ ((Nat × List Value × rg_C × Nat) ⊕ Unit))
abbrev rg_S : Type := rg_C → rg_O
abbrev rg_go (c : rg_C) : rg_O := .inl c
abbrev rg_no : rg_O := .inr (.inr (.inr ()))
/-! the fixed things of a walk: class numbers and slots, the arrays' classes, where the heap began, the heap then, the script -/
abbrev rg_G : Type := va_G × (Nat → ClassId) × Nat × Heap × Nat × Nat × (Nat → Int32)
def gD (G : rg_G) : va_G := G.1
def gC (G : rg_G) : Nat → ClassId := G.2.1
def gz (G : rg_G) : Nat := G.2.2.1
def gH (G : rg_G) : Heap := G.2.2.2.1
def gb (G : rg_G) : Nat := G.2.2.2.2.1
def gL (G : rg_G) : Nat := G.2.2.2.2.2.1
def gx (G : rg_G) : Nat → Int32 := G.2.2.2.2.2.2
def rg_V (M : rg_M) (ci a k : Nat) : Value := if rg_ir ci k = true then va_rf (rg_R M (16 * ci + k) a) else .int (rg_I M (16 * ci + k) a)
def rg_mo (G : rg_G) (M : rg_M) (H : Heap) : Prop :=
  (∀ ci a : Nat, ci < 8 → rg_K M a = ci + 1 → t_OB a ((gD G).1 ci) (rg_n ci) ((gD G).2 ci) H (rg_V M ci a) ∧ gz G ≤ a) ∧
  (∀ a : Nat, rg_K M a = 9 → H[a]? = some (arrV (gC G 0) (rg_L M a) (fun j => .int (rg_A M a j))) ∧ gz G ≤ a) ∧
  (∀ a : Nat, rg_K M a = 10 → H[a]? = some (arrV (gC G 1) (rg_L M a) (fun j => .long (rg_J M a j))) ∧ gz G ≤ a) ∧
  (∀ a : Nat, rg_K M a = 11 → H[a]? = some (arrV (gC G 2) (rg_L M a) (fun j => .int (rg_A M a j))) ∧ gz G ≤ a) ∧
  (∀ a : Nat, rg_K M a = 12 → H[a]? = some (arrV (gC G 3) (rg_L M a) (fun j => va_rf (rg_Q M a j))) ∧ gz G ≤ a) ∧
  (∀ a : Nat, rg_K M a = 13 → a = gb G ∧ rg_L M a = gL G ∧ rg_A M a = gx G) ∧
  H.size = rg_sz M ∧ gz G ≤ H.size ∧ (∀ q : Nat, q < gz G → H[q]? = (gH G)[q]?)
def rg_tys (G : rg_G) : List (ClassId × FieldType) := [(gC G 0, .int), (gC G 1, .long), (gC G 2, .boolean), (gC G 3, .object "RegretTable$Fraction")]
/-- words that a call keeps, but not by the lists of words: nest mates, arrays over a class -/
def rg_Nx (s : State) : Prop := va_AO "RegretTable$Fraction" s ∧
  va_Nw (.methodLinkNest "RegretTable" 11 ⟨"RegretTable$Reckoner", "<init>", "()V"⟩ "RegretTable") s ∧
  va_Nw (.methodLinkNest "RegretTable$Reckoner" 9 ⟨"RegretTable$Whole", "<init>", "()V"⟩ "RegretTable") s ∧
  va_Nw (.methodLinkNest "RegretTable$Fraction" 9 ⟨"RegretTable$Whole", "<init>", "()V"⟩ "RegretTable") s ∧
  va_Nw (.methodLinkNest "RegretTable$Learning" 64 ⟨"RegretTable", "isWithin", "(III)Z"⟩ "RegretTable") s
theorem rg_Nx.warm {s U : State} (hW : s.WarmedH U.vm) (h : rg_Nx s) : rg_Nx U :=
  ⟨h.1.moved hW.alike, h.2.1.warmM hW, h.2.2.1.warmM hW, h.2.2.2.1.warmM hW, h.2.2.2.2.warmM hW⟩
theorem rg_Nx.same {s U : State} (hW : s.vm = U.vm) (h : rg_Nx s) : rg_Nx U :=
  ⟨h.1.moved (by rw [hW]; exact Vm.Alike.refl _), h.2.1.same rfl hW, h.2.2.1.same rfl hW, h.2.2.2.1.same rfl hW, h.2.2.2.2.same rfl hW⟩
def rg_W (G : rg_G) (s : State) : Prop := va_K (gD G) vwCl (rg_tys G) s ∧ rg_Nx s ∧ va_X (gb G) (gL G) (gx G) s (gH G) ∧ gb G < gz G
theorem rg_W.warm {G : rg_G} {s U : State} (hW : s.WarmedH U.vm) (h : rg_W G s) : rg_W G U := ⟨h.1.moved hW.alike, h.2.1.warm hW, h.2.2.1.moved hW.alike, h.2.2.2⟩
theorem rg_W.same {G : rg_G} {s U : State} (hW : s.vm = U.vm) (h : rg_W G s) : rg_W G U := ⟨h.1.moved (by rw [hW]; exact Vm.Alike.refl _), h.2.1.same hW, h.2.2.1.moved (by rw [hW]; exact Vm.Alike.refl _), h.2.2.2⟩
/-- what a method's body stands in -/
def rg_ctx (G : rg_G) (k : Nat) (p : Program) (s : State) (m : MethodId) (args : Array Value) (meth : Method) (cd : Code) : Prop :=
  p.tables.exec = Jvm.exec ∧ cd.code = rg_b k ∧ cd.maxLocals = rg_ml k ∧ meth.sig.returnType = rg_rt k ∧ s.vm.findClass (rg_y k).cls = some m.cls ∧ (∀ w ∈ rg_ws k, w.before args s = true) ∧ meth.locks = false ∧ meth.name = (rg_y k).name ∧ rg_W G s
def rg_lv (ls : Array Slot) (n : Nat) (L : rg_Lc) : Prop := ls.size = n ∧ lv_wf ls ∧ ∀ (i : Nat) (v : Value), L[i]? = some (some v) → ls[i]? = some (.val v)
def rg_Qc (G : rg_G) (res : rg_U) : Array Value → State → Outcome → State → Prop := fun _ _ o t => o = .returned res.1 ∧ rg_mo G res.2 t.heap
/-- from this frame on method k comes to its end with res -/
def rg_Sim (l : Launch) (G : rg_G) (k : Nat) (c : rg_C) (res : rg_U) : Prop :=
  ∀ (p : Program) (e : Env) (R : Room) (s : State) (m : MethodId) (args : Array Value) (below : List Frame) (meth : Method) (cd : Code) (H : Heap) (locs : List Loc) (cells slots : Nat) (ls : Array Slot) (M0 : rg_M),
    rg_ctx G k p s m args meth cd → rg_mo G (rg_cM c) H → rg_lv ls (rg_ml k) c.2.1 → (∀ q ∈ locs, gz G ≤ q.base) → cells + rg_sz M0 = rg_sz (rg_cM c) → slots + rg_us M0 = rg_us (rg_cM c) →
    rg_fr k ≤ R.frames → rg_lo k ≤ R.locals → rg_sz res.2 ≤ R.cells + rg_sz M0 → rg_us res.2 ≤ R.slots + rg_us M0 →
    W p l e R s m args below meth cd H locs cells slots (MQ below (rg_Qc G res) args s (rg_sz res.2 - rg_sz M0) (rg_us res.2 - rg_us M0) (fun q => gz G ≤ q)) (F0 m c.1 ls c.2.2.1)
def rg_rm (k : Nat) (M M1 : rg_M) : Room := { frames := rg_fr k, cells := rg_sz M1 - rg_sz M, slots := rg_us M1 - rg_us M, locals := rg_lo k }
/-- method k, called with these values in this memory, returns res -/
def rg_Met (l : Launch) (G : rg_G) (k : Nat) (av : List Value) (M : rg_M) (res : rg_U) : Prop :=
  rg_sz M ≤ rg_sz res.2 ∧ rg_us M ≤ rg_us res.2 ∧
  Met l (rg_y k) (rg_ws k) (rg_rm k M res.2) (va_Pc av (fun U => rg_mo G M U.heap ∧ rg_W G U)) (rg_Qc G res) (rg_sz res.2 - rg_sz M) (rg_us res.2 - rg_us M) (fun q => gz G ≤ q)
/-- the frame behind a call -/
def rg_bk (t : Nat) (c : rg_C) (r : rg_U) : Option rg_C := match t, r.1 with
  | 0, none => some (c.1, c.2.1, c.2.2.1, r.2)
  | 1, some (.int x) => some (c.1, c.2.1, .int x :: c.2.2.1, r.2)
  | 2, some (.long x) => some (c.1, c.2.1, .long x :: c.2.2.1, r.2)
  | 3, some (.ref x) => some (c.1, c.2.1, .ref x :: c.2.2.1, r.2)
  | _, _ => none
/-- a method's values in its locals -/
def rg_ag : List Value → rg_Lc
  | [] => []
  | .long x :: t => some (.long x) :: none :: rg_ag t
  | .double x :: t => some (.double x) :: none :: rg_ag t
  | v :: t => some v :: rg_ag t
/-- what is shown of each instruction's meaning -/
def rg_Ok (k pc : Nat) (f : rg_S) : Prop := ∀ (l : Launch) (G : rg_G) (c : rg_C), c.1 = pc →
  (∀ c' : rg_C, f c = .inl c' → (rg_sz (rg_cM c) ≤ rg_sz (rg_cM c') ∧ rg_us (rg_cM c) ≤ rg_us (rg_cM c')) ∧ ∀ res : rg_U, rg_sz (rg_cM c') ≤ rg_sz res.2 → rg_us (rg_cM c') ≤ rg_us res.2 → rg_Sim l G k c' res → rg_Sim l G k c res) ∧
  (∀ r : rg_U, f c = .inr (.inl r) → r.2 = rg_cM c ∧ rg_Sim l G k c r) ∧
  (∀ (k' : Nat) (av : List Value) (c1 : rg_C) (t : Nat), f c = .inr (.inr (.inl (k', av, c1, t))) → ((rg_ag av).length ≤ rg_ml k' ∧ plainName (rg_y k').cls = true) ∧ rg_cM c1 = rg_cM c ∧ ∀ (r : rg_U) (c' : rg_C) (res : rg_U), rg_Met l G k' av (rg_cM c) r → rg_bk t c1 r = some c' → rg_sz r.2 ≤ rg_sz res.2 → rg_us r.2 ≤ rg_us res.2 → rg_Sim l G k c' res → rg_Sim l G k c res)
theorem rg_mkG {k pc : Nat} {f : rg_S} (hn : ∀ (c : rg_C) (o), f c = .inr o → o = .inr (.inr ())) (hg : ∀ (l : Launch) (G : rg_G) (c c' : rg_C), c.1 = pc → f c = .inl c' → (rg_sz (rg_cM c) ≤ rg_sz (rg_cM c') ∧ rg_us (rg_cM c) ≤ rg_us (rg_cM c')) ∧ ∀ res : rg_U, rg_sz (rg_cM c') ≤ rg_sz res.2 → rg_us (rg_cM c') ≤ rg_us res.2 → rg_Sim l G k c' res → rg_Sim l G k c res) : rg_Ok k pc f :=
  fun l G c hc => ⟨fun c' h => hg l G c c' hc h, fun r h => absurd (hn c _ h) (by simp), fun k' av c1 t h => absurd (hn c _ h) (by simp)⟩
/-- a step that leaves the memory alone -/
theorem rg_mkP {k pc : Nat} {f : rg_S} (hn : ∀ (c : rg_C) (o), f c = .inr o → o = .inr (.inr ()))
    (hg : ∀ (c c' : rg_C), c.1 = pc → f c = .inl c' → rg_cM c' = rg_cM c ∧ ∀ (p : Program) (l : Launch) (e : Env) (R : Room) (s : State) (m : MethodId) (args : Array Value) (below : List Frame) (meth : Method) (cd : Code) (H : Heap) (locs : List Loc) (cells slots : Nat) (Q : State → Prop) (ls : Array Slot),
      p.tables.exec = Jvm.exec → cd.code = rg_b k → s.vm.findClass (rg_y k).cls = some m.cls → (∀ w ∈ rg_ws k, w.before args s = true) → rg_lv ls (rg_ml k) c.2.1 → (∀ ls' : Array Slot, rg_lv ls' (rg_ml k) c'.2.1 → W p l e R s m args below meth cd H locs cells slots Q (F0 m c'.1 ls' c'.2.2.1)) → W p l e R s m args below meth cd H locs cells slots Q (F0 m c.1 ls c.2.2.1)) : rg_Ok k pc f := by
  refine rg_mkG hn fun l G c c' hc h => ?_
  obtain ⟨e1, e2⟩ := hg c c' hc h
  refine ⟨by rw [e1]; exact ⟨Nat.le_refl _, Nat.le_refl _⟩, fun res _ _ hs => ?_⟩
  intro p e R s m args below meth cd H locs cells slots ls M0 X hm hl ho h1 h2 h3 h4 h5 h6
  exact e2 p l e R s m args below meth cd H locs cells slots _ ls X.1 X.2.1 X.2.2.2.2.1 X.2.2.2.2.2.1 hl (fun ls' hl' => hs p e R s m args below meth cd H locs cells slots ls' M0 X (by rw [e1]; exact hm) hl' ho (by rw [e1]; exact h1) (by rw [e1]; exact h2) h3 h4 h5 h6)
/-- fewer locals -/
def rg_kl : List Bool → rg_Lc → rg_Lc
  | true :: ks, x :: L => x :: rg_kl ks L
  | false :: ks, _ :: L => none :: rg_kl ks L
  | _, _ => []
theorem rg_kl_get : ∀ (ks : List Bool) (L : rg_Lc) (i : Nat) (v : Value), (rg_kl ks L)[i]? = some (some v) → L[i]? = some (some v)
  | [], _, i, v, h => by simp [rg_kl] at h
  | true :: ks, [], i, v, h => by simp [rg_kl] at h
  | false :: ks, [], i, v, h => by simp [rg_kl] at h
  | true :: ks, x :: L, 0, v, h => by simpa [rg_kl] using h
  | true :: ks, x :: L, i + 1, v, h => by
    simp only [rg_kl, List.getElem?_cons_succ] at h ⊢
    exact rg_kl_get ks L i v h
  | false :: ks, x :: L, 0, v, h => by simp [rg_kl] at h
  | false :: ks, x :: L, i + 1, v, h => by
    simp only [rg_kl, List.getElem?_cons_succ] at h ⊢
    exact rg_kl_get ks L i v h
def rg_kc (ks : List Bool) (c : rg_C) : rg_C := (c.1, rg_kl ks c.2.1, c.2.2.1, c.2.2.2)
def rg_sK (ks : List Bool) (f : rg_S) : rg_S := fun c => f (rg_kc ks c)
theorem rg_Sim.kill {l : Launch} {G : rg_G} {k : Nat} {c : rg_C} {res : rg_U} (ks : List Bool) (h : rg_Sim l G k (rg_kc ks c) res) : rg_Sim l G k c res := by
  intro p e R s m args below meth cd H locs cells slots ls M0 X hm hl ho h1 h2 h3 h4 h5 h6
  exact h p e R s m args below meth cd H locs cells slots ls M0 X hm ⟨hl.1, hl.2.1, fun i v hi => hl.2.2 i v (rg_kl_get ks _ i v hi)⟩ ho h1 h2 h3 h4 h5 h6
theorem rg_okK {k pc : Nat} {f : rg_S} (ks : List Bool) (h : rg_Ok k pc f) : rg_Ok k pc (rg_sK ks f) := by
  intro l G c hc
  obtain ⟨a1, a2, a3⟩ := h l G (rg_kc ks c) hc
  refine ⟨fun c' hf => ⟨(a1 c' hf).1, fun res b1 b2 b3 => ((a1 c' hf).2 res b1 b2 b3).kill ks⟩, fun r hf => ⟨(a2 r hf).1, (a2 r hf).2.kill ks⟩, fun k' av c1 t hf => ⟨(a3 k' av c1 t hf).1, (a3 k' av c1 t hf).2.1, fun r c' res b1 b2 b3 b4 b5 => ((a3 k' av c1 t hf).2.2 r c' res b1 b2 b3 b4 b5).kill ks⟩⟩
/-! locals: a value stored -/
def rg_k2 (h : Option Value) : Option Value := match h with
  | some (.long _) => none
  | some (.double _) => none
  | x => x
def rg_st : rg_Lc → Nat → Option Value → rg_Lc
  | [], _, _ => []
  | _ :: t, 0, v => v :: t
  | h :: t, 1, v => rg_k2 h :: rg_st t 0 v
  | h :: t, n + 2, v => h :: rg_st t (n + 1) v
theorem rg_st_get : ∀ (L : rg_Lc) (i : Nat) (v : Option Value) (j : Nat) (w : Value), (rg_st L i v)[j]? = some (some w) → (j = i ∧ v = some w) ∨ (j ≠ i ∧ L[j]? = some (some w) ∧ (j + 1 = i → w.category ≠ 2))
  | [], i, v, j, w, h => by simp [rg_st] at h
  | x :: t, 0, v, 0, w, h => Or.inl ⟨rfl, by simpa [rg_st] using h⟩
  | x :: t, 0, v, j + 1, w, h => Or.inr ⟨by omega, by simpa [rg_st] using h, by omega⟩
  | x :: t, 1, v, 0, w, h => by
    refine Or.inr ⟨by omega, ?_, fun _ => ?_⟩
    · rcases x with _ | x
      · simp [rg_st, rg_k2] at h
      · cases x <;> simp_all [rg_st, rg_k2]
    · rcases x with _ | x
      · simp [rg_st, rg_k2] at h
      · cases x <;> simp_all [rg_st, rg_k2] <;> (subst h; simp [Value.category])
  | x :: t, 1, v, j + 1, w, h => by
    have h : (rg_st t 0 v)[j]? = some (some w) := by simpa [rg_st] using h
    rcases rg_st_get t 0 v j w h with ⟨a, b⟩ | ⟨a, b, c⟩
    · exact Or.inl ⟨by omega, b⟩
    · exact Or.inr ⟨by omega, by simpa using b, fun q => c (by omega)⟩
  | x :: t, n + 2, v, 0, w, h => Or.inr ⟨by omega, by simpa [rg_st] using h, by omega⟩
  | x :: t, n + 2, v, j + 1, w, h => by
    have h : (rg_st t (n + 1) v)[j]? = some (some w) := by simpa [rg_st] using h
    rcases rg_st_get t (n + 1) v j w h with ⟨a, b⟩ | ⟨a, b, c⟩
    · exact Or.inl ⟨by omega, b⟩
    · exact Or.inr ⟨by omega, by simpa using b, fun q => c (by omega)⟩
/-- the listed locals -/
def rg_asc : Nat → rg_Lc → List (Nat × Value)
  | _, [] => []
  | n, none :: t => rg_asc (n + 1) t
  | n, some v :: t => (n, v) :: rg_asc (n + 1) t
theorem rg_asc_mem : ∀ (L : rg_Lc) (n i : Nat) (v : Value), L[i]? = some (some v) → (n + i, v) ∈ rg_asc n L
  | [], n, i, v, h => by simp at h
  | none :: t, n, 0, v, h => by simp at h
  | none :: t, n, i + 1, v, h => by
    have := rg_asc_mem t (n + 1) i v (by simpa using h)
    rw [show n + (i + 1) = n + 1 + i by omega]
    exact this
  | some x :: t, n, 0, v, h => by simp at h; subst h; exact List.mem_cons_self
  | some x :: t, n, i + 1, v, h => by
    have := rg_asc_mem t (n + 1) i v (by simpa using h)
    rw [show n + (i + 1) = n + 1 + i by omega]
    exact List.mem_cons_of_mem _ this
theorem rg_asc_of : ∀ (L : rg_Lc) (n : Nat) (q : Nat × Value), q ∈ rg_asc n L → ∃ i, q.1 = n + i ∧ L[i]? = some (some q.2)
  | [], n, q, h => by simp [rg_asc] at h
  | none :: t, n, q, h => by
    obtain ⟨i, a, b⟩ := rg_asc_of t (n + 1) q h
    exact ⟨i + 1, by omega, by simpa using b⟩
  | some x :: t, n, q, h => by
    rcases List.mem_cons.mp h with rfl | h
    · exact ⟨0, rfl, rfl⟩
    · obtain ⟨i, a, b⟩ := rg_asc_of t (n + 1) q h
      exact ⟨i + 1, by omega, by simpa using b⟩
theorem rg_lv.has {ls : Array Slot} {n : Nat} {L : rg_Lc} (h : rg_lv ls n L) : lv_has ls n (rg_asc 0 L) := by
  refine ⟨h.1, h.2.1, fun q hq => ?_⟩
  obtain ⟨i, a, b⟩ := rg_asc_of L 0 q hq
  rw [show q.1 = i by omega]
  exact h.2.2 i q.2 b
theorem rg_lv.set1 {ls' : Array Slot} {n : Nat} {L : rg_Lc} {i : Nat} {v : Value} (h : lv_has ls' n ((i, v) :: (rg_asc 0 L).filter (fun q => !(q.1 == i) && !(q.1 + 1 == i && q.2.category == 2)))) : rg_lv ls' n (rg_st L i (some v)) := by
  refine ⟨h.1, h.2.1, fun j w hj => ?_⟩
  rcases rg_st_get L i _ j w hj with ⟨a, b⟩ | ⟨a, b, c⟩
  · cases b; subst a
    exact h.2.2 (j, v) List.mem_cons_self
  · refine h.2.2 (j, w) (List.mem_cons_of_mem _ (List.mem_filter.mpr ⟨by simpa using rg_asc_mem L 0 j w b, ?_⟩))
    by_cases hq : j + 1 = i
    · simp [a, c hq]
    · simp [a, hq]
theorem rg_lv.set2 {ls' : Array Slot} {n : Nat} {L : rg_Lc} {i : Nat} {v : Value} (h : lv_has ls' n ((i, v) :: (rg_asc 0 L).filter (fun q => !(q.1 == i) && (!(q.1 == i + 1) && !(q.1 + 1 == i && q.2.category == 2))))) : rg_lv ls' n (rg_st (rg_st L (i + 1) none) i (some v)) := by
  refine ⟨h.1, h.2.1, fun j w hj => ?_⟩
  rcases rg_st_get _ i _ j w hj with ⟨a, b⟩ | ⟨a, b, c⟩
  · cases b; subst a
    exact h.2.2 (j, v) List.mem_cons_self
  · rcases rg_st_get L (i + 1) _ j w b with ⟨a2, b2⟩ | ⟨a2, b2, c2⟩
    · cases b2
    · refine h.2.2 (j, w) (List.mem_cons_of_mem _ (List.mem_filter.mpr ⟨by simpa using rg_asc_mem L 0 j w b2, ?_⟩))
      by_cases hq : j + 1 = i
      · simp [a, a2, c hq]
      · simp [a, a2, hq]

/-! THE CLAIM OUT OF ONE WALK OF THE LAW'S BODY. Your part is whole_start (and what it stands on); all else here is the same for every law, but numbers. -/
def R_law : String := "RegretTableLaw"
def lw_P (b : Addr) (xs : List Int32) (args : Array Value) (s : State) : Prop := args = #[.ref b] ∧ s.IntsAt b xs ∧ xs.length ≤ 2048 ∧ (Jvm.Cond.and given_1 narrow_1).before args s = true
def lw_Q (_ : Array Value) (s : State) (o : Outcome) (t : State) : Prop := o = .returned (some (.int 1)) ∧ Framed s o t [] 600000 7302250
def lw_Z (below : List Frame) (a : Array Value) (s : State) : State → Prop := fun t => ∃ o, t.status = .running ∧ Ended t below o ∧ lw_Q a s o t
/-- the law's own end, with 1 on the stack, nothing written that was there before, its room as the claim has it -/
theorem lw_ret {p : Program} {l : Launch} {e : Env} {s : State} {m : MethodId} {below : List Frame} {meth : Method} {c : Code} {b : Nat} (hx : p.tables.exec = Jvm.exec) (hb : c.code = code) (hr : meth.sig.returnType = ret) (hlocks : meth.locks = false) {pc : Nat} {H : Heap} {ls : Array Slot} (hdg : decode code pc = .ok (.ireturn, 1)) : W p l e room_1 s m #[Value.ref b] below meth c H [] 600000 7302250 (lw_Z below #[Value.ref b] s) (F0 m pc ls [.int 1]) := by
  intro T hT X
  obtain ⟨fs, hret, hrun, hended, hW, hframe⟩ := X.leave (v := some (.int 1)) (hlocks := hlocks) (fun h => by rw [hr] at h; cases h)
  have hmeth' : T.vm.method? m = some meth := X.method'
  refine ⟨T.setFrames fs, ?_, .returned (some (.int 1)), hrun, hended, rfl, ⟨_, rfl⟩, hW, hframe⟩
  jvm_step X.here [X.here.top, hx, hb, hdg, hmeth', hr, ret, narrow_b1]
  (try refine ⟨rfl, ?_⟩); (try refine ⟨rfl, ?_⟩)
  first | (intro acts; rw [hret _ acts rfl rfl rfl]) | rw [hret _ _ rfl rfl rfl]
  exact Steps.refl _
/-- what holds at the law's entry: the machine, the code, the tables' words (any of lw_tbl by 'hts w (by decide +kernel)'), the script of L ints xs at the cell b, what the Statement gives of the start (any of its parts by flat_of_before) -/
def lw_At (p : Program) (s : State) (m : MethodId) (meth : Method) (c : Code) (b L : Nat) (xs : Nat → Int32) : Prop :=
  p.tables.exec = Jvm.exec ∧ c.code = code ∧ meth.sig.returnType = ret ∧ c.maxLocals = 4 ∧ s.vm.findClass R_law = some m.cls ∧ (∀ w ∈ lw_tbl, w.before #[Value.ref b] s = true) ∧ va_X b L xs s s.heap ∧ b < s.heap.size ∧ meth.locks = false ∧ (Jvm.Cond.and given_1 narrow_1).before #[Value.ref b] s = true ∧ (Cond.code x code maxLocals ret).before #[Value.ref b] s = true ∧ meth.name = "law"
-- ===== YOUR PART BEGINS =====
/-- the memory at the law's entry: the script alone -/
def rg_M0 (sz b L : Nat) (xs : Nat → Int32) : rg_M := ((fun a => if a = b then 13 else 0), (fun _ _ => 0), (fun _ _ => none), (fun _ => L), (fun _ => xs), (fun _ _ => 0), (fun _ _ => none), sz, 0)
/-- what is wanted of the functions -/
def rg_Goal : Prop := ∀ (sz b L : Nat) (xs : Nat → Int32), b < sz → L ≤ 2048 → ∃ M' : rg_M, rZ_law b (rg_M0 sz b L xs) = some (1, M') ∧ rg_sz M' ≤ sz + 600000 ∧ rg_us M' ≤ 7302250
theorem rg_tm {p : List Cond} {args : Array Value} {s : State} {w : Cond} (h : ∀ w ∈ p ++ tables_1, w.before args s = true) (i : Nat) (hi : tables_1[i]? = some w) : w.before args s = true := h w (List.mem_append_right _ (List.mem_of_getElem? hi))
set_option maxHeartbeats 4000000 in
theorem whole_start0 (hmain : rg_Goal) {p : Program} {e : Env} {s : State} {m : MethodId} {below : List Frame} {meth : Method} {c : Code} (l : Launch) {b L : Nat} {xs : Nat → Int32} (hL : L ≤ 2048) (C0 : lw_At p s m meth c b L xs) : W p l e room_1 s m #[Value.ref b] below meth c s.heap [] 0 0 (lw_Z below #[Value.ref b] s) (entryFrame m ([Value.ref b] : List Value).toArray 4) := by
  obtain ⟨hx, hb, hr, hml, hown, hts, hX, hbl, hlocks, hgv, hcode, hnm⟩ := C0
  have hg : ∀ w ∈ rg_gd, w.before #[Value.ref b] s = true := fun w h => hts w (List.mem_filter.mp h).1
  obtain ⟨c0, i0, h0⟩ := u_known (C := rg_c0) (T := rg_T0) (N := 7) (n := 7) hg rg_in0 (hg _ (rg_gt 198 (by decide +kernel) (by decide +kernel) : Cond.instantiable rg_c0 7 ∈ rg_gd))
  obtain ⟨c1, i1, h1⟩ := u_known (C := rg_c1) (T := rg_T1) (N := 2) (n := 2) hg rg_in1 (hg _ (rg_gt 91 (by decide +kernel) (by decide +kernel) : Cond.instantiable rg_c1 2 ∈ rg_gd))
  obtain ⟨c2, i2, h2⟩ := u_known (C := rg_c2) (T := rg_T2) (N := 14) (n := 14) hg rg_in2 (hg _ (rg_gt 84 (by decide +kernel) (by decide +kernel) : Cond.instantiable rg_c2 14 ∈ rg_gd))
  obtain ⟨c3, i3, h3⟩ := u_known (C := rg_c3) (T := rg_T3) (N := 4) (n := 4) hg rg_in3 (hg _ (rg_gt 176 (by decide +kernel) (by decide +kernel) : Cond.instantiable rg_c3 4 ∈ rg_gd))
  obtain ⟨c4, i4, h4⟩ := u_known (C := rg_c4) (T := rg_T4) (N := 12) (n := 12) hg rg_in4 (hg _ (rg_gt 20 (by decide +kernel) (by decide +kernel) : Cond.instantiable rg_c4 12 ∈ rg_gd))
  obtain ⟨c5, i5, h5⟩ := u_known (C := rg_c5) (T := rg_T5) (N := 3) (n := 3) hg rg_in5 (hg _ (rg_gt 26 (by decide +kernel) (by decide +kernel) : Cond.instantiable rg_c5 3 ∈ rg_gd))
  obtain ⟨c6, i6, h6⟩ := u_known (C := rg_c6) (T := rg_T6) (N := 11) (n := 11) hg rg_in6 (hg _ (rg_gt 12 (by decide +kernel) (by decide +kernel) : Cond.instantiable rg_c6 11 ∈ rg_gd))
  obtain ⟨c7, i7, h7⟩ := u_known (C := rg_c7) (T := rg_T7) (N := 12) (n := 12) hg rg_in7 (hg _ (rg_gt 624 (by decide +kernel) (by decide +kernel) : Cond.instantiable rg_c7 12 ∈ rg_gd))
  obtain ⟨dC, dI, hKc⟩ : ∃ (dC : Nat → ClassId) (dI : Nat → Nat → Nat), ∀ (k : Nat) (q : vw_C), vwCl[k]? = some q → u_Kn s q.1 q.2.1 q.2.2 (dC k) (dI k) := by
    refine ⟨fun k => if k = 0 then c0 else if k = 1 then c1 else if k = 2 then c2 else if k = 3 then c3 else if k = 4 then c4 else if k = 5 then c5 else if k = 6 then c6 else c7, fun k => if k = 0 then i0 else if k = 1 then i1 else if k = 2 then i2 else if k = 3 then i3 else if k = 4 then i4 else if k = 5 then i5 else if k = 6 then i6 else i7, ?_⟩
    intro k q hq
    match k, hq with
    | 0, hq => cases hq; exact h0
    | 1, hq => cases hq; exact h1
    | 2, hq => cases hq; exact h2
    | 3, hq => cases hq; exact h3
    | 4, hq => cases hq; exact h4
    | 5, hq => cases hq; exact h5
    | 6, hq => cases hq; exact h6
    | 7, hq => cases hq; exact h7
    | k + 8, hq => simp [vwCl] at hq
  obtain ⟨a0, k0, p0, f01, f02, f03⟩ := Cond.arrayClass_spec (rg_tm (p := k2_sels lw_privs) hts 44 (by decide +kernel) : (Cond.arrayClass .int).before #[Value.ref b] s = true)
  obtain ⟨a1, k1, p1, f11, f12, f13⟩ := Cond.arrayClass_spec (rg_tm (p := k2_sels lw_privs) hts 82 (by decide +kernel) : (Cond.arrayClass .long).before #[Value.ref b] s = true)
  obtain ⟨a2, k2, p2, f21, f22, f23⟩ := Cond.arrayClass_spec (rg_tm (p := k2_sels lw_privs) hts 679 (by decide +kernel) : (Cond.arrayClass .boolean).before #[Value.ref b] s = true)
  have hov : (Cond.arrayOver (.object "RegretTable$Fraction")).before #[Value.ref b] s = true := rg_tm (p := k2_sels lw_privs) hts 90 (by decide +kernel)
  obtain ⟨p3, a3, k3, f31, f32, f33, f34, f35⟩ := Cond.arrayOver_spec hov
  obtain ⟨M', hrun, hs1, hs2⟩ := hmain s.heap.size b L xs hbl hL
  obtain ⟨G, hG⟩ : ∃ G : rg_G, G = ((dC, dI), (fun k => if k = 0 then a0 else if k = 1 then a1 else if k = 2 then a2 else a3), s.heap.size, s.heap, b, L, xs) := ⟨_, rfl⟩
  have hK : va_K (gD G) vwCl (rg_tys G) s := by
    subst hG
    refine ⟨hKc, fun k q hq => ?_⟩
    rcases k with _ | _ | _ | _ | k
    · cases hq; exact ⟨fun n z => ⟨fun k h => (by cases h), k0, f02, p0, f03⟩, f01⟩
    · cases hq; exact ⟨fun n z => ⟨fun k h => (by cases h), k1, f12, p1, f13⟩, f11⟩
    · cases hq; exact ⟨fun n z => ⟨fun k h => (by cases h), k2, f22, p2, f23⟩, f21⟩
    · cases hq; exact ⟨fun n z => ⟨fun k h => (by cases h), k3, f33, p3, f34⟩, k3, p3, f33, f34, f31, f35⟩
    · simp [rg_tys] at hq
  have hN : rg_Nx s := ⟨va_AO.of hov, va_Nw.of rfl (rg_tm (p := k2_sels lw_privs) hts 21 (by decide +kernel)), va_Nw.of rfl (rg_tm (p := k2_sels lw_privs) hts 27 (by decide +kernel)), va_Nw.of rfl (rg_tm (p := k2_sels lw_privs) hts 97 (by decide +kernel)), va_Nw.of rfl (rg_tm (p := k2_sels lw_privs) hts 295 (by decide +kernel))⟩
  have hW : rg_W G s := by subst hG; exact ⟨hK, hN, hX, hbl⟩
  have hmo : rg_mo G (rg_M0 s.heap.size b L xs) s.heap := by
    subst hG
    have hk : ∀ a, rg_K (rg_M0 s.heap.size b L xs) a = if a = b then 13 else 0 := fun a => rfl
    refine ⟨fun ci a hc h => ?_, fun a h => ?_, fun a h => ?_, fun a h => ?_, fun a h => ?_, fun a h => ?_, rfl, Nat.le_refl _, fun q _ => rfl⟩
    all_goals rw [hk] at h
    · by_cases ha : a = b
      · rw [if_pos ha] at h; omega
      · rw [if_neg ha] at h; omega
    · by_cases ha : a = b
      · rw [if_pos ha] at h; omega
      · rw [if_neg ha] at h; omega
    · by_cases ha : a = b
      · rw [if_pos ha] at h; omega
      · rw [if_neg ha] at h; omega
    · by_cases ha : a = b
      · rw [if_pos ha] at h; omega
      · rw [if_neg ha] at h; omega
    · by_cases ha : a = b
      · rw [if_pos ha] at h; omega
      · rw [if_neg ha] at h; omega
    · by_cases ha : a = b
      · exact ⟨ha, rfl, rfl⟩
      · rw [if_neg ha] at h; omega
  unfold rZ_law rg_io at hrun
  obtain ⟨r, hr1, hr2⟩ := Option.bind_eq_some_iff.mp hrun
  have hres : r = (some (.int 1), M') := by
    obtain ⟨v, Mr⟩ := r
    rcases v with _ | v
    · cases hr2
    · cases v <;> simp at hr2
      obtain ⟨q1, q2⟩ := hr2
      rw [q1, q2]
  subst hres
  obtain ⟨n, hn⟩ := (rg_E_iff rg_cod).mp hr1
  obtain ⟨⟨-, -⟩, hsim⟩ := rg_sound rg_cod rg_cod_ok l G n 156 _ _ hn
  rw [lg_entry_eq]
  have he := lv_entry [Value.ref b] (n := 4) (Nat.le_of_ble_eq_true rfl)
  have hw := hsim p e room_1 s m #[Value.ref b] below meth c s.heap [] 0 0 _ (rg_M0 s.heap.size b L xs) ⟨hx, hb, hml, hr, hown, fun w hw => (rg_wk 156 w hw).elim (fun e => by rw [e]; exact hcode) (hg w), hlocks, hnm, hW⟩ hmo ⟨he.1, he.2.1, fun i v hi => ?_⟩ (fun q hq => by cases hq) (Nat.zero_add _) (Nat.zero_add _) (by decide +kernel) (by decide +kernel) (by show rg_sz M' ≤ 600000 + s.heap.size; omega) (by show rg_us M' ≤ 7302250 + 0; omega)
  · intro T hT X
    obtain ⟨t, st, o, h1, h2, ⟨h3, h4⟩, Lo, ⟨h5, h6, h7⟩, h8⟩ := hw T hT X
    have hz : gz G = s.heap.size := by rw [hG]; rfl
    rw [hz] at h8
    refine ⟨t, st, o, h1, h2, h3, h5, h6, h7.weaken (fun y hy hlt => absurd hlt (Nat.not_lt.mpr (h8 y hy))) ?_ ?_⟩
    · show rg_sz M' - s.heap.size ≤ 600000; omega
    · show rg_us M' - 0 ≤ 7302250; omega
  · have hi : (rg_ag [Value.ref b] ++ List.replicate (rg_ml 156 - (rg_ag [Value.ref b]).length) none)[i]? = some (some v) := hi
    rcases Nat.lt_or_ge i (rg_ag [Value.ref b]).length with q | q
    · rw [List.getElem?_append_left q] at hi
      have := rg_ag_args [Value.ref b] 0 i v hi
      rw [Nat.zero_add] at this
      exact he.2.2 (i, v) this
    · rw [List.getElem?_append_right q] at hi
      exact absurd hi rg_rep_none

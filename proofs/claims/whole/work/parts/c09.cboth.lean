/-! BOTH TOGETHER: what the one leaves of the other -/
def jX (b Lb : Nat) (xs : Nat → Int32) (rn m aS aL aG aN aB : Nat) (g : Nat → Nat) (M : rg_M) : Prop := (b < rg_sz M ∧ m < rg_sz M ∧ aS < rg_sz M ∧ aL < rg_sz M ∧ aG < rg_sz M ∧ aN < rg_sz M ∧ aB < rg_sz M) ∧ (¬ cO M b ∧ ¬ cO M aS ∧ ¬ cO M aL ∧ ¬ cO M aG ∧ ¬ cO M aN ∧ ¬ cO M aB) ∧ (rg_K M b = 13 ∧ rg_L M b = Lb ∧ rg_A M b = xs) ∧ (b ≠ rn ∧ aS ≠ rn ∧ aL ≠ rn ∧ aG ≠ rn ∧ aN ≠ rn ∧ aB ≠ rn) ∧ ∀ w, rg_K M w = 6 → ∃ i, i < 529 ∧ w = g i
section
variable {u z rk jf ln ng cg tb rn m aS aL aG aN aB b Lb n : Nat} {c ro fx g : Nat → Nat} {xs : Nat → Int32} {M M' : rg_M} {s s' : sS}
theorem jX.W (h : jX b Lb xs rn m aS aL aG aN aB g M) (hW : cW rn M M') : jX b Lb xs rn m aS aL aG aN aB g M' := by
  obtain ⟨⟨a1, a2, a3, a4, a5, a6, a7⟩, ⟨o1, o2, o3, o4, o5, o6⟩, ⟨k1, k2, k3⟩, ⟨n1, n2, n3, n4, n5, n6⟩, hg⟩ := h
  obtain ⟨w1, w2, w3, w4, w5⟩ := hW
  exact ⟨⟨by omega, by omega, by omega, by omega, by omega, by omega, by omega⟩, ⟨(w4 b a1 o1 n1).2, (w4 aS a3 o2 n2).2, (w4 aL a4 o3 n3).2, (w4 aG a5 o4 n4).2, (w4 aN a6 o5 n5).2, (w4 aB a7 o6 n6).2⟩, ⟨by rw [(w2 b a1).1]; exact k1, by rw [(w2 b a1).2]; exact k2, by rw [(w4 b a1 o1 n1).1]; exact k3⟩, ⟨n1, n2, n3, n4, n5, n6⟩, fun w hw => hg w (w5 w hw)⟩
theorem mI.W (h : mI m aS aL aG aN aB s M) (hX : jX b Lb xs rn m aS aL aG aN aB g M) (hW : cW rn M M') : mI m aS aL aG aN aB s M' := by
  obtain ⟨⟨a1, a2, a3, a4, a5, a6, a7⟩, ⟨o1, o2, o3, o4, o5, o6⟩, -, ⟨n1, n2, n3, n4, n5, n6⟩, -⟩ := hX
  obtain ⟨w1, w2, w3, w4, w5⟩ := hW
  obtain ⟨⟨h1, r1, r2, r3, r4, r5, k1, k2, k3, k4, k5, l1, l2, l3, l4, l5, hd⟩, ⟨i1, i2, i3, i4, i5, i6, i7⟩, ⟨V, hV, hs⟩, hN, hB⟩ := h
  have I : ∀ f, 112 ≤ f → rg_I M' f m = rg_I M f m := fun f hf => (w3 f m hf).1
  have R : ∀ f, 112 ≤ f → rg_R M' f m = rg_R M f m := fun f hf => (w3 f m hf).2
  refine ⟨⟨by rw [(w2 m a2).1]; exact h1, by rw [R _ (by decide)]; exact r1, by rw [R _ (by decide)]; exact r2, by rw [R _ (by decide)]; exact r3, by rw [R _ (by decide)]; exact r4, by rw [R _ (by decide)]; exact r5, by rw [(w2 aS a3).1]; exact k1, by rw [(w2 aL a4).1]; exact k2, by rw [(w2 aG a5).1]; exact k3, by rw [(w2 aN a6).1]; exact k4, by rw [(w2 aB a7).1]; exact k5, by rw [(w2 aS a3).2]; exact l1, by rw [(w2 aL a4).2]; exact l2, by rw [(w2 aG a5).2]; exact l3, by rw [(w2 aN a6).2]; exact l4, by rw [(w2 aB a7).2]; exact l5, hd⟩, ⟨by rw [I _ (by decide)]; exact i1, by rw [I _ (by decide)]; exact i2, by rw [I _ (by decide)]; exact i3, by rw [I _ (by decide)]; exact i4, by rw [I _ (by decide)]; exact i5, by rw [I _ (by decide)]; exact i6, by rw [I _ (by decide)]; exact i7⟩, ⟨V, by rw [(w4 aS a3 o2 n2).1, (w4 aL a4 o3 n3).1, (w4 aG a5 o4 n4).1]; exact hV, hs⟩, fun q i hi => by rw [(w4 aN a6 o5 n5).1]; exact hN q i hi, fun k hk => by rw [(w4 aB a7 o6 n6).1]; exact hB k hk⟩
theorem mX.O (h : mX aS aL aG aN aB M M') (x : Nat) : cO M' x ↔ cO M x := by unfold cO; rw [h.1.1, h.1.2.1]
theorem jX.X (h : jX b Lb xs rn m aS aL aG aN aB g M) (hF : rm_F m aS aL aG aN aB M) (hx : mX aS aL aG aN aB M M') : jX b Lb xs rn m aS aL aG aN aB g M' := by
  have hO := hx.O
  obtain ⟨ha, ⟨o1, o2, o3, o4, o5, o6⟩, ⟨k1, k2, k3⟩, hn, hg⟩ := h
  obtain ⟨-, -, -, -, -, -, q1, q2, q3, q4, q5, -⟩ := hF
  obtain ⟨⟨x1, x2, x3, x4, x5, x6⟩, x7, x8⟩ := hx
  refine ⟨by rw [x5]; exact ha, ⟨fun q => o1 ((hO _).mp q), fun q => o2 ((hO _).mp q), fun q => o3 ((hO _).mp q), fun q => o4 ((hO _).mp q), fun q => o5 ((hO _).mp q), fun q => o6 ((hO _).mp q)⟩, ⟨by rw [x1]; exact k1, by rw [x3]; exact k2, ?_⟩, hn, fun w hw => hg w (by rw [x1] at hw; exact hw)⟩
  rw [x8 b]
  · exact k3
  · intro e; rw [e, q1] at k1; exact absurd k1 (by decide)
  · intro e; rw [e, q2] at k1; exact absurd k1 (by decide)
  · intro e; rw [e, q3] at k1; exact absurd k1 (by decide)
  · intro e; rw [e, q4] at k1; exact absurd k1 (by decide)
  · intro e; rw [e, q5] at k1; exact absurd k1 (by decide)
theorem cI.X (h : cI u z rk c jf ln ng cg tb rn ro fx s M) (hX : jX b Lb xs rn m aS aL aG aN aB g M) (hx : mX aS aL aG aN aB M M') : cI u z rk c jf ln ng cg tb rn ro fx s M' := by
  obtain ⟨-, ⟨o1, o2, o3, o4, o5, o6⟩, -, ⟨n1, n2, n3, n4, n5, n6⟩, -⟩ := hX
  have x := hx.xM o2 o3 o4 o5 o6
  obtain ⟨y, r, hE, h80, h247, h1, h2, hT, hr⟩ := h
  have I : ∀ f a, f < 112 → rg_I M' f a = rg_I M f a := hx.2.1
  have L : ∀ P st wa we, cLi ln P st wa we M → cLi ln P st wa we M' := fun P st wa we q => by
    unfold cLi; rw [I _ _ (by decide), I _ _ (by decide), I _ _ (by decide), I _ _ (by decide)]; exact q
  refine ⟨y, r, x.E hE, h80, h247, fun hg => ⟨L _ _ _ _ (h1 hg).1, fun i hi => ?_⟩, fun hg => ⟨L _ _ _ _ (h2 hg).1, ?_, (h2 hg).2.2⟩, ?_, hr⟩
  · rw [hx.2.2 rn (fun e => n2 e.symm) (fun e => n3 e.symm) (fun e => n4 e.symm) (fun e => n5 e.symm) (fun e => n6 e.symm)]; exact (h1 hg).2 i hi
  · unfold cDk; rw [I _ _ (by decide)]; exact (h2 hg).2.1
  · unfold cTi; rw [I _ _ (by decide), I _ _ (by decide), I _ _ (by decide), I _ _ (by decide), I _ _ (by decide)]; exact hT
/-- the two at one state -/
def jI (u z rk : Nat) (c : Nat → Nat) (jf ln ng cg tb rn : Nat) (ro fx : Nat → Nat) (b Lb : Nat) (xs : Nat → Int32) (m aS aL aG aN aB : Nat) (g : Nat → Nat) (n : Nat) (s : sS) (M : rg_M) : Prop := cI u z rk c jf ln ng cg tb rn ro fx s M ∧ mI m aS aL aG aN aB s M ∧ ts_ok n s ∧ jX b Lb xs rn m aS aL aG aN aB g M
/-- a call of both -/
theorem jS {α : Type} {T R : rg_M → Option (α × rg_M)} {r : α} {n' : Nat} (h : jI u z rk c jf ln ng cg tb rn ro fx b Lb xs m aS aL aG aN aB g n s M) (hT : ∃ M1, T M = some (r, M1) ∧ cI u z rk c jf ln ng cg tb rn ro fx s' M1 ∧ cW rn M M1) (hR : ∀ M1, mI m aS aL aG aN aB s M1 → ∃ M2, R M1 = some (r, M2) ∧ mI m aS aL aG aN aB s' M2 ∧ mX aS aL aG aN aB M1 M2) (hok : ts_ok n' s') : ∃ M1 M2, T M = some (r, M1) ∧ R M1 = some (r, M2) ∧ jI u z rk c jf ln ng cg tb rn ro fx b Lb xs m aS aL aG aN aB g n' s' M2 ∧ rg_K M1 b = 13 ∧ rg_L M1 b = Lb ∧ rg_A M1 b = xs ∧ rg_K M1 m = 8 := by
  obtain ⟨hc, hm, -, hx⟩ := h
  obtain ⟨M1, t1, t2, t3⟩ := hT
  have m1 := hm.W hx t3
  have x1 := hx.W t3
  obtain ⟨M2, r1, r2, r3⟩ := hR M1 m1
  exact ⟨M1, M2, t1, r1, ⟨t2.X x1 r3, r2, hok, x1.X m1.1 r3⟩, x1.2.2.1.1, x1.2.2.1.2.1, x1.2.2.1.2.2, m1.1.1⟩
end
/-- few places, none great -/
theorem sm_list {c : Nat} {g : Nat → Nat} : ∀ (k : Nat) (f : Nat → Nat) (n : Nat), (∀ a, f a ≤ c) → (∀ a, f a ≠ 0 → ∃ i, i < k ∧ a = g i) → fb_sm f n ≤ k * c := by
  intro k
  induction k with
  | zero =>
    intro f n _ h
    have : fb_sm f n ≤ n * 0 := fb_sm_bound (fun a _ => by
      by_cases e : f a = 0
      · omega
      · obtain ⟨i, i1, -⟩ := h a e; omega)
    omega
  | succ k ih =>
    intro f n hc h
    have h1 := ih (fun a => if a = g k then 0 else f a) n (fun a => by show (if a = g k then 0 else f a) ≤ c; split; omega; exact hc a) (fun a ha => by
      have ha : (if a = g k then 0 else f a) ≠ 0 := ha
      by_cases e : a = g k
      · rw [if_pos e] at ha; exact absurd rfl ha
      · rw [if_neg e] at ha
        obtain ⟨i, i1, i2⟩ := h a ha
        exact ⟨i, by
          by_cases ei : i = k
          · rw [ei] at i2; exact absurd i2 e
          · omega, i2⟩)
    have h2 : fb_sm f n ≤ fb_sm (fun a => (if a = g k then 0 else f a) + (if a = g k then c else 0)) n := fb_sm_le (fun a _ => by
      by_cases e : a = g k
      · rw [if_pos e, if_pos e]; have := hc a; omega
      · rw [if_neg e, if_neg e]; omega)
    rw [fb_sm_add (fun a => if a = g k then 0 else f a) (fun a => if a = g k then c else 0)] at h2
    have h3 : fb_sm (fun a => if a = g k then c else 0) n ≤ c := by
      have h0 : fb_sm (fun _ => 0) n = 0 := by rw [fb_sm_const]; omega
      rcases Nat.lt_or_ge (g k) n with q | q
      · have h4 : fb_sm (fun a => if a = g k then c else 0) n + 0 = fb_sm (fun _ => 0) n + c := fb_sm_upd (fun _ => 0) c q
        rw [h0] at h4
        omega
      · have h4 : fb_sm (fun a => if a = g k then c else 0) n = fb_sm (fun _ => 0) n := fb_sm_out (fun _ => 0) c q
        rw [h4, h0]; omega
    rw [Nat.succ_mul]
    omega
/-- the room -/
theorem cH_room {u z : Nat} {M : rg_M} {g : Nat → Nat} (h : cH u z M) (hg : ∀ w, rg_K M w = 6 → ∃ i, i < 529 ∧ w = g i) : rg_us M ≤ u + 2063100 ∧ 2 * rg_sz M ≤ z + 687700 := by
  have h1 : fb_sm (cwc M) (rg_sz M) ≤ 529 * 1300 := sm_list (g := g) 529 (cwc M) (rg_sz M) (fun a => by
    unfold cwc
    by_cases e : rg_K M a = 6
    · rw [if_pos e]
      obtain ⟨-, b, q1, -, -, -, q2⟩ := h.1 a e
      rw [q1]; exact q2
    · rw [if_neg e]; omega) (fun a ha => by
    by_cases e : rg_K M a = 6
    · exact hg a e
    · unfold cwc at ha; rw [if_neg e] at ha; exact absurd rfl ha)
  have h2 := h.2.2.1
  have h3 := h.2.2.2
  omega

/-! the class's whole numbers in the heap -/
def cr (M : rg_M) (b : Nat) (f : Nat → Int32) : rg_M := (rg_K M, rg_I M, rg_R M, rg_L M, (fun x => if x = b then f else rg_A M x), rg_J M, rg_Q M, rg_sz M, rg_us M)
theorem cr_K (M : rg_M) (b : Nat) (f : Nat → Int32) : rg_K (cr M b f) = rg_K M := rfl
theorem cr_I (M : rg_M) (b : Nat) (f : Nat → Int32) : rg_I (cr M b f) = rg_I M := rfl
theorem cr_R (M : rg_M) (b : Nat) (f : Nat → Int32) : rg_R (cr M b f) = rg_R M := rfl
theorem cr_L (M : rg_M) (b : Nat) (f : Nat → Int32) : rg_L (cr M b f) = rg_L M := rfl
theorem cr_A (M : rg_M) (b : Nat) (f : Nat → Int32) : rg_A (cr M b f) b = f := if_pos rfl
theorem cr_An {M : rg_M} {b c : Nat} {f : Nat → Int32} (h : c ≠ b) : rg_A (cr M b f) c = rg_A M c := if_neg h
theorem cr_w (M : rg_M) (b : Nat) (f : Nat → Int32) (i : Nat) (v : Int32) : rg_wA (cr M b f) b i v = cr M b (upd f i v) := by
  refine rm_ext rfl rfl rfl rfl ?_ rfl rfl rfl rfl
  funext x j
  show rg_u2 _ _ _ _ x j = (if x = b then upd f i v else _) j
  unfold rg_u2
  by_cases hb : x = b
  · rw [if_pos hb, if_pos hb, hb, cr_A]; rfl
  · rw [if_neg hb, if_neg hb, cr_An hb]
theorem cr_id (M : rg_M) (b : Nat) : cr M b (rg_A M b) = M := by
  refine rm_ext rfl rfl rfl rfl ?_ rfl rfl rfl rfl
  funext x
  show (if x = b then rg_A M b else rg_A M x) = _
  by_cases h : x = b
  · rw [if_pos h, h]
  · rw [if_neg h]
theorem cr_cr (M : rg_M) (b : Nat) (f g : Nat → Int32) : cr (cr M b f) b g = cr M b g := by
  refine rm_ext rfl rfl rfl rfl ?_ rfl rfl rfl rfl
  funext x
  show (if x = b then g else (if x = b then f else rg_A M x)) = (if x = b then g else rg_A M x)
  by_cases h : x = b
  · rw [if_pos h, if_pos h]
  · rw [if_neg h, if_neg h, if_neg h]
theorem cw_IK (M : rg_M) (f a : Nat) (v : Int32) : rg_K (rg_wI M f a v) = rg_K M := rfl
theorem cw_IR (M : rg_M) (f a : Nat) (v : Int32) : rg_R (rg_wI M f a v) = rg_R M := rfl
theorem cw_IL (M : rg_M) (f a : Nat) (v : Int32) : rg_L (rg_wI M f a v) = rg_L M := rfl
theorem cw_IA (M : rg_M) (f a : Nat) (v : Int32) : rg_A (rg_wI M f a v) = rg_A M := rfl
theorem cw_II (M : rg_M) (f a : Nat) (v : Int32) : rg_I (rg_wI M f a v) f a = v := by
  show rg_u2 _ _ _ _ f a = v
  unfold rg_u2; rw [if_pos rfl, if_pos rfl]
theorem cw_IIn {M : rg_M} {f a g c : Nat} {v : Int32} (h : g ≠ f ∨ c ≠ a) : rg_I (rg_wI M f a v) g c = rg_I M g c := by
  show rg_u2 _ _ _ _ g c = _
  unfold rg_u2
  by_cases h1 : g = f
  · rw [if_pos h1, if_neg (by omega), h1]
  · rw [if_neg h1]
/-- the number that n words say -/
def cV (f : Nat → Int32) (n : Nat) : Nat := ds wB (fun j => rm_u (f j)) n
/-- Whole w holds v: n words, in row b -/
def cwW (M : rg_M) (w b n : Nat) (v : Int) : Prop := rg_K M w = 6 ∧ rg_R M 80 w = some b ∧ rg_K M b = 9 ∧ n ≤ rg_L M b ∧ rg_I M 81 w = nI n ∧ ((rg_I M 82 w = 0 ∨ rg_I M 82 w = 1) ∧ (v ≠ 0 → rg_I M 82 w = (if v < 0 then 1 else 0))) ∧ (∀ j, j < n → rm_u (rg_A M b j) < wB) ∧ (n = 0 ∨ rg_A M b (n - 1) ≠ 0) ∧ v.natAbs = cV (rg_A M b) n
/-- how long the row of a Whole is -/
def cwc (M : rg_M) (a : Nat) : Nat := if rg_K M a = 6 then (rg_R M 80 a).elim 0 (rg_L M) else 0
/-- the shape of the class's heap, and its room -/
def cH (u z : Nat) (M : rg_M) : Prop := (∀ w, rg_K M w = 6 → w < rg_sz M ∧ ∃ b, rg_R M 80 w = some b ∧ b < rg_sz M ∧ rg_K M b = 9 ∧ 4 ≤ rg_L M b ∧ rg_L M b ≤ 1300) ∧ (∀ w w' b, rg_K M w = 6 → rg_K M w' = 6 → rg_R M 80 w = some b → rg_R M 80 w' = some b → w = w') ∧ rg_us M ≤ u + 3 * fb_sm (cwc M) (rg_sz M) ∧ 2 * rg_sz M ≤ z + fb_sm (cwc M) (rg_sz M)
def cO (M : rg_M) (b : Nat) : Prop := ∃ w, rg_K M w = 6 ∧ rg_R M 80 w = some b
/-- what stays: all but the whole numbers -/
def cF (M M' : rg_M) : Prop := rg_sz M ≤ rg_sz M' ∧ (∀ a, rg_K M' a = rg_K M a ∨ (rg_sz M ≤ a ∧ rg_K M a ≠ 6 ∧ rg_K M' a = 9)) ∧ (∀ a, a < rg_sz M → rg_L M' a = rg_L M a) ∧ (∀ f a, f ≠ 81 → f ≠ 82 → rg_I M' f a = rg_I M f a) ∧ (∀ f a, f ≠ 80 → rg_R M' f a = rg_R M f a) ∧ (∀ b i, b < rg_sz M → rg_Q M' b i = rg_Q M b i) ∧ (∀ b, b < rg_sz M → ¬ cO M b → rg_A M' b = rg_A M b ∧ ¬ cO M' b)
theorem cF.rf (M : rg_M) : cF M M := ⟨Nat.le_refl _, fun _ => Or.inl rfl, fun _ _ => rfl, fun _ _ _ _ => rfl, fun _ _ _ => rfl, fun _ _ _ => rfl, fun _ _ h => ⟨rfl, h⟩⟩
theorem cF.tr {M M1 M2 : rg_M} (h : cF M M1) (h2 : cF M1 M2) : cF M M2 := by
  obtain ⟨a1, a2, a3, a4, a5, a6, a7⟩ := h
  obtain ⟨b1, b2, b3, b4, b5, b6, b7⟩ := h2
  refine ⟨by omega, fun a => ?_, fun a h => (b3 a (by omega)).trans (a3 a h), fun f a h h' => (b4 f a h h').trans (a4 f a h h'), fun f a h => (b5 f a h).trans (a5 f a h), fun b i h => (b6 b i (by omega)).trans (a6 b i h), fun b h h' => ?_⟩
  · rcases a2 a with p | ⟨p1, p2, p3⟩
    · rcases b2 a with q | ⟨q1, q2, q3⟩
      · exact Or.inl (q.trans p)
      · exact Or.inr ⟨by omega, by rw [← p]; exact q2, q3⟩
    · rcases b2 a with q | ⟨q1, q2, q3⟩
      · exact Or.inr ⟨p1, p2, by rw [q, p3]⟩
      · exact Or.inr ⟨p1, p2, q3⟩
  · obtain ⟨p1, p2⟩ := a7 b h h'
    obtain ⟨q1, q2⟩ := b7 b (by omega) p2
    exact ⟨q1.trans p1, q2⟩
theorem cF.K {M M' : rg_M} (h : cF M M') {a : Nat} (ha : a < rg_sz M) : rg_K M' a = rg_K M a := by
  rcases h.2.1 a with p | p
  · exact p
  · omega
theorem cF.K6 {M M' : rg_M} (h : cF M M') (a : Nat) : rg_K M' a = 6 ↔ rg_K M a = 6 := by
  rcases h.2.1 a with p | ⟨p1, p2, p3⟩
  · rw [p]
  · rw [p3]; exact ⟨fun e => absurd e (by decide), fun e => absurd e p2⟩
/-- only the Wholes of P have changed, and nothing was made -/
def cU (P : Nat → Prop) (M M' : rg_M) : Prop := rg_K M' = rg_K M ∧ rg_L M' = rg_L M ∧ rg_R M' = rg_R M ∧ rg_Q M' = rg_Q M ∧ rg_sz M' = rg_sz M ∧ rg_us M' = rg_us M ∧ (∀ f a, ((f ≠ 81 ∧ f ≠ 82) ∨ ¬ P a) → rg_I M' f a = rg_I M f a) ∧ ∀ b, (∀ w, P w → rg_R M 80 w ≠ some b) → rg_A M' b = rg_A M b
theorem cU.rf (P : Nat → Prop) (M : rg_M) : cU P M M := ⟨rfl, rfl, rfl, rfl, rfl, rfl, fun _ _ _ => rfl, fun _ _ => rfl⟩
theorem cU.tr {P : Nat → Prop} {M M1 M2 : rg_M} (h : cU P M M1) (h2 : cU P M1 M2) : cU P M M2 := by
  obtain ⟨a1, a2, a3, a4, a5, a6, a7, a8⟩ := h
  obtain ⟨b1, b2, b3, b4, b5, b6, b7, b8⟩ := h2
  exact ⟨b1.trans a1, b2.trans a2, b3.trans a3, b4.trans a4, b5.trans a5, b6.trans a6, fun f a h => (b7 f a h).trans (a7 f a h), fun b h => (b8 b (fun w hw => by rw [a3]; exact h w hw)).trans (a8 b h)⟩
theorem cU.mono {P P' : Nat → Prop} {M M1 : rg_M} (h : cU P M M1) (hp : ∀ w, P w → P' w) : cU P' M M1 := by
  obtain ⟨a1, a2, a3, a4, a5, a6, a7, a8⟩ := h
  exact ⟨a1, a2, a3, a4, a5, a6, fun f a h => a7 f a (h.imp id (fun q p => q (hp a p))), fun b h => a8 b (fun w hw => h w (hp w hw))⟩
theorem cU_cwc {P : Nat → Prop} {M M1 : rg_M} (h : cU P M M1) : cwc M1 = cwc M := by
  funext a; unfold cwc; rw [h.1, h.2.2.1, h.2.1]
theorem cU.H {P : Nat → Prop} {M M1 : rg_M} (h : cU P M M1) {u z : Nat} (hH : cH u z M) : cH u z M1 := by
  unfold cH; rw [cU_cwc h, h.1, h.2.1, h.2.2.1, h.2.2.2.2.1, h.2.2.2.2.2.1]; exact hH
theorem cU.F {P : Nat → Prop} {M M1 : rg_M} (h : cU P M M1) (hP : ∀ w, P w → rg_K M w = 6) : cF M M1 := by
  obtain ⟨a1, a2, a3, a4, a5, a6, a7, a8⟩ := h
  refine ⟨by rw [a5]; exact Nat.le_refl _, fun a => Or.inl (by rw [a1]), fun a _ => by rw [a2], fun f a h1 h2 => a7 f a (Or.inl ⟨h1, h2⟩), fun f a _ => by rw [a3], fun b i _ => by rw [a4], fun b _ hb => ⟨a8 b (fun w hw e => hb ⟨w, hP w hw, e⟩), ?_⟩⟩
  rintro ⟨w, q1, q2⟩
  rw [a1] at q1; rw [a3] at q2
  exact hb ⟨w, q1, q2⟩
theorem cU.W {P : Nat → Prop} {M M1 : rg_M} (h : cU P M M1) {u z : Nat} (hH : cH u z M) (hP : ∀ w, P w → rg_K M w = 6) {w b n : Nat} {v : Int} (hw : ¬ P w) (hW : cwW M w b n v) : cwW M1 w b n v := by
  obtain ⟨a1, a2, a3, a4, a5, a6, a7, a8⟩ := h
  obtain ⟨c1, c2, c3, c4, c5, c6, c7, c8, c9⟩ := hW
  have hA : rg_A M1 b = rg_A M b := a8 b (fun w' hw' e => hw (by rw [hH.2.1 w w' b c1 (hP w' hw') c2 e]; exact hw'))
  refine ⟨by rw [a1]; exact c1, by rw [a3]; exact c2, by rw [a1]; exact c3, by rw [a2]; exact c4, by rw [a7 _ _ (Or.inr hw)]; exact c5, by rw [a7 _ _ (Or.inr hw)]; exact c6, by rw [hA]; exact c7, by rw [hA]; exact c8, by rw [hA]; exact c9⟩
theorem cU_wI (M : rg_M) (w f : Nat) (v : Int32) (hf : f = 81 ∨ f = 82) : cU (fun x => x = w) M (rg_wI M f w v) := ⟨rfl, rfl, rfl, rfl, rfl, rfl, fun g a h => cw_IIn (h.elim (fun h => Or.inl (by omega)) (fun h => Or.inr h)), fun _ _ => rfl⟩
theorem cU_cr {M : rg_M} {w b : Nat} (f : Nat → Int32) (h : rg_R M 80 w = some b) : cU (fun x => x = w) M (cr M b f) := ⟨rfl, rfl, rfl, rfl, rfl, rfl, fun _ _ _ => rfl, fun c hc => cr_An (fun e => hc w rfl (by rw [e]; exact h))⟩
/-- all Wholes at once -/
def cvV (M : rg_M) (V : Nat → Int) : Prop := ∀ w, rg_K M w = 6 → ∃ b n, cwW M w b n (V w)
theorem cvV.up {M M1 : rg_M} {V : Nat → Int} {u z w : Nat} {v : Int} (h : cvV M V) (hH : cH u z M) (hU : cU (fun x => x = w) M M1) (hw : rg_K M w = 6) (hW : ∃ b n, cwW M1 w b n v) : cvV M1 (va_up V w v) := by
  intro x hx
  rw [hU.1] at hx
  by_cases e : x = w
  · rw [e, rg_up_eq]; exact hW
  · rw [rg_up_ne e]
    obtain ⟨b, n, hb⟩ := h x hx
    exact ⟨b, n, hU.W hH (fun y hy => by rw [hy]; exact hw) e hb⟩
/-- fewer than k words -/
def cL (v : Int) (k : Nat) : Prop := v.natAbs < wB ^ k
theorem cL.mono {v : Int} {k l : Nat} (h : cL v k) (hl : k ≤ l) : cL v l := Nat.lt_of_lt_of_le h (Nat.pow_le_pow_right (by decide) hl)
theorem cL.mul {v w : Int} {k l : Nat} (h : cL v k) (h2 : cL w l) : cL (v * w) (k + l) := by
  unfold cL at *
  rw [Int.natAbs_mul, Nat.pow_add]
  exact Nat.mul_lt_mul'' h h2
theorem cL.add {v w : Int} {k : Nat} (h : cL v k) (h2 : cL w k) : cL (v + w) (k + 1) := by
  unfold cL at *
  rw [Nat.pow_succ]
  have : 0 < wB ^ k := Nat.pow_pos (by decide)
  show _ < wB ^ k * 2147483648
  omega
theorem cL.neg {v : Int} {k : Nat} (h : cL v k) : cL (-v) k := by unfold cL at *; omega
theorem cV_lt {f : Nat → Int32} {n : Nat} (h : ∀ j, j < n → rm_u (f j) < wB) : cV f n < wB ^ n := ds_lt h
theorem cV_top {f : Nat → Int32} {n : Nat} (h : n = 0 ∨ f (n - 1) ≠ 0) (hn : n ≠ 0) : wB ^ (n - 1) ≤ cV f n := by
  obtain ⟨k, rfl⟩ := Nat.exists_eq_succ_of_ne_zero hn
  refine ds_top ?_
  rw [Ne, rm_u_eq0]
  rcases h with h | h
  · omega
  · exact h
theorem cwW_cl {M : rg_M} {w b n : Nat} {v : Int} (h : cwW M w b n v) : cL v n := by
  obtain ⟨c1, c2, c3, c4, c5, c6, c7, c8, c9⟩ := h
  unfold cL; rw [c9]; exact cV_lt c7
theorem cwW.len {M : rg_M} {w b n k : Nat} {v : Int} (h : cwW M w b n v) (hk : cL v k) : n ≤ k := by
  obtain ⟨c1, c2, c3, c4, c5, c6, c7, c8, c9⟩ := h
  by_cases hn : n = 0
  · omega
  · have h1 := cV_top c8 hn
    unfold cL at hk
    rw [c9] at hk
    have := (Nat.pow_lt_pow_iff_right (a := wB) (by decide)).mp (Nat.lt_of_le_of_lt h1 hk)
    omega
theorem cwW.zero {M : rg_M} {w b n : Nat} {v : Int} (h : cwW M w b n v) : v = 0 ↔ n = 0 := by
  obtain ⟨c1, c2, c3, c4, c5, c6, c7, c8, c9⟩ := h
  constructor
  · intro hv
    by_cases hn : n = 0
    · exact hn
    · have h1 := cV_top c8 hn
      have : 0 < wB ^ (n - 1) := Nat.pow_pos (by decide)
      rw [hv] at c9; simp at c9; omega
  · intro hn
    subst hn
    exact Int.natAbs_eq_zero.mp c9
theorem cH.L {u z : Nat} {M : rg_M} (h : cH u z M) {w b : Nat} (hw : rg_K M w = 6) (hb : rg_R M 80 w = some b) : b < rg_sz M ∧ rg_K M b = 9 ∧ 4 ≤ rg_L M b ∧ rg_L M b ≤ 1300 := by
  obtain ⟨-, c, c1, c2, c3, c4, c5⟩ := h.1 w hw
  rw [hb] at c1; cases c1
  exact ⟨c2, c3, c4, c5⟩
/-- settle -/
theorem cw_set2 {M : rg_M} {w b : Nat} (hK : rg_K M w = 6) (hR : rg_R M 80 w = some b) (hB : rg_K M b = 9) (hL : rg_L M b < 2 ^ 31) : ∀ k : Nat, k ≤ rg_L M b → rW_settle_2 w (nI k) M = some (none, if rm_tr (rg_A M b) k = 0 then rg_wI (rg_wI M 81 w (nI (rm_tr (rg_A M b) k))) 82 w 0 else rg_wI M 81 w (nI (rm_tr (rg_A M b) k))) := by
  have fin : ∀ k : Nat, k ≤ rg_L M b → rW_settle_23 w (nI k) M = some (none, if k = 0 then rg_wI (rg_wI M 81 w (nI k)) 82 w 0 else rg_wI M 81 w (nI k)) := by
    intro k hk
    rw [rW_settle_23_e, if_pos hK]
    by_cases h : k = 0
    · subst h
      rw [if_pos (show nI 0 = 0 from rfl), if_pos ⟨hK, Or.inl rfl⟩, rW_settle_37_e, if_pos rfl]
    · rw [if_neg (nI_ne0 (by omega) (by omega)), rW_settle_37_e, if_neg h]
  intro k
  induction k with
  | zero => intro hk; rw [rW_settle_2_e, nI_0, if_pos (Int32.le_refl _)]; exact fin 0 hk
  | succ k ih =>
    intro hk
    have p : ¬ nI (k + 1) ≤ 0 := nI_nle (by omega) (by omega)
    have c1 := nI_clamp (n := k) (by omega)
    have c2 := rm_i0 (a := k) (by omega)
    have c3 : k < rg_L M b := by omega
    rw [rW_settle_2_e, if_neg p, if_pos hK, hR]
    simp only [Option.bind_some, hB, nI_pred, c1, c2, c3, and_self, if_true]
    by_cases h : rg_A M b k = 0
    · rw [if_pos h, pk_m1, show rm_tr (rg_A M b) (k + 1) = rm_tr (rg_A M b) k from if_pos h]; exact ih (by omega)
    · rw [if_neg h, show rm_tr (rg_A M b) (k + 1) = k + 1 from if_neg h]; exact fin (k + 1) hk
theorem cw_settle {M : rg_M} {w b k : Nat} {v : Int} (hK : rg_K M w = 6) (hR : rg_R M 80 w = some b) (hB : rg_K M b = 9) (hL : rg_L M b < 2 ^ 31) (hk : k ≤ rg_L M b) (hf : ∀ j, j < k → rm_u (rg_A M b j) < wB) (hv : v.natAbs = cV (rg_A M b) k) (hs : v ≠ 0 → rg_I M 82 w = if v < 0 then 1 else 0) : ∃ M', rW_settle w (nI k) M = some M' ∧ cU (fun x => x = w) M M' ∧ rg_A M' = rg_A M ∧ ∃ n, n ≤ k ∧ cwW M' w b n v := by
  have h1 := cw_set2 hK hR hB hL k hk
  have hle := rm_tr_le (rg_A M b) k
  have htop := rm_tr_top (rg_A M b) k
  have hz := rm_tr_zero (rg_A M b) k
  generalize rm_tr (rg_A M b) k = n at h1 hle htop hz
  have hD : cV (rg_A M b) k = cV (rg_A M b) n := ds_more hle (fun j h1 h2 => by rw [hz j h1 h2]; rfl)
  rw [rW_settle_u, rW_settle_e, h1]
  have hn0 : n = 0 → v = 0 := fun h => by rw [hD, h] at hv; exact Int.natAbs_eq_zero.mp hv
  have hv0 : v = 0 → n = 0 := fun h => by
    by_cases e : n = 0
    · exact e
    · have h3 := cV_top htop e
      have : 0 < wB ^ (n - 1) := Nat.pow_pos (by decide)
      rw [h, hD] at hv; simp at hv; omega
  by_cases h : n = 0
  · rw [if_pos h]
    refine ⟨_, rfl, (cU_wI M w 81 _ (Or.inl rfl)).tr (cU_wI _ w 82 _ (Or.inr rfl)), rfl, n, hle, hK, hR, hB, by show n ≤ rg_L M b; omega, ?_, ?_, fun j hj => hf j (by omega), htop, by rw [hv, hD]; rfl⟩
    · rw [cw_IIn (Or.inl (by decide)), cw_II]
    · rw [cw_II]; exact ⟨Or.inl rfl, fun e => absurd (hn0 h) e⟩
  · rw [if_neg h]
    refine ⟨_, rfl, cU_wI M w 81 _ (Or.inl rfl), rfl, n, hle, hK, hR, hB, by show n ≤ rg_L M b; omega, cw_II _ _ _ _, ?_, fun j hj => hf j (by omega), htop, by rw [hv, hD]; rfl⟩
    rw [cw_IIn (Or.inl (by decide)), hs (fun e => h (hv0 e))]
    exact ⟨by split; exact Or.inr rfl; exact Or.inl rfl, fun _ => rfl⟩

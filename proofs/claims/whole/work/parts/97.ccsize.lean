/-! the cards: sizes of worths -/
def ip (E : Nat → Int) : Nat → Int
  | 0 => 1
  | n + 1 => ip E n * E n
theorem ip_pos {E : Nat → Int} : ∀ {n : Nat}, (∀ j, j < n → 0 < E j) → 0 < ip E n
  | 0, _ => Int.one_pos
  | n + 1, h => Int.mul_pos (ip_pos (fun j hj => h j (by omega))) (h n (by omega))
theorem ip_dvd {E : Nat → Int} {j : Nat} : ∀ {n : Nat}, j < n → E j ∣ ip E n
  | 0, h => by omega
  | n + 1, h => by
    by_cases c : j = n
    · rw [c]; exact ⟨ip E n, Int.mul_comm _ _⟩
    · exact Int.dvd_trans (ip_dvd (n := n) (by omega)) ⟨E n, rfl⟩
theorem ip_le {E : Nat → Int} {l : Nat} : ∀ {n : Nat}, (∀ j, j < n → cL (E j) l) → (ip E n).natAbs ≤ wB ^ (l * n)
  | 0, _ => by show 1 ≤ wB ^ (l * 0); rw [Nat.mul_zero]; exact Nat.le_refl _
  | n + 1, h => by
    show (ip E n * E n).natAbs ≤ _
    rw [Int.natAbs_mul, Nat.mul_add, Nat.mul_one, Nat.pow_add]
    exact Nat.mul_le_mul (ip_le (fun j hj => h j (by omega))) (Nat.le_of_lt (h n (by omega)))
theorem ip_cL {E : Nat → Int} {l n : Nat} (h : ∀ j, j < n → cL (E j) l) : cL (ip E n) (l * n + 1) := by
  unfold cL
  refine Nat.lt_of_le_of_lt (ip_le h) ?_
  exact Nat.pow_lt_pow_right (by decide) (by omega)
/-- parts over denominators E j, each between 0 and 1 -/
def pN (y : Nat → Rat) (t d l : Nat) (E : Nat → Int) : Prop := ∀ j, j < d → 0 < E j ∧ cL (E j) l ∧ qD (y (plx (8 * j + t))) (E j) ∧ 0 ≤ y (plx (8 * j + t)) ∧ y (plx (8 * j + t)) ≤ ((1 : Nat) : Rat)
theorem aw_facts {y : Nat → Rat} {k t d l n : Nat} {a b : Int} {E : Nat → Int} (h : pN y t d l E) (hn : n ≤ d) (ha : a.natAbs ≤ 2) (hb : b.natAbs ≤ 2) : qD (aw y k t a b n) (ip E d) ∧ -((n * 2 : Nat) : Rat) ≤ aw y k t a b n ∧ aw y k t a b n ≤ ((n * 2 : Nat) : Rat) := by
  refine ⟨qs_D (fun j hj => ?_), qs_abs (B := 2) (fun j hj => ?_)⟩
  · show qD (if j = k then 0 else y (plx (8 * j + t)) * (((if j < k then a else b : Int)) : Rat)) (ip E d)
    by_cases c : j = k
    · rw [if_pos c]; exact qD_0 _
    · rw [if_neg c]
      exact ((h j (by omega)).2.2.1.mulI _).dvd (ip_dvd (by omega))
  · show _ ≤ (if j = k then 0 else y (plx (8 * j + t)) * (((if j < k then a else b : Int)) : Rat)) ∧ (if j = k then 0 else y (plx (8 * j + t)) * (((if j < k then a else b : Int)) : Rat)) ≤ _
    by_cases c : j = k
    · rw [if_pos c]; exact ⟨by decide, by decide⟩
    · rw [if_neg c]
      obtain ⟨-, -, -, h4, h5⟩ := h j (by omega)
      have hx : ∀ x : Int, x.natAbs ≤ 2 → -((2 : Nat) : Rat) ≤ (x : Rat) ∧ (x : Rat) ≤ ((2 : Nat) : Rat) := fun x hx => by
        refine ⟨?_, ?_⟩
        · have : ((-((2 : Nat) : Int) : Int) : Rat) ≤ (x : Rat) := Rat.intCast_le_intCast.mpr (by omega)
          rw [Rat.intCast_neg, Rat.intCast_natCast] at this; exact this
        · have : (x : Rat) ≤ (((2 : Nat) : Int) : Rat) := Rat.intCast_le_intCast.mpr (by omega)
          rw [Rat.intCast_natCast] at this; exact this
      have hc : (if j < k then a else b).natAbs ≤ 2 := by split; exact ha; exact hb
      exact q_mul_abs h4 h5 (hx _ hc).1 (hx _ hc).2
theorem pN_pos {y : Nat → Rat} {t d l : Nat} {E : Nat → Int} (h : pN y t d l E) : 0 < ip E d := ip_pos (fun j hj => (h j hj).1)
theorem aw_L {y : Nat → Rat} {k t d l n : Nat} {a b : Int} {E : Nat → Int} (h : pN y t d l E) (hd : d ≤ 5) (hn : n ≤ d) (ha : a.natAbs ≤ 2) (hb : b.natAbs ≤ 2) : qL (aw y k t a b n) (l * d + 2) := by
  obtain ⟨h1, h2, h3⟩ := aw_facts (k := k) h hn ha hb
  exact h1.L (pN_pos h) (ip_cL (fun j hj => (h j hj).2.1)) (by omega) h2 h3
/-- two of them over the same denominators -/
theorem aw_L2 {y : Nat → Rat} {k t t' d l n n' : Nat} {a b a' b' : Int} {E : Nat → Int} (h : pN y t d l E) (h' : pN y t' d l E) (hd : d ≤ 5) (hn : n ≤ d) (hn' : n' ≤ d) (ha : a.natAbs ≤ 2) (hb : b.natAbs ≤ 2) (ha' : a'.natAbs ≤ 2) (hb' : b'.natAbs ≤ 2) : qD (aw y k t a b n + aw y k t' a' b' n') (ip E d) ∧ qL (aw y k t a b n + aw y k t' a' b' n') (l * d + 2) := by
  obtain ⟨h1, h2, h3⟩ := aw_facts (k := k) h hn ha hb
  obtain ⟨g1, g2, g3⟩ := aw_facts (k := k) h' hn' ha' hb'
  have e : ((n * 2 + n' * 2 : Nat) : Rat) = ((n * 2 : Nat) : Rat) + ((n' * 2 : Nat) : Rat) := Rat.natCast_add _ _
  refine ⟨h1.add g1, (h1.add g1).L (b := n * 2 + n' * 2) (pN_pos h) (ip_cL (fun j hj => (h j hj).2.1)) (by omega) ?_ ?_⟩
  · rw [e, Rat.neg_add]; exact q_le_add h2 g2
  · rw [e]; exact q_le_add h3 g3
/-- the mix at a place of the cards -/
def cmu (y : Nat → Rat) (o p w : Nat) : Rat := mx (fun w => y (o + (p * 2 + w))) 2 w
theorem cmu_D {y : Nat → Rat} {o P : Nat} (ho : o = 0 ∨ o = 40) (hP : P ≤ 20) (h : ∀ s, s < 80 → qL (y s) 9) : ∃ D : Nat → Int, ∀ p, p < P → 0 < D p ∧ cL (D p) 19 ∧ ∀ w, w < 2 → qD (cmu y o p w) (D p) ∧ 0 ≤ cmu y o p w ∧ cmu y o p w ≤ ((1 : Nat) : Rat) := by
  have : ∀ p, ∃ D : Int, p < P → 0 < D ∧ cL D 19 ∧ ∀ w, w < 2 → qD (cmu y o p w) D ∧ 0 ≤ cmu y o p w ∧ cmu y o p w ≤ ((1 : Nat) : Rat) := fun p => by
    by_cases c : p < P
    · obtain ⟨D, d1, d2, d3⟩ := mx_facts (f := fun w => y (o + (p * 2 + w))) (n := 2) (by decide) (by decide) (fun v hv => h _ (by omega))
      exact ⟨D, fun _ => ⟨d1, d2, d3⟩⟩
    · exact ⟨1, fun h => absurd h c⟩
  exact ⟨fun p => (this p).choose, fun p => (this p).choose_spec⟩

/-! the cards: the eight worths of a card, before the chance and before going on -/
def cw0 (y : Nat → Rat) (d k s : Nat) : Rat := if s = 0 then aw y k 2 1 (-1) d else if s = 1 then aw y k 4 1 1 d + aw y k 5 2 (-2) d else if s = 2 then aw y k 0 1 (-1) d else if s = 3 then aw y k 6 1 1 d + aw y k 7 2 (-2) d else if s = 4 then aw y k 1 (-1) (-1) d else if s = 5 then aw y k 1 2 (-2) d else if s = 6 then aw y k 3 (-1) (-1) d else aw y k 3 2 (-2) d
def tws (s : Nat) : Nat := if s = 0 then 2 else if s = 1 then 4 else if s = 2 then 0 else if s = 3 then 6 else if s = 4 then 1 else if s = 5 then 1 else 3
theorem q_wide {x : Rat} {m n : Nat} (h : m ≤ n) (h1 : -((m : Nat) : Rat) ≤ x) (h2 : x ≤ ((m : Nat) : Rat)) : -((n : Nat) : Rat) ≤ x ∧ x ≤ ((n : Nat) : Rat) := by
  have e : ((m : Nat) : Rat) ≤ ((n : Nat) : Rat) := Rat.natCast_le_natCast.mpr h
  exact ⟨Rat.le_trans (Rat.neg_le_neg e) h1, Rat.le_trans h2 e⟩
theorem aw_20 {y : Nat → Rat} {k t d l : Nat} {a b : Int} {E : Nat → Int} (h : pN y t d l E) (hd : d ≤ 5) (ha : a.natAbs ≤ 2) (hb : b.natAbs ≤ 2) : qD (aw y k t a b d) (ip E d) ∧ -((10 : Nat) : Rat) ≤ aw y k t a b d ∧ aw y k t a b d ≤ ((10 : Nat) : Rat) := by
  obtain ⟨h1, h2, h3⟩ := aw_facts (k := k) h (Nat.le_refl d) ha hb
  exact ⟨h1, q_wide (by omega) h2 h3⟩
theorem aw_20b {y : Nat → Rat} {k t t' d l : Nat} {a b a' b' : Int} {E : Nat → Int} (h : pN y t d l E) (h' : pN y t' d l E) (hd : d ≤ 5) (ha : a.natAbs ≤ 2) (hb : b.natAbs ≤ 2) (ha' : a'.natAbs ≤ 2) (hb' : b'.natAbs ≤ 2) : qD (aw y k t a b d + aw y k t' a' b' d) (ip E d) ∧ -((20 : Nat) : Rat) ≤ aw y k t a b d + aw y k t' a' b' d ∧ aw y k t a b d + aw y k t' a' b' d ≤ ((20 : Nat) : Rat) := by
  obtain ⟨h1, h2, h3⟩ := aw_20 (k := k) h hd ha hb
  obtain ⟨g1, g2, g3⟩ := aw_20 (k := k) h' hd ha' hb'
  have e : ((20 : Nat) : Rat) = ((10 : Nat) : Rat) + ((10 : Nat) : Rat) := by rw [← Rat.natCast_add]
  refine ⟨h1.add g1, ?_, ?_⟩
  · rw [e, Rat.neg_add]; exact q_le_add h2 g2
  · rw [e]; exact q_le_add h3 g3
theorem cw0_facts {d : Nat} {mu : Nat → Nat → Rat} {y : Nat → Rat} {D : Nat → Int} (hd : d ≤ 5) (hM : cMu d mu D) (h : cPl d mu y) {k s : Nat} (hs : s < 8) : qD (cw0 y d k s) (ip (Ecd D (tws s)) d) ∧ -((20 : Nat) : Rat) ≤ cw0 y d k s ∧ cw0 y d k s ≤ ((20 : Nat) : Rat) := by
  have one : ∀ (t : Nat) (a b : Int), t < 8 → a.natAbs ≤ 2 → b.natAbs ≤ 2 → qD (aw y k t a b d) (ip (Ecd D t) d) ∧ -((20 : Nat) : Rat) ≤ aw y k t a b d ∧ aw y k t a b d ≤ ((20 : Nat) : Rat) := fun t a b ht ha hb => by
    obtain ⟨h1, h2, h3⟩ := aw_20 (k := k) (pN_of hM h ht) hd ha hb
    exact ⟨h1, q_wide (by decide) h2 h3⟩
  unfold cw0 tws
  rcases (show s = 0 ∨ s = 1 ∨ s = 2 ∨ s = 3 ∨ s = 4 ∨ s = 5 ∨ s = 6 ∨ s = 7 by omega) with e | e | e | e | e | e | e | e <;> subst e
  · exact one 2 1 (-1) (by decide) (by decide) (by decide)
  · have p5 := pN_of hM h (t := 5) (by decide)
    rw [Ecd_45] at p5
    exact aw_20b (k := k) (pN_of hM h (t := 4) (by decide)) p5 hd (by decide) (by decide) (by decide) (by decide)
  · exact one 0 1 (-1) (by decide) (by decide) (by decide)
  · have p7 := pN_of hM h (t := 7) (by decide)
    rw [Ecd_67] at p7
    exact aw_20b (k := k) (pN_of hM h (t := 6) (by decide)) p7 hd (by decide) (by decide) (by decide) (by decide)
  · exact one 1 (-1) (-1) (by decide) (by decide) (by decide)
  · exact one 1 2 (-2) (by decide) (by decide) (by decide)
  · exact one 3 (-1) (-1) (by decide) (by decide) (by decide)
  · exact one 3 2 (-2) (by decide) (by decide) (by decide)

/-! the cards: the size of what A gets behind its first pass -/
theorem Ecd_19 {d : Nat} {mu : Nat → Nat → Rat} {D : Nat → Int} (hM : cMu d mu D) {t j : Nat} (ht : t < 6) (hj : j < d) : cL (Ecd D t j) 19 := by
  unfold Ecd; rw [if_pos ht]; exact (hM _ (by omega)).2.1
theorem Ecd_23 (D : Nat → Int) : Ecd D 3 = Ecd D 2 := by funext j; unfold Ecd; rw [if_pos (by decide), if_pos (by decide)]
theorem Ecd_ip {d : Nat} {mu : Nat → Nat → Rat} {D : Nat → Int} (hM : cMu d mu D) {t : Nat} (ht : t < 8) : 0 < ip (Ecd D t) d := ip_pos (fun j hj => by
  unfold Ecd
  by_cases c : t < 6
  · rw [if_pos c]; exact (hM _ (by omega)).1
  · rw [if_neg c]; exact Int.mul_pos (hM _ (by omega)).1 (hM _ (by omega)).1)
theorem gW_facts {d : Nat} {mu : Nat → Nat → Rat} {y Y : Nat → Rat} {D : Nat → Int} (hd : d ≤ 5) (hM : cMu d mu D) (h : cPl d mu Y) {k : Nat} (hk : k < d) (hw : ∀ s, s < 8 → y (200 + (8 * k + s)) = cw0 Y d k s) (hm : ∀ n, n < 2 → y (160 + (8 * k + (6 + n))) = mu (4 * k + 3) n) : ∀ n, n ≤ 2 → qD (gW y k n) (ip (Ecd D 2) d * D (4 * k + 3)) ∧ -((20 * (n + 1) : Nat) : Rat) ≤ gW y k n ∧ gW y k n ≤ ((20 * (n + 1) : Nat) : Rat)
  | 0, _ => by
    obtain ⟨h1, h2, h3⟩ := cw0_facts (k := k) (s := 0) hd hM h (by decide)
    have e : gW y k 0 = cw0 Y d k 0 := hw 0 (by decide)
    rw [e]
    exact ⟨h1.dvd ⟨_, rfl⟩, h2, h3⟩
  | n + 1, hn => by
    obtain ⟨g1, g2, g3⟩ := gW_facts hd hM h hk hw hm n (by omega)
    obtain ⟨h1, h2, h3⟩ := cw0_facts (k := k) (s := 6 + n) hd hM h (by omega)
    have ht : tws (6 + n) = 3 := by rcases (show n = 0 ∨ n = 1 by omega) with e | e <;> subst e <;> rfl
    rw [ht, Ecd_23] at h1
    obtain ⟨-, -, m3⟩ := hM (4 * k + 3) (by omega)
    obtain ⟨m4, m5, m6⟩ := m3 n (by omega)
    have e : gW y k (n + 1) = gW y k n + cw0 Y d k (6 + n) * mu (4 * k + 3) n := by
      show gW y k n + _ * _ = _
      rw [hw (6 + n) (by omega), hm n (by omega)]
    have hb := q_mul_abs m5 m6 h2 h3
    rw [Rat.mul_comm] at hb
    have ec : ((20 * (n + 1 + 1) : Nat) : Rat) = ((20 * (n + 1) : Nat) : Rat) + ((20 : Nat) : Rat) := by rw [← Rat.natCast_add]; congr 1
    rw [e, ec]
    refine ⟨g1.add (h1.mul m4), ?_, q_le_add g3 hb.2⟩
    rw [Rat.neg_add]; exact q_le_add g2 hb.1
theorem gW_L {d : Nat} {mu : Nat → Nat → Rat} {y Y : Nat → Rat} {D : Nat → Int} (hd : d ≤ 5) (hM : cMu d mu D) (h : cPl d mu Y) {k : Nat} (hk : k < d) (hw : ∀ s, s < 8 → y (200 + (8 * k + s)) = cw0 Y d k s) (hm : ∀ n, n < 2 → y (160 + (8 * k + (6 + n))) = mu (4 * k + 3) n) {n : Nat} (hn : n ≤ 2) : qL (gW y k n) 120 := by
  obtain ⟨g1, g2, g3⟩ := gW_facts hd hM h hk hw hm n hn
  have hc : cL (ip (Ecd D 2) d) (19 * d + 1) := ip_cL (fun j hj => Ecd_19 hM (by decide) hj)
  have h3 := hM (4 * k + 3) (by omega)
  exact (g1.L (Int.mul_pos (Ecd_ip hM (by decide)) h3.1) (hc.mul h3.2.1) (by omega) g2 g3).mono (by omega)

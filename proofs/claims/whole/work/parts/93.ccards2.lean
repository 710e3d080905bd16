/-! the cards: the worths of A and of B -/
section
variable {u z rk jf ln ng cg tb rn d : Nat} {c ro fx : Nat → Nat} {M : rg_M} {y : Nat → Rat}
theorem aw_cong {y y2 : Nat → Rat} {k t n : Nat} {a b : Int} (h : ∀ j, j < n → y (plx (8 * j + t)) = y2 (plx (8 * j + t))) : aw y k t a b n = aw y2 k t a b n := qs_cong (fun j hj => by rw [h j hj])
theorem plx_out {i : Nat} (h : i < 40) : plx i < 200 ∨ 240 ≤ plx i := by unfold plx; split <;> omega
theorem cC_addW (hE : cE u z rk c jf ln ng cg tb rn ro fx M y) (hK : cDk cg d M) {k s t : Nat} (won lost : Int32) {a b : Int} (ea : won.toInt = a) (eb : lost.toInt = b) (hk : k < d) (hd : d ≤ 5) (hs : s < 8) (ht : t < 8) (hP : ∀ j, j < d → qL (y (plx (8 * j + t))) 200) {W : Rat} (h0 : y (200 + (8 * k + s)) = W) (hW : ∀ j, j ≤ d → qL (W + aw y k t a b j) 200) : ∃ M' y', rC_addWorth cg (nI k) (nI s) (nI t) won lost M = some M' ∧ cE u z rk c jf ln ng cg tb rn ro fx M' y' ∧ (∀ i, i ≠ 200 + (8 * k + s) → y' i = y i) ∧ y' (200 + (8 * k + s)) = W + aw y k t a b d ∧ cG M M' := by
  subst ea; subst eb; subst h0
  exact cC_addWorth hE hK won lost hk hd hs ht (by decide) (by decide) hP hW
/-- sizes of what is added -/
def awL (d : Nat) (y : Nat → Rat) : Prop := (∀ j t, j < d → t < 8 → qL (y (plx (8 * j + t))) 200) ∧ (∀ k t n (a b : Int), k < d → t < 8 → n ≤ d → a.natAbs ≤ 2 → b.natAbs ≤ 2 → qL (0 + aw y k t a b n) 200) ∧ ∀ k t n, k < d → (t = 4 ∨ t = 6) → n ≤ d → qL (0 + aw y k t 1 1 d + aw y k (t + 1) 2 (-2) n) 200
set_option maxHeartbeats 4000000 in
theorem cC_oneA (hE : cE u z rk c jf ln ng cg tb rn ro fx M y) (hK : cDk cg d M) (hd : d ≤ 5) (hz : awL d y) {k : Nat} (hk : k < d) (h0 : y (200 + (8 * k + 0)) = 0 ∧ y (200 + (8 * k + 1)) = 0 ∧ y (200 + (8 * k + 6)) = 0 ∧ y (200 + (8 * k + 7)) = 0) : ∃ (M1 M2 M3 M4 M5 : rg_M) (y5 : Nat → Rat), rC_addWorth cg (nI k) 0 2 1 (-1) M = some M1 ∧ rC_addWorth cg (nI k) 1 4 1 1 M1 = some M2 ∧ rC_addWorth cg (nI k) 1 5 2 (-2) M2 = some M3 ∧ rC_addWorth cg (nI k) 6 3 (-1) (-1) M3 = some M4 ∧ rC_addWorth cg (nI k) 7 3 2 (-2) M4 = some M5 ∧ cE u z rk c jf ln ng cg tb rn ro fx M5 y5 ∧ (y5 (200 + (8 * k + 0)) = aw y k 2 1 (-1) d ∧ y5 (200 + (8 * k + 1)) = aw y k 4 1 1 d + aw y k 5 2 (-2) d ∧ y5 (200 + (8 * k + 6)) = aw y k 3 (-1) (-1) d ∧ y5 (200 + (8 * k + 7)) = aw y k 3 2 (-2) d) ∧ (∀ i, i ≠ 200 + (8 * k + 0) → i ≠ 200 + (8 * k + 1) → i ≠ 200 + (8 * k + 6) → i ≠ 200 + (8 * k + 7) → y5 i = y i) ∧ rg_K M1 cg = 1 ∧ rg_K M2 cg = 1 ∧ rg_K M3 cg = 1 ∧ rg_K M4 cg = 1 ∧ cG M M5 := by
  obtain ⟨z0, z1, z2, z3⟩ := h0
  have hpo : ∀ j t, j < d → t < 8 → plx (8 * j + t) < 200 ∨ 240 ≤ plx (8 * j + t) := fun j t hj ht => plx_out (by omega)
  obtain ⟨M1, y1, a1, b1, c1, d1, g1⟩ := cC_addW hE hK (k := k) (s := 0) (t := 2) 1 (-1) (a := 1) (b := (-1)) (by decide) (by decide) hk hd (by decide) (by decide) (fun j hj => hz.1 j 2 hj (by decide)) z0 (fun j hj => hz.2.1 k 2 j 1 (-1) hk (by decide) hj (by decide) (by decide))
  have K1 := hK.G g1
  have e1 : ∀ j t, j < d → t < 8 → y1 (plx (8 * j + t)) = y (plx (8 * j + t)) := fun j t hj ht => c1 _ (by have := hpo j t hj ht; omega)
  have v2 : y1 (200 + (8 * k + 1)) = 0 := by rw [c1 _ (by omega)]; exact z1
  obtain ⟨M2, y2, a2, b2, c2, d2, g2⟩ := cC_addW b1 K1 (k := k) (s := 1) (t := 4) 1 1 (a := 1) (b := 1) (by decide) (by decide) hk hd (by decide) (by decide) (fun j hj => by rw [e1 j 4 hj (by decide)]; exact hz.1 j 4 hj (by decide)) v2 (fun j hj => by rw [aw_cong (y2 := y) (fun i hi => e1 i 4 (Nat.lt_of_lt_of_le hi hj) (by decide))]; exact hz.2.1 k 4 j 1 1 hk (by decide) hj (by decide) (by decide))
  have K2 := K1.G g2
  have e2 : ∀ j t, j < d → t < 8 → y2 (plx (8 * j + t)) = y (plx (8 * j + t)) := fun j t hj ht => by rw [c2 _ (by have := hpo j t hj ht; omega)]; exact e1 j t hj ht
  have v3 : y2 (200 + (8 * k + 1)) = 0 + aw y k 4 1 1 d := by rw [d2, aw_cong (y2 := y) (fun j hj => e1 j 4 hj (by decide))]
  obtain ⟨M3, y3, a3, b3, c3, d3, g3⟩ := cC_addW b2 K2 (k := k) (s := 1) (t := 5) 2 (-2) (a := 2) (b := (-2)) (by decide) (by decide) hk hd (by decide) (by decide) (fun j hj => by rw [e2 j 5 hj (by decide)]; exact hz.1 j 5 hj (by decide)) v3 (fun j hj => by rw [aw_cong (y2 := y) (fun i hi => e2 i 5 (Nat.lt_of_lt_of_le hi hj) (by decide))]; exact hz.2.2 k 4 j hk (by decide) hj)
  have K3 := K2.G g3
  have e3 : ∀ j t, j < d → t < 8 → y3 (plx (8 * j + t)) = y (plx (8 * j + t)) := fun j t hj ht => by rw [c3 _ (by have := hpo j t hj ht; omega)]; exact e2 j t hj ht
  have v4 : y3 (200 + (8 * k + 6)) = 0 := by rw [c3 _ (by omega)]; rw [c2 _ (by omega)]; rw [c1 _ (by omega)]; exact z2
  obtain ⟨M4, y4, a4, b4, c4, d4, g4⟩ := cC_addW b3 K3 (k := k) (s := 6) (t := 3) (-1) (-1) (a := (-1)) (b := (-1)) (by decide) (by decide) hk hd (by decide) (by decide) (fun j hj => by rw [e3 j 3 hj (by decide)]; exact hz.1 j 3 hj (by decide)) v4 (fun j hj => by rw [aw_cong (y2 := y) (fun i hi => e3 i 3 (Nat.lt_of_lt_of_le hi hj) (by decide))]; exact hz.2.1 k 3 j (-1) (-1) hk (by decide) hj (by decide) (by decide))
  have K4 := K3.G g4
  have e4 : ∀ j t, j < d → t < 8 → y4 (plx (8 * j + t)) = y (plx (8 * j + t)) := fun j t hj ht => by rw [c4 _ (by have := hpo j t hj ht; omega)]; exact e3 j t hj ht
  have v5 : y4 (200 + (8 * k + 7)) = 0 := by rw [c4 _ (by omega)]; rw [c3 _ (by omega)]; rw [c2 _ (by omega)]; rw [c1 _ (by omega)]; exact z3
  obtain ⟨M5, y5, a5, b5, c5, d5, g5⟩ := cC_addW b4 K4 (k := k) (s := 7) (t := 3) 2 (-2) (a := 2) (b := (-2)) (by decide) (by decide) hk hd (by decide) (by decide) (fun j hj => by rw [e4 j 3 hj (by decide)]; exact hz.1 j 3 hj (by decide)) v5 (fun j hj => by rw [aw_cong (y2 := y) (fun i hi => e4 i 3 (Nat.lt_of_lt_of_le hi hj) (by decide))]; exact hz.2.1 k 3 j 2 (-2) hk (by decide) hj (by decide) (by decide))
  have K5 := K4.G g5
  have e5 : ∀ j t, j < d → t < 8 → y5 (plx (8 * j + t)) = y (plx (8 * j + t)) := fun j t hj ht => by rw [c5 _ (by have := hpo j t hj ht; omega)]; exact e4 j t hj ht
  refine ⟨M1, M2, M3, M4, M5, y5, a1, a2, a3, a4, a5, b5, ⟨?_, ?_, ?_, ?_⟩, fun i i0 i1 i2 i3 => by rw [c5 i i3, c4 i i2, c3 i i1, c2 i i1, c1 i i0], b1.1.all.1.2.2.1, b2.1.all.1.2.2.1, b3.1.all.1.2.2.1, b4.1.all.1.2.2.1, g1.tr (g2.tr (g3.tr (g4.tr g5)))⟩
  · rw [c5 _ (by omega), c4 _ (by omega), c3 _ (by omega), c2 _ (by omega), d1, Rat.zero_add]
  · rw [c5 _ (by omega), c4 _ (by omega), d3, Rat.zero_add, aw_cong (y2 := y) (fun j hj => e2 j 5 hj (by decide))]
  · rw [c5 _ (by omega), d4, Rat.zero_add, aw_cong (y2 := y) (fun j hj => e3 j 3 hj (by decide))]
  · rw [d5, Rat.zero_add, aw_cong (y2 := y) (fun j hj => e4 j 3 hj (by decide))]
set_option maxHeartbeats 4000000 in
theorem cC_reckonA (hE : cE u z rk c jf ln ng cg tb rn ro fx M y) (hK : cDk cg d M) (hd : d ≤ 5) (hz : awL d y) (h0 : ∀ k, k < d → y (200 + (8 * k + 0)) = 0 ∧ y (200 + (8 * k + 1)) = 0 ∧ y (200 + (8 * k + 6)) = 0 ∧ y (200 + (8 * k + 7)) = 0) : ∃ M' y', rC_reckonWorthsOfA cg M = some M' ∧ cE u z rk c jf ln ng cg tb rn ro fx M' y' ∧ (∀ k, k < d → y' (200 + (8 * k + 0)) = aw y k 2 1 (-1) d ∧ y' (200 + (8 * k + 1)) = aw y k 4 1 1 d + aw y k 5 2 (-2) d ∧ y' (200 + (8 * k + 6)) = aw y k 3 (-1) (-1) d ∧ y' (200 + (8 * k + 7)) = aw y k 3 2 (-2) d) ∧ (∀ i, (∀ k, k < d → i ≠ 200 + (8 * k + 0) ∧ i ≠ 200 + (8 * k + 1) ∧ i ≠ 200 + (8 * k + 6) ∧ i ≠ 200 + (8 * k + 7)) → y' i = y i) ∧ cG M M' := by
  have go : ∀ e j : Nat, d - j = e → j ≤ d → ∀ (M : rg_M) (y2 : Nat → Rat), cE u z rk c jf ln ng cg tb rn ro fx M y2 → cDk cg d M → (∀ k, k < j → y2 (200 + (8 * k + 0)) = aw y k 2 1 (-1) d ∧ y2 (200 + (8 * k + 1)) = aw y k 4 1 1 d + aw y k 5 2 (-2) d ∧ y2 (200 + (8 * k + 6)) = aw y k 3 (-1) (-1) d ∧ y2 (200 + (8 * k + 7)) = aw y k 3 2 (-2) d) → (∀ i, (∀ k, k < j → i ≠ 200 + (8 * k + 0) ∧ i ≠ 200 + (8 * k + 1) ∧ i ≠ 200 + (8 * k + 6) ∧ i ≠ 200 + (8 * k + 7)) → y2 i = y i) → ∃ M' y', rC_reckonWorthsOfA_2 cg (nI j) M = some (none, M') ∧ cE u z rk c jf ln ng cg tb rn ro fx M' y' ∧ (∀ k, k < d → y' (200 + (8 * k + 0)) = aw y k 2 1 (-1) d ∧ y' (200 + (8 * k + 1)) = aw y k 4 1 1 d + aw y k 5 2 (-2) d ∧ y' (200 + (8 * k + 6)) = aw y k 3 (-1) (-1) d ∧ y' (200 + (8 * k + 7)) = aw y k 3 2 (-2) d) ∧ (∀ i, (∀ k, k < d → i ≠ 200 + (8 * k + 0) ∧ i ≠ 200 + (8 * k + 1) ∧ i ≠ 200 + (8 * k + 6) ∧ i ≠ 200 + (8 * k + 7)) → y' i = y i) ∧ cG M M' := by
    intro e
    induction e with
    | zero =>
      intro j he hj M y2 hE hK h1 h2
      have e : j = d := by omega
      subst e
      rw [rC_reckonWorthsOfA_2_e, if_pos hE.1.all.1.2.2.1, hK, if_pos (Int32.le_refl _)]
      exact ⟨M, y2, rfl, hE, h1, h2, cG.rf M⟩
    | succ e ih =>
      intro j he hj M y2 hE hK h1 h2
      have hjd : j < d := by omega
      have hpy : ∀ q t, q < d → t < 8 → y2 (plx (8 * q + t)) = y (plx (8 * q + t)) := fun q t hq ht => h2 _ (fun k hk => by have := plx_out (i := 8 * q + t) (by omega); omega)
      have haw : ∀ k t (a b : Int) n, t < 8 → n ≤ d → aw y2 k t a b n = aw y k t a b n := fun k t a b n ht hn => aw_cong (fun q hq => hpy q t (by omega) ht)
      have hz2 : awL d y2 := ⟨fun q t hq ht => by rw [hpy q t hq ht]; exact hz.1 q t hq ht, fun k t n a b hk ht hn ha hb => by rw [haw k t a b n ht hn]; exact hz.2.1 k t n a b hk ht hn ha hb, fun k t n hk ht hn => by rw [haw k t 1 1 d (by omega) (Nat.le_refl _), haw k (t + 1) 2 (-2) n (by omega) hn]; exact hz.2.2 k t n hk ht hn⟩
      obtain ⟨z0, z1, z2, z3⟩ := h0 j hjd
      obtain ⟨M1, M2, M3, M4, M5, y5, a1, a2, a3, a4, a5, b5, ⟨w0, w1, w2, w3⟩, f5, K1, K2, K3, K4, G5⟩ := cC_oneA hE hK hd hz2 hjd ⟨by rw [h2 _ (fun k hk => by omega)]; exact z0, by rw [h2 _ (fun k hk => by omega)]; exact z1, by rw [h2 _ (fun k hk => by omega)]; exact z2, by rw [h2 _ (fun k hk => by omega)]; exact z3⟩
      rw [haw j 2 _ _ _ (by decide) (Nat.le_refl _)] at w0
      rw [haw j 4 _ _ _ (by decide) (Nat.le_refl _), haw j 5 _ _ _ (by decide) (Nat.le_refl _)] at w1
      rw [haw j 3 _ _ _ (by decide) (Nat.le_refl _)] at w2
      rw [haw j 3 _ _ _ (by decide) (Nat.le_refl _)] at w3
      rw [rC_reckonWorthsOfA_2_e, if_pos hE.1.all.1.2.2.1, hK, if_neg (by rw [nI_leI (by omega) (by omega)]; omega), if_pos hE.1.all.1.2.2.1]
      simp only [a1, a2, a3, a4, a5, K1, K2, K3, K4, if_true, Option.bind_some]
      rw [nI_1]
      obtain ⟨M', y', g1, g2, g3, g4, g5⟩ := ih (j + 1) (by omega) (by omega) M5 y5 b5 (hK.G G5) (fun k hk => by
        by_cases e : k = j
        · subst e; exact ⟨w0, w1, w2, w3⟩
        · obtain ⟨x0, x1, x2, x3⟩ := h1 k (by omega)
          exact ⟨by rw [f5 _ (by omega) (by omega) (by omega) (by omega)]; exact x0, by rw [f5 _ (by omega) (by omega) (by omega) (by omega)]; exact x1, by rw [f5 _ (by omega) (by omega) (by omega) (by omega)]; exact x2, by rw [f5 _ (by omega) (by omega) (by omega) (by omega)]; exact x3⟩) (fun i hi => by
        obtain ⟨i0, i1, i2, i3⟩ := hi j (by omega)
        rw [f5 i i0 i1 i2 i3]; exact h2 i (fun k hk => hi k (by omega)))
      exact ⟨M', y', g1, g2, g3, g4, G5.tr g5⟩
  obtain ⟨M', y', b1, b2, b3, b4, b5⟩ := go d 0 rfl (Nat.zero_le _) M y hE hK (fun k hk => by omega) (fun _ _ => rfl)
  have b1 : rC_reckonWorthsOfA_2 cg 0 M = _ := b1
  refine ⟨M', y', ?_, b2, b3, b4, b5⟩
  rw [rC_reckonWorthsOfA_u, rC_reckonWorthsOfA_e, b1]; rfl
set_option maxHeartbeats 4000000 in
theorem cC_oneB (hE : cE u z rk c jf ln ng cg tb rn ro fx M y) (hK : cDk cg d M) (hd : d ≤ 5) (hz : awL d y) {k : Nat} (hk : k < d) (h0 : y (200 + (8 * k + 2)) = 0 ∧ y (200 + (8 * k + 3)) = 0 ∧ y (200 + (8 * k + 4)) = 0 ∧ y (200 + (8 * k + 5)) = 0) : ∃ (M1 M2 M3 M4 M5 : rg_M) (y5 : Nat → Rat), rC_addWorth cg (nI k) 2 0 1 (-1) M = some M1 ∧ rC_addWorth cg (nI k) 3 6 1 1 M1 = some M2 ∧ rC_addWorth cg (nI k) 3 7 2 (-2) M2 = some M3 ∧ rC_addWorth cg (nI k) 4 1 (-1) (-1) M3 = some M4 ∧ rC_addWorth cg (nI k) 5 1 2 (-2) M4 = some M5 ∧ cE u z rk c jf ln ng cg tb rn ro fx M5 y5 ∧ (y5 (200 + (8 * k + 2)) = aw y k 0 1 (-1) d ∧ y5 (200 + (8 * k + 3)) = aw y k 6 1 1 d + aw y k 7 2 (-2) d ∧ y5 (200 + (8 * k + 4)) = aw y k 1 (-1) (-1) d ∧ y5 (200 + (8 * k + 5)) = aw y k 1 2 (-2) d) ∧ (∀ i, i ≠ 200 + (8 * k + 2) → i ≠ 200 + (8 * k + 3) → i ≠ 200 + (8 * k + 4) → i ≠ 200 + (8 * k + 5) → y5 i = y i) ∧ rg_K M1 cg = 1 ∧ rg_K M2 cg = 1 ∧ rg_K M3 cg = 1 ∧ rg_K M4 cg = 1 ∧ cG M M5 := by
  obtain ⟨z0, z1, z2, z3⟩ := h0
  have hpo : ∀ j t, j < d → t < 8 → plx (8 * j + t) < 200 ∨ 240 ≤ plx (8 * j + t) := fun j t hj ht => plx_out (by omega)
  obtain ⟨M1, y1, a1, b1, c1, d1, g1⟩ := cC_addW hE hK (k := k) (s := 2) (t := 0) 1 (-1) (a := 1) (b := (-1)) (by decide) (by decide) hk hd (by decide) (by decide) (fun j hj => hz.1 j 0 hj (by decide)) z0 (fun j hj => hz.2.1 k 0 j 1 (-1) hk (by decide) hj (by decide) (by decide))
  have K1 := hK.G g1
  have e1 : ∀ j t, j < d → t < 8 → y1 (plx (8 * j + t)) = y (plx (8 * j + t)) := fun j t hj ht => c1 _ (by have := hpo j t hj ht; omega)
  have v2 : y1 (200 + (8 * k + 3)) = 0 := by rw [c1 _ (by omega)]; exact z1
  obtain ⟨M2, y2, a2, b2, c2, d2, g2⟩ := cC_addW b1 K1 (k := k) (s := 3) (t := 6) 1 1 (a := 1) (b := 1) (by decide) (by decide) hk hd (by decide) (by decide) (fun j hj => by rw [e1 j 6 hj (by decide)]; exact hz.1 j 6 hj (by decide)) v2 (fun j hj => by rw [aw_cong (y2 := y) (fun i hi => e1 i 6 (Nat.lt_of_lt_of_le hi hj) (by decide))]; exact hz.2.1 k 6 j 1 1 hk (by decide) hj (by decide) (by decide))
  have K2 := K1.G g2
  have e2 : ∀ j t, j < d → t < 8 → y2 (plx (8 * j + t)) = y (plx (8 * j + t)) := fun j t hj ht => by rw [c2 _ (by have := hpo j t hj ht; omega)]; exact e1 j t hj ht
  have v3 : y2 (200 + (8 * k + 3)) = 0 + aw y k 6 1 1 d := by rw [d2, aw_cong (y2 := y) (fun j hj => e1 j 6 hj (by decide))]
  obtain ⟨M3, y3, a3, b3, c3, d3, g3⟩ := cC_addW b2 K2 (k := k) (s := 3) (t := 7) 2 (-2) (a := 2) (b := (-2)) (by decide) (by decide) hk hd (by decide) (by decide) (fun j hj => by rw [e2 j 7 hj (by decide)]; exact hz.1 j 7 hj (by decide)) v3 (fun j hj => by rw [aw_cong (y2 := y) (fun i hi => e2 i 7 (Nat.lt_of_lt_of_le hi hj) (by decide))]; exact hz.2.2 k 6 j hk (by decide) hj)
  have K3 := K2.G g3
  have e3 : ∀ j t, j < d → t < 8 → y3 (plx (8 * j + t)) = y (plx (8 * j + t)) := fun j t hj ht => by rw [c3 _ (by have := hpo j t hj ht; omega)]; exact e2 j t hj ht
  have v4 : y3 (200 + (8 * k + 4)) = 0 := by rw [c3 _ (by omega)]; rw [c2 _ (by omega)]; rw [c1 _ (by omega)]; exact z2
  obtain ⟨M4, y4, a4, b4, c4, d4, g4⟩ := cC_addW b3 K3 (k := k) (s := 4) (t := 1) (-1) (-1) (a := (-1)) (b := (-1)) (by decide) (by decide) hk hd (by decide) (by decide) (fun j hj => by rw [e3 j 1 hj (by decide)]; exact hz.1 j 1 hj (by decide)) v4 (fun j hj => by rw [aw_cong (y2 := y) (fun i hi => e3 i 1 (Nat.lt_of_lt_of_le hi hj) (by decide))]; exact hz.2.1 k 1 j (-1) (-1) hk (by decide) hj (by decide) (by decide))
  have K4 := K3.G g4
  have e4 : ∀ j t, j < d → t < 8 → y4 (plx (8 * j + t)) = y (plx (8 * j + t)) := fun j t hj ht => by rw [c4 _ (by have := hpo j t hj ht; omega)]; exact e3 j t hj ht
  have v5 : y4 (200 + (8 * k + 5)) = 0 := by rw [c4 _ (by omega)]; rw [c3 _ (by omega)]; rw [c2 _ (by omega)]; rw [c1 _ (by omega)]; exact z3
  obtain ⟨M5, y5, a5, b5, c5, d5, g5⟩ := cC_addW b4 K4 (k := k) (s := 5) (t := 1) 2 (-2) (a := 2) (b := (-2)) (by decide) (by decide) hk hd (by decide) (by decide) (fun j hj => by rw [e4 j 1 hj (by decide)]; exact hz.1 j 1 hj (by decide)) v5 (fun j hj => by rw [aw_cong (y2 := y) (fun i hi => e4 i 1 (Nat.lt_of_lt_of_le hi hj) (by decide))]; exact hz.2.1 k 1 j 2 (-2) hk (by decide) hj (by decide) (by decide))
  have K5 := K4.G g5
  have e5 : ∀ j t, j < d → t < 8 → y5 (plx (8 * j + t)) = y (plx (8 * j + t)) := fun j t hj ht => by rw [c5 _ (by have := hpo j t hj ht; omega)]; exact e4 j t hj ht
  refine ⟨M1, M2, M3, M4, M5, y5, a1, a2, a3, a4, a5, b5, ⟨?_, ?_, ?_, ?_⟩, fun i i0 i1 i2 i3 => by rw [c5 i i3, c4 i i2, c3 i i1, c2 i i1, c1 i i0], b1.1.all.1.2.2.1, b2.1.all.1.2.2.1, b3.1.all.1.2.2.1, b4.1.all.1.2.2.1, g1.tr (g2.tr (g3.tr (g4.tr g5)))⟩
  · rw [c5 _ (by omega), c4 _ (by omega), c3 _ (by omega), c2 _ (by omega), d1, Rat.zero_add]
  · rw [c5 _ (by omega), c4 _ (by omega), d3, Rat.zero_add, aw_cong (y2 := y) (fun j hj => e2 j 7 hj (by decide))]
  · rw [c5 _ (by omega), d4, Rat.zero_add, aw_cong (y2 := y) (fun j hj => e3 j 1 hj (by decide))]
  · rw [d5, Rat.zero_add, aw_cong (y2 := y) (fun j hj => e4 j 1 hj (by decide))]
set_option maxHeartbeats 4000000 in
theorem cC_reckonB (hE : cE u z rk c jf ln ng cg tb rn ro fx M y) (hK : cDk cg d M) (hd : d ≤ 5) (hz : awL d y) (h0 : ∀ k, k < d → y (200 + (8 * k + 2)) = 0 ∧ y (200 + (8 * k + 3)) = 0 ∧ y (200 + (8 * k + 4)) = 0 ∧ y (200 + (8 * k + 5)) = 0) : ∃ M' y', rC_reckonWorthsOfB cg M = some M' ∧ cE u z rk c jf ln ng cg tb rn ro fx M' y' ∧ (∀ k, k < d → y' (200 + (8 * k + 2)) = aw y k 0 1 (-1) d ∧ y' (200 + (8 * k + 3)) = aw y k 6 1 1 d + aw y k 7 2 (-2) d ∧ y' (200 + (8 * k + 4)) = aw y k 1 (-1) (-1) d ∧ y' (200 + (8 * k + 5)) = aw y k 1 2 (-2) d) ∧ (∀ i, (∀ k, k < d → i ≠ 200 + (8 * k + 2) ∧ i ≠ 200 + (8 * k + 3) ∧ i ≠ 200 + (8 * k + 4) ∧ i ≠ 200 + (8 * k + 5)) → y' i = y i) ∧ cG M M' := by
  have go : ∀ e j : Nat, d - j = e → j ≤ d → ∀ (M : rg_M) (y2 : Nat → Rat), cE u z rk c jf ln ng cg tb rn ro fx M y2 → cDk cg d M → (∀ k, k < j → y2 (200 + (8 * k + 2)) = aw y k 0 1 (-1) d ∧ y2 (200 + (8 * k + 3)) = aw y k 6 1 1 d + aw y k 7 2 (-2) d ∧ y2 (200 + (8 * k + 4)) = aw y k 1 (-1) (-1) d ∧ y2 (200 + (8 * k + 5)) = aw y k 1 2 (-2) d) → (∀ i, (∀ k, k < j → i ≠ 200 + (8 * k + 2) ∧ i ≠ 200 + (8 * k + 3) ∧ i ≠ 200 + (8 * k + 4) ∧ i ≠ 200 + (8 * k + 5)) → y2 i = y i) → ∃ M' y', rC_reckonWorthsOfB_2 cg (nI j) M = some (none, M') ∧ cE u z rk c jf ln ng cg tb rn ro fx M' y' ∧ (∀ k, k < d → y' (200 + (8 * k + 2)) = aw y k 0 1 (-1) d ∧ y' (200 + (8 * k + 3)) = aw y k 6 1 1 d + aw y k 7 2 (-2) d ∧ y' (200 + (8 * k + 4)) = aw y k 1 (-1) (-1) d ∧ y' (200 + (8 * k + 5)) = aw y k 1 2 (-2) d) ∧ (∀ i, (∀ k, k < d → i ≠ 200 + (8 * k + 2) ∧ i ≠ 200 + (8 * k + 3) ∧ i ≠ 200 + (8 * k + 4) ∧ i ≠ 200 + (8 * k + 5)) → y' i = y i) ∧ cG M M' := by
    intro e
    induction e with
    | zero =>
      intro j he hj M y2 hE hK h1 h2
      have e : j = d := by omega
      subst e
      rw [rC_reckonWorthsOfB_2_e, if_pos hE.1.all.1.2.2.1, hK, if_pos (Int32.le_refl _)]
      exact ⟨M, y2, rfl, hE, h1, h2, cG.rf M⟩
    | succ e ih =>
      intro j he hj M y2 hE hK h1 h2
      have hjd : j < d := by omega
      have hpy : ∀ q t, q < d → t < 8 → y2 (plx (8 * q + t)) = y (plx (8 * q + t)) := fun q t hq ht => h2 _ (fun k hk => by have := plx_out (i := 8 * q + t) (by omega); omega)
      have haw : ∀ k t (a b : Int) n, t < 8 → n ≤ d → aw y2 k t a b n = aw y k t a b n := fun k t a b n ht hn => aw_cong (fun q hq => hpy q t (by omega) ht)
      have hz2 : awL d y2 := ⟨fun q t hq ht => by rw [hpy q t hq ht]; exact hz.1 q t hq ht, fun k t n a b hk ht hn ha hb => by rw [haw k t a b n ht hn]; exact hz.2.1 k t n a b hk ht hn ha hb, fun k t n hk ht hn => by rw [haw k t 1 1 d (by omega) (Nat.le_refl _), haw k (t + 1) 2 (-2) n (by omega) hn]; exact hz.2.2 k t n hk ht hn⟩
      obtain ⟨z0, z1, z2, z3⟩ := h0 j hjd
      obtain ⟨M1, M2, M3, M4, M5, y5, a1, a2, a3, a4, a5, b5, ⟨w0, w1, w2, w3⟩, f5, K1, K2, K3, K4, G5⟩ := cC_oneB hE hK hd hz2 hjd ⟨by rw [h2 _ (fun k hk => by omega)]; exact z0, by rw [h2 _ (fun k hk => by omega)]; exact z1, by rw [h2 _ (fun k hk => by omega)]; exact z2, by rw [h2 _ (fun k hk => by omega)]; exact z3⟩
      rw [haw j 0 _ _ _ (by decide) (Nat.le_refl _)] at w0
      rw [haw j 6 _ _ _ (by decide) (Nat.le_refl _), haw j 7 _ _ _ (by decide) (Nat.le_refl _)] at w1
      rw [haw j 1 _ _ _ (by decide) (Nat.le_refl _)] at w2
      rw [haw j 1 _ _ _ (by decide) (Nat.le_refl _)] at w3
      rw [rC_reckonWorthsOfB_2_e, if_pos hE.1.all.1.2.2.1, hK, if_neg (by rw [nI_leI (by omega) (by omega)]; omega), if_pos hE.1.all.1.2.2.1]
      simp only [a1, a2, a3, a4, a5, K1, K2, K3, K4, if_true, Option.bind_some]
      rw [nI_1]
      obtain ⟨M', y', g1, g2, g3, g4, g5⟩ := ih (j + 1) (by omega) (by omega) M5 y5 b5 (hK.G G5) (fun k hk => by
        by_cases e : k = j
        · subst e; exact ⟨w0, w1, w2, w3⟩
        · obtain ⟨x0, x1, x2, x3⟩ := h1 k (by omega)
          exact ⟨by rw [f5 _ (by omega) (by omega) (by omega) (by omega)]; exact x0, by rw [f5 _ (by omega) (by omega) (by omega) (by omega)]; exact x1, by rw [f5 _ (by omega) (by omega) (by omega) (by omega)]; exact x2, by rw [f5 _ (by omega) (by omega) (by omega) (by omega)]; exact x3⟩) (fun i hi => by
        obtain ⟨i0, i1, i2, i3⟩ := hi j (by omega)
        rw [f5 i i0 i1 i2 i3]; exact h2 i (fun k hk => hi k (by omega)))
      exact ⟨M', y', g1, g2, g3, g4, G5.tr g5⟩
  obtain ⟨M', y', b1, b2, b3, b4, b5⟩ := go d 0 rfl (Nat.zero_le _) M y hE hK (fun k hk => by omega) (fun _ _ => rfl)
  have b1 : rC_reckonWorthsOfB_2 cg 0 M = _ := b1
  refine ⟨M', y', ?_, b2, b3, b4, b5⟩
  rw [rC_reckonWorthsOfB_u, rC_reckonWorthsOfB_e, b1]; rfl
end

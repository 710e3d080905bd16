/-! the cards: the best answers -/
def fA (mu : Nat → Nat → Rat) (d k : Nat) : Rat := qx (wM mu d k 0 + qx (wM mu d k 6) (wM mu d k 7)) (wM mu d k 1)
def fB1 (mu : Nat → Nat → Rat) (d k : Nat) : Rat := qx (wM mu d k 2) (wM mu d k 3)
def fB2 (mu : Nat → Nat → Rat) (d k : Nat) : Rat := qx (wM mu d k 4) (wM mu d k 5)
def fB (mu : Nat → Nat → Rat) (d k : Nat) : Rat := fB1 mu d k + fB2 mu d k
def kBest (mu : Nat → Nat → Rat) (d who : Nat) : Rat := ((if who = 1 then 0 else qs (fA mu d) d) + (if who = 0 then 0 else qs (fB mu d) d)) * chN d
theorem qD_qx {a b : Rat} {D : Int} (h1 : qD a D) (h2 : qD b D) : qD (qx a b) D := by unfold qx; split; exact h2; exact h1
theorem qx_abs {a b : Rat} {B : Nat} (h1 : -((B : Nat) : Rat) ≤ a ∧ a ≤ ((B : Nat) : Rat)) (h2 : -((B : Nat) : Rat) ≤ b ∧ b ≤ ((B : Nat) : Rat)) : -((B : Nat) : Rat) ≤ qx a b ∧ qx a b ≤ ((B : Nat) : Rat) := by unfold qx; split; exact h2; exact h1
theorem q_add2 {a b : Rat} {B C : Nat} (ha : -((B : Nat) : Rat) ≤ a ∧ a ≤ ((B : Nat) : Rat)) (hb : -((C : Nat) : Rat) ≤ b ∧ b ≤ ((C : Nat) : Rat)) : -((B + C : Nat) : Rat) ≤ a + b ∧ a + b ≤ ((B + C : Nat) : Rat) := by
  rw [Rat.natCast_add, Rat.neg_add]
  exact ⟨q_le_add ha.1 hb.1, q_le_add ha.2 hb.2⟩
theorem fA_facts {d : Nat} {mu : Nat → Nat → Rat} {D : Nat → Int} (hd : d ≤ 5) (hM : cMu d mu D) (k : Nat) : (qD (fA mu d k) (ip (Ecd D 2) d * ip (Ecd D 4) d) ∧ -((60 : Nat) : Rat) ≤ fA mu d k ∧ fA mu d k ≤ ((60 : Nat) : Rat)) ∧ qL (wM mu d k 0 + qx (wM mu d k 6) (wM mu d k 7)) 425 := by
  obtain ⟨a1, a2⟩ := wM_facts (k := k) (s := 0) hd hM (by decide)
  obtain ⟨b1, b2⟩ := wM_facts (k := k) (s := 6) hd hM (by decide)
  obtain ⟨c1, c2⟩ := wM_facts (k := k) (s := 7) hd hM (by decide)
  obtain ⟨d1, d2⟩ := wM_facts (k := k) (s := 1) hd hM (by decide)
  have t0 : tws 0 = 2 := rfl
  have t6 : tws 6 = 3 := rfl
  have t7 : tws 7 = 3 := rfl
  have t1 : tws 1 = 4 := rfl
  rw [t0] at a1
  rw [t6, Ecd_23] at b1
  rw [t7, Ecd_23] at c1
  rw [t1] at d1
  have s1 := a1.add (qD_qx b1 c1)
  have s2 := q_add2 a2 (qx_abs b2 c2)
  refine ⟨⟨qD_qx (s1.dvd ⟨_, rfl⟩) (d1.dvd ⟨_, Int.mul_comm _ _⟩), qx_abs (q_wide (by decide) s2.1 s2.2) (q_wide (by decide) d2.1 d2.2)⟩, ?_⟩
  exact (s1.L (Ecd_ip hM (by decide)) (ip_96 hd hM (by decide)) (by decide) s2.1 s2.2).mono (by decide)
theorem Ecd_16 (D : Nat → Int) (d : Nat) : ip (Ecd D 1) d ∣ ip (Ecd D 6) d := ip_ip (fun j _ => by
  unfold Ecd
  rw [if_pos (by decide), if_neg (by decide)]
  exact ⟨D (4 * j + 3), Int.mul_comm _ _⟩)
theorem fB_facts {d : Nat} {mu : Nat → Nat → Rat} {D : Nat → Int} (hd : d ≤ 5) (hM : cMu d mu D) (k : Nat) : (qD (fB1 mu d k) (ip (Ecd D 6) d) ∧ -((20 : Nat) : Rat) ≤ fB1 mu d k ∧ fB1 mu d k ≤ ((20 : Nat) : Rat)) ∧ (qD (fB2 mu d k) (ip (Ecd D 6) d) ∧ -((20 : Nat) : Rat) ≤ fB2 mu d k ∧ fB2 mu d k ≤ ((20 : Nat) : Rat)) := by
  obtain ⟨a1, a2⟩ := wM_facts (k := k) (s := 2) hd hM (by decide)
  obtain ⟨b1, b2⟩ := wM_facts (k := k) (s := 3) hd hM (by decide)
  obtain ⟨c1, c2⟩ := wM_facts (k := k) (s := 4) hd hM (by decide)
  obtain ⟨d1, d2⟩ := wM_facts (k := k) (s := 5) hd hM (by decide)
  have t0 : tws 2 = 0 := rfl
  have t6 : tws 3 = 6 := rfl
  have t7 : tws 4 = 1 := rfl
  have t1 : tws 5 = 1 := rfl
  rw [t0] at a1
  rw [t6] at b1
  rw [t7] at c1
  rw [t1] at d1
  exact ⟨⟨qD_qx (a1.dvd (Ecd_06 D d)) b1, qx_abs a2 b2⟩, ⟨(qD_qx c1 d1).dvd (Ecd_16 D d), qx_abs c2 d2⟩⟩
theorem wM_L {d : Nat} {mu : Nat → Nat → Rat} {D : Nat → Int} (hd : d ≤ 5) (hM : cMu d mu D) (k : Nat) {s : Nat} (hs : s < 8) : qL (wM mu d k s) 425 := by
  obtain ⟨a1, a2, a3⟩ := wM_facts (k := k) hd hM hs
  exact (a1.L (Ecd_ip hM (tws_8 s)) (ip_191 hd hM (tws_8 s)) (by decide) a2 a3).mono (by decide)
section
variable {u z rk jf ln ng cg tb rn d : Nat} {c ro fx : Nat → Nat} {M : rg_M} {y : Nat → Rat}
theorem cC_halfA (hE : cE u z rk c jf ln ng cg tb rn ro fx M y) (hK : cDk cg d M) (hd : d ≤ 5) {mu : Nat → Nat → Rat} {D : Nat → Int} (hM : cMu d mu D) (hP : cPl d mu y) (h0 : ∀ s, s < 40 → y (200 + s) = 0) {bi : Nat} (hbi : bi = 247 ∨ bi = 248) (hb : y bi = 0) : ∃ (M1 M2 : rg_M) (y2 : Nat → Rat), rC_reckonWorthsOfA cg M = some M1 ∧ rC_addBestOfA cg (fx bi) M1 = some M2 ∧ cEn rk ln ng cg tb rn ro fx M1 ∧ cE u z rk c jf ln ng cg tb rn ro fx M2 y2 ∧ cG M M2 ∧ y2 bi = qs (fA mu d) d ∧ (∀ i, i < 40 → 2 ≤ i % 8 → i % 8 < 6 → y2 (200 + i) = 0) ∧ (∀ i, i ≠ 246 → i ≠ bi → (i < 200 ∨ 240 ≤ i) → y2 i = y i) := by
  have hz := awL_of hd hM hP
  obtain ⟨M1, y1, a1, a2, a3, a4, a5⟩ := cC_reckonA hE hK hd hz (fun k hk => ⟨h0 _ (by omega), h0 _ (by omega), h0 _ (by omega), h0 _ (by omega)⟩)
  have e0 : ∀ k, k < d → y1 (200 + 8 * k) = wM mu d k 0 := fun k hk => by rw [show 200 + 8 * k = 200 + (8 * k + 0) from rfl, (a3 k hk).1, aw_M hP (by decide)]; rfl
  have e1 : ∀ k, k < d → y1 (200 + (8 * k + 1)) = wM mu d k 1 := fun k hk => by rw [(a3 k hk).2.1, aw_M hP (by decide), aw_M hP (by decide)]; rfl
  have e6 : ∀ k, k < d → y1 (200 + (8 * k + 6)) = wM mu d k 6 := fun k hk => by rw [(a3 k hk).2.2.1, aw_M hP (by decide)]; rfl
  have e7 : ∀ k, k < d → y1 (200 + (8 * k + 7)) = wM mu d k 7 := fun k hk => by rw [(a3 k hk).2.2.2, aw_M hP (by decide)]; rfl
  have eo : ∀ i, i < 40 → 2 ≤ i % 8 → i % 8 < 6 → y1 (200 + i) = 0 := fun i hi h2 h6 => by rw [a4 _ (fun k hk => by omega)]; exact h0 i hi
  have eo2 : ∀ i, i < 40 → 8 * d ≤ i → y1 (200 + i) = 0 := fun i hi h2 => by rw [a4 _ (fun k hk => by omega)]; exact h0 i hi
  have eb : y1 bi = 0 := by rw [a4 _ (fun k hk => by omega)]; exact hb
  have hW : ∀ i, i < 40 → qL (y1 (200 + i)) 425 := fun i hi => by
    by_cases c1 : 8 * d ≤ i
    · rw [eo2 i hi c1]; exact qL_0 (by decide)
    · by_cases c2 : 2 ≤ i % 8 ∧ i % 8 < 6
      · rw [eo i hi c2.1 c2.2]; exact qL_0 (by decide)
      · rw [show 200 + i = 200 + (8 * (i / 8) + i % 8) by omega]
        rcases (show i % 8 = 0 ∨ i % 8 = 1 ∨ i % 8 = 6 ∨ i % 8 = 7 by omega) with e | e | e | e <;> rw [e]
        · show qL (y1 (200 + 8 * (i / 8))) 425
          rw [e0 _ (by omega)]; exact wM_L hd hM _ (by decide)
        · rw [e1 _ (by omega)]; exact wM_L hd hM _ (by decide)
        · rw [e6 _ (by omega)]; exact wM_L hd hM _ (by decide)
        · rw [e7 _ (by omega)]; exact wM_L hd hM _ (by decide)
  have eA : ∀ k, k < d → bA y1 k = fA mu d k := fun k hk => by
    unfold bA bA6 fA; rw [e0 k hk, e1 k hk, e6 k hk, e7 k hk]
  have eS : ∀ j, j ≤ d → qs (bA y1) j = qs (fA mu d) j := fun j hj => qs_cong (fun k hk => eA k (by omega))
  obtain ⟨M2, y2, b1, b2, b3, b4, b5⟩ := cC_addBestA a2 (hK.G a5) hbi hd hW (fun k hk => by
    unfold bA6; rw [e0 k hk, e6 k hk, e7 k hk]; exact (fA_facts hd hM k).2) (fun j hj => by
    rw [eb, Rat.zero_add, eS j hj]
    have hb2 := qs_abs (f := fA mu d) (B := 60) (n := j) (fun k _ => (fA_facts hd hM k).1.2)
    refine ((qs_D (f := fA mu d) (n := j) (fun k _ => (fA_facts hd hM k).1.1)).L (Int.mul_pos (Ecd_ip hM (by decide)) (Ecd_ip hM (by decide))) ((ip_96 hd hM (by decide)).mul (ip_96 hd hM (by decide))) ?_ hb2.1 hb2.2).mono (by decide)
    omega)
  refine ⟨M1, M2, y2, a1, b1, a2.1, b2, a5.tr b5, ?_, fun i hi h2 h6 => ?_, fun i hi hi2 hi3 => ?_⟩
  · rw [b4, eb, Rat.zero_add, eS d (Nat.le_refl _)]
  · rw [b3 _ (by omega) (by omega) (fun k hk => by omega)]; exact eo i hi h2 h6
  · rw [b3 i hi hi2 (fun k hk => by omega), a4 i (fun k hk => by omega)]
theorem cC_halfB (hE : cE u z rk c jf ln ng cg tb rn ro fx M y) (hK : cDk cg d M) (hd : d ≤ 5) {mu : Nat → Nat → Rat} {D : Nat → Int} (hM : cMu d mu D) (hP : cPl d mu y) (h0 : ∀ i, i < 40 → 2 ≤ i % 8 → i % 8 < 6 → y (200 + i) = 0) {bi : Nat} (hbi : bi = 247 ∨ bi = 248) (hB : qD (y bi) (ip (Ecd D 2) d * ip (Ecd D 4) d)) (hB2 : -((300 : Nat) : Rat) ≤ y bi ∧ y bi ≤ ((300 : Nat) : Rat)) : ∃ (M1 M2 : rg_M) (y2 : Nat → Rat), rC_reckonWorthsOfB cg M = some M1 ∧ rC_addBestOfB cg (fx bi) M1 = some M2 ∧ cEn rk ln ng cg tb rn ro fx M1 ∧ cE u z rk c jf ln ng cg tb rn ro fx M2 y2 ∧ cG M M2 ∧ y2 bi = y bi + qs (fB mu d) d ∧ (∀ i, i ≠ 246 → i ≠ bi → (i < 200 ∨ 240 ≤ i) → y2 i = y i) := by
  have hz := awL_of hd hM hP
  obtain ⟨M1, y1, a1, a2, a3, a4, a5⟩ := cC_reckonB hE hK hd hz (fun k hk => ⟨h0 _ (by omega) (by omega) (by omega), h0 _ (by omega) (by omega) (by omega), h0 _ (by omega) (by omega) (by omega), h0 _ (by omega) (by omega) (by omega)⟩)
  have e2 : ∀ k, k < d → y1 (200 + (8 * k + 2)) = wM mu d k 2 := fun k hk => by rw [(a3 k hk).1, aw_M hP (by decide)]; rfl
  have e3 : ∀ k, k < d → y1 (200 + (8 * k + 3)) = wM mu d k 3 := fun k hk => by rw [(a3 k hk).2.1, aw_M hP (by decide), aw_M hP (by decide)]; rfl
  have e4 : ∀ k, k < d → y1 (200 + (8 * k + 4)) = wM mu d k 4 := fun k hk => by rw [(a3 k hk).2.2.1, aw_M hP (by decide)]; rfl
  have e5 : ∀ k, k < d → y1 (200 + (8 * k + 5)) = wM mu d k 5 := fun k hk => by rw [(a3 k hk).2.2.2, aw_M hP (by decide)]; rfl
  have eo2 : ∀ i, i < 40 → 2 ≤ i % 8 → i % 8 < 6 → 8 * d ≤ i → y1 (200 + i) = 0 := fun i hi h2 h6 h8 => by rw [a4 _ (fun k hk => by omega)]; exact h0 i hi h2 h6
  have eb : y1 bi = y bi := a4 _ (fun k hk => by omega)
  have hW : ∀ i, i < 40 → 2 ≤ i % 8 → i % 8 < 6 → qL (y1 (200 + i)) 425 := fun i hi h2 h6 => by
    by_cases c1 : 8 * d ≤ i
    · rw [eo2 i hi h2 h6 c1]; exact qL_0 (by decide)
    · rw [show 200 + i = 200 + (8 * (i / 8) + i % 8) by omega]
      rcases (show i % 8 = 2 ∨ i % 8 = 3 ∨ i % 8 = 4 ∨ i % 8 = 5 by omega) with e | e | e | e <;> rw [e]
      · rw [e2 _ (by omega)]; exact wM_L hd hM _ (by decide)
      · rw [e3 _ (by omega)]; exact wM_L hd hM _ (by decide)
      · rw [e4 _ (by omega)]; exact wM_L hd hM _ (by decide)
      · rw [e5 _ (by omega)]; exact wM_L hd hM _ (by decide)
  have eA : ∀ k, k < d → bB y1 k = fB1 mu d k := fun k hk => by unfold bB fB1; rw [e2 k hk, e3 k hk]
  have eA2 : ∀ k, k < d → bB2 y1 k = fB2 mu d k := fun k hk => by unfold bB2 fB2; rw [e4 k hk, e5 k hk]
  have eS : ∀ j, j ≤ d → qs (fun k => bB y1 k + bB2 y1 k) j = qs (fB mu d) j := fun j hj => qs_cong (fun k hk => by rw [eA k (by omega), eA2 k (by omega)]; rfl)
  have hpos := Int.mul_pos (Int.mul_pos (Ecd_ip hM (t := 2) (by decide)) (Ecd_ip hM (t := 4) (by decide))) (Ecd_ip hM (t := 6) (by decide))
  have hlen := ((ip_96 hd hM (t := 2) (by decide)).mul (ip_96 hd hM (t := 4) (by decide))).mul (ip_191 hd hM (t := 6) (by decide))
  have fD : ∀ k, qD (fB mu d k) (ip (Ecd D 2) d * ip (Ecd D 4) d * ip (Ecd D 6) d) ∧ -((40 : Nat) : Rat) ≤ fB mu d k ∧ fB mu d k ≤ ((40 : Nat) : Rat) := fun k => by
    obtain ⟨⟨f1, f2⟩, f3, f4⟩ := fB_facts hd hM k
    exact ⟨(f1.add f3).dvd ⟨_, Int.mul_comm _ _⟩, q_add2 f2 f4⟩
  have hsum : ∀ j, j ≤ d → qD (y bi + qs (fB mu d) j) (ip (Ecd D 2) d * ip (Ecd D 4) d * ip (Ecd D 6) d) ∧ -((500 : Nat) : Rat) ≤ y bi + qs (fB mu d) j ∧ y bi + qs (fB mu d) j ≤ ((500 : Nat) : Rat) := fun j hj => by
    have hb2 := qs_abs (f := fB mu d) (B := 40) (n := j) (fun k _ => (fD k).2)
    have hb3 := q_add2 hB2 (q_wide (n := 200) (by omega) hb2.1 hb2.2)
    exact ⟨(hB.dvd ⟨_, rfl⟩).add (qs_D (fun k _ => (fD k).1)), hb3⟩
  obtain ⟨M2, y2, b1, b2, b3, b4, b5⟩ := cC_addBestB a2 (hK.G a5) hbi hd hW (fun j hj => by
    rw [eb, eS j hj]
    obtain ⟨x1, x2, x3⟩ := hsum j hj
    exact (x1.L hpos hlen (by decide) x2 x3).mono (by decide)) (fun j hj => by
    rw [eb, eS j (by omega), eA j hj]
    obtain ⟨x1, x2, x3⟩ := hsum j (by omega)
    obtain ⟨f1, f2⟩ := (fB_facts hd hM j).1
    have x4 := q_add2 ⟨x2, x3⟩ f2
    exact ((x1.add (f1.dvd ⟨_, Int.mul_comm _ _⟩)).L hpos hlen (by decide) x4.1 x4.2).mono (by decide))
  refine ⟨M1, M2, y2, a1, b1, a2.1, b2, a5.tr b5, ?_, fun i hi hi2 hi3 => ?_⟩
  · rw [b4, eb, eS d (Nat.le_refl _)]
  · rw [b3 i hi hi2, a4 i (fun k hk => by omega)]
theorem cC_best58 (hE : cE u z rk c jf ln ng cg tb rn ro fx M y) {bi : Nat} (hbi : bi = 247 ∨ bi = 248) (h1 : qL (y bi) 425) (h2 : qL (y 244) 425) : ∃ M', rC_findBest_58 cg (fx bi) M = some (none, M') ∧ cE u z rk c jf ln ng cg tb rn ro fx M' (va_up y bi (y bi * y 244)) ∧ cG M M' := by
  have A := hE.1.all
  obtain ⟨M', a1, a2, a3⟩ := cE_mul hE (i := bi) (j := 244) (k := 425) (Or.inl (by omega)) (Or.inl (by decide)) (by omega) (by decide) h1 h2
  refine ⟨M', ?_, a2, a3⟩
  rw [rC_findBest_58_e]
  simp only [A, if_true, Option.bind_some, a1]
theorem cC_findBest (hE : cE u z rk c jf ln ng cg tb rn ro fx M y) (hI : cLi ln (4 * d) 2 2 2 M) (hK : cDk cg d M) (h3 : 3 ≤ d) (hd : d ≤ 5) (hok : ∀ s, s < 80 → qL (y s) 9) (hC : y 244 = chN d) {bi who : Nat} (hbi : bi = 247 ∨ bi = 248) (hw : who < 3) : ∃ M' y', rC_findBest cg (fx bi) (nI who) M = some M' ∧ cE u z rk c jf ln ng cg tb rn ro fx M' y' ∧ cG M M' ∧ (∀ i, i ≠ bi → (i < 160 ∨ (i = 244 ∨ i = 247 ∨ i = 248)) → y' i = y i) ∧ y' bi = kBest (cmu y 40) d who ∧ qL (y' bi) 425 := by
  obtain ⟨M1, M2, M3, y3, D, a1, a2, a3, a4, a5, a6, a7, a8, a9, a10, a11⟩ := cC_prep hE hI hK hd hok (kk := 1) (by decide)
  rw [Nat.mul_one] at a8 a9
  obtain ⟨c1, c2, c3, c4, c5⟩ := ch_facts h3 hd
  have vb : vx bi := Or.inl (by omega)
  obtain ⟨M4, b1, b2, b3⟩ := cE_zero a6 vb
  have A := hE.1.all
  have A1 := a4.all
  have A2 := a5.all
  have A3 := a6.1.all
  have A4 := b2.1.all
  have kb : rg_K M3 (fx bi) = 2 := by rcases hbi with e | e <;> subst e <;> simp only [A3]
  have hp4 : cPl d (cmu y 40) (va_up y3 bi 0) := ⟨fun p w hp hw => by rw [rg_up_ne (by omega)]; exact a8.1 p w hp hw, fun k s hk h6 h8 => by rw [rg_up_ne (by omega)]; exact a8.2 k s hk h6 h8⟩
  have h04 : ∀ s, s < 40 → va_up y3 bi 0 (200 + s) = 0 := fun s hs => by rw [rg_up_ne (by omega)]; exact a10 s hs
  have e244 : va_up y3 bi 0 244 = chN d := by rw [rg_up_ne (by omega), a11 _ (by decide) (by omega), hC]
  have lC : qL (chN d) 425 := (c1.L (b := 1) c4 c5 (by decide) (Rat.le_trans (by decide) c2) c3).mono (by decide)
  have hpos := Int.mul_pos (Int.mul_pos (Ecd_ip a9 (t := 2) (by decide)) (Ecd_ip a9 (t := 4) (by decide))) (Ecd_ip a9 (t := 6) (by decide))
  have hlen := ((ip_96 hd a9 (t := 2) (by decide)).mul (ip_96 hd a9 (t := 4) (by decide))).mul (ip_191 hd a9 (t := 6) (by decide))
  have fAs : qD (qs (fA (cmu y 40) d) d) (ip (Ecd D 2) d * ip (Ecd D 4) d) ∧ -((300 : Nat) : Rat) ≤ qs (fA (cmu y 40) d) d ∧ qs (fA (cmu y 40) d) d ≤ ((300 : Nat) : Rat) := by
    have hb2 := qs_abs (f := fA (cmu y 40) d) (B := 60) (n := d) (fun k _ => (fA_facts hd a9 k).1.2)
    exact ⟨qs_D (fun k _ => (fA_facts hd a9 k).1.1), q_wide (by omega) hb2.1 hb2.2⟩
  have fBs : qD (qs (fB (cmu y 40) d) d) (ip (Ecd D 6) d) ∧ -((200 : Nat) : Rat) ≤ qs (fB (cmu y 40) d) d ∧ qs (fB (cmu y 40) d) d ≤ ((200 : Nat) : Rat) := by
    have fD : ∀ k, qD (fB (cmu y 40) d k) (ip (Ecd D 6) d) ∧ -((40 : Nat) : Rat) ≤ fB (cmu y 40) d k ∧ fB (cmu y 40) d k ≤ ((40 : Nat) : Rat) := fun k => by
      obtain ⟨⟨f1, f2⟩, f3, f4⟩ := fB_facts hd a9 k
      exact ⟨f1.add f3, q_add2 f2 f4⟩
    have hb2 := qs_abs (f := fB (cmu y 40) d) (B := 40) (n := d) (fun k _ => (fD k).2)
    exact ⟨qs_D (fun k _ => (fD k).1), q_wide (by omega) hb2.1 hb2.2⟩
  -- the sum and its size
  have hsz : ∀ x : Rat, qD x (ip (Ecd D 2) d * ip (Ecd D 4) d * ip (Ecd D 6) d) → -((500 : Nat) : Rat) ≤ x ∧ x ≤ ((500 : Nat) : Rat) → qL x 425 ∧ qL (x * chN d) 425 := fun x h1 h2 => by
    have h4 := q_ch h3 hd h2.1 h2.2
    exact ⟨(h1.L hpos hlen (by decide) h2.1 h2.2).mono (by decide), ((h1.mul c1).L (Int.mul_pos hpos c4) (hlen.mul c5) (by decide) h4.1 h4.2).mono (by decide)⟩
  -- A's half, or not
  have hA : ∃ M5 y5, rC_findBest cg (fx bi) (nI who) M = rg_uv (rC_findBest_45 cg (fx bi) (nI who) M5) ∧ cE u z rk c jf ln ng cg tb rn ro fx M5 y5 ∧ cG M4 M5 ∧ y5 bi = (if who = 1 then 0 else qs (fA (cmu y 40) d) d) ∧ (∀ i, i < 40 → 2 ≤ i % 8 → i % 8 < 6 → y5 (200 + i) = 0) ∧ (∀ i, i ≠ 246 → i ≠ bi → (i < 200 ∨ 240 ≤ i) → y5 i = y3 i) := by
    by_cases cw : who = 1
    · subst cw
      refine ⟨M4, va_up y3 bi 0, ?_, b2, cG.rf _, by rw [rg_up_eq, if_pos rfl], fun i hi _ _ => h04 i hi, fun i _ hi _ => rg_up_ne hi⟩
      rw [rC_findBest_u, rC_findBest_e]
      simp only [A, A1, A2, A3, kb, if_true, Option.bind_some, a1, a2, a3, b1, show nI 1 = (1 : Int32) from rfl]
    · obtain ⟨M5, M6, y6, e1, e2, e3, e4, e5, e6, e7, e8⟩ := cC_halfA b2 ((hK.G a7).G b3) hd a9 hp4 h04 hbi rg_up_eq
      have A5 := e3.all
      refine ⟨M6, y6, ?_, e4, e5, by rw [e6, if_neg cw], e7, fun i hi hi2 hi3 => by rw [e8 i hi hi2 hi3, rg_up_ne hi2]⟩
      have hn : ¬ nI who = (1 : Int32) := by
        rcases (show who = 0 ∨ who = 2 by omega) with e | e <;> subst e <;> decide
      rw [rC_findBest_u, rC_findBest_e]
      simp only [A, A1, A2, A3, A4, A5, kb, if_true, if_false, Option.bind_some, a1, a2, a3, b1, hn, e1, e2]
  obtain ⟨M5, y5, d1, d2, d3, d4, d5, d6⟩ := hA
  have A5 := d2.1.all
  have G5 := a7.tr (b3.tr d3)
  have fin : ∀ (M6 : rg_M) (y6 : Nat → Rat), rC_findBest_45 cg (fx bi) (nI who) M5 = rC_findBest_58 cg (fx bi) M6 → cE u z rk c jf ln ng cg tb rn ro fx M6 y6 → cG M5 M6 → y6 bi = (if who = 1 then 0 else qs (fA (cmu y 40) d) d) + (if who = 0 then 0 else qs (fB (cmu y 40) d) d) → (∀ i, i ≠ 246 → i ≠ bi → (i < 200 ∨ 240 ≤ i) → y6 i = y5 i) → qL (y6 bi) 425 ∧ qL (y6 bi * chN d) 425 → ∃ M' y', rC_findBest cg (fx bi) (nI who) M = some M' ∧ cE u z rk c jf ln ng cg tb rn ro fx M' y' ∧ cG M M' ∧ (∀ i, i ≠ bi → (i < 160 ∨ (i = 244 ∨ i = 247 ∨ i = 248)) → y' i = y i) ∧ y' bi = kBest (cmu y 40) d who ∧ qL (y' bi) 425 := by
    intro M6 y6 f1 f2 f3 f4 f5 f6
    have e6 : y6 244 = chN d := by rw [f5 _ (by decide) (by omega) (by omega), d6 _ (by decide) (by omega) (by omega), a11 _ (by decide) (by omega), hC]
    obtain ⟨M7, g1, g2, g3⟩ := cC_best58 f2 hbi f6.1 (by rw [e6]; exact lC)
    refine ⟨M7, _, ?_, g2, G5.tr (f3.tr g3), fun i hi hi2 => ?_, ?_, ?_⟩
    · rw [d1, f1, g1]; rfl
    · rw [rg_up_ne hi, f5 i (by omega) hi (by omega), d6 i (by omega) hi (by omega), a11 i (by omega) (by omega)]
    · rw [rg_up_eq, e6, f4]; rfl
    · rw [rg_up_eq, e6]; exact f6.2
  by_cases cw : who = 0
  · refine fin M5 y5 ?_ d2 (cG.rf _) ?_ (fun _ _ _ _ => rfl) ?_
    · rw [rC_findBest_45_e, cw, if_pos (show nI 0 = (0 : Int32) from rfl)]
    · rw [d4, if_pos cw, Rat.add_zero]
    · rw [d4, if_neg (by omega)]
      exact hsz _ (fAs.1.dvd ⟨_, rfl⟩) (q_wide (by decide) fAs.2.1 fAs.2.2)
  · have hp5 : cPl d (cmu y 40) y5 := ⟨fun p w hp hw => by rw [d6 _ (by omega) (by omega) (by omega)]; exact a8.1 p w hp hw, fun k s hk h6 h8 => by rw [d6 _ (by omega) (by omega) (by omega)]; exact a8.2 k s hk h6 h8⟩
    have hB : qD (y5 bi) (ip (Ecd D 2) d * ip (Ecd D 4) d) ∧ -((300 : Nat) : Rat) ≤ y5 bi ∧ y5 bi ≤ ((300 : Nat) : Rat) := by
      rw [d4]
      by_cases c1 : who = 1
      · rw [if_pos c1]; exact ⟨qD_0 _, by decide, by decide⟩
      · rw [if_neg c1]; exact fAs
    obtain ⟨M6, M7, y7, e1, e2, e3, e4, e5, e6, e7⟩ := cC_halfB d2 (hK.G G5) hd a9 hp5 d5 hbi hB.1 hB.2
    have A6 := e3.all
    refine fin M7 y7 ?_ e4 e5 ?_ e7 ?_
    · have hn : ¬ nI who = (0 : Int32) := by
        rcases (show who = 1 ∨ who = 2 by omega) with e | e <;> subst e <;> decide
      rw [rC_findBest_45_e]
      simp only [A5, A6, if_true, if_false, Option.bind_some, hn, e1, e2]
    · rw [e6, d4, if_neg cw]
    · rw [e6]
      exact hsz _ ((hB.1.dvd ⟨_, rfl⟩).add (fBs.1.dvd ⟨_, Int.mul_comm _ _⟩)) (q_add2 hB.2 fBs.2)
end

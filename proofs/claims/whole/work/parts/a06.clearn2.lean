/-! the cards: a round's answer, by the mixes alone -/
/-- what is played, by the mixes -/
def pM (mu : Nat → Nat → Rat) (j t : Nat) : Rat := if t < 6 then mu (4 * j + t / 2) (t % 2) else mu (4 * j + 3) (t - 6) * mu (4 * j) 0
def aM (mu : Nat → Nat → Rat) (k t : Nat) (a b : Int) (n : Nat) : Rat := qs (fun j => if j = k then 0 else pM mu j t * (((if j < k then a else b : Int)) : Rat)) n
/-- the eight worths of a card, before going on and without the chance -/
def wM (mu : Nat → Nat → Rat) (d k s : Nat) : Rat := if s = 0 then aM mu k 2 1 (-1) d else if s = 1 then aM mu k 4 1 1 d + aM mu k 5 2 (-2) d else if s = 2 then aM mu k 0 1 (-1) d else if s = 3 then aM mu k 6 1 1 d + aM mu k 7 2 (-2) d else if s = 4 then aM mu k 1 (-1) (-1) d else if s = 5 then aM mu k 1 2 (-2) d else if s = 6 then aM mu k 3 (-1) (-1) d else aM mu k 3 2 (-2) d
/-- with going on -/
def vM (mu : Nat → Nat → Rat) (d k s : Nat) : Rat := if s = 0 then wM mu d k 0 + wM mu d k 6 * mu (4 * k + 3) 0 + wM mu d k 7 * mu (4 * k + 3) 1 else wM mu d k s
/-- the chance of a pair -/
def chN (d : Nat) : Rat := ((1 : Int) : Rat) / ((d * (d - 1) : Nat) : Rat)
theorem aw_M {d : Nat} {mu : Nat → Nat → Rat} {y : Nat → Rat} (h : cPl d mu y) {k t : Nat} {a b : Int} (ht : t < 8) : aw y k t a b d = aM mu k t a b d := by
  refine qs_cong (fun j hj => ?_)
  show (if j = k then 0 else y (plx (8 * j + t)) * (((if j < k then a else b : Int)) : Rat)) = _
  rw [cPl_v h hj ht]; rfl
theorem cw0_M {d : Nat} {mu : Nat → Nat → Rat} {y : Nat → Rat} (h : cPl d mu y) (k s : Nat) : cw0 y d k s = wM mu d k s := by
  unfold cw0 wM
  rw [aw_M h (t := 0) (by decide), aw_M h (t := 1) (by decide), aw_M h (t := 1) (by decide), aw_M h (t := 2) (by decide), aw_M h (t := 3) (by decide), aw_M h (t := 3) (by decide), aw_M h (t := 4) (by decide), aw_M h (t := 5) (by decide), aw_M h (t := 6) (by decide), aw_M h (t := 7) (by decide)]
/-- some y with these parts -/
def yM (mu : Nat → Nat → Rat) (i : Nat) : Rat := if i < 250 then mu ((i - 160) / 2) ((i - 160) % 2) else mu (4 * ((i - 250) / 8) + 3) ((i - 250) % 8 - 6) * mu (4 * ((i - 250) / 8)) 0
theorem yM_Pl {d : Nat} (hd : d ≤ 5) (mu : Nat → Nat → Rat) : cPl d mu (yM mu) := by
  refine ⟨fun p w hp hw => ?_, fun k s hk h6 h8 => ?_⟩
  · unfold yM
    rw [if_pos (by omega), show (160 + (p * 2 + w) - 160) / 2 = p by omega, show (160 + (p * 2 + w) - 160) % 2 = w by omega]
  · unfold yM
    rw [if_neg (by omega), show (250 + (8 * k + s) - 250) / 8 = k by omega, show (250 + (8 * k + s) - 250) % 8 = s by omega]
theorem tws_8 (s : Nat) : tws s < 8 := by unfold tws; split; decide; split; decide; split; decide; split; decide; split; decide; split; decide; decide
theorem wM_facts {d : Nat} {mu : Nat → Nat → Rat} {D : Nat → Int} (hd : d ≤ 5) (hM : cMu d mu D) {k s : Nat} (hs : s < 8) : qD (wM mu d k s) (ip (Ecd D (tws s)) d) ∧ -((20 : Nat) : Rat) ≤ wM mu d k s ∧ wM mu d k s ≤ ((20 : Nat) : Rat) := by
  rw [← cw0_M (yM_Pl hd mu)]
  exact cw0_facts hd hM (yM_Pl hd mu) hs
theorem q_add3 {a b c : Rat} (ha : -((20 : Nat) : Rat) ≤ a ∧ a ≤ ((20 : Nat) : Rat)) (hb : -((20 : Nat) : Rat) ≤ b ∧ b ≤ ((20 : Nat) : Rat)) (hc : -((20 : Nat) : Rat) ≤ c ∧ c ≤ ((20 : Nat) : Rat)) : -((60 : Nat) : Rat) ≤ a + b + c ∧ a + b + c ≤ ((60 : Nat) : Rat) := by
  have e : ((60 : Nat) : Rat) = ((20 : Nat) : Rat) + ((20 : Nat) : Rat) + ((20 : Nat) : Rat) := by rw [← Rat.natCast_add, ← Rat.natCast_add]
  rw [e, Rat.neg_add, Rat.neg_add]
  exact ⟨q_le_add (q_le_add ha.1 hb.1) hc.1, q_le_add (q_le_add ha.2 hb.2) hc.2⟩
theorem ip_191 {d : Nat} {mu : Nat → Nat → Rat} {D : Nat → Int} (hd : d ≤ 5) (hM : cMu d mu D) {t : Nat} (ht : t < 8) : cL (ip (Ecd D t) d) 191 := (ip_cL (fun j hj => (pN_of hM (yM_Pl hd mu) ht j hj).2.1)).mono (by omega)
theorem ip_96 {d : Nat} {mu : Nat → Nat → Rat} {D : Nat → Int} (hd : d ≤ 5) (hM : cMu d mu D) {t : Nat} (ht : t < 6) : cL (ip (Ecd D t) d) 96 := (ip_cL (fun j hj => Ecd_19 hM ht hj)).mono (by omega)
theorem ip_ip {E F : Nat → Int} : ∀ {n : Nat}, (∀ j, j < n → E j ∣ F j) → ip E n ∣ ip F n
  | 0, _ => Int.dvd_refl _
  | n + 1, h => Int.mul_dvd_mul (ip_ip (fun j hj => h j (by omega))) (h n (by omega))
theorem Ecd_06 (D : Nat → Int) (d : Nat) : ip (Ecd D 0) d ∣ ip (Ecd D 6) d := ip_ip (fun j _ => by
  unfold Ecd
  rw [if_pos (by decide), if_neg (by decide)]
  exact ⟨D (4 * j + 3), Int.mul_comm _ _⟩)
theorem vM_1 {mu : Nat → Nat → Rat} {d k s : Nat} (h : 0 < s) : vM mu d k s = wM mu d k s := by unfold vM; rw [if_neg (by omega)]
theorem vM_0 {d : Nat} {mu : Nat → Nat → Rat} {D : Nat → Int} (hd : d ≤ 5) (hM : cMu d mu D) {k : Nat} (hk : k < d) : qD (vM mu d k 0) (ip (Ecd D 2) d * D (4 * k + 3)) ∧ -((60 : Nat) : Rat) ≤ vM mu d k 0 ∧ vM mu d k 0 ≤ ((60 : Nat) : Rat) := by
  unfold vM; rw [if_pos rfl]
  obtain ⟨a1, a2⟩ := wM_facts (k := k) (s := 0) hd hM (by decide)
  obtain ⟨b1, b2⟩ := wM_facts (k := k) (s := 6) hd hM (by decide)
  obtain ⟨c1, c2⟩ := wM_facts (k := k) (s := 7) hd hM (by decide)
  obtain ⟨m1, m2, m3⟩ := hM (4 * k + 3) (by omega)
  obtain ⟨p1, p2, p3⟩ := m3 0 (by decide)
  obtain ⟨r1, r2, r3⟩ := m3 1 (by decide)
  have t0 : tws 0 = 2 := rfl
  have t6 : tws 6 = 3 := rfl
  have t7 : tws 7 = 3 := rfl
  rw [t0] at a1
  rw [t6, Ecd_23] at b1
  rw [t7, Ecd_23] at c1
  have h6 := q_mul_abs p2 p3 b2.1 b2.2
  have h7 := q_mul_abs r2 r3 c2.1 c2.2
  rw [Rat.mul_comm] at h6 h7
  exact ⟨((a1.dvd ⟨_, rfl⟩).add (b1.mul p1)).add (c1.mul r1), q_add3 a2 h6 h7⟩
theorem vM_60 {d : Nat} {mu : Nat → Nat → Rat} {D : Nat → Int} (hd : d ≤ 5) (hM : cMu d mu D) {k s : Nat} (hk : k < d) (hs : s < 8) : -((60 : Nat) : Rat) ≤ vM mu d k s ∧ vM mu d k s ≤ ((60 : Nat) : Rat) := by
  by_cases c : s = 0
  · subst c; exact (vM_0 hd hM hk).2
  · rw [vM_1 (by omega)]
    obtain ⟨a1, a2, a3⟩ := wM_facts (k := k) (s := s) hd hM hs
    exact q_wide (m := 20) (n := 60) (by decide) a2 a3
/-- the worths of a place: denominators, apart and together -/
theorem vM_both {d : Nat} {mu : Nat → Nat → Rat} {D : Nat → Int} (hd : d ≤ 5) (hM : cMu d mu D) {k t : Nat} (hk : k < d) (ht : t < 4) : ∃ ke kf : Nat, ke ≤ 191 ∧ kf ≤ 211 ∧ ke + kf ≤ 382 ∧ (∃ E : Int, 0 < E ∧ cL E kf ∧ ∀ w, w < 2 → qD (vM mu d k (2 * t + w)) E) ∧ ∀ w, w < 2 → ∃ E : Int, 0 < E ∧ cL E ke ∧ qD (vM mu d k (2 * t + w)) E := by
  have h1 : ∀ s, 0 < s → s < 8 → qD (vM mu d k s) (ip (Ecd D (tws s)) d) := fun s h0 h8 => by rw [vM_1 h0]; exact (wM_facts hd hM h8).1
  have h0 := (vM_0 hd hM hk).1
  obtain ⟨m1, m2, m3⟩ := hM (4 * k + 3) (by omega)
  rcases (show t = 0 ∨ t = 1 ∨ t = 2 ∨ t = 3 by omega) with e | e | e | e <;> subst e
  · have p0 := Int.mul_pos (Ecd_ip hM (t := 2) (by decide)) m1
    have p4 := Ecd_ip hM (t := 4) (by decide)
    have l0 := (ip_96 hd hM (t := 2) (by decide)).mul m2
    have l4 := ip_96 hd hM (t := 4) (by decide)
    have h11 : qD (vM mu d k 1) (ip (Ecd D 4) d) := h1 1 (by decide) (by decide)
    refine ⟨115, 211, by decide, by decide, by decide, ⟨ip (Ecd D 2) d * D (4 * k + 3) * ip (Ecd D 4) d, Int.mul_pos p0 p4, (l0.mul l4).mono (by decide), fun w hw => ?_⟩, fun w hw => ?_⟩
    · rcases (show w = 0 ∨ w = 1 by omega) with e | e <;> subst e
      · exact h0.dvd ⟨_, rfl⟩
      · exact h11.dvd ⟨_, Int.mul_comm _ _⟩
    · rcases (show w = 0 ∨ w = 1 by omega) with e | e <;> subst e
      · exact ⟨_, p0, l0.mono (by decide), h0⟩
      · exact ⟨_, p4, l4.mono (by decide), h11⟩
  · have h2 : qD (vM mu d k 2) (ip (Ecd D 0) d) := h1 2 (by decide) (by decide)
    have h3 : qD (vM mu d k 3) (ip (Ecd D 6) d) := h1 3 (by decide) (by decide)
    have p6 := Ecd_ip hM (t := 6) (by decide)
    have l6 := ip_191 hd hM (t := 6) (by decide)
    have hw : ∀ w, w < 2 → qD (vM mu d k (2 * 1 + w)) (ip (Ecd D 6) d) := fun w hw => by
      rcases (show w = 0 ∨ w = 1 by omega) with e | e <;> subst e
      · exact h2.dvd (Ecd_06 D d)
      · exact h3
    exact ⟨191, 191, by decide, by decide, by decide, ⟨_, p6, l6, hw⟩, fun w h => ⟨_, p6, l6, hw w h⟩⟩
  · have h4 : qD (vM mu d k 4) (ip (Ecd D 1) d) := h1 4 (by decide) (by decide)
    have h5 : qD (vM mu d k 5) (ip (Ecd D 1) d) := h1 5 (by decide) (by decide)
    have p6 := Ecd_ip hM (t := 1) (by decide)
    have l6 := ip_191 hd hM (t := 1) (by decide)
    have hw : ∀ w, w < 2 → qD (vM mu d k (2 * 2 + w)) (ip (Ecd D 1) d) := fun w hw => by
      rcases (show w = 0 ∨ w = 1 by omega) with e | e <;> subst e
      · exact h4
      · exact h5
    exact ⟨191, 191, by decide, by decide, by decide, ⟨_, p6, l6, hw⟩, fun w h => ⟨_, p6, l6, hw w h⟩⟩
  · have h4 : qD (vM mu d k 6) (ip (Ecd D 3) d) := h1 6 (by decide) (by decide)
    have h5 : qD (vM mu d k 7) (ip (Ecd D 3) d) := h1 7 (by decide) (by decide)
    have p6 := Ecd_ip hM (t := 3) (by decide)
    have l6 := ip_191 hd hM (t := 3) (by decide)
    have hw : ∀ w, w < 2 → qD (vM mu d k (2 * 3 + w)) (ip (Ecd D 3) d) := fun w hw => by
      rcases (show w = 0 ∨ w = 1 by omega) with e | e <;> subst e
      · exact h4
      · exact h5
    exact ⟨191, 191, by decide, by decide, by decide, ⟨_, p6, l6, hw⟩, fun w h => ⟨_, p6, l6, hw w h⟩⟩
/-- the chance -/
theorem ch_facts {d : Nat} (h3 : 3 ≤ d) (hd : d ≤ 5) : qD (chN d) ((d * (d - 1) : Nat) : Int) ∧ 0 ≤ chN d ∧ chN d ≤ ((1 : Nat) : Rat) ∧ 0 < ((d * (d - 1) : Nat) : Int) ∧ cL ((d * (d - 1) : Nat) : Int) 1 := by
  have hp : 0 < d * (d - 1) := Nat.mul_pos (by omega) (by omega)
  have hle : d * (d - 1) ≤ 5 * 4 := Nat.mul_le_mul hd (by omega)
  have hr : (0 : Rat) < ((d * (d - 1) : Nat) : Rat) := Rat.natCast_pos.mpr hp
  have hz : ((d * (d - 1) : Nat) : Rat) ≠ 0 := fun e => by rw [e] at hr; exact absurd hr (by decide)
  have hm : chN d * ((d * (d - 1) : Nat) : Rat) = 1 := by unfold chN; rw [Rat.div_mul_cancel hz, Rat.intCast_one]
  refine ⟨⟨1, by rw [Rat.intCast_natCast, hm, Rat.intCast_one]⟩, ?_, ?_, by omega, ?_⟩
  · unfold chN
    rw [Rat.div_def, Rat.intCast_one, Rat.one_mul]
    exact Rat.le_of_lt (Rat.inv_pos.mpr hr)
  · refine Rat.le_of_mul_le_mul_right (c := ((d * (d - 1) : Nat) : Rat)) ?_ hr
    rw [hm, ← Rat.natCast_mul, Nat.one_mul]
    have h8 : ((1 : Nat) : Rat) ≤ ((d * (d - 1) : Nat) : Rat) := Rat.natCast_le_natCast.mpr hp
    exact h8
  · unfold cL
    rw [Int.natAbs_natCast, Nat.pow_one]
    exact Nat.lt_of_le_of_lt hle (by decide)
theorem q_ch {d : Nat} {x : Rat} {B : Nat} (h3 : 3 ≤ d) (hd : d ≤ 5) (h1 : -((B : Nat) : Rat) ≤ x) (h2 : x ≤ ((B : Nat) : Rat)) : -((B : Nat) : Rat) ≤ x * chN d ∧ x * chN d ≤ ((B : Nat) : Rat) := by
  obtain ⟨-, c2, c3, -⟩ := ch_facts h3 hd
  rw [Rat.mul_comm]
  exact q_mul_abs c2 c3 h1 h2
/-- the worth of a place's way, with the chance -/
def vC (mu : Nat → Nat → Rat) (d p w : Nat) : Rat := vM mu d (p / 4) (2 * (p % 4) + w) * chN d
def kav (mu : Nat → Nat → Rat) (d p : Nat) : Rat := qs (fun w => mu p w * vC mu d p w) 2
/-- what a round of cards makes of a place -/
def kR (y : Nat → Rat) (d p w : Nat) : Rat := y (p * 2 + w) + (vC (cmu y 0) d p w - kav (cmu y 0) d p)
def kS (y : Nat → Rat) (p w : Nat) : Rat := y (40 + (p * 2 + w)) + pM (cmu y 0) (p / 4) (2 * (p % 4) + w)
def kFit (y : Nat → Rat) (d p w : Nat) : Prop := qB (kR y d p w) ≤ 256 ∧ qB (kS y p w) ≤ 256
section
variable {u z rk jf ln ng cg tb rn d : Nat} {c ro fx : Nat → Nat} {M : rg_M} {y : Nat → Rat}
theorem cC_learn (hE : cE u z rk c jf ln ng cg tb rn ro fx M y) (hI : cLi ln (4 * d) 2 2 2 M) (hK : cDk cg d M) (h3 : 3 ≤ d) (hd : d ≤ 5) (hok : ∀ s, s < 80 → qL (y s) 9) (hC : y 244 = chN d) : ∃ M' y' r, rC_learn cg M = some (r, M') ∧ cE u z rk c jf ln ng cg tb rn ro fx M' y' ∧ cG M M' ∧ (∀ i, (i < 80 ∨ (i = 244 ∨ i = 247)) → y' i = y i) ∧ ((r = 1 ∧ ∀ p w, p < 4 * d → w < 2 → y' (80 + (p * 2 + w)) = kR y d p w ∧ y' (120 + (p * 2 + w)) = kS y p w ∧ kFit y d p w) ∨ (r = 0 ∧ ∃ p w, p < 4 * d ∧ w < 2 ∧ ¬ kFit y d p w)) := by
  obtain ⟨M1, M2, M3, y3, D, a1, a2, a3, a4, a5, a6, a7, a8, a9, a10, a11⟩ := cC_prep hE hI hK hd hok (kk := 0) (by decide)
  rw [Nat.mul_zero] at a8 a9
  obtain ⟨c1, c2, c3, c4, c5⟩ := ch_facts h3 hd
  have e244 : y3 244 = chN d := by rw [a11 _ (by decide) (by omega), hC]
  have lC : qL (y3 244) 400 := by
    rw [e244]
    exact (c1.L (b := 1) c4 c5 (by decide) (Rat.le_trans (by decide) c2) c3).mono (by decide)
  obtain ⟨N1, N2, N3, N4, y5, y4, b1, b2, b3, b4, b5, b6, b7, b8, b9, b10, b11, b12⟩ := cC_toplaces a6 (hK.G a7) hd a9 a8 a10 lC
  have v5 : ∀ k s, k < d → s < 8 → y5 (200 + (8 * k + s)) = vM (cmu y 0) d k s := fun k s hk hs => by
    by_cases c : s = 0
    · subst c
      rw [show 200 + (8 * k + 0) = 200 + 8 * k from rfl, b9 k hk, cw0_M a8, cw0_M a8, cw0_M a8]; rfl
    · rw [b10 k s hk (by omega) hs, cw0_M a8, vM_1 (by omega)]
  have v4 : ∀ p w, p < 4 * d → w < 2 → y4 (200 + (p * 2 + w)) = vC (cmu y 0) d p w := fun p w hp hw => by
    rw [b11 _ (by omega), e244, show 200 + (p * 2 + w) = 200 + (8 * (p / 4) + (2 * (p % 4) + w)) by omega, v5 _ _ (by omega) (by omega)]; rfl
  have m4 : ∀ p w, p < 4 * d → w < 2 → y4 (160 + (p * 2 + w)) = cmu y 0 p w := fun p w hp hw => by
    rw [b12 _ (by omega) (by omega)]; exact a8.1 p w hp hw
  have p4 : ∀ p w, p < 4 * d → w < 2 → y4 (plx (p * 2 + w)) = pM (cmu y 0) (p / 4) (2 * (p % 4) + w) := fun p w hp hw => by
    have hx := plx_far (s := p * 2 + w) (by omega)
    have ho := plx_out (i := p * 2 + w) (by omega)
    rw [b12 _ (by unfold plx; split <;> omega) (by unfold plx; split <;> omega), show p * 2 + w = 8 * (p / 4) + (2 * (p % 4) + w) by omega]
    exact cPl_v a8 (by omega) (by omega)
  have y4o : ∀ i, i < 160 → y4 i = y i := fun i hi => by rw [b12 i (by omega) (by omega), a11 i (by omega) (by omega)]
  have hz : ∀ p, p < 4 * d → cSz y4 p := fun p hp => by
    obtain ⟨ke, kf, q1, q2, q3, ⟨E, q4, q5, q6⟩, q7⟩ := vM_both hd a9 (k := p / 4) (t := p % 4) (by omega) (by omega)
    obtain ⟨m1, m2, m3⟩ := a9 p hp
    have hb : ∀ w, w < 2 → -((60 : Nat) : Rat) ≤ vC (cmu y 0) d p w ∧ vC (cmu y 0) d p w ≤ ((60 : Nat) : Rat) := fun w hw => by
      obtain ⟨x1, x2⟩ := vM_60 hd a9 (k := p / 4) (s := 2 * (p % 4) + w) (by omega) (by omega)
      exact q_ch h3 hd x1 x2
    refine ⟨ke + 1 + 1, 19 + (kf + 1) + 1, by omega, by omega, by omega, fun w hw => ⟨?_, ?_, ?_, ?_, ?_⟩, fun j hj => ?_⟩
    · rw [y4o _ (by omega)]; exact hok _ (by omega)
    · rw [y4o _ (by omega)]; exact hok _ (by omega)
    · rw [m4 p w hp hw]
      obtain ⟨x1, x2, x3⟩ := m3 w hw
      exact x1.L (b := 1) m1 m2 (by decide) (Rat.le_trans (by decide) x2) x3
    · rw [v4 p w hp hw]
      obtain ⟨E', x1, x2, x3⟩ := q7 w hw
      exact (x3.mul c1).L (b := 60) (Int.mul_pos x1 c4) (x2.mul c5) (by decide) (hb w hw).1 (hb w hw).2
    · rw [p4 p w hp hw]
      obtain ⟨x1, x2, x3, x4, x5⟩ := pN_of a9 (yM_Pl hd (cmu y 0)) (t := 2 * (p % 4) + w) (by omega) (p / 4) (by omega)
      rw [cPl_v (yM_Pl hd (cmu y 0)) (by omega) (by omega)] at x3 x4 x5
      exact (x3.L (b := 1) x1 x2 (by decide) (Rat.le_trans (by decide) x4) x5).mono (by decide)
    · have e : qs (fun w => y4 (160 + (p * 2 + w)) * y4 (200 + (p * 2 + w))) j = qs (fun w => cmu y 0 p w * vC (cmu y 0) d p w) j := qs_cong (fun w hw => by rw [m4 p w hp (by omega), v4 p w hp (by omega)])
      rw [e]
      exact qN.avg (n := 2) (B := 60) (D := D p) (E := E * ((d * (d - 1) : Nat) : Int)) ⟨m1, m3⟩ m2 (q5.mul c5) (Int.mul_pos q4 c4) hj (fun w hw => ⟨(q6 w hw).mul c1, hb w hw⟩) (by decide)
  obtain ⟨M', y', r, d1, d2, d3, d4, d5⟩ := cC_learn78 (u := u) (z := z) (rk := rk) (jf := jf) (ln := ln) (ng := ng) (cg := cg) (tb := tb) (rn := rn) (d := d) (c := c) (ro := ro) (fx := fx) (y := y4) hd hz _ 0 rfl (Nat.zero_le _) N4 y4 b7 (hI.G (a7.tr b8)) (fun _ _ _ _ => rfl) (fun p w hp _ => by omega)
  have d1 : rC_learn_78 cg 0 N4 = _ := d1
  have eR : ∀ p w, p < 4 * d → w < 2 → cRn y4 p w = kR y d p w := fun p w hp hw => by
    have ea : cav y4 p = kav (cmu y 0) d p := qs_cong (fun w hw => by rw [m4 p w hp hw, v4 p w hp hw])
    unfold cRn kR
    rw [y4o _ (by omega), v4 p w hp hw, ea]
  have eS : ∀ p w, p < 4 * d → w < 2 → cSn y4 p w = kS y p w := fun p w hp hw => by
    unfold cSn kS
    rw [y4o _ (by omega), p4 p w hp hw]
  have eF : ∀ p w, p < 4 * d → w < 2 → (cFit y4 p w ↔ kFit y d p w) := fun p w hp hw => by
    unfold cFit kFit; rw [eR p w hp hw, eS p w hp hw]
  have A := hE.1.all
  have A1 := a4.all
  have A2 := a5.all
  have A3 := a6.1.all
  have B1 := b5.all
  have B2 := b6.all
  refine ⟨M', y', r, ?_, d2, a7.tr (b8.tr d4), fun i hi => ?_, ?_⟩
  · rw [rC_learn_u, rC_learn_e]
    simp only [A, A1, A2, A3, B1, B2, if_true, Option.bind_some, a1, a2, a3, b1, b2, b3, b4, d1]
    rfl
  · rw [d3 i (by omega) (by omega) (by omega), b12 i (by omega) (by omega), a11 i (by omega) (by omega)]
  · rcases d5 with ⟨r1, v1⟩ | ⟨r0, p, w, hp, hw, v0⟩
    · refine Or.inl ⟨r1, fun p w hp hw => ?_⟩
      obtain ⟨t1, t2, t3⟩ := v1 p w hp hw
      exact ⟨by rw [t1, eR p w hp hw], by rw [t2, eS p w hp hw], (eF p w hp hw).mp t3⟩
    · exact Or.inr ⟨r0, p, w, hp, hw, fun h => v0 ((eF p w hp hw).mpr h)⟩
end

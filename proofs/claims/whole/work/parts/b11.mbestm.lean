/-! the reference: the best answer, the gap -/
section
variable {m aS aL aG aN aB : Nat} {M : rg_M}
variable {S L G : Nat → Int32} {V : Nat → Int}
/-- what the best answer gets at the cards -/
theorem rm_bestC (H : rm_F m aS aL aG aN aB M) {s : sS} {n0 p r c : Nat} (hok : ts_ok n0 s) (hg2 : ts_g s = 2) (hg : rg_I M 115 m = nI 2) (hr : rg_I M 116 m = nI r) (hc : rg_I M 117 m = nI c) (hdk : rg_I M 118 m = nI (ts_d s)) (hp : p < 2) (hV : rm_V S L G V) (hs : mV s V) :
    ∃ (S' L' G' : Nat → Int32) (V' : Nat → Int), rM_best m (nI p) (rm_w aS aL aG M S L G) = some (rm_w aS aL aG M S' L' G') ∧ rm_V S' L' G' V' ∧ mV s V' ∧ V' 409 = (ts_best s p).num ∧ V' 410 = ((ts_best s p).den : Int) ∧ V' 414 = V 414 ∧ V' 415 = V 415 := by
  have hK := H.1
  obtain ⟨d1, d2⟩ := hok.2.2.2.1 hg2
  -- all means
  have wall : ∀ e j : Nat, 4 * ts_d s - j = e → j ≤ 4 * ts_d s → ∀ (S L G : Nat → Int32) (V1 : Nat → Int), rm_V S L G V1 → mV s V1 → (V1 414 = V 414 ∧ V1 415 = V 415) → (∀ p, p < j → 0 < V1 (360 + p) ∧ rm_lt (V1 (360 + p)) 18 ∧ ∀ w, w < 2 → rm_lt (V1 (320 + 2 * p + w)) 17 ∧ cmu (ts_y s) 40 p w * ((V1 (360 + p) : Int) : Rat) = ((V1 (320 + 2 * p + w) : Int) : Rat)) → ∃ (S' L' G' : Nat → Int32) (V' : Nat → Int), rM_best_10 m (nI p) (nI j) (rm_w aS aL aG M S L G) = rM_best_45 m (nI p) 0 (rm_w aS aL aG M S' L' G') ∧ rm_V S' L' G' V' ∧ mV s V' ∧ (V' 414 = V 414 ∧ V' 415 = V 415) ∧ wOk (ts_d s) (cmu (ts_y s) 40) V' ∧ acc V' 409 410 0 1 := by
    intro e
    induction e with
    | zero =>
      intro j he hj S L G V1 hV1 hs hh hdone
      have e : j = 4 * ts_d s := by omega
      rw [e] at hdone
      have hw1 : wOk (ts_d s) (cmu (ts_y s) 40) V1 := hdone
      obtain ⟨S2, L2, G2, V2, b1, b2, b3, b4⟩ := rm_sum0A H (n := 409) (d := 410) (Or.inr (Or.inr (Or.inl ⟨rfl, rfl⟩))) hV1
      have b1 : rM_sum0 m 409 410 (rm_w aS aL aG M S L G) = _ := b1
      rw [rM_best_10_e]
      simp only [rm_wK, rm_wI, hK, hdk, if_true, nI_4d, e, Int32.le_refl, b1, Option.bind_some]
      exact ⟨S2, L2, G2, V2, rfl, b2, hs.keep (fun q hq => b4 q (by omega) (by omega)) (b4 _ (by decide) (by decide)) (b4 _ (by decide) (by decide)) (b4 _ (by decide) (by decide)), ⟨by rw [b4 _ (by decide) (by decide)]; exact hh.1, by rw [b4 _ (by decide) (by decide)]; exact hh.2⟩, hw1.keep d2 (fun q _ h2 => b4 q (by omega) (by omega)), b3⟩
    | succ e ih =>
      intro j he hj S L G V1 hV1 hs hh hdone
      have hjd : j < 4 * ts_d s := by omega
      obtain ⟨S2, L2, G2, V2, a1, a2, a3, a4⟩ := rm_wcard H (p := j) (o := 80) (o2 := 40) hok hg2 hg hr hc hjd (Or.inr ⟨rfl, rfl⟩) hV1 hs
      have a1 : rM_weigh m (nI j) 80 (rm_w aS aL aG M S L G) = _ := a1
      rw [rM_best_10_e]
      simp only [rm_wK, rm_wI, hK, hdk, if_true, nI_4d, show ¬ nI (4 * ts_d s) ≤ nI j by rw [nI_leI (by omega) (by omega)]; omega, if_false, a1, Option.bind_some, nI_1]
      refine ih (j + 1) (by omega) (by omega) S2 L2 G2 V2 a2 (hs.keep (fun q hq => a4 q (by omega) (by omega) (by omega) (by omega)) (a4 _ (by omega) (by omega) (by omega) (by omega)) (a4 _ (by omega) (by omega) (by omega) (by omega)) (a4 _ (by omega) (by omega) (by omega) (by omega))) ⟨by rw [a4 _ (by omega) (by omega) (by omega) (by omega)]; exact hh.1, by rw [a4 _ (by omega) (by omega) (by omega) (by omega)]; exact hh.2⟩ (fun p hp => ?_)
      by_cases e : p = j
      · rw [e]; exact a3
      · rw [a4 (360 + p) (by omega) (by omega) (by omega) (by omega)]
        refine ⟨(hdone p (by omega)).1, (hdone p (by omega)).2.1, fun w hw => ?_⟩
        rw [a4 (320 + 2 * p + w) (by omega) (by omega) (by omega) (by omega)]
        exact (hdone p (by omega)).2.2 w hw
  obtain ⟨S1, L1, G1, V1, a1, a2, a3, a4, a5, a6⟩ := wall _ 0 rfl (Nat.zero_le _) S L G V hV hs ⟨rfl, rfl⟩ (fun p hp => by omega)
  have a1 : rM_best_10 m (nI p) 0 (rm_w aS aL aG M S L G) = _ := a1
  -- card by card
  obtain ⟨F, hF⟩ : ∃ F : Nat → Rat, F = fun k => if p = 0 then fA (cmu (ts_y s) 40) (ts_d s) k else fB (cmu (ts_y s) 40) (ts_d s) k := ⟨_, rfl⟩
  have go : ∀ e j : Nat, ts_d s - j = e → j ≤ ts_d s → ∀ (S L G : Nat → Int32) (V2 : Nat → Int), rm_V S L G V2 → mV s V2 → (V2 414 = V 414 ∧ V2 415 = V 415) → wOk (ts_d s) (cmu (ts_y s) 40) V2 → acc V2 409 410 (qs F j) (1 + 300 * j) → ∃ (S' L' G' : Nat → Int32) (V' : Nat → Int), rM_best_45 m (nI p) (nI j) (rm_w aS aL aG M S L G) = rM_best_45 m (nI p) (nI (ts_d s)) (rm_w aS aL aG M S' L' G') ∧ rm_V S' L' G' V' ∧ mV s V' ∧ (V' 414 = V 414 ∧ V' 415 = V 415) ∧ acc V' 409 410 (qs F (ts_d s)) (1 + 300 * ts_d s) := by
    intro e
    induction e with
    | zero =>
      intro j he hj S L G V2 hV2 hs2 hh hw2 ha
      have e : j = ts_d s := by omega
      subst e
      exact ⟨S, L, G, V2, rfl, hV2, hs2, hh, ha⟩
    | succ e ih =>
      intro j he hj S L G V2 hV2 hs2 hh hw2 ha
      have hjd : j < ts_d s := by omega
      have pd : ¬ nI (ts_d s) ≤ nI j := by rw [nI_leI (by omega) (by omega)]; omega
      have one : ∃ (S' L' G' : Nat → Int32) (V' : Nat → Int), rM_best_45 m (nI p) (nI j) (rm_w aS aL aG M S L G) = rM_best_45 m (nI p) (nI (j + 1)) (rm_w aS aL aG M S' L' G') ∧ rm_V S' L' G' V' ∧ acc V' 409 410 (qs F j + F j) (1 + 300 * (j + 1)) ∧ ∀ q, (q < 382 ∨ q = 413 ∨ q = 414 ∨ q = 415) → V' q = V2 q := by
        rw [rM_best_45_e]
        simp only [rm_wK, rm_wI, hK, hdk, if_true, pd, if_false]
        rcases (show p = 0 ∨ p = 1 by omega) with ep | ep
        · subst ep
          obtain ⟨S3, L3, G3, V3, b1, b2, b3, b4⟩ := rm_bestA H (k := j) d2 hdk hjd hV2 hw2 ha (by omega)
          rw [if_pos (show nI 0 = (0 : Int32) from rfl)]
          simp only [b1, Option.bind_some, rM_best_70_e, nI_1]
          exact ⟨S3, L3, G3, V3, rfl, b2, (b3.to (by rw [hF]; rfl)).mono (by omega), b4⟩
        · subst ep
          obtain ⟨S3, L3, G3, V3, b1, b2, b3, b4⟩ := rm_bestB H (k := j) d2 hdk hjd hV2 hw2 ha (by omega)
          rw [if_neg (show ¬ nI 1 = (0 : Int32) by decide)]
          simp only [b1, Option.bind_some, rM_best_70_e, nI_1]
          exact ⟨S3, L3, G3, V3, rfl, b2, (b3.to (by rw [hF]; rfl)).mono (by omega), b4⟩
      obtain ⟨S3, L3, G3, V3, b1, b2, b3, b4⟩ := one
      obtain ⟨S4, L4, G4, V4, c1, c2, c3, c4, c5⟩ := ih (j + 1) (by omega) (by omega) S3 L3 G3 V3 b2 (hs2.keep (fun q hq => b4 q (by omega)) (b4 _ (by omega)) (b4 _ (by omega)) (b4 _ (by omega))) ⟨by rw [b4 _ (by omega)]; exact hh.1, by rw [b4 _ (by omega)]; exact hh.2⟩ (hw2.keep d2 (fun q _ h2 => b4 q (by omega))) b3
      exact ⟨S4, L4, G4, V4, by rw [b1, c1], c2, c3, c4, c5⟩
  obtain ⟨S2, L2, G2, V2, b1, b2, b3, b4, b5⟩ := go _ 0 rfl (Nat.zero_le _) S1 L1 G1 V1 a2 a3 a4 a5 a6
  have b1 : rM_best_45 m (nI p) 0 (rm_w aS aL aG M S1 L1 G1) = _ := b1
  obtain ⟨S3, L3, G3, V3, c1, c2, c3, c4⟩ := rm_chA H (n := 409) (d' := 410) (d := ts_d s) (Or.inr (Or.inr (Or.inl ⟨rfl, rfl⟩))) d1 d2 b2 b5 (by omega)
  have c1 : rM_scale m 410 ((nI (ts_d s)).toInt64 * (nI (ts_d s) - (1 : Int32)).toInt64) (rm_w aS aL aG M S2 L2 G2) = _ := c1
  obtain ⟨S4, L4, G4, V4, e1, e2, e3, e4, e5, e6⟩ := rm_lowA H (n := 409) (d := 410) (Or.inr (Or.inr (Or.inl ⟨rfl, rfl⟩))) c2 c3
  have e1 : rM_lower m 409 410 (rm_w aS aL aG M S3 L3 G3) = _ := e1
  have eb : qs F (ts_d s) * chN (ts_d s) = ts_best s p := by
    unfold ts_best kBest
    rw [if_pos hg2, hF]
    rcases (show p = 0 ∨ p = 1 by omega) with ep | ep
    · subst ep
      rw [if_neg (by decide), if_pos rfl, Rat.add_zero]
      rfl
    · subst ep
      rw [if_pos rfl, if_neg (by decide), Rat.zero_add]
      rfl
  rw [eb] at e4 e5
  have f4 : ∀ q, (q < 382 ∨ q = 413 ∨ q = 414 ∨ q = 415) → V4 q = V2 q := fun q hq => by
    by_cases k6 : q = 386
    · omega
    · rw [e6 q (by omega) (by omega) k6, c4 q (by omega) (by omega) (by omega)]
  rw [rM_best_u, rM_best_e]
  have hg' : rg_I M 115 m = (2 : Int32) := hg
  simp only [rm_wK, rm_wI, hK, hg', if_true, a1, b1]
  rw [rM_best_45_e]
  simp only [rm_wK, rm_wI, hK, hdk, if_true, Int32.le_refl, c1, e1, Option.bind_some]
  exact ⟨S4, L4, G4, V4, rfl, e2, b3.keep (fun q hq => f4 q (by omega)) (f4 _ (by omega)) (f4 _ (by omega)) (f4 _ (by omega)), e4, e5, by rw [f4 _ (by omega)]; exact b4.1, by rw [f4 _ (by omega)]; exact b4.2⟩
/-- the reference's ints -/
def mInt (m : Nat) (s : sS) (M : rg_M) : Prop := rg_I M 115 m = nI (ts_g s) ∧ rg_I M 116 m = nI (ts_a s) ∧ rg_I M 117 m = nI (ts_e s) ∧ rg_I M 118 m = nI (ts_d s) ∧ rg_I M 119 m = nI (ts_n s) ∧ rg_I M 120 m = nI (ts_na s) ∧ rg_I M 121 m = nI (ts_nb s)
/-- what the best answer gets -/
theorem rm_bestM (H : rm_F m aS aL aG aN aB M) {s : sS} {n0 p : Nat} (hok : ts_ok n0 s) (hg0 : ts_g s ≠ 0) (hI : mInt m s M) (hnum : ts_g s = 1 → ∀ i, i < 25 → rg_A M aN i = ts_num s i) (hp : p < 2) (hV : rm_V S L G V) (hs : mV s V) :
    ∃ (S' L' G' : Nat → Int32) (V' : Nat → Int), rM_best m (nI p) (rm_w aS aL aG M S L G) = some (rm_w aS aL aG M S' L' G') ∧ rm_V S' L' G' V' ∧ mV s V' ∧ V' 409 = (ts_best s p).num ∧ V' 410 = ((ts_best s p).den : Int) ∧ V' 414 = V 414 ∧ V' 415 = V 415 := by
  obtain ⟨i1, i2, i3, i4, -⟩ := hI
  by_cases cg2 : ts_g s = 2
  · exact rm_bestC H hok cg2 (by rw [i1, cg2]) i2 i3 i4 hp hV hs
  · have cg1 : ts_g s = 1 := by have := hok.1; omega
    exact rm_bestT H hok cg1 (by rw [i1, cg1]) i2 i3 (hnum cg1) hp hV hs
theorem ts_best2 (s : sS) : ts_best s 2 = ts_best s 1 + ts_best s 0 := by
  unfold ts_best
  by_cases c : ts_g s = 2
  · rw [if_pos c, if_pos c, if_pos c]
    unfold kBest
    rw [if_neg (by decide), if_neg (by decide), if_pos rfl, if_neg (by decide), if_neg (by decide), if_pos rfl]
    grind
  · rw [if_neg c, if_neg c, if_neg c]
    unfold tBests
    rw [if_neg (by decide), if_neg (by decide), if_neg (by decide), if_pos rfl, if_pos rfl, Rat.add_comm]
/-- the gap -/
theorem rm_gapM (H : rm_F m aS aL aG aN aB M) {s : sS} {n0 : Nat} (hok : ts_ok n0 s) (hg0 : ts_g s ≠ 0) (hI : mInt m s M) (hnum : ts_g s = 1 → ∀ i, i < 25 → rg_A M aN i = ts_num s i) (hV : rm_V S L G V) (hs : mV s V) :
    ∃ (S' L' G' : Nat → Int32) (V' : Nat → Int), rM_gap m (rm_w aS aL aG M S L G) = some (rm_w aS aL aG M S' L' G') ∧ rm_V S' L' G' V' ∧ mV s V' ∧ V' 409 = (ts_best s 2).num ∧ V' 410 = ((ts_best s 2).den : Int) := by
  have hK := H.1
  have l0 := ts_best_L hok hg0 0
  have l1 := ts_best_L hok hg0 1
  obtain ⟨S1, L1, G1, V1, a1, a2, a3, a4, a5, -⟩ := rm_bestM H (p := 0) hok hg0 hI hnum (by decide) hV hs
  have a1 : rM_best m 0 (rm_w aS aL aG M S L G) = _ := a1
  obtain ⟨S2, L2, G2, b1, b2⟩ := rm_copyV H (a := 409) (c := 414) (by decide) (by decide) (by decide) a2 (by rw [a4]; exact (cL_rm l0.1).mono (by decide))
  rw [a4] at b2
  have b1 : rM_copy m 409 414 (rm_w aS aL aG M S1 L1 G1) = _ := b1
  have e10 : va_up V1 414 (ts_best s 0).num 410 = ((ts_best s 0).den : Int) := by rw [rg_up_ne (by decide)]; exact a5
  obtain ⟨S3, L3, G3, c1, c2⟩ := rm_copyV H (a := 410) (c := 415) (by decide) (by decide) (by decide) b2 (by rw [e10]; exact (cL_rm l0.2).mono (by decide))
  rw [e10] at c2
  have c1 : rM_copy m 410 415 (rm_w aS aL aG M S2 L2 G2) = _ := c1
  have v3 : ∀ q, q ≠ 414 → q ≠ 415 → va_up (va_up V1 414 (ts_best s 0).num) 415 ((ts_best s 0).den : Int) q = V1 q := fun q a b => by rw [rg_up_ne b, rg_up_ne a]
  have s3 : mV s (va_up (va_up V1 414 (ts_best s 0).num) 415 ((ts_best s 0).den : Int)) := a3.keep (fun q hq => v3 q (by omega) (by omega)) (v3 _ (by decide) (by decide)) (v3 _ (by decide) (by decide)) (v3 _ (by decide) (by decide))
  obtain ⟨S4, L4, G4, V4, d1, d2, d3, d4, d5, d6, d7⟩ := rm_bestM H (p := 1) hok hg0 hI hnum (by decide) c2 s3
  have d1 : rM_best m 1 (rm_w aS aL aG M S3 L3 G3) = _ := d1
  rw [rg_up_ne (by decide), rg_up_eq] at d6
  rw [rg_up_eq] at d7
  obtain ⟨S5, L5, G5, t1, t2⟩ := rm_copyV H (a := 414) (c := 393) (by decide) (by decide) (by decide) d2 (by rw [d6]; exact (cL_rm l0.1).mono (by decide))
  rw [d6] at t2
  have t1 : rM_copy m 414 393 (rm_w aS aL aG M S4 L4 G4) = _ := t1
  have e15 : va_up V4 393 (ts_best s 0).num 415 = ((ts_best s 0).den : Int) := by rw [rg_up_ne (by decide)]; exact d7
  obtain ⟨S6, L6, G6, u1, u2⟩ := rm_copyV H (a := 415) (c := 394) (by decide) (by decide) (by decide) t2 (by rw [e15]; exact (cL_rm l0.2).mono (by decide))
  rw [e15] at u2
  have u1 : rM_copy m 415 394 (rm_w aS aL aG M S5 L5 G5) = _ := u1
  have v6 : ∀ q, q ≠ 393 → q ≠ 394 → va_up (va_up V4 393 (ts_best s 0).num) 394 ((ts_best s 0).den : Int) q = V4 q := fun q a b => by rw [rg_up_ne b, rg_up_ne a]
  have v93 : va_up (va_up V4 393 (ts_best s 0).num) 394 ((ts_best s 0).den : Int) 393 = (ts_best s 0).num := by rw [rg_up_ne (by decide), rg_up_eq]
  have v94 : va_up (va_up V4 393 (ts_best s 0).num) 394 ((ts_best s 0).den : Int) 394 = ((ts_best s 0).den : Int) := rg_up_eq
  have ha : acc (va_up (va_up V4 393 (ts_best s 0).num) 394 ((ts_best s 0).den : Int)) 409 410 (ts_best s 1) 425 := by
    refine ⟨?_, ?_, ?_, ?_⟩
    · rw [v6 _ (by decide) (by decide), d5]; exact q_den _
    · rw [v6 _ (by decide) (by decide), d4]; exact cL_rm l1.1
    · rw [v6 _ (by decide) (by decide), d5]; exact cL_rm l1.2
    · rw [v6 _ (by decide) (by decide), v6 _ (by decide) (by decide), d4, d5]; exact qv_nd _
  obtain ⟨S7, L7, G7, V7, w1, w2, w3, w4⟩ := rm_sumA H (n := 409) (d := 410) (l := 425) (Or.inr (Or.inr (Or.inl ⟨rfl, rfl⟩))) u2 ha (by rw [v93]; exact cL_rm l0.1) (by rw [v94]; exact cL_rm l0.2) (by rw [v94]; exact q_den _) (by decide)
  have w1 : rM_sum m 409 410 (rm_w aS aL aG M S6 L6 G6) = _ := w1
  rw [v93, v94, qv_nd, ← ts_best2] at w3
  obtain ⟨S8, L8, G8, V8, x1, x2, x3, x4, x5, x6⟩ := rm_lowA H (n := 409) (d := 410) (Or.inr (Or.inr (Or.inl ⟨rfl, rfl⟩))) w2 w3
  have x1 : rM_lower m 409 410 (rm_w aS aL aG M S7 L7 G7) = _ := x1
  have f8 : ∀ q, (q < 382 ∨ q = 413) → V8 q = V4 q := fun q hq => by rw [x6 q (by omega) (by omega) (by omega), w4 q (by omega) (by omega) (by omega) (by omega), v6 q (by omega) (by omega)]
  refine ⟨S8, L8, G8, V8, ?_, x2, d3.keep (fun q hq => f8 q (by omega)) (f8 _ (by omega)) (f8 _ (by omega)) (f8 _ (by omega)), x4, x5⟩
  rw [rM_gap_u, rM_gap_e]
  simp only [rm_wK, hK, if_true, a1, b1, c1, d1, t1, u1, w1, x1, Option.bind_some]
  rfl
end

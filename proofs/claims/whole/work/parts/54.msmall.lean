/-! the reference's small methods -/
def rm_wy (g r c p : Nat) : Nat := if g = 2 then 2 else if p = 0 then r else c
def rm_sl (g p w : Nat) : Nat := if g = 2 then 2 * p + w else 5 * p + w
def rm_pl (g d : Nat) : Nat := if g = 1 then 2 else if g = 2 then 4 * d else 0
section
variable {m aS aL aG aN aB : Nat} {M : rg_M}
theorem rm_ways (hK : rg_K M m = 8) {g r c p : Nat} (hg : rg_I M 115 m = nI g) (hr : rg_I M 116 m = nI r) (hc : rg_I M 117 m = nI c) (h1 : g < 3) (h2 : p < 100) : rM_ways m (nI p) M = some (nI (rm_wy g r c p), M) := by
  rw [rM_ways_u, rM_ways_e]
  unfold rm_wy
  have e2 : (2 : Int32) = nI 2 := rfl
  by_cases q : g = 2
  · have q1 : nI g = (2 : Int32) := by rw [q]; rfl
    simp only [hK, hg, q1, if_true, rM_ways_27_e, if_pos q]; rfl
  · have q1 : ¬ nI g = (2 : Int32) := by rw [e2, nI_eq (by omega) (by omega)]; exact q
    by_cases q2 : p = 0
    · have q3 : nI p = (0 : Int32) := by rw [q2]; rfl
      simp only [hK, hg, hr, q1, q3, if_true, if_false, rM_ways_27_e, if_neg q, if_pos q2]; rfl
    · have q3 : ¬ nI p = (0 : Int32) := nI_ne0 (by omega) (by omega)
      simp only [hK, hg, hc, q1, q3, if_true, if_false, rM_ways_27_e, if_neg q, if_neg q2]; rfl
theorem rm_slot (hK : rg_K M m = 8) {g p w : Nat} (hg : rg_I M 115 m = nI g) (h1 : g < 3) : rM_slot m (nI p) (nI w) M = some (nI (rm_sl g p w), M) := by
  rw [rM_slot_u, rM_slot_e]
  unfold rm_sl
  have e2 : (2 : Int32) = nI 2 := rfl
  have e5 : (5 : Int32) = nI 5 := rfl
  by_cases q : g = 2
  · have q1 : nI g = (2 : Int32) := by rw [q]; rfl
    simp only [hK, hg, q1, if_true, rM_slot_21_e, if_pos q]
    rw [e2, pk_mul, nI_add]; rfl
  · have q1 : ¬ nI g = (2 : Int32) := by rw [e2, nI_eq (by omega) (by omega)]; exact q
    simp only [hK, hg, q1, if_true, if_false, rM_slot_21_e, if_neg q]
    rw [e5, pk_mul, nI_add]; rfl
theorem rm_places (hK : rg_K M m = 8) {g d : Nat} (hg : rg_I M 115 m = nI g) (hd : rg_I M 118 m = nI d) (h1 : g < 3) : rM_places m M = some (nI (rm_pl g d), M) := by
  rw [rM_places_u, rM_places_e]
  unfold rm_pl
  have e1 : (1 : Int32) = nI 1 := rfl
  have e2 : (2 : Int32) = nI 2 := rfl
  have e4 : (4 : Int32) = nI 4 := rfl
  by_cases q : g = 1
  · have q1 : nI g = (1 : Int32) := by rw [q]; rfl
    simp only [hK, hg, q1, if_true, rM_places_30_e, if_pos q]; rfl
  · have q1 : ¬ nI g = (1 : Int32) := by rw [e1, nI_eq (by omega) (by omega)]; exact q
    by_cases q2 : g = 2
    · have q3 : nI g = (2 : Int32) := by rw [q2]; rfl
      have q4 : ¬ (2 : Int32) = 1 := by decide
      simp only [hK, hg, hd, q3, q4, if_true, if_false, rM_places_30_e, if_neg q, if_pos q2]
      rw [e4, pk_mul]; rfl
    · have q3 : ¬ nI g = (2 : Int32) := by rw [e2, nI_eq (by omega) (by omega)]; exact q2
      simp only [hK, hg, q1, q3, if_true, if_false, rM_places_30_e, if_neg q, if_neg q2]; rfl
theorem rm_first (k : Nat) : rM_first (nI k) M = some (nI (4 * k), M) := by
  rw [rM_first_u, rM_first_e, show (4 : Int32) = nI 4 from rfl, pk_mul]; rfl
theorem rm_behind (k : Nat) : rM_behind (nI k) M = some (nI (4 * k + 3), M) := by
  rw [rM_behind_u, rM_behind_e, show (4 : Int32) = nI 4 from rfl, show (3 : Int32) = nI 3 from rfl, pk_mul, nI_add]; rfl
theorem rm_weight (p w : Nat) : rM_weight m (nI p) (nI w) M = some (nI (320 + 2 * p + w), M) := by
  rw [rM_weight_u, rM_weight_e, show (320 : Int32) = nI 320 from rfl, show (2 : Int32) = nI 2 from rfl, pk_mul, nI_add, nI_add]; rfl
theorem rm_beats {k j : Nat} (hk : k < 100) (hj : j < 100) : rM_beats (nI k) (nI j) M = some (if j < k then 1 else -1, M) := by
  rw [rM_beats_u, rM_beats_e]
  by_cases h : j < k
  · rw [if_neg (by rw [nI_leI (by omega) (by omega)]; omega), rM_beats_10_e, if_pos h]; rfl
  · rw [if_pos (by rw [nI_leI (by omega) (by omega)]; omega), rM_beats_10_e, if_neg h]; rfl
theorem rm_sum0V (H : rm_F m aS aL aG aN aB M) {n d : Nat} (hn : n < 420) (hd : d < 420) {S L G : Nat → Int32} {V : Nat → Int} (hV : rm_V S L G V) : ∃ S' L' G', rM_sum0 m (nI n) (nI d) (rm_w aS aL aG M S L G) = some (rm_w aS aL aG M S' L' G') ∧ rm_V S' L' G' (va_up (va_up V n 0) d 1) := by
  obtain ⟨S1, L1, G1, t1, t2⟩ := rm_isV H hn hV 0
  obtain ⟨S2, L2, G2, u1, u2⟩ := rm_isV H hd t2 1
  have hK := H.1
  rw [rM_sum0_u, rM_sum0_e]
  simp only [rm_wK, hK, if_true, t1, u1, Option.bind_some]
  exact ⟨S2, L2, G2, rfl, u2⟩
/-- n / d + Y1 / Y2, not in lowest terms -/
theorem rm_sumV (H : rm_F m aS aL aG aN aB M) {n d k l : Nat} (hn : n < 420) (hd : d < 420) (hn0 : 380 ≤ n) (hd0 : 380 ≤ d) (hnd : n ≠ d) (n1 : n ≠ 387) (n2 : n ≠ 389) (n3 : n ≠ 390) (n4 : n ≠ 394) (d1 : d ≠ 387) (d2 : d ≠ 389) (d3 : d ≠ 390) (d4 : d ≠ 393) (d5 : d ≠ 394) {S L G : Nat → Int32} {V : Nat → Int} (hV : rm_V S L G V) (hN : rm_lt (V n) k) (hD : rm_lt (V d) k) (h1 : rm_lt (V 393) l) (h2 : rm_lt (V 394) l) (hkl : k + l + 1 ≤ 4200) : ∃ S' L' G' V', rM_sum m (nI n) (nI d) (rm_w aS aL aG M S L G) = some (rm_w aS aL aG M S' L' G') ∧ rm_V S' L' G' V' ∧ V' n = V n * V 394 + V 393 * V d ∧ V' d = V d * V 394 ∧ ∀ q, q ≠ n → q ≠ d → q ≠ 389 → q ≠ 390 → V' q = V q := by
  have cn : rm_cap n = 4200 := by unfold rm_cap; rw [if_neg (by omega)]
  have cd : rm_cap d = 4200 := by unfold rm_cap; rw [if_neg (by omega)]
  have c89 : rm_cap 389 = 4200 := by decide
  have c90 : rm_cap 390 = 4200 := by decide
  obtain ⟨S1, L1, G1, t1, t2⟩ := rm_mulV H (a := n) (b := 394) (c := 389) (ka := k) (kb := l) hn n1 (by omega) (by omega) (by omega) n2 (by omega) hV hN h2 (by omega)
  obtain ⟨S2, L2, G2, u1, u2⟩ := rm_mulV H (a := 393) (b := d) (c := 390) (ka := l) (kb := k) (by omega) (by omega) hd d1 (by omega) (by omega) d3 t2 (by rw [rg_up_ne (by omega)]; exact h1) (by rw [rg_up_ne d2]; exact hD) (by omega)
  rw [rg_up_ne (show (393 : Nat) ≠ 389 by omega), rg_up_ne d2] at u2
  have e1 : va_up (va_up V 389 (V n * V 394)) 390 (V 393 * V d) 389 = V n * V 394 := by rw [rg_up_ne (by omega), rg_up_eq]
  have e2 : va_up (va_up V 389 (V n * V 394)) 390 (V 393 * V d) 390 = V 393 * V d := rg_up_eq
  obtain ⟨S3, L3, G3, w1, w2⟩ := rm_plusV H (a := 389) (b := 390) (c := n) (by omega) (by omega) (by omega) (by omega) hn u2 (by rw [e1]; exact (hN.mul h2).mono (by omega)) (by rw [e2]; exact (h1.mul hD).mono (by omega))
  rw [e1, e2] at w2
  have e3 : va_up (va_up (va_up V 389 (V n * V 394)) 390 (V 393 * V d)) n (V n * V 394 + V 393 * V d) d = V d := by rw [rg_up_ne (Ne.symm hnd), rg_up_ne d3, rg_up_ne d2]
  have e4 : va_up (va_up (va_up V 389 (V n * V 394)) 390 (V 393 * V d)) n (V n * V 394 + V 393 * V d) 394 = V 394 := by rw [rg_up_ne (Ne.symm n4), rg_up_ne (by omega), rg_up_ne (by omega)]
  obtain ⟨S4, L4, G4, x1, x2⟩ := rm_mulV H (a := d) (b := 394) (c := 389) (ka := k) (kb := l) hd d1 (by omega) (by omega) (by omega) d2 (by omega) w2 (by rw [e3]; exact hD) (by rw [e4]; exact h2) (by omega)
  rw [e3, e4] at x2
  obtain ⟨S5, L5, G5, y1, y2⟩ := rm_copyV H (a := 389) (c := d) (by omega) (by omega) hd x2 (by rw [rg_up_eq]; exact (hD.mul h2).mono (by omega))
  rw [rg_up_eq] at y2
  have hK := H.1
  have t1 : rM_multiply m (nI n) 394 389 (rm_w aS aL aG M S L G) = _ := t1
  have u1 : rM_multiply m 393 (nI d) 390 (rm_w aS aL aG M S1 L1 G1) = _ := u1
  have w1 : rM_plus m 389 390 (nI n) (rm_w aS aL aG M S2 L2 G2) = _ := w1
  have x1 : rM_multiply m (nI d) 394 389 (rm_w aS aL aG M S3 L3 G3) = _ := x1
  have y1 : rM_copy m 389 (nI d) (rm_w aS aL aG M S4 L4 G4) = _ := y1
  rw [rM_sum_u, rM_sum_e]
  simp only [rm_wK, hK, if_true, t1, u1, w1, x1, y1, Option.bind_some]
  refine ⟨S5, L5, G5, _, rfl, y2, ?_, rg_up_eq, fun q h1 h2 h3 h4 => ?_⟩
  · rw [rg_up_ne hnd, rg_up_ne n2, rg_up_eq]
  · rw [rg_up_ne h2, rg_up_ne h3, rg_up_ne h1, rg_up_ne h4, rg_up_ne h3]
end

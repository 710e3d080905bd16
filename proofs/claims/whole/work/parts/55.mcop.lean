theorem rg_up_up {α : Type} {f : Nat → α} {k : Nat} {v w : α} : va_up (va_up f k v) k w = va_up f k w := by
  funext j; unfold va_up; by_cases h : j = k <;> simp [h]
theorem rg_up_id {α : Type} {f : Nat → α} {k : Nat} {v : α} (h : f k = v) : va_up f k v = f := by
  funext j; unfold va_up; by_cases e : j = k
  · rw [if_pos e, e, h]
  · rw [if_neg e]
section
variable {m aS aL aG aN aB : Nat} {M : rg_M}
theorem rm_cop80 (H : rm_F m aS aL aG aN aB M) (p n k : Int32) : ∀ (t : Nat) (X : Int) (S L G : Nat → Int32) (V : Nat → Int), t < 134400 → rm_V S L G V → V 389 = X → rm_lt (X * 2 ^ t) 4000 → ∃ S' L' G', rM_coprime_80 m p n k (nI t) (rm_w aS aL aG M S L G) = rM_coprime_104 m p n k (rm_w aS aL aG M S' L' G') ∧ rm_V S' L' G' (va_up V 389 (X * 2 ^ t)) := by
  have hK := H.1
  have c89 : rm_cap 389 = 4200 := by decide
  intro t
  induction t with
  | zero =>
    intro X S L G V _ hV hX _
    rw [rM_coprime_80_e, nI_0, if_pos (Int32.le_refl _)]
    exact ⟨S, L, G, rfl, by rw [Int.pow_zero, Int.mul_one, rg_up_id hX]; exact hV⟩
  | succ t ih =>
    intro X S L G V ht hV hX hl
    have hl0 : rm_lt X 4000 := by
      unfold rm_lt at *
      refine Nat.lt_of_le_of_lt ?_ hl
      rw [Int.natAbs_mul]
      exact Nat.le_mul_of_pos_right _ (by rw [Int.natAbs_pow]; exact Nat.two_pow_pos (t + 1))
    obtain ⟨S1, L1, G1, t1, t2⟩ := rm_plusV H (a := 389) (b := 389) (c := 389) (by omega) (by omega) (by omega) (by omega) (by omega) hV (by rw [hX]; exact hl0.mono (by omega)) (by rw [hX]; exact hl0.mono (by omega))
    have t1 : rM_plus m 389 389 389 (rm_w aS aL aG M S L G) = _ := t1
    rw [rM_coprime_80_e, if_neg (nI_nle (by omega) (by omega))]
    simp only [rm_wK, hK, if_true, t1, Option.bind_some, pk_m1]
    have e : (V 389 + V 389) * 2 ^ t = X * 2 ^ (t + 1) := by rw [hX, Int.pow_succ]; grind
    obtain ⟨S', L', G', u1, u2⟩ := ih (V 389 + V 389) S1 L1 G1 _ (by omega) t2 rg_up_eq (by rw [e]; exact hl)
    rw [u1]
    refine ⟨S', L', G', rfl, ?_⟩
    rw [rg_up_up, e] at u2
    exact u2
/-- what X1 is while the weights are gone through: what divides all of them so far -/
theorem rm_cop11 (H : rm_F m aS aL aG aN aB M) {g p n : Nat} (hg : rg_I M 115 m = nI g) (h1 : g < 3) (hp : p < 20) (hn : n ≤ 5) (hsl : ∀ w, w < n → rm_sl g p w < 40) : ∀ d k : Nat, n - k = d → k ≤ n → ∀ (f : Int32) (S L G : Nat → Int32) (V : Nat → Int), rm_V S L G V → (∀ w, w < n → 0 ≤ V (320 + rm_sl g p w) ∧ rm_lt (V (320 + rm_sl g p w)) 41) → ((f = 1 ∧ ∀ w, w < k → V (320 + rm_sl g p w) = 0) ∨ (f = 0 ∧ 0 < V 389 ∧ rm_lt (V 389) 41 ∧ ∀ w, w < k → V 389 ∣ V (320 + rm_sl g p w))) → (∃ w, w < n ∧ V (320 + rm_sl g p w) ≠ 0) →
    ∃ S' L' G' V', rM_coprime_11 m (nI p) (nI n) f (nI k) (rm_w aS aL aG M S L G) = rM_coprime_11 m (nI p) (nI n) 0 (nI n) (rm_w aS aL aG M S' L' G') ∧ rm_V S' L' G' V' ∧ 0 < V' 389 ∧ rm_lt (V' 389) 41 ∧ (∀ w, w < n → V' 389 ∣ V (320 + rm_sl g p w)) ∧ ∀ q, q ≠ 386 → q ≠ 389 → V' q = V q := by
  have H0 := H
  have hK0 := H.1
  obtain ⟨hK, hS, hL, hG, -, -, kS, kL, kG, -, -, lS, lL, lG, -, -, d1, d2, d3, -⟩ := H
  have c89 : rm_cap 389 = 4200 := by decide
  intro d
  induction d with
  | zero =>
    intro k hd hk f S L G V hV hw hf hex
    have e : k = n := by omega
    subst e
    rcases hf with ⟨-, hz⟩ | ⟨rfl, q1, q2, q3⟩
    · obtain ⟨w, w1, w2⟩ := hex
      exact absurd (hz w w1) w2
    · exact ⟨S, L, G, V, rfl, hV, q1, q2, q3, fun _ _ _ => rfl⟩
  | succ d ih =>
    intro k hd hk f S L G V hV hw hf hex
    have hkn : k < n := by omega
    have hs := hsl k hkn
    obtain ⟨w1, w2⟩ := hw k hkn
    have p0 : ¬ nI n ≤ nI k := by rw [nI_leI (by omega) (by omega)]; omega
    have sl := fun N (hk8 : rg_K N m = 8) (hgn : rg_I N 115 m = nI g) => rm_slot (m := m) (M := N) hk8 (p := p) (w := k) hgn h1
    have sl1 := sl (rm_w aS aL aG M S L G) hK0 hg
    have ea : (320 : Int32) + nI (rm_sl g p k) = nI (320 + rm_sl g p k) := by rw [show (320 : Int32) = nI 320 from rfl, nI_add]
    have ca := nI_clamp (n := 320 + rm_sl g p k) (by omega)
    have ia := rm_i0 (a := 320 + rm_sl g p k) (by omega)
    have la : 320 + rm_sl g p k < 420 := by omega
    have gsg : G (320 + rm_sl g p k) = rm_sg (V (320 + rm_sl g p k)) := (hV (320 + rm_sl g p k) la (by omega)).choose_spec.2.2.2.1
    rw [rM_coprime_11_e]
    simp only [rm_wK, rm_wR, rm_wL, rm_wI, hK, hS, hL, hG, kS, kL, kG, lS, lL, lG, if_true, Option.bind_some, and_self, rm_rS, rm_rL d1, rm_rG d2 d3, rm_wS, rm_wLL d1, rm_wG d2 d3, p0, if_false, sl1, ea, ca, ia, la, gsg, rm_sg_eq0]
    by_cases hz : V (320 + rm_sl g p k) = 0
    · rw [if_pos hz, rM_coprime_106_e, nI_1]
      refine ih (k + 1) (by omega) (by omega) f S L G V hV hw ?_ hex
      rcases hf with ⟨q0, hz2⟩ | ⟨q0, q1, q2, q3⟩
      · exact Or.inl ⟨q0, fun w hw => by
          by_cases e : w = k
          · rw [e]; exact hz
          · exact hz2 w (by omega)⟩
      · exact Or.inr ⟨q0, q1, q2, fun w hw => by
          by_cases e : w = k
          · rw [e, hz]; exact Int.dvd_zero _
          · exact q3 w (by omega)⟩
    · rw [if_neg hz]
      rcases hf with ⟨rfl, hz2⟩ | ⟨rfl, q1, q2, q3⟩
      · rw [if_neg (by decide)]
        obtain ⟨S1, L1, G1, t1, t2⟩ := rm_copyV H0 (a := 320 + rm_sl g p k) (c := 389) la (by omega) (by omega) hV (w2.mono (by omega))
        have t1 : rM_copy m (nI (320 + rm_sl g p k)) 389 (rm_w aS aL aG M S L G) = _ := t1
        simp only [t1, Option.bind_some, rM_coprime_104_e, rM_coprime_106_e, nI_1]
        have un : ∀ w, w < n → va_up V 389 (V (320 + rm_sl g p k)) (320 + rm_sl g p w) = V (320 + rm_sl g p w) := fun w hw => by have := hsl w hw; exact rg_up_ne (by omega)
        obtain ⟨S', L', G', V', u1, u2, u3, u4, u5, u6⟩ := ih (k + 1) (by omega) (by omega) 0 S1 L1 G1 _ t2 (fun w h => by rw [un w h]; exact hw w h) (Or.inr ⟨rfl, by rw [rg_up_eq]; omega, by rw [rg_up_eq]; exact w2, fun w h => by
          rw [rg_up_eq]
          by_cases e : w = k
          · rw [e, un k hkn]; exact Int.dvd_refl _
          · rw [un w (by omega), hz2 w (by omega)]; exact Int.dvd_zero _⟩) (by obtain ⟨w, a1, a2⟩ := hex; exact ⟨w, a1, by rw [un w a1]; exact a2⟩)
        exact ⟨S', L', G', V', u1, u2, u3, u4, fun w h => by have := u5 w h; rw [un w h] at this; exact this, fun q h1 h2 => by rw [u6 q h1 h2]; exact rg_up_ne h2⟩
      · rw [if_pos rfl]
        obtain ⟨t, gg, S1, L1, G1, t1, t2, t3, t4, t5⟩ := rm_divisorV H0 (a := 389) (b := 320 + rm_sl g p k) (by omega) la (by omega) (by omega) (by omega) (by omega) hV (by omega) hz
        have t1 : rM_divisor m 389 (nI (320 + rm_sl g p k)) (rm_w aS aL aG M S L G) = _ := t1
        have hgle : rm_lt ((gg : Int) * 2 ^ t) 41 := by
          unfold rm_lt at *
          have e : ((gg : Int) * 2 ^ t).natAbs = gg * 2 ^ t := by rw [Int.natAbs_mul, Int.natAbs_pow]; rfl
          rw [e, t4]
          exact Nat.lt_of_le_of_lt (Nat.gcd_le_left _ (by omega)) q2
        have hgl : rm_lt (gg : Int) 41 := by
          unfold rm_lt at *
          refine Nat.lt_of_le_of_lt ?_ hgle
          rw [Int.natAbs_mul]
          exact Nat.le_mul_of_pos_right _ (by rw [Int.natAbs_pow]; exact Nat.two_pow_pos t)
        obtain ⟨S2, L2, G2, u1, u2⟩ := rm_copyV H0 (a := 386) (c := 389) (by omega) (by omega) (by omega) t2 (by rw [rg_up_eq]; exact hgl.mono (by omega))
        have u1 : rM_copy m 386 389 (rm_w aS aL aG M S1 L1 G1) = _ := u1
        rw [rg_up_eq] at u2
        obtain ⟨S3, L3, G3, v1, v2⟩ := rm_cop80 H0 (nI p) (nI n) (nI k) t (gg : Int) S2 L2 G2 _ t5 u2 rg_up_eq (hgle.mono (by omega))
        rw [rg_up_up] at v2
        simp only [rm_wK, rm_wR, rm_wL, rm_wI, hK, hS, hL, hG, kS, kL, kG, lS, lL, lG, if_true, Option.bind_some, and_self, rm_rS, rm_rL d1, rm_rG d2 d3, rm_wS, rm_wLL d1, rm_wG d2 d3, t1, u1, v1, rM_coprime_104_e, rM_coprime_106_e, nI_1]
        have hgg : (gg : Int) * 2 ^ t = (Int.gcd (V 389) (V (320 + rm_sl g p k)) : Int) := by
          have : ((gg * 2 ^ t : Nat) : Int) = (Int.gcd (V 389) (V (320 + rm_sl g p k)) : Int) := by rw [t4]; rfl
          rw [← this]; simp
        have un : ∀ w, w < n → va_up (va_up V 386 (gg : Int)) 389 ((gg : Int) * 2 ^ t) (320 + rm_sl g p w) = V (320 + rm_sl g p w) := fun w hw => by have := hsl w hw; rw [rg_up_ne (by omega), rg_up_ne (by omega)]
        obtain ⟨S', L', G', V', x1, x2, x3, x4, x5, x6⟩ := ih (k + 1) (by omega) (by omega) 0 S3 L3 G3 _ v2 (fun w h => by rw [un w h]; exact hw w h) (Or.inr ⟨rfl, by
            rw [rg_up_eq, hgg]
            have : 0 < Int.gcd (V 389) (V (320 + rm_sl g p k)) := Int.gcd_pos_of_ne_zero_left _ (by omega)
            omega, by rw [rg_up_eq]; exact hgle, fun w h => by
          rw [rg_up_eq]
          by_cases e : w = k
          · rw [e, un k hkn, hgg]; exact Int.gcd_dvd_right _ _
          · rw [un w (by omega), hgg]; exact Int.dvd_trans (Int.gcd_dvd_left _ _) (q3 w (by omega))⟩) (by obtain ⟨w, a1, a2⟩ := hex; exact ⟨w, a1, by rw [un w a1]; exact a2⟩)
        exact ⟨S', L', G', V', x1, x2, x3, x4, fun w h => by have := x5 w h; rw [un w h] at this; exact this, fun q h1 h2 => by rw [x6 q h1 h2, rg_up_ne h2, rg_up_ne h1]⟩
theorem rm_cop143 (H : rm_F m aS aL aG aN aB M) {g p n : Nat} (hg : rg_I M 115 m = nI g) (h1 : g < 3) (hp : p < 20) (hn : n ≤ 5) (hsl : ∀ w, w < n → rm_sl g p w < 40) {z o : Nat} (hz : z < 134400) (ho : o % 2 = 1) : ∀ d k : Nat, n - k = d → k ≤ n → ∀ (S L G : Nat → Int32) (V : Nat → Int), rm_V S L G V → V 386 = (o : Int) → (∀ w, w < n → k ≤ w → ((o * 2 ^ z : Nat) : Int) ∣ V (320 + rm_sl g p w)) →
    ∃ S' L' G' V', rM_coprime_143 m (nI p) (nI n) (nI z) (nI k) (rm_w aS aL aG M S L G) = some (none, (rm_w aS aL aG M S' L' G')) ∧ rm_V S' L' G' V' ∧ (∀ w, w < n → k ≤ w → V' (320 + rm_sl g p w) = V (320 + rm_sl g p w) / ((o * 2 ^ z : Nat) : Int)) ∧ ∀ q, (∀ w, w < n → k ≤ w → q ≠ 320 + rm_sl g p w) → V' q = V q := by
  have hK := H.1
  have inj : ∀ w w', rm_sl g p w = rm_sl g p w' → w = w' := by
    intro w w' h; unfold rm_sl at h; split at h <;> omega
  intro d
  induction d with
  | zero =>
    intro k hd hk S L G V hV _ _
    have e : k = n := by omega
    rw [rM_coprime_143_e, e, if_pos (Int32.le_refl _)]
    exact ⟨S, L, G, V, rfl, hV, fun w _ _ => by omega, fun _ _ => rfl⟩
  | succ d ih =>
    intro k hd hk S L G V hV h86 hdv
    have hkn : k < n := by omega
    have hs := hsl k hkn
    have p0 : ¬ nI n ≤ nI k := by rw [nI_leI (by omega) (by omega)]; omega
    have sl1 := rm_slot (m := m) (M := (rm_w aS aL aG M S L G)) hK (p := p) (w := k) hg h1
    have ea : (320 : Int32) + nI (rm_sl g p k) = nI (320 + rm_sl g p k) := by rw [show (320 : Int32) = nI 320 from rfl, nI_add]
    obtain ⟨S1, L1, G1, t1, t2⟩ := rm_withoutV H (a := 320 + rm_sl g p k) (by omega) (by omega) (by omega) hV h86 ho hz (z := V (320 + rm_sl g p k) / ((o * 2 ^ z : Nat) : Int)) (Int.ediv_mul_cancel (hdv k hkn (Nat.le_refl _))).symm
    rw [rM_coprime_143_e]
    simp only [rm_wK, hK, p0, if_true, if_false, sl1, ea, t1, Option.bind_some, nI_1]
    have un : ∀ w, w < n → k + 1 ≤ w → va_up V (320 + rm_sl g p k) (V (320 + rm_sl g p k) / ((o * 2 ^ z : Nat) : Int)) (320 + rm_sl g p w) = V (320 + rm_sl g p w) := fun w _ h => rg_up_ne (fun e => by have := inj w k (by omega); omega)
    obtain ⟨S', L', G', V', u1, u2, u3, u4⟩ := ih (k + 1) (by omega) (by omega) S1 L1 G1 _ t2 (by rw [rg_up_ne (by omega)]; exact h86) (fun w h1 h2 => by rw [un w h1 h2]; exact hdv w h1 (by omega))
    refine ⟨S', L', G', V', u1, u2, fun w h1 h2 => ?_, fun q hq => ?_⟩
    · by_cases e : w = k
      · subst e
        rw [u4 _ (fun w2 a1 a2 e2 => by have := inj w w2 (by omega); omega), rg_up_eq]
      · rw [u3 w h1 (by omega), un w h1 (by omega)]
    · rw [u4 q (fun w2 a1 a2 => hq w2 a1 (by omega)), rg_up_ne (hq k hkn (Nat.le_refl _))]
/-- the weights of a place, divided by all that they have in common -/
theorem rm_coprimeV (H : rm_F m aS aL aG aN aB M) {g r c p : Nat} (hg : rg_I M 115 m = nI g) (hr : rg_I M 116 m = nI r) (hc : rg_I M 117 m = nI c) (h1 : g < 3) (hp : p < 20) (hn : rm_wy g r c p ≤ 5) (hsl : ∀ w, w < rm_wy g r c p → rm_sl g p w < 40) {S L G : Nat → Int32} {V : Nat → Int} (hV : rm_V S L G V) (hw : ∀ w, w < rm_wy g r c p → 0 ≤ V (320 + rm_sl g p w) ∧ rm_lt (V (320 + rm_sl g p w)) 41) (hex : ∃ w, w < rm_wy g r c p ∧ V (320 + rm_sl g p w) ≠ 0) : ∃ (C : Int) (S' L' G' : Nat → Int32) (V' : Nat → Int), rM_coprime m (nI p) (rm_w aS aL aG M S L G) = some (rm_w aS aL aG M S' L' G') ∧ rm_V S' L' G' V' ∧ 0 < C ∧ (∀ w, w < rm_wy g r c p → C ∣ V (320 + rm_sl g p w) ∧ V' (320 + rm_sl g p w) = V (320 + rm_sl g p w) / C) ∧ ∀ q, (∀ w, w < rm_wy g r c p → q ≠ 320 + rm_sl g p w) → q ≠ 386 → q ≠ 389 → V' q = V q := by
  have hK := H.1
  have wy := rm_ways (m := m) (M := (rm_w aS aL aG M S L G)) hK (p := p) hg hr hc h1 (by omega)
  obtain ⟨S1, L1, G1, V1, t1, t2, t3, t4, t5, t6⟩ := rm_cop11 H hg h1 hp hn hsl _ 0 rfl (Nat.zero_le _) 1 S L G V hV hw (Or.inl ⟨rfl, fun w h => by omega⟩) hex
  obtain ⟨z, z1, z2, z3, z4⟩ := rm_zeros H (a := 389) (by omega) (t2 389 (by omega) (by omega)) (by omega)
  obtain ⟨o, ho⟩ := z2
  have hoz : (V1 389).natAbs / 2 ^ z = o := by rw [ho, Nat.mul_div_cancel_left _ (Nat.two_pow_pos z)]
  rw [hoz] at z3
  have hval : V1 389 = ((o * 2 ^ z : Nat) : Int) := by rw [Nat.mul_comm, ← ho]; omega
  obtain ⟨S2, L2, G2, u1, u2⟩ := rm_rightV H (a := 389) (by omega) (by omega) t2 (by omega) (w := (o : Int)) (y := z) (by rw [hval]; simp) z4
  have hol : rm_lt (o : Int) 41 := by
    unfold rm_lt at *
    refine Nat.lt_of_le_of_lt ?_ t4
    rw [ho, Int.natAbs_natCast]
    exact Nat.le_mul_of_pos_left _ (Nat.two_pow_pos z)
  obtain ⟨S3, L3, G3, v1, v2⟩ := rm_copyV H (a := 389) (c := 386) (by omega) (by omega) (by omega) u2 (by rw [rg_up_eq]; exact hol.mono (by decide))
  rw [rg_up_eq] at v2
  have un : ∀ w, w < rm_wy g r c p → va_up (va_up V1 389 (o : Int)) 386 (o : Int) (320 + rm_sl g p w) = V (320 + rm_sl g p w) := fun w h => by
    have := hsl w h
    rw [rg_up_ne (by omega), rg_up_ne (by omega), t6 _ (by omega) (by omega)]
  obtain ⟨S4, L4, G4, V4, w1, w2, w3, w4⟩ := rm_cop143 H hg h1 hp hn hsl z4 z3 _ 0 rfl (Nat.zero_le _) S3 L3 G3 _ v2 rg_up_eq (fun w h _ => by rw [un w h, ← hval]; exact t5 w h)
  have z1 : rM_zeros m 389 (rm_w aS aL aG M S1 L1 G1) = _ := z1
  have u1 : rM_right m 389 (nI z) (rm_w aS aL aG M S1 L1 G1) = _ := u1
  have v1 : rM_copy m 389 386 (rm_w aS aL aG M S2 L2 G2) = _ := v1
  have t1 : rM_coprime_11 m (nI p) (nI (rm_wy g r c p)) 1 0 (rm_w aS aL aG M S L G) = _ := t1
  have w1 : rM_coprime_143 m (nI p) (nI (rm_wy g r c p)) (nI z) 0 (rm_w aS aL aG M S3 L3 G3) = _ := w1
  rw [rM_coprime_u, rM_coprime_e]
  simp only [rm_wK, hK, if_true, wy, t1, Option.bind_some]
  rw [rM_coprime_11_e, if_pos (Int32.le_refl _)]
  simp only [rm_wK, hK, if_true, z1, u1, v1, w1, Option.bind_some]
  refine ⟨V1 389, S4, L4, G4, V4, rfl, w2, t3, fun w h => ⟨t5 w h, ?_⟩, fun q h1 h2 h3 => ?_⟩
  · rw [w3 w h (Nat.zero_le _), un w h, ← hval]
  · rw [w4 q (fun w a _ => h1 w a), rg_up_ne h2, rg_up_ne h3, t6 q h2 h3]
end

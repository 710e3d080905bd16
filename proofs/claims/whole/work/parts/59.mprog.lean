/-! straight runs of register steps, as data: what they do to the values, to the bounds (words; above 0), and whether the bounds allow it -/
abbrev rmV := Nat → Int
abbrev rmB := Nat → Nat × Bool
abbrev rmI := (rmV → rmV) × (rmB → rmB) × (rmB → Bool)
def rv : List rmI → rmV → rmV
  | [], V => V
  | i :: P, V => rv P (i.1 V)
def rk : List rmI → rmB → rmB
  | [], K => K
  | i :: P, K => rk P (i.2.1 K)
def rok : List rmI → rmB → Prop
  | [], _ => True
  | i :: P, K => i.2.2 K = true ∧ rok P (i.2.1 K)
def rokB : List rmI → rmB → Bool
  | [], _ => true
  | i :: P, K => i.2.2 K && rokB P (i.2.1 K)
theorem rok_of : ∀ {P : List rmI} {K : rmB}, rokB P K = true → rok P K
  | [], _, _ => trivial
  | i :: P, K, h => by
    rw [rokB, Bool.and_eq_true] at h
    exact ⟨h.1, rok_of h.2⟩
theorem rv_app : ∀ (P Q : List rmI) (V : rmV), rv (P ++ Q) V = rv Q (rv P V)
  | [], _, _ => rfl
  | i :: P, Q, V => rv_app P Q (i.1 V)
theorem rk_app : ∀ (P Q : List rmI) (K : rmB), rk (P ++ Q) K = rk Q (rk P K)
  | [], _, _ => rfl
  | i :: P, Q, K => rk_app P Q (i.2.1 K)
theorem rok_app : ∀ (P Q : List rmI) (K : rmB), rok (P ++ Q) K ↔ rok P K ∧ rok Q (rk P K)
  | [], _, _ => ⟨fun h => ⟨trivial, h⟩, fun h => h.2⟩
  | i :: P, Q, K => ⟨fun h => ⟨⟨h.1, ((rok_app P Q (i.2.1 K)).mp h.2).1⟩, ((rok_app P Q (i.2.1 K)).mp h.2).2⟩, fun h => ⟨h.1.1, (rok_app P Q (i.2.1 K)).mpr ⟨h.1.2, h.2⟩⟩⟩
/-- a register that the steps may name -/
def rgd (a : Nat) : Bool := decide (a < 420 ∧ a ≠ 386 ∧ a ≠ 387)
def iIs (c : Nat) (v : Int) : rmI := (fun V => va_up V c v, fun K => va_up K c (1, decide (0 < v)), fun _ => rgd c && decide (v.natAbs < 4294967296))
def iCopy (a c : Nat) : rmI := (fun V => va_up V c (V a), fun K => va_up K c (K a), fun K => rgd a && rgd c && decide ((K a).1 ≤ rm_cap c))
def iPlus (a b c : Nat) : rmI := (fun V => va_up V c (V a + V b), fun K => va_up K c (max (K a).1 (K b).1 + 1, (K a).2 && (K b).2), fun K => rgd a && rgd b && rgd c && decide ((K a).1 + 1 ≤ rm_cap c ∧ (K b).1 + 1 ≤ rm_cap c))
def iMinus (a b c : Nat) : rmI := (fun V => va_up V c (V a - V b), fun K => va_up K c (max (K a).1 (K b).1 + 1, false), fun K => rgd a && rgd b && rgd c && decide ((K a).1 + 1 ≤ rm_cap c ∧ (K b).1 + 1 ≤ rm_cap c))
def iMul (a b c : Nat) : rmI := (fun V => va_up V c (V a * V b), fun K => va_up K c ((K a).1 + (K b).1, (K a).2 && (K b).2), fun K => rgd a && rgd b && rgd c && decide (a ≠ c ∧ b ≠ c ∧ (K a).1 + (K b).1 ≤ rm_cap c))
def iScale (a : Nat) (v : Int) : rmI := (fun V => va_up (va_up (va_up V 417 v) 416 (V a * v)) a (V a * v), fun K => va_up (va_up (va_up K 417 (1, false)) 416 ((K a).1 + 1, false)) a ((K a).1 + 1, (K a).2 && decide (0 < v)), fun K => rgd a && decide (a ≠ 416 ∧ a ≠ 417 ∧ v.natAbs < 4294967296 ∧ (K a).1 + 2 ≤ rm_cap a))
def iNeg (a : Nat) : rmI := (fun V => va_up V a (-(V a)), fun K => va_up K a ((K a).1, false), fun _ => rgd a)
def iLow (n d : Nat) : rmI := (fun V => va_up (va_up V n (V n / (Int.gcd (V n) (V d) : Int))) d (V d / (Int.gcd (V n) (V d) : Int)), fun K => va_up (va_up K n ((K n).1, false)) d ((K d).1, true), fun K => rgd n && rgd d && decide (n ≠ d) && (K d).2)
/-- the state under a background: values, bounds -/
def rm_Y (S L G : Nat → Int32) (V : rmV) (K : rmB) : Prop := (∃ V1, rm_V S L G V1 ∧ ∀ a, a ≠ 386 → V1 a = V a) ∧ ∀ a, a < 420 → a ≠ 386 → a ≠ 387 → rm_lt (V a) (K a).1 ∧ ((K a).2 = true → 0 < V a)
theorem rgd_h {a : Nat} (h : rgd a = true) : a < 420 ∧ a ≠ 386 ∧ a ≠ 387 := by unfold rgd at h; exact of_decide_eq_true h
theorem rm_Yup {S L G S' L' G' : Nat → Int32} {V V1 : rmV} {K : rmB} {c : Nat} {v : Int} {k : Nat × Bool} (h : rm_Y S L G V K) (hV1 : ∀ a, a ≠ 386 → V1 a = V a) (hV : rm_V S' L' G' (va_up V1 c v)) (hl : rm_lt v k.1) (hp : k.2 = true → 0 < v) : rm_Y S' L' G' (va_up V c v) (va_up K c k) := by
  refine ⟨⟨_, hV, fun a ha => ?_⟩, fun a ha h6 h7 => ?_⟩
  · by_cases e : a = c
    · subst e; rw [rg_up_eq, rg_up_eq]
    · rw [rg_up_ne e, rg_up_ne e, hV1 a ha]
  · by_cases e : a = c
    · subst e; rw [rg_up_eq, rg_up_eq]; exact ⟨hl, hp⟩
    · rw [rg_up_ne e, rg_up_ne e]; exact h.2 a ha h6 h7
theorem rm_Y.sg {S L G : Nat → Int32} {V : rmV} {K : rmB} (h : rm_Y S L G V K) {a : Nat} (ha : a < 420) (h6 : a ≠ 386) (h7 : a ≠ 387) : G a = rm_sg (V a) := by
  obtain ⟨V1, h1, h2⟩ := h.1
  rw [← h2 a h6]; exact h1.sg ha h7
theorem rm_Y.lt {S L G : Nat → Int32} {V : rmV} {K : rmB} (h : rm_Y S L G V K) {a : Nat} (ha : a < 420) (h6 : a ≠ 386) (h7 : a ≠ 387) : rm_lt (V a) (K a).1 := (h.2 a ha h6 h7).1
section
variable {m aS aL aG aN aB : Nat} {M : rg_M}
variable {S L G : Nat → Int32} {V : rmV} {K : rmB}
theorem rm_isY (H : rm_F m aS aL aG aN aB M) {c : Nat} {v : Int} (h : rm_Y S L G V K) (ok : (iIs c v).2.2 K = true) : ∃ S' L' G', rM_is m (nI c) (Int64.ofInt v) (rm_w aS aL aG M S L G) = some (rm_w aS aL aG M S' L' G') ∧ rm_Y S' L' G' ((iIs c v).1 V) ((iIs c v).2.1 K) := by
  obtain ⟨V1, h1, h2⟩ := h.1
  unfold iIs at ok
  rw [Bool.and_eq_true, decide_eq_true_eq] at ok
  have hc := rgd_h ok.1
  obtain ⟨S', L', G', t1, t2⟩ := rm_isV H hc.1 h1 (Int64.ofInt v)
  have e : (Int64.ofInt v).toInt = v := Int64.toInt_ofInt_of_le (by omega) (by omega)
  rw [e] at t2
  refine ⟨S', L', G', t1, rm_Yup h h2 t2 (rm_lt_small ok.2) (fun q => of_decide_eq_true q)⟩
theorem rm_copyY (H : rm_F m aS aL aG aN aB M) {a c : Nat} (h : rm_Y S L G V K) (ok : (iCopy a c).2.2 K = true) : ∃ S' L' G', rM_copy m (nI a) (nI c) (rm_w aS aL aG M S L G) = some (rm_w aS aL aG M S' L' G') ∧ rm_Y S' L' G' ((iCopy a c).1 V) ((iCopy a c).2.1 K) := by
  obtain ⟨V1, h1, h2⟩ := h.1
  unfold iCopy at ok
  rw [Bool.and_eq_true, Bool.and_eq_true, decide_eq_true_eq] at ok
  obtain ⟨⟨ha, hc⟩, hk⟩ := ok
  have ha := rgd_h ha
  have hc := rgd_h hc
  have hh := h.2 a ha.1 ha.2.1 ha.2.2
  obtain ⟨S', L', G', t1, t2⟩ := rm_copyV H ha.1 ha.2.2 hc.1 h1 (by rw [h2 a ha.2.1]; exact hh.1.mono hk)
  rw [h2 a ha.2.1] at t2
  exact ⟨S', L', G', t1, rm_Yup h h2 t2 hh.1 hh.2⟩
theorem rm_lt.addm {v w : Int} {k l : Nat} (h : rm_lt v k) (h2 : rm_lt w l) : rm_lt (v + w) (max k l + 1) := rm_lt.add (h.mono (Nat.le_max_left _ _)) (h2.mono (Nat.le_max_right _ _))
theorem rm_lt.subm {v w : Int} {k l : Nat} (h : rm_lt v k) (h2 : rm_lt w l) : rm_lt (v - w) (max k l + 1) := rm_lt.sub (h.mono (Nat.le_max_left _ _)) (h2.mono (Nat.le_max_right _ _))
theorem rm_plusY (H : rm_F m aS aL aG aN aB M) {a b c : Nat} (h : rm_Y S L G V K) (ok : (iPlus a b c).2.2 K = true) : ∃ S' L' G', rM_plus m (nI a) (nI b) (nI c) (rm_w aS aL aG M S L G) = some (rm_w aS aL aG M S' L' G') ∧ rm_Y S' L' G' ((iPlus a b c).1 V) ((iPlus a b c).2.1 K) := by
  obtain ⟨V1, h1, h2⟩ := h.1
  unfold iPlus at ok
  rw [Bool.and_eq_true, Bool.and_eq_true, Bool.and_eq_true, decide_eq_true_eq] at ok
  obtain ⟨⟨⟨ha, hb⟩, hc⟩, hk1, hk2⟩ := ok
  have ha := rgd_h ha
  have hb := rgd_h hb
  have hc := rgd_h hc
  have hA := h.2 a ha.1 ha.2.1 ha.2.2
  have hB := h.2 b hb.1 hb.2.1 hb.2.2
  obtain ⟨S', L', G', t1, t2⟩ := rm_plusV H ha.1 ha.2.2 hb.1 hb.2.2 hc.1 h1 (by rw [h2 a ha.2.1]; exact hA.1.mono (by omega)) (by rw [h2 b hb.2.1]; exact hB.1.mono (by omega))
  rw [h2 a ha.2.1, h2 b hb.2.1] at t2
  exact ⟨S', L', G', t1, rm_Yup h h2 t2 (hA.1.addm hB.1) (fun q => by rw [Bool.and_eq_true] at q; have := hA.2 q.1; have := hB.2 q.2; omega)⟩
theorem rm_minusY (H : rm_F m aS aL aG aN aB M) {a b c : Nat} (h : rm_Y S L G V K) (ok : (iMinus a b c).2.2 K = true) : ∃ S' L' G', rM_minus m (nI a) (nI b) (nI c) (rm_w aS aL aG M S L G) = some (rm_w aS aL aG M S' L' G') ∧ rm_Y S' L' G' ((iMinus a b c).1 V) ((iMinus a b c).2.1 K) := by
  obtain ⟨V1, h1, h2⟩ := h.1
  unfold iMinus at ok
  rw [Bool.and_eq_true, Bool.and_eq_true, Bool.and_eq_true, decide_eq_true_eq] at ok
  obtain ⟨⟨⟨ha, hb⟩, hc⟩, hk1, hk2⟩ := ok
  have ha := rgd_h ha
  have hb := rgd_h hb
  have hc := rgd_h hc
  have hA := h.2 a ha.1 ha.2.1 ha.2.2
  have hB := h.2 b hb.1 hb.2.1 hb.2.2
  obtain ⟨S', L', G', t1, t2⟩ := rm_minusV H ha.1 ha.2.2 hb.1 hb.2.2 hc.1 h1 (by rw [h2 a ha.2.1]; exact hA.1.mono (by omega)) (by rw [h2 b hb.2.1]; exact hB.1.mono (by omega))
  rw [h2 a ha.2.1, h2 b hb.2.1] at t2
  exact ⟨S', L', G', t1, rm_Yup h h2 t2 (hA.1.subm hB.1) (fun q => Bool.noConfusion q)⟩
theorem rm_mulY (H : rm_F m aS aL aG aN aB M) {a b c : Nat} (h : rm_Y S L G V K) (ok : (iMul a b c).2.2 K = true) : ∃ S' L' G', rM_multiply m (nI a) (nI b) (nI c) (rm_w aS aL aG M S L G) = some (rm_w aS aL aG M S' L' G') ∧ rm_Y S' L' G' ((iMul a b c).1 V) ((iMul a b c).2.1 K) := by
  obtain ⟨V1, h1, h2⟩ := h.1
  unfold iMul at ok
  rw [Bool.and_eq_true, Bool.and_eq_true, Bool.and_eq_true, decide_eq_true_eq] at ok
  obtain ⟨⟨⟨ha, hb⟩, hc⟩, hk1, hk2, hk3⟩ := ok
  have ha := rgd_h ha
  have hb := rgd_h hb
  have hc := rgd_h hc
  have hA := h.2 a ha.1 ha.2.1 ha.2.2
  have hB := h.2 b hb.1 hb.2.1 hb.2.2
  obtain ⟨S', L', G', t1, t2⟩ := rm_mulV H ha.1 ha.2.2 hb.1 hb.2.2 hc.1 hk1 hk2 h1 (by rw [h2 a ha.2.1]; exact hA.1) (by rw [h2 b hb.2.1]; exact hB.1) hk3
  rw [h2 a ha.2.1, h2 b hb.2.1] at t2
  exact ⟨S', L', G', t1, rm_Yup h h2 t2 (hA.1.mul hB.1) (fun q => by rw [Bool.and_eq_true] at q; exact Int.mul_pos (hA.2 q.1) (hB.2 q.2))⟩
theorem rm_scaleY (H : rm_F m aS aL aG aN aB M) {a : Nat} {v : Int} (h : rm_Y S L G V K) (ok : (iScale a v).2.2 K = true) : ∃ S' L' G', rM_scale m (nI a) (Int64.ofInt v) (rm_w aS aL aG M S L G) = some (rm_w aS aL aG M S' L' G') ∧ rm_Y S' L' G' ((iScale a v).1 V) ((iScale a v).2.1 K) := by
  obtain ⟨V1, h1, h2⟩ := h.1
  unfold iScale at ok
  rw [Bool.and_eq_true, decide_eq_true_eq] at ok
  obtain ⟨ha, hk1, hk2, hk3, hk4⟩ := ok
  have ha := rgd_h ha
  have hA := h.2 a ha.1 ha.2.1 ha.2.2
  have e : (Int64.ofInt v).toInt = v := Int64.toInt_ofInt_of_le (by omega) (by omega)
  obtain ⟨S', L', G', t1, t2⟩ := rm_scaleV H ha.1 ha.2.2 hk1 hk2 h1 (Int64.ofInt v) (by rw [h2 a ha.2.1]; exact hA.1) hk4
  rw [e, h2 a ha.2.1] at t2
  have hl : rm_lt (V a * v) ((K a).1 + 1) := hA.1.mul (rm_lt_small hk3)
  refine ⟨S', L', G', t1, ⟨_, t2, fun q h6 => ?_⟩, fun q hq h6 h7 => ?_⟩
  · show _ = va_up (va_up (va_up V 417 v) 416 (V a * v)) a (V a * v) q
    by_cases e1 : q = a
    · subst e1; rw [rg_up_eq, rg_up_eq]
    · rw [rg_up_ne e1, rg_up_ne e1]
      by_cases e2 : q = 416
      · subst e2; rw [rg_up_eq, rg_up_eq]
      · rw [rg_up_ne e2, rg_up_ne e2]
        by_cases e3 : q = 417
        · subst e3; rw [rg_up_eq, rg_up_eq]
        · rw [rg_up_ne e3, rg_up_ne e3, h2 q h6]
  · show rm_lt (va_up (va_up (va_up V 417 v) 416 (V a * v)) a (V a * v) q) (va_up (va_up (va_up K 417 (1, false)) 416 ((K a).1 + 1, false)) a ((K a).1 + 1, (K a).2 && decide (0 < v)) q).1 ∧ ((va_up (va_up (va_up K 417 (1, false)) 416 ((K a).1 + 1, false)) a ((K a).1 + 1, (K a).2 && decide (0 < v)) q).2 = true → 0 < va_up (va_up (va_up V 417 v) 416 (V a * v)) a (V a * v) q)
    by_cases e1 : q = a
    · subst e1; rw [rg_up_eq, rg_up_eq]
      refine ⟨hl, fun q => ?_⟩
      rw [Bool.and_eq_true, decide_eq_true_eq] at q
      exact Int.mul_pos (hA.2 q.1) q.2
    · rw [rg_up_ne e1, rg_up_ne e1]
      by_cases e2 : q = 416
      · subst e2; rw [rg_up_eq, rg_up_eq]; exact ⟨hl, fun q => Bool.noConfusion q⟩
      · rw [rg_up_ne e2, rg_up_ne e2]
        by_cases e3 : q = 417
        · subst e3; rw [rg_up_eq, rg_up_eq]; exact ⟨rm_lt_small hk3, fun q => Bool.noConfusion q⟩
        · rw [rg_up_ne e3, rg_up_ne e3]; exact h.2 q hq h6 h7
theorem rm_negY {a : Nat} (h : rm_Y S L G V K) (ok : (iNeg a).2.2 K = true) : rm_Y S L (upd G a (-(G a))) ((iNeg a).1 V) ((iNeg a).2.1 K) := by
  obtain ⟨V1, h1, h2⟩ := h.1
  have ha := rgd_h (show rgd a = true from ok)
  have hA := h.2 a ha.1 ha.2.1 ha.2.2
  have t2 := rm_negV ha.1 ha.2.2 h1
  rw [h2 a ha.2.1] at t2
  exact rm_Yup h h2 t2 hA.1.neg (fun q => Bool.noConfusion q)
theorem rm_lowY (H : rm_F m aS aL aG aN aB M) {n d : Nat} (h : rm_Y S L G V K) (ok : (iLow n d).2.2 K = true) : ∃ S' L' G', rM_lower m (nI n) (nI d) (rm_w aS aL aG M S L G) = some (rm_w aS aL aG M S' L' G') ∧ rm_Y S' L' G' ((iLow n d).1 V) ((iLow n d).2.1 K) := by
  obtain ⟨V1, h1, h2⟩ := h.1
  unfold iLow at ok
  rw [Bool.and_eq_true, Bool.and_eq_true, Bool.and_eq_true, decide_eq_true_eq] at ok
  obtain ⟨⟨⟨hn, hd⟩, hnd⟩, hp⟩ := ok
  have hn := rgd_h hn
  have hd := rgd_h hd
  have hA := h.2 n hn.1 hn.2.1 hn.2.2
  have hB := h.2 d hd.1 hd.2.1 hd.2.2
  have hp := hB.2 hp
  obtain ⟨g, S', L', G', t1, t2⟩ := rm_lowerV H hn.1 hd.1 hnd hn.2.1 hn.2.2 hd.2.1 hd.2.2 h1 (by rw [h2 d hd.2.1]; exact hp)
  rw [h2 n hn.2.1, h2 d hd.2.1] at t2
  refine ⟨S', L', G', t1, ⟨_, t2, fun q h6 => ?_⟩, fun q hq h6 h7 => ?_⟩
  · show _ = va_up (va_up V n (V n / (Int.gcd (V n) (V d) : Int))) d (V d / (Int.gcd (V n) (V d) : Int)) q
    by_cases e1 : q = d
    · subst e1; rw [rg_up_eq, rg_up_eq]
    · rw [rg_up_ne e1, rg_up_ne e1]
      by_cases e2 : q = n
      · subst e2; rw [rg_up_eq, rg_up_eq]
      · rw [rg_up_ne e2, rg_up_ne e2, rg_up_ne h6, h2 q h6]
  · show rm_lt (va_up (va_up V n (V n / (Int.gcd (V n) (V d) : Int))) d (V d / (Int.gcd (V n) (V d) : Int)) q) (va_up (va_up K n ((K n).1, false)) d ((K d).1, true) q).1 ∧ ((va_up (va_up K n ((K n).1, false)) d ((K d).1, true) q).2 = true → 0 < va_up (va_up V n (V n / (Int.gcd (V n) (V d) : Int))) d (V d / (Int.gcd (V n) (V d) : Int)) q)
    by_cases e1 : q = d
    · subst e1; rw [rg_up_eq, rg_up_eq]
      refine ⟨hB.1.div (Int.gcd_dvd_right _ _), fun _ => ?_⟩
      exact Int.ediv_pos_of_pos_of_dvd hp (by omega) (Int.gcd_dvd_right _ _)
    · rw [rg_up_ne e1, rg_up_ne e1]
      by_cases e2 : q = n
      · subst e2; rw [rg_up_eq, rg_up_eq]; exact ⟨hA.1.div (Int.gcd_dvd_left _ _), fun q => Bool.noConfusion q⟩
      · rw [rg_up_ne e2, rg_up_ne e2]; exact h.2 q hq h6 h7
/-- the steps of sum -/
def pgSum (n d : Nat) : List rmI := [iMul n 394 389, iMul 393 d 390, iPlus 389 390 n, iMul d 394 389, iCopy 389 d]
theorem rm_sumY (H : rm_F m aS aL aG aN aB M) {n d : Nat} (h : rm_Y S L G V K) (ok : rok (pgSum n d) K) : ∃ S' L' G', rM_sum m (nI n) (nI d) (rm_w aS aL aG M S L G) = some (rm_w aS aL aG M S' L' G') ∧ rm_Y S' L' G' (rv (pgSum n d) V) (rk (pgSum n d) K) := by
  obtain ⟨o1, o2, o3, o4, o5, -⟩ := ok
  obtain ⟨S1, L1, G1, t1, h1⟩ := rm_mulY H h o1
  obtain ⟨S2, L2, G2, t2, h2⟩ := rm_mulY H h1 o2
  obtain ⟨S3, L3, G3, t3, h3⟩ := rm_plusY H h2 o3
  obtain ⟨S4, L4, G4, t4, h4⟩ := rm_mulY H h3 o4
  obtain ⟨S5, L5, G5, t5, h5⟩ := rm_copyY H h4 o5
  have hK := H.1
  have t1 : rM_multiply m (nI n) 394 389 (rm_w aS aL aG M S L G) = _ := t1
  have t2 : rM_multiply m 393 (nI d) 390 (rm_w aS aL aG M S1 L1 G1) = _ := t2
  have t3 : rM_plus m 389 390 (nI n) (rm_w aS aL aG M S2 L2 G2) = _ := t3
  have t4 : rM_multiply m (nI d) 394 389 (rm_w aS aL aG M S3 L3 G3) = _ := t4
  have t5 : rM_copy m 389 (nI d) (rm_w aS aL aG M S4 L4 G4) = _ := t5
  rw [rM_sum_u, rM_sum_e]
  simp only [rm_wK, hK, if_true, t1, t2, t3, t4, t5, Option.bind_some]
  exact ⟨S5, L5, G5, rfl, h5⟩
/-- the steps of sum0 -/
def pgSum0 (n d : Nat) : List rmI := [iIs n 0, iIs d 1]
theorem rm_sum0Y (H : rm_F m aS aL aG aN aB M) {n d : Nat} (h : rm_Y S L G V K) (ok : rok (pgSum0 n d) K) : ∃ S' L' G', rM_sum0 m (nI n) (nI d) (rm_w aS aL aG M S L G) = some (rm_w aS aL aG M S' L' G') ∧ rm_Y S' L' G' (rv (pgSum0 n d) V) (rk (pgSum0 n d) K) := by
  obtain ⟨o1, o2, -⟩ := ok
  obtain ⟨S1, L1, G1, t1, h1⟩ := rm_isY H h o1
  obtain ⟨S2, L2, G2, t2, h2⟩ := rm_isY H h1 o2
  have hK := H.1
  have t1 : rM_is m (nI n) 0 (rm_w aS aL aG M S L G) = _ := t1
  have t2 : rM_is m (nI d) 1 (rm_w aS aL aG M S1 L1 G1) = _ := t2
  rw [rM_sum0_u, rM_sum0_e]
  simp only [rm_wK, hK, if_true, t1, t2, Option.bind_some]
  exact ⟨S2, L2, G2, rfl, h2⟩
end

section
variable {m aS aL aG aN aB : Nat} {M : rg_M}
/-- the words of a register from word k on -/
def rm_E (S : Nat → Int32) (a k n : Nat) : Nat := ds rm_B (fun i => rm_u (S (rm_at a + (k + i)))) n
theorem rm_E_lt (S : Nat → Int32) (a k n : Nat) : rm_E S a k n < rm_B ^ n := ds_lt (fun _ _ => rm_u_lt _)
theorem rm_E_upd {S : Nat → Int32} {a k j : Nat} (v : Int32) : rm_E (upd S (rm_at a + (k + j)) v) a k (j + 1) = rm_E S a k j + rm_u v * rm_B ^ j := by
  unfold rm_E
  rw [ds_s, pk_us]
  congr 1
  exact ds_cong (fun i hi => by rw [pk_un (by omega)])
/-- one word of the dividend's rest -/
theorem rm_wi207 (H : rm_F m aS aL aG aN aB M) {a na lb n k j x cy bo : Nat} (ha : a < 420) (ha1 : a ≠ 386) {S1 L G : Nat → Int32} (hna : na ≤ rm_cap a) (hlb : lb ≤ 4200) (hkj : k + j < na) (hx : x < 4294967296) (hcy : cy < 4294967296) (hbo : bo ≤ 1) (s v5 v9 : Int32) :
    rM_without_207 m (nI a) s v5 (nI n) (nI lb) (nI k) v9 (lN x) (lN cy) (lN bo) (nI j) (rm_w aS aL aG M S1 L G) = rM_without_176 m (nI a) s v5 (nI n) (nI lb) (nI k) v9 (lN x) (lN ((cy + x * rm_f S1 386 lb j) / 4294967296)) (lN (if rm_u (S1 (rm_at a + (k + j))) < (cy + x * rm_f S1 386 lb j) % 4294967296 + bo then 1 else 0)) (nI (j + 1)) (rm_w aS aL aG M (upd S1 (rm_at a + (k + j)) (nI (rm_u (S1 (rm_at a + (k + j))) + 4294967296 - ((cy + x * rm_f S1 386 lb j) % 4294967296 + bo)))) L G) := by
  obtain ⟨hK, hS, hL, hG, -, -, kS, kL, kG, -, -, lS, lL, lG, -, -, d1, d2, d3, -⟩ := H
  have c1 := rm_at_cap ha
  have c3 := rm_cap_le a
  have c4 : rm_at 386 = 124000 := by decide
  have i1 := nI_clamp (n := rm_at a + k + j) (by omega)
  have i2 := rm_i0 (a := rm_at a + k + j) (by omega)
  have i3 : rm_at a + k + j < 266800 := by omega
  have lg := rm_f_lt S1 386 lb j
  have lg : rm_f S1 386 lb j < 4294967296 := lg
  have hm : x * rm_f S1 386 lb j ≤ 4294967295 * 4294967295 := Nat.mul_le_mul (by omega) (by omega)
  have key : ∀ p : Nat, p < 18446744073709551616 → rM_without_242 m (nI a) s v5 (nI n) (nI lb) (nI k) v9 (lN x) (lN bo) (nI j) (lN p) (lN 0) (rm_w aS aL aG M S1 L G) = rM_without_176 m (nI a) s v5 (nI n) (nI lb) (nI k) v9 (lN x) (lN (p / 4294967296)) (lN (if rm_u (S1 (rm_at a + (k + j))) < p % 4294967296 + bo then 1 else 0)) (nI (j + 1)) (rm_w aS aL aG M (upd S1 (rm_at a + (k + j)) (nI (rm_u (S1 (rm_at a + (k + j))) + 4294967296 - (p % 4294967296 + bo)))) L G) := by
    intro p hp
    have em : lN p &&& (4294967295 : Int64) = lN (p % 4294967296) := wb_mask (k := 32) hp (by omega)
    obtain ⟨s1, s2⟩ := rm_sub64 (x := rm_u (S1 (rm_at a + k + j))) (y := p % 4294967296) (b := bo) (rm_u_lt _) (Nat.mod_lt _ (by decide)) hbo
    rw [rM_without_242_e]
    simp only [rm_wK, rm_wR, rm_wL, rm_wI, hK, hS, hL, hG, kS, kL, kG, lS, lL, lG, if_true, Option.bind_some, and_self, rm_rS, rm_rL d1, rm_rG d2 d3, rm_wS, rm_wLL d1, rm_wG d2 d3, rm_at_s ha, nI_add, i1, i2, i3, rm_mask, lN_add, Nat.zero_add, em, s2, rm_s32 hp, rM_without_314_e, nI_1]
    rw [Nat.add_assoc] at s1 ⊢
    by_cases q : rm_u (S1 (rm_at a + (k + j))) < p % 4294967296 + bo
    · rw [if_neg (by rw [s1]; omega), if_pos q]; rfl
    · rw [if_pos (by rw [s1]; omega), if_neg q]; rfl
  have key2 : ∀ y : Nat, y = x * rm_f S1 386 lb j → rM_without_242 m (nI a) s v5 (nI n) (nI lb) (nI k) v9 (lN x) (lN bo) (nI j) (lN y) (lN cy) (rm_w aS aL aG M S1 L G) = rM_without_242 m (nI a) s v5 (nI n) (nI lb) (nI k) v9 (lN x) (lN bo) (nI j) (lN (cy + y)) (lN 0) (rm_w aS aL aG M S1 L G) := by
    intro y hy
    rw [rM_without_242_e, rM_without_242_e]
    simp only [lN_add, Nat.zero_add]
  rw [rM_without_207_e]
  by_cases hj : j < lb
  · have p2 : ¬ nI lb ≤ nI j := by rw [nI_leI (by omega) (by omega)]; omega
    have k1 := nI_clamp (n := rm_at 386 + j) (by omega)
    have k2 := rm_i0 (a := rm_at 386 + j) (by omega)
    have k3 : rm_at 386 + j < 266800 := by omega
    have at386 : rM_at 386 (rm_w aS aL aG M S1 L G) = some (nI (rm_at 386), (rm_w aS aL aG M S1 L G)) := rm_at_s (a := 386) (by omega) _
    have fg : rm_u (S1 (rm_at 386 + j)) = rm_f S1 386 lb j := (if_pos hj).symm
    simp only [rm_wK, rm_wR, rm_wL, rm_wI, hK, hS, hL, hG, kS, kL, kG, lS, lL, lG, if_true, Option.bind_some, and_self, rm_rS, rm_rL d1, rm_rG d2 d3, rm_wS, rm_wLL d1, rm_wG d2 d3, p2, if_false, at386, nI_add, k1, k2, k3, rm_mask, lN_mul, fg]
    rw [key2 _ rfl, key _ (by omega)]
  · have p2 : nI lb ≤ nI j := by rw [nI_leI (by omega) (by omega)]; omega
    have fg : rm_f S1 386 lb j = 0 := if_neg hj
    rw [if_pos p2, fg, Nat.mul_zero, Nat.add_zero]
    have := key2 0 (by rw [fg, Nat.mul_zero])
    have this : rM_without_242 m (nI a) s v5 (nI n) (nI lb) (nI k) v9 (lN x) (lN bo) (nI j) 0 (lN cy) (rm_w aS aL aG M S1 L G) = _ := this
    rw [this, Nat.add_zero, key cy (by omega)]
/-- all words: the rest less x times the divisor -/
theorem rm_wi176 (H : rm_F m aS aL aG aN aB M) {a na lb n k x : Nat} (ha : a < 420) (ha1 : a ≠ 386) {S0 L G : Nat → Int32} (hna : na ≤ rm_cap a) (hlb : lb ≤ 4200) (hLa : L a = nI na) (hl : k + lb ≤ na) (hx : x < 4294967296) (hle : x * rm_D S0 386 lb ≤ rm_E S0 a k (na - k)) (s v5 v9 : Int32) : ∀ d j : Nat, (na - k) - j = d → j ≤ na - k → ∀ (S1 : Nat → Int32) (cy bo : Nat), cy < 4294967296 → bo ≤ 1 → (∀ q, q ≠ a → ∀ i, i < rm_cap q → S1 (rm_at q + i) = S0 (rm_at q + i)) → (∀ i, i < rm_cap a → (i < k ∨ k + j ≤ i) → S1 (rm_at a + i) = S0 (rm_at a + i)) → rm_E S1 a k j + x * ds rm_B (rm_f S0 386 lb) j = rm_E S0 a k j + (cy + bo) * rm_B ^ j →
    ∃ S2, rM_without_176 m (nI a) s v5 (nI n) (nI lb) (nI k) v9 (lN x) (lN cy) (lN bo) (nI j) (rm_w aS aL aG M S1 L G) = rM_without_322 m (nI a) s v5 (nI n) (nI lb) (nI k) v9 (rm_w aS aL aG M S2 L G) ∧ (∀ q, q ≠ a → ∀ i, i < rm_cap q → S2 (rm_at q + i) = S0 (rm_at q + i)) ∧ (∀ i, i < k → S2 (rm_at a + i) = S0 (rm_at a + i)) ∧ rm_E S2 a k (na - k) + x * rm_D S0 386 lb = rm_E S0 a k (na - k) := by
  have H0 := H
  obtain ⟨hK, hS, hL, hG, -, -, kS, kL, kG, -, -, lS, lL, lG, -, -, d1, d2, d3, -⟩ := H
  have ca_a := nI_clamp (n := a) (by omega)
  have ia_a := rm_i0 (a := a) (by omega)
  have c3 := rm_cap_le a
  have cap386 : rm_cap 386 = 4200 := by decide
  intro d
  induction d with
  | zero =>
    intro j hd hj S1 cy bo hcy hbo t1 t2 t3
    have e : j = na - k := by omega
    have p : nI na ≤ nI (k + j) := by rw [nI_leI (by omega) (by omega)]; omega
    rw [rM_without_176_e]
    simp only [rm_wK, rm_wR, rm_wL, rm_wI, hK, hS, hL, hG, kS, kL, kG, lS, lL, lG, if_true, Option.bind_some, and_self, rm_rS, rm_rL d1, rm_rG d2 d3, rm_wS, rm_wLL d1, rm_wG d2 d3, ca_a, ia_a, ha, hLa, nI_add, p]
    refine ⟨S1, rfl, t1, fun i hi => t2 i (by omega) (Or.inl hi), ?_⟩
    rw [e, rm_f_ds S0 386 (show lb ≤ na - k by omega)] at t3
    have h1 := rm_E_lt S1 a k (na - k)
    have h2 := rm_E_lt S0 a k (na - k)
    rcases Nat.eq_zero_or_pos (cy + bo) with z | z
    · rw [z, Nat.zero_mul, Nat.add_zero] at t3; exact t3
    · exfalso
      have : 1 * rm_B ^ (na - k) ≤ (cy + bo) * rm_B ^ (na - k) := Nat.mul_le_mul_right _ z
      omega
  | succ d ih =>
    intro j hd hj S1 cy bo hcy hbo t1 t2 t3
    have p : ¬ nI na ≤ nI (k + j) := by rw [nI_leI (by omega) (by omega)]; omega
    -- the next word
    have body : ∃ S2, rM_without_207 m (nI a) s v5 (nI n) (nI lb) (nI k) v9 (lN x) (lN cy) (lN bo) (nI j) (rm_w aS aL aG M S1 L G) = rM_without_322 m (nI a) s v5 (nI n) (nI lb) (nI k) v9 (rm_w aS aL aG M S2 L G) ∧ (∀ q, q ≠ a → ∀ i, i < rm_cap q → S2 (rm_at q + i) = S0 (rm_at q + i)) ∧ (∀ i, i < k → S2 (rm_at a + i) = S0 (rm_at a + i)) ∧ rm_E S2 a k (na - k) + x * rm_D S0 386 lb = rm_E S0 a k (na - k) := by
      have fg : rm_f S1 386 lb j = rm_f S0 386 lb j := by
        unfold rm_f
        split
        · rw [t1 386 (fun e => ha1 e.symm) j (by omega)]
        · rfl
      have lg : rm_f S0 386 lb j < 4294967296 := rm_f_lt S0 386 lb j
      have hm : x * rm_f S0 386 lb j ≤ 4294967295 * 4294967295 := Nat.mul_le_mul (by omega) (by omega)
      rw [rm_wi207 H0 ha ha1 hna hlb (by omega) hx hcy hbo, fg]
      have ew : S1 (rm_at a + (k + j)) = S0 (rm_at a + (k + j)) := t2 (k + j) (by omega) (Or.inr (Nat.le_refl _))
      have ub := rm_u_lt (S0 (rm_at a + (k + j)))
      obtain ⟨p, hp⟩ : ∃ p, p = cy + x * rm_f S0 386 lb j := ⟨_, rfl⟩
      rw [← hp, ew]
      obtain ⟨b2, hb2⟩ : ∃ b2, b2 = if rm_u (S0 (rm_at a + (k + j))) < p % 4294967296 + bo then 1 else 0 := ⟨_, rfl⟩
      rw [← hb2]
      have hb2l : b2 ≤ 1 := by rw [hb2]; split <;> omega
      obtain ⟨w, hw⟩ : ∃ w, w = rm_u (S0 (rm_at a + (k + j))) + 4294967296 - (p % 4294967296 + bo) := ⟨_, rfl⟩
      rw [← hw]
      have hww : w % 4294967296 + (p % 4294967296 + bo) = rm_u (S0 (rm_at a + (k + j))) + b2 * 4294967296 := by
        rw [hb2, hw]
        split <;> omega
      refine ih (j + 1) (by omega) (by omega) _ (p / 4294967296) b2 (by omega) hb2l (fun q hq i hi => ?_) (fun i hi hh => ?_) ?_
      · rw [pk_un (rm_apart hq i (k + j) hi (by omega))]; exact t1 q hq i hi
      · rw [pk_un (by omega)]; exact t2 i hi (by omega)
      · rw [rm_E_upd, rm_u_nI, ds_s]
        have e0 : rm_E S0 a k (j + 1) = rm_E S0 a k j + rm_u (S0 (rm_at a + (k + j))) * rm_B ^ j := rfl
        rw [e0, Nat.pow_succ]
        have e1 : w % 4294967296 + x * rm_f S0 386 lb j + (cy + bo) = rm_u (S0 (rm_at a + (k + j))) + (p / 4294967296 + b2) * 4294967296 := by omega
        have e2 : w % 4294967296 * rm_B ^ j + x * rm_f S0 386 lb j * rm_B ^ j + (cy + bo) * rm_B ^ j = rm_u (S0 (rm_at a + (k + j))) * rm_B ^ j + (p / 4294967296 + b2) * (rm_B ^ j * rm_B) := by
          rw [← Nat.add_mul, ← Nat.add_mul, e1, Nat.add_mul, Nat.mul_comm (rm_B ^ j) rm_B, ← Nat.mul_assoc]
        have e3 : x * (rm_f S0 386 lb j * rm_B ^ j) = x * rm_f S0 386 lb j * rm_B ^ j := (Nat.mul_assoc _ _ _).symm
        rw [Nat.mul_add, e3]
        omega
    rw [rM_without_176_e]
    by_cases hj2 : j < lb
    · have q1 : nI j < nI lb := by rw [nI_ltI (by omega) (by omega)]; exact hj2
      simp only [rm_wK, rm_wR, rm_wL, rm_wI, hK, hS, hL, hG, kS, kL, kG, lS, lL, lG, if_true, Option.bind_some, and_self, rm_rS, rm_rL d1, rm_rG d2 d3, rm_wS, rm_wLL d1, rm_wG d2 d3, ca_a, ia_a, ha, hLa, nI_add, p, if_false, q1]
      exact body
    · have q1 : ¬ nI j < nI lb := by rw [nI_ltI (by omega) (by omega)]; exact hj2
      by_cases hz : cy + bo = 0
      · have q2 : lN (cy + bo) = (0 : Int64) := by rw [hz]; rfl
        simp only [rm_wK, rm_wR, rm_wL, rm_wI, hK, hS, hL, hG, kS, kL, kG, lS, lL, lG, if_true, Option.bind_some, and_self, rm_rS, rm_rL d1, rm_rG d2 d3, rm_wS, rm_wLL d1, rm_wG d2 d3, ca_a, ia_a, ha, hLa, nI_add, lN_add, p, if_false, q1, q2]
        refine ⟨S1, rfl, t1, fun i hi => t2 i (by omega) (Or.inl hi), ?_⟩
        rw [hz, Nat.zero_mul, Nat.add_zero, rm_f_ds S0 386 (show lb ≤ j by omega)] at t3
        obtain ⟨r, hr⟩ := Nat.exists_eq_add_of_le (show j ≤ na - k by omega)
        have a1 : rm_E S1 a k (na - k) = rm_E S1 a k j + rm_B ^ j * ds rm_B (fun i => rm_u (S0 (rm_at a + (k + (j + i))))) r := by
          rw [hr]; unfold rm_E; rw [ds_app]; congr 2
          exact ds_cong (fun i hi => by rw [t2 (k + (j + i)) (by omega) (Or.inr (by omega))])
        have a2 : rm_E S0 a k (na - k) = rm_E S0 a k j + rm_B ^ j * ds rm_B (fun i => rm_u (S0 (rm_at a + (k + (j + i))))) r := by
          rw [hr]; unfold rm_E; rw [ds_app]
        omega
      · have q2 : ¬ lN (cy + bo) = (0 : Int64) := by rw [show (0 : Int64) = lN 0 from rfl, pk_lEQ (by omega) (by omega)]; exact hz
        simp only [rm_wK, rm_wR, rm_wL, rm_wI, hK, hS, hL, hG, kS, kL, kG, lS, lL, lG, if_true, Option.bind_some, and_self, rm_rS, rm_rL d1, rm_rG d2 d3, rm_wS, rm_wLL d1, rm_wG d2 d3, ca_a, ia_a, ha, hLa, nI_add, lN_add, p, if_false, q1, q2]
        exact body
end

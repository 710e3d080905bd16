/-! room -/
theorem cw_room20 {M : rg_M} {w b n l : Nat} (hK : rg_K M w = 6) (hR : rg_R M 80 w = some b) (hB : rg_K M b = 9) (hl : rg_L M b = l) (hl2 : l < 2 ^ 31) (hw : w ≠ rg_sz M) (hb : b ≠ rg_sz M) (hn : l ≤ n) : ∀ d k : Nat, l - k = d → k ≤ l → rW_room_20 w (rg_sz M) (nI k) (cr (rg_nA M 9 n) (rg_sz M) (fb_put (fun _ => 0) (rg_A M b) 0 k)) = some (none, rg_wR (cr (rg_nA M 9 n) (rg_sz M) (fb_put (fun _ => 0) (rg_A M b) 0 l)) 80 w (rg_sz M)) := by
  have k1 : rg_K (rg_nA M 9 n) w = 6 := (rg_up_ne hw).trans hK
  have k2 : rg_K (rg_nA M 9 n) b = 9 := (rg_up_ne hb).trans hB
  have k3 : rg_K (rg_nA M 9 n) (rg_sz M) = 9 := rg_up_eq
  have l1 : rg_L (rg_nA M 9 n) b = l := (rg_up_ne hb).trans hl
  have l2 : rg_L (rg_nA M 9 n) (rg_sz M) = n := rg_up_eq
  have r1 : rg_R (rg_nA M 9 n) 80 w = some b := hR
  have a1 : rg_A (rg_nA M 9 n) b = rg_A M b := by
    funext i; show (if b = rg_sz M then 0 else rg_A M b i) = _; rw [if_neg hb]
  intro d
  induction d with
  | zero =>
    intro k hd hk
    have e : k = l := by omega
    subst e
    rw [rW_room_20_e]
    simp only [cr_K, cr_R, cr_L, k1, k2, r1, l1, Option.bind_some, if_true, Int32.le_refl]
  | succ d ih =>
    intro k hd hk
    have p : ¬ nI l ≤ nI k := by rw [nI_leI (by omega) (by omega)]; omega
    have c1 := nI_clamp (n := k) (by omega)
    have c2 := rm_i0 (a := k) (by omega)
    have c3 : k < l := by omega
    have c4 : k < n := by omega
    have e := fb_put_succ (fun _ => 0) (rg_A M b) 0 k
    rw [Nat.zero_add] at e
    rw [rW_room_20_e]
    simp only [cr_K, cr_R, cr_L, k1, k2, k3, r1, l1, l2, Option.bind_some, if_true, p, if_false, c1, c2, c3, c4, and_self, cr_w, cr_An hb, a1, e, nI_1]
    exact ih (k + 1) (by omega) (by omega)
theorem cw_room {u z : Nat} {M : rg_M} (hH : cH u z M) {w : Nat} (hw : rg_K M w = 6) {k : Nat} (hk : k ≤ 866) : ∃ M', rW_room w (nI k) M = some M' ∧ cH u z M' ∧ cF M M' ∧ rg_I M' = rg_I M ∧ (∃ b', rg_R M' 80 w = some b' ∧ k ≤ rg_L M' b') ∧ (∀ x b n v, cwW M x b n v → ∃ b', cwW M' x b' n v) := by
  obtain ⟨hs, b, hR, hbs, hB, hL4, hL⟩ := hH.1 w hw
  rw [rW_room_u, rW_room_e, if_pos hw, hR]
  simp only [Option.bind_some, hB, if_true]
  by_cases hc : rg_L M b < k
  · rw [if_pos (by rw [nI_ltI (by omega) (by omega)]; exact hc)]
    have e1 : nI k >>> ((1 : Int32) &&& 31) = nI (k / 2) := pk_shrN (by omega) _ 1 (by decide)
    obtain ⟨n, hn⟩ : ∃ n, n = k + k / 2 := ⟨_, rfl⟩
    have e2 : nI k + nI (k / 2) = nI n := by rw [nI_add, hn]
    rw [e1, e2, nI_clamp (n := n) (by omega), if_pos ⟨rm_i0 (by omega), by omega⟩]
    have hws : w ≠ rg_sz M := by omega
    have hbs2 : b ≠ rg_sz M := by omega
    have t := cw_room20 (n := n) hw hR hB rfl (by omega) hws hbs2 (by omega) _ 0 rfl (Nat.zero_le _)
    have e3 : cr (rg_nA M 9 n) (rg_sz M) (fb_put (fun _ => 0) (rg_A M b) 0 0) = rg_nA M 9 n := by
      rw [fb_put_0]
      refine Eq.trans ?_ (cr_id (rg_nA M 9 n) (rg_sz M))
      congr 1
      funext i; show (0 : Int32) = (if rg_sz M = rg_sz M then 0 else _); rw [if_pos rfl]
    rw [e3] at t
    have t : rW_room_20 w (rg_sz M) 0 (rg_nA M 9 n) = _ := t
    rw [t]
    obtain ⟨M', hM'⟩ : ∃ M', M' = rg_wR (cr (rg_nA M 9 n) (rg_sz M) (fb_put (fun _ => 0) (rg_A M b) 0 (rg_L M b))) 80 w (rg_sz M) := ⟨_, rfl⟩
    rw [← hM']
    have fK : rg_K M' = va_up (rg_K M) (rg_sz M) 9 := by rw [hM']; rfl
    have fI : rg_I M' = rg_I M := by rw [hM']; rfl
    have fL : rg_L M' = va_up (rg_L M) (rg_sz M) n := by rw [hM']; rfl
    have fR : ∀ f a, rg_R M' f a = if f = 80 ∧ a = w then some (rg_sz M) else rg_R M f a := by
      intro f a; rw [hM']
      show rg_u2 (rg_R M) 80 w (some (rg_sz M)) f a = _
      unfold rg_u2
      by_cases p : f = 80
      · by_cases q : a = w
        · rw [if_pos p, if_pos q, if_pos ⟨p, q⟩]
        · rw [if_pos p, if_neg q, if_neg (fun h => q h.2)]
      · rw [if_neg p, if_neg (fun h => p h.1)]
    have fA : ∀ x, x ≠ rg_sz M → rg_A M' x = rg_A M x := by
      intro x hx; rw [hM']
      show rg_A (cr (rg_nA M 9 n) (rg_sz M) _) x = _
      rw [cr_An hx]
      funext i; show (if x = rg_sz M then 0 else rg_A M x i) = _; rw [if_neg hx]
    have fA2 : rg_A M' (rg_sz M) = fb_put (fun _ => 0) (rg_A M b) 0 (rg_L M b) := by rw [hM']; exact cr_A _ _ _
    have fS : rg_sz M' = rg_sz M + 1 := by rw [hM']; rfl
    have fUs : rg_us M' = rg_us M + n := by rw [hM']; rfl
    have fQ : ∀ x i, x ≠ rg_sz M → rg_Q M' x i = rg_Q M x i := by
      intro x i hx; rw [hM']; show (if x = rg_sz M then none else rg_Q M x i) = _; rw [if_neg hx]
    have hK6 : ∀ x, rg_K M' x = 6 → rg_K M x = 6 ∧ x ≠ rg_sz M := by
      intro x hx
      rw [fK] at hx
      by_cases e : x = rg_sz M
      · rw [e, rg_up_eq] at hx; omega
      · rw [rg_up_ne e] at hx; exact ⟨hx, e⟩
    have rw_ : rg_R M' 80 w = some (rg_sz M) := by rw [fR, if_pos ⟨rfl, rfl⟩]
    have rx : ∀ x, x ≠ w → rg_R M' 80 x = rg_R M 80 x := fun x hx => by rw [fR, if_neg (fun h => hx h.2)]
    have Ks : rg_K M' (rg_sz M) = 9 := by rw [fK, rg_up_eq]
    have Ls : rg_L M' (rg_sz M) = n := by rw [fL, rg_up_eq]
    have hcw : ∀ x, x < rg_sz M → cwc M' x = if x = w then n else cwc M x := by
      intro x hx
      unfold cwc
      rw [fK, rg_up_ne (by omega)]
      by_cases e : x = w
      · subst e; rw [if_pos rfl, if_pos hw, rw_]; exact Ls
      · rw [if_neg e, rx x e]
        by_cases h6 : rg_K M x = 6
        · rw [if_pos h6, if_pos h6]
          obtain ⟨-, c, c1, c2, -⟩ := hH.1 x h6
          rw [c1]
          show rg_L M' c = rg_L M c
          rw [fL, rg_up_ne (by omega)]
        · rw [if_neg h6, if_neg h6]
    have hsum : fb_sm (cwc M') (rg_sz M') + rg_L M b = fb_sm (cwc M) (rg_sz M) + n := by
      have h0 : cwc M' (rg_sz M) = 0 := by unfold cwc; rw [if_neg (by rw [Ks]; decide)]
      have h1 : cwc M w = rg_L M b := by unfold cwc; rw [if_pos hw, hR]; rfl
      rw [fS, fb_sm_succ, h0, Nat.add_zero, fb_sm_cong hcw, ← h1]
      exact fb_sm_upd (cwc M) n hs
    refine ⟨M', rfl, ⟨fun x hx => ?_, fun x x' c hx hx' h1 h2 => ?_, ?_, ?_⟩, ⟨by omega, fun a => ?_, fun a ha => by rw [fL, rg_up_ne (by omega)], fun _ _ _ _ => by rw [fI], fun f a hf => by rw [fR, if_neg (fun h => hf h.1)], fun c i hc => fQ c i (by omega), fun c hc ho => ⟨fA c (by omega), ?_⟩⟩, fI, ⟨_, rw_, by rw [Ls]; omega⟩, fun x c m v hW => ?_⟩
    · obtain ⟨h1, h2⟩ := hK6 x hx
      obtain ⟨g1, c, c1, c2, c3, c4, c5⟩ := hH.1 x h1
      refine ⟨by omega, ?_⟩
      by_cases e : x = w
      · rw [e]; exact ⟨_, rw_, by omega, Ks, by rw [Ls]; omega, by rw [Ls]; omega⟩
      · rw [rx x e]; exact ⟨c, c1, by omega, by rw [fK, rg_up_ne (by omega)]; exact c3, by rw [fL, rg_up_ne (by omega)]; exact c4, by rw [fL, rg_up_ne (by omega)]; exact c5⟩
    · obtain ⟨g1, g2⟩ := hK6 x hx
      obtain ⟨g3, g4⟩ := hK6 x' hx'
      have key : ∀ y, rg_K M y = 6 → y ≠ w → rg_R M' 80 y = some (rg_sz M) → False := by
        intro y hy hyw h
        rw [rx y hyw] at h
        have := (hH.L hy h).1
        omega
      by_cases e : x = w
      · by_cases e' : x' = w
        · rw [e, e']
        · rw [e, rw_] at h1; cases h1; exact absurd h2 (fun h => key x' g3 e' h)
      · by_cases e' : x' = w
        · rw [e', rw_] at h2; cases h2; exact absurd h1 (fun h => key x g1 e h)
        · rw [rx x e] at h1; rw [rx x' e'] at h2; exact hH.2.1 x x' c g1 g3 h1 h2
    · have := hH.2.2.1
      omega
    · have := hH.2.2.2
      omega
    · by_cases e : a = rg_sz M
      · refine Or.inr ⟨by omega, fun h => ?_, by rw [e]; exact Ks⟩
        have := (hH.1 a h).1
        omega
      · exact Or.inl (by rw [fK, rg_up_ne e])
    · rintro ⟨x, q1, q2⟩
      obtain ⟨g1, g2⟩ := hK6 x q1
      by_cases e : x = w
      · rw [e, rw_] at q2; cases q2; omega
      · rw [rx x e] at q2; exact ho ⟨x, g1, q2⟩
    · obtain ⟨c1, c2, c3, c4, c5, c6, c7, c8, c9⟩ := hW
      have hx := (hH.1 x c1).1
      have hc := hH.L c1 c2
      have k1 : rg_K M' x = 6 := by rw [fK, rg_up_ne (by omega)]; exact c1
      by_cases e : x = w
      · subst e
        rw [hR] at c2; cases c2
        have hA : ∀ j, j < m → rg_A M' (rg_sz M) j = rg_A M b j := by
          intro j hj
          rw [fA2, fb_put_in (Nat.zero_le _) (by omega)]; rfl
        refine ⟨_, k1, rw_, Ks, by rw [Ls]; omega, by rw [fI]; exact c5, by rw [fI]; exact c6, fun j hj => by rw [hA j hj]; exact c7 j hj, ?_, ?_⟩
        · by_cases hm : m = 0
          · exact Or.inl hm
          · rw [hA (m - 1) (by omega)]; exact c8
        · rw [c9]; exact (ds_cong (fun j hj => by rw [hA j hj])).symm
      · refine ⟨c, k1, by rw [rx x e]; exact c2, by rw [fK, rg_up_ne (by omega)]; exact c3, by rw [fL, rg_up_ne (by omega)]; exact c4, by rw [fI]; exact c5, by rw [fI]; exact c6, ?_, ?_, ?_⟩
        · rw [fA c (by omega)]; exact c7
        · rw [fA c (by omega)]; exact c8
        · rw [fA c (by omega)]; exact c9
  · rw [if_neg (by rw [nI_ltI (by omega) (by omega)]; exact hc)]
    exact ⟨M, rfl, hH, cF.rf M, rfl, ⟨b, hR, by omega⟩, fun x c n v h => ⟨c, h⟩⟩

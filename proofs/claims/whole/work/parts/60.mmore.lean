/-! the cards: what a place's first way gets more than its second -/
def iPg (P : List rmI) : rmI := (rv P, rk P, rokB P)
theorem rm_l4 (j : Nat) : (4 : Int32) * nI j = nI (4 * j) := by rw [show (4 : Int32) = nI 4 from rfl, pk_mul]
theorem rm_l1 (j : Nat) : nI j + (1 : Int32) = nI (j + 1) := by rw [show (1 : Int32) = nI 1 from rfl, nI_add]
theorem rm_l360 (j : Nat) : (360 : Int32) + nI j = nI (360 + j) := by rw [show (360 : Int32) = nI 360 from rfl, nI_add]
theorem rm_l320 (j : Nat) : (320 : Int32) + nI j = nI (320 + j) := by rw [show (320 : Int32) = nI 320 from rfl, nI_add]
section
variable {m aS aL aG aN aB : Nat} {M : rg_M}
variable {S L G : Nat → Int32} {V : rmV} {K : rmB}
theorem rm_w0 (p : Nat) : rM_weight m (nI p) 0 M = some (nI (320 + 2 * p), M) := rm_weight p 0
theorem rm_w1 (p : Nat) : rM_weight m (nI p) 1 M = some (nI (320 + 2 * p + 1), M) := rm_weight p 1
theorem rm_scaleX (H : rm_F m aS aL aG aN aB M) {a : Nat} {v : Int} {x : Int64} (h : rm_Y S L G V K) (ok : (iScale a v).2.2 K = true) (hx : x.toInt = v) : ∃ S' L' G', rM_scale m (nI a) x (rm_w aS aL aG M S L G) = some (rm_w aS aL aG M S' L' G') ∧ rm_Y S' L' G' ((iScale a v).1 V) ((iScale a v).2.1 K) := by
  have := rm_scaleY H h ok
  rw [← hx, Int64.ofInt_toInt, hx] at this
  exact this
def pgMoreFirst (k j : Nat) (s : Int)  : List rmI := [iCopy (360+(4*k+3)) 395, iScale 395 s, iMul (320+2*(4*j+1)) 395 393, iCopy (320+2*(4*k+3)+1) 395, iScale 395 (2*s), iMinus 395 (320+2*(4*k+3)) 396, iMul (320+2*(4*j+1)+1) 396 395, iPlus 393 395 393, iCopy (360+(4*j+1)) 394, iPg (pgSum 382 383), iCopy (320+2*(4*j+1+1)+1) 395, iScale 395 (2*s), iPlus 395 (320+2*(4*j+1+1)) 393, iCopy (360+(4*j+1)+1) 394, iPg (pgSum 384 385)]
theorem rm_moreFirstY (H : rm_F m aS aL aG aN aB M) {k j : Nat} {s : Int32} (e1 : s.toInt64.toInt = s.toInt) (e2 : ((2 : Int32) * s).toInt64.toInt = 2 * s.toInt) (h : rm_Y S L G V K) (ok : rok (pgMoreFirst k j s.toInt) K) : ∃ S' L' G', rM_moreFirst m (nI k) (nI j) s (rm_w aS aL aG M S L G) = some (rm_w aS aL aG M S' L' G') ∧ rm_Y S' L' G' (rv (pgMoreFirst k j s.toInt) V) (rk (pgMoreFirst k j s.toInt) K) := by
  obtain ⟨o1, o2, o3, o4, o5, o6, o7, o8, o9, o10, o11, o12, o13, o14, o15, -⟩ := ok
  obtain ⟨S1, L1, G1, t1, h1⟩ := rm_copyY H h o1
  have t1 : rM_copy m (nI (360+(4*k+3))) 395 (rm_w aS aL aG M S L G) = _ := t1
  obtain ⟨S2, L2, G2, t2, h2⟩ := rm_scaleX H h1 o2 (x := s.toInt64) e1
  have t2 : rM_scale m 395 (s.toInt64) (rm_w aS aL aG M S1 L1 G1) = _ := t2
  obtain ⟨S3, L3, G3, t3, h3⟩ := rm_mulY H h2 o3
  have t3 : rM_multiply m (nI (320+2*(4*j+1))) 395 393 (rm_w aS aL aG M S2 L2 G2) = _ := t3
  obtain ⟨S4, L4, G4, t4, h4⟩ := rm_copyY H h3 o4
  have t4 : rM_copy m (nI (320+2*(4*k+3)+1)) 395 (rm_w aS aL aG M S3 L3 G3) = _ := t4
  obtain ⟨S5, L5, G5, t5, h5⟩ := rm_scaleX H h4 o5 (x := ((2:Int32)*s).toInt64) e2
  have t5 : rM_scale m 395 (((2:Int32)*s).toInt64) (rm_w aS aL aG M S4 L4 G4) = _ := t5
  obtain ⟨S6, L6, G6, t6, h6⟩ := rm_minusY H h5 o6
  have t6 : rM_minus m 395 (nI (320+2*(4*k+3))) 396 (rm_w aS aL aG M S5 L5 G5) = _ := t6
  obtain ⟨S7, L7, G7, t7, h7⟩ := rm_mulY H h6 o7
  have t7 : rM_multiply m (nI (320+2*(4*j+1)+1)) 396 395 (rm_w aS aL aG M S6 L6 G6) = _ := t7
  obtain ⟨S8, L8, G8, t8, h8⟩ := rm_plusY H h7 o8
  have t8 : rM_plus m 393 395 393 (rm_w aS aL aG M S7 L7 G7) = _ := t8
  obtain ⟨S9, L9, G9, t9, h9⟩ := rm_copyY H h8 o9
  have t9 : rM_copy m (nI (360+(4*j+1))) 394 (rm_w aS aL aG M S8 L8 G8) = _ := t9
  obtain ⟨S10, L10, G10, t10, h10⟩ := rm_sumY H h9 (rok_of o10)
  have t10 : rM_sum m 382 383 (rm_w aS aL aG M S9 L9 G9) = _ := t10
  obtain ⟨S11, L11, G11, t11, h11⟩ := rm_copyY H h10 o11
  have t11 : rM_copy m (nI (320+2*(4*j+1+1)+1)) 395 (rm_w aS aL aG M S10 L10 G10) = _ := t11
  obtain ⟨S12, L12, G12, t12, h12⟩ := rm_scaleX H h11 o12 (x := ((2:Int32)*s).toInt64) e2
  have t12 : rM_scale m 395 (((2:Int32)*s).toInt64) (rm_w aS aL aG M S11 L11 G11) = _ := t12
  obtain ⟨S13, L13, G13, t13, h13⟩ := rm_plusY H h12 o13
  have t13 : rM_plus m 395 (nI (320+2*(4*j+1+1))) 393 (rm_w aS aL aG M S12 L12 G12) = _ := t13
  obtain ⟨S14, L14, G14, t14, h14⟩ := rm_copyY H h13 o14
  have t14 : rM_copy m (nI (360+(4*j+1)+1)) 394 (rm_w aS aL aG M S13 L13 G13) = _ := t14
  obtain ⟨S15, L15, G15, t15, h15⟩ := rm_sumY H h14 (rok_of o15)
  have t15 : rM_sum m 384 385 (rm_w aS aL aG M S14 L14 G14) = _ := t15
  have hK := H.1
  rw [rM_moreFirst_u, rM_moreFirst_e]
  simp only [rm_wK, hK, if_true, rm_behind, rm_w0, rm_w1, rm_l4, rm_l1, rm_l360, t1, t2, t3, t4, t5, t6, t7, t8, t9, t10, t11, t12, t13, t14, t15, Option.bind_some]
  exact ⟨_, _, _, rfl, h15⟩
def pgMoreBehindPass (j : Nat) (s : Int)  : List rmI := [iCopy (360+(4*j+3)) 395, iScale 395 s, iMinus 395 (320+2*(4*j+3)) 396, iCopy (320+2*(4*j+3)+1) 395, iScale 395 (2*s), iMinus 396 395 396, iMul (320+2*(4*j)) 396 393, iMul (360+4*j) (360+(4*j+3)) 394, iPg (pgSum 382 383)]
theorem rm_moreBehindPassY (H : rm_F m aS aL aG aN aB M) {j : Nat} {s : Int32} (e1 : s.toInt64.toInt = s.toInt) (e2 : ((2 : Int32) * s).toInt64.toInt = 2 * s.toInt) (h : rm_Y S L G V K) (ok : rok (pgMoreBehindPass j s.toInt) K) : ∃ S' L' G', rM_moreBehindPass m (nI j) s (rm_w aS aL aG M S L G) = some (rm_w aS aL aG M S' L' G') ∧ rm_Y S' L' G' (rv (pgMoreBehindPass j s.toInt) V) (rk (pgMoreBehindPass j s.toInt) K) := by
  obtain ⟨o1, o2, o3, o4, o5, o6, o7, o8, o9, -⟩ := ok
  obtain ⟨S1, L1, G1, t1, h1⟩ := rm_copyY H h o1
  have t1 : rM_copy m (nI (360+(4*j+3))) 395 (rm_w aS aL aG M S L G) = _ := t1
  obtain ⟨S2, L2, G2, t2, h2⟩ := rm_scaleX H h1 o2 (x := s.toInt64) e1
  have t2 : rM_scale m 395 (s.toInt64) (rm_w aS aL aG M S1 L1 G1) = _ := t2
  obtain ⟨S3, L3, G3, t3, h3⟩ := rm_minusY H h2 o3
  have t3 : rM_minus m 395 (nI (320+2*(4*j+3))) 396 (rm_w aS aL aG M S2 L2 G2) = _ := t3
  obtain ⟨S4, L4, G4, t4, h4⟩ := rm_copyY H h3 o4
  have t4 : rM_copy m (nI (320+2*(4*j+3)+1)) 395 (rm_w aS aL aG M S3 L3 G3) = _ := t4
  obtain ⟨S5, L5, G5, t5, h5⟩ := rm_scaleX H h4 o5 (x := ((2:Int32)*s).toInt64) e2
  have t5 : rM_scale m 395 (((2:Int32)*s).toInt64) (rm_w aS aL aG M S4 L4 G4) = _ := t5
  obtain ⟨S6, L6, G6, t6, h6⟩ := rm_minusY H h5 o6
  have t6 : rM_minus m 396 395 396 (rm_w aS aL aG M S5 L5 G5) = _ := t6
  obtain ⟨S7, L7, G7, t7, h7⟩ := rm_mulY H h6 o7
  have t7 : rM_multiply m (nI (320+2*(4*j))) 396 393 (rm_w aS aL aG M S6 L6 G6) = _ := t7
  obtain ⟨S8, L8, G8, t8, h8⟩ := rm_mulY H h7 o8
  have t8 : rM_multiply m (nI (360+4*j)) (nI (360+(4*j+3))) 394 (rm_w aS aL aG M S7 L7 G7) = _ := t8
  obtain ⟨S9, L9, G9, t9, h9⟩ := rm_sumY H h8 (rok_of o9)
  have t9 : rM_sum m 382 383 (rm_w aS aL aG M S8 L8 G8) = _ := t9
  have hK := H.1
  rw [rM_moreBehindPass_u, rM_moreBehindPass_e]
  simp only [rm_wK, hK, if_true, rm_behind, rm_first, rm_w0, rm_w1, rm_l4, rm_l1, rm_l360, t1, t2, t3, t4, t5, t6, t7, t8, t9, Option.bind_some]
  exact ⟨_, _, _, rfl, h9⟩
end

theorem rm_newton (l i : Int32) : 1 - l * (i * (2 - l * i)) = (1 - l * i) * (1 - l * i) := by grind
theorem rm_newton0 {l : Nat} (h : l % 2 = 1) : ∃ t : Int32, 1 - nI l * nI l = 2 * t := by
  obtain ⟨s, rfl⟩ : ∃ s, l = 2 * s + 1 := ⟨l / 2, by omega⟩
  refine ⟨-(2 * (nI s * nI s + nI s)), ?_⟩
  have e : nI (2 * s + 1) = 2 * nI s + 1 := by rw [← nI_1, ← pk_mul]; rfl
  rw [e]; grind
theorem rm_newton5 {l : Nat} (h : l % 2 = 1) {i0 i1 i2 i3 i4 i5 : Int32} (h0 : i0 = nI l) (h1 : i1 = i0 * (2 - nI l * i0)) (h2 : i2 = i1 * (2 - nI l * i1)) (h3 : i3 = i2 * (2 - nI l * i2)) (h4 : i4 = i3 * (2 - nI l * i3)) (h5 : i5 = i4 * (2 - nI l * i4)) : nI l * i5 = 1 := by
  obtain ⟨t, ht⟩ := rm_newton0 h
  have e0 : 1 - nI l * i0 = 2 * t := by rw [h0]; exact ht
  have e1 : 1 - nI l * i1 = 4 * (t * t) := by rw [h1, rm_newton, e0]; grind
  have e2 : 1 - nI l * i2 = 16 * (t * t * (t * t)) := by rw [h2, rm_newton, e1]; grind
  have e3 : 1 - nI l * i3 = 256 * ((t * t * (t * t)) * (t * t * (t * t))) := by rw [h3, rm_newton, e2]; grind
  obtain ⟨u, hu⟩ : ∃ u : Int32, u = (t * t * (t * t)) * (t * t * (t * t)) := ⟨_, rfl⟩
  rw [← hu] at e3
  have e4 : 1 - nI l * i4 = 65536 * (u * u) := by rw [h4, rm_newton, e3]; grind
  obtain ⟨w, hw⟩ : ∃ w : Int32, w = u * u := ⟨_, rfl⟩
  rw [← hw] at e4
  have e5 : 1 - nI l * i5 = (65536 * 65536) * (w * w) := by rw [h5, rm_newton, e4]; grind
  rw [show (65536 * 65536 : Int32) = 0 from rfl, Int32.zero_mul] at e5
  have : nI l * i5 = 1 - (1 - nI l * i5) := by grind
  rw [this, e5]; rfl
theorem rm_u_mul (x y : Int32) : rm_u (x * y) = rm_u x * rm_u y % 4294967296 := by
  show (x * y).toBitVec.toNat = _
  rw [Int32.toBitVec_mul, BitVec.toNat_mul]; rfl

/-- the tables' words that a call keeps -/
def rg_gd : List Cond := lw_tbl.filter goodWord
theorem rg_gt {w : Cond} (i : Nat) (h : tables_1[i]? = some w) (g : goodWord w = true) : w ∈ rg_gd := List.mem_filter.mpr ⟨List.mem_append_right _ (List.mem_of_getElem? h), g⟩
theorem rg_gp {w : Cond} (i : Nat) (h : (k2_sels lw_privs)[i]? = some w) (g : goodWord w = true) : w ∈ rg_gd := List.mem_filter.mpr ⟨List.mem_append_left _ (List.mem_of_getElem? h), g⟩
def rg_c0 : String := "RegretTable$CardGame"
def rg_T0 : u_T := fun k => match k with
  | 0 => ("RegretTable$CardGame", "reckoner", "LRegretTable$Reckoner;", true)
  | 1 => ("RegretTable$CardGame", "learning", "LRegretTable$Learning;", true)
  | 2 => ("RegretTable$CardGame", "played", "[LRegretTable$Fraction;", true)
  | 3 => ("RegretTable$CardGame", "chance", "LRegretTable$Fraction;", true)
  | 4 => ("RegretTable$CardGame", "onward", "LRegretTable$Fraction;", true)
  | 5 => ("RegretTable$CardGame", "greatest", "LRegretTable$Fraction;", true)
  | _ => ("RegretTable$CardGame", "deck", "I", false)
def rg_ty0 : Nat → FieldType := fun k => match k with
  | 0 => .object "RegretTable$Reckoner"
  | 1 => .object "RegretTable$Learning"
  | 2 => .array (.object "RegretTable$Fraction")
  | 3 => .object "RegretTable$Fraction"
  | 4 => .object "RegretTable$Fraction"
  | 5 => .object "RegretTable$Fraction"
  | _ => .int
theorem rg_nm0 : ∀ a, a < 7 → ∀ b, b < 7 → a ≠ b → (rg_T0 a).2.1 ≠ (rg_T0 b).2.1 := by decide +kernel
theorem rg_tk0 : ∀ k, k < 7 → parseFieldDescriptor (rg_T0 k).2.2.1 = some (rg_ty0 k) := by decide +kernel
theorem rg_in0 : ∀ w ∈ u_ws rg_c0 rg_T0 7, w ∈ rg_gd := by
  intro w hw
  obtain ⟨k, hk, rfl⟩ := List.mem_map.mp hw
  have hk := List.mem_range.mp hk
  rcases (show k = 0 ∨ k = 1 ∨ k = 2 ∨ k = 3 ∨ k = 4 ∨ k = 5 ∨ k = 6 by omega) with rfl | rfl | rfl | rfl | rfl | rfl | rfl
  · exact rg_gt 213 (by decide +kernel) (by decide +kernel)
  · exact rg_gt 215 (by decide +kernel) (by decide +kernel)
  · exact rg_gt 217 (by decide +kernel) (by decide +kernel)
  · exact rg_gt 219 (by decide +kernel) (by decide +kernel)
  · exact rg_gt 221 (by decide +kernel) (by decide +kernel)
  · exact rg_gt 223 (by decide +kernel) (by decide +kernel)
  · exact rg_gt 225 (by decide +kernel) (by decide +kernel)
def rg_c1 : String := "RegretTable$Fraction"
def rg_T1 : u_T := fun k => match k with
  | 0 => ("RegretTable$Fraction", "top", "LRegretTable$Whole;", false)
  | _ => ("RegretTable$Fraction", "bottom", "LRegretTable$Whole;", false)
def rg_ty1 : Nat → FieldType := fun k => match k with
  | 0 => .object "RegretTable$Whole"
  | _ => .object "RegretTable$Whole"
theorem rg_nm1 : ∀ a, a < 2 → ∀ b, b < 2 → a ≠ b → (rg_T1 a).2.1 ≠ (rg_T1 b).2.1 := by decide +kernel
theorem rg_tk1 : ∀ k, k < 2 → parseFieldDescriptor (rg_T1 k).2.2.1 = some (rg_ty1 k) := by decide +kernel
theorem rg_in1 : ∀ w ∈ u_ws rg_c1 rg_T1 2, w ∈ rg_gd := by
  intro w hw
  obtain ⟨k, hk, rfl⟩ := List.mem_map.mp hw
  have hk := List.mem_range.mp hk
  rcases (show k = 0 ∨ k = 1 by omega) with rfl | rfl
  · exact rg_gt 114 (by decide +kernel) (by decide +kernel)
  · exact rg_gt 116 (by decide +kernel) (by decide +kernel)
def rg_c2 : String := "RegretTable$Learning"
def rg_T2 : u_T := fun k => match k with
  | 0 => ("RegretTable$Learning", "reckoner", "LRegretTable$Reckoner;", true)
  | 1 => ("RegretTable$Learning", "regrets", "[LRegretTable$Fraction;", true)
  | 2 => ("RegretTable$Learning", "sums", "[LRegretTable$Fraction;", true)
  | 3 => ("RegretTable$Learning", "nextRegrets", "[LRegretTable$Fraction;", true)
  | 4 => ("RegretTable$Learning", "nextSums", "[LRegretTable$Fraction;", true)
  | 5 => ("RegretTable$Learning", "parts", "[LRegretTable$Fraction;", true)
  | 6 => ("RegretTable$Learning", "worths", "[LRegretTable$Fraction;", true)
  | 7 => ("RegretTable$Learning", "total", "LRegretTable$Fraction;", true)
  | 8 => ("RegretTable$Learning", "average", "LRegretTable$Fraction;", true)
  | 9 => ("RegretTable$Learning", "change", "LRegretTable$Fraction;", true)
  | 10 => ("RegretTable$Learning", "places", "I", false)
  | 11 => ("RegretTable$Learning", "stride", "I", false)
  | 12 => ("RegretTable$Learning", "waysAtFirst", "I", false)
  | _ => ("RegretTable$Learning", "waysElsewhere", "I", false)
def rg_ty2 : Nat → FieldType := fun k => match k with
  | 0 => .object "RegretTable$Reckoner"
  | 1 => .array (.object "RegretTable$Fraction")
  | 2 => .array (.object "RegretTable$Fraction")
  | 3 => .array (.object "RegretTable$Fraction")
  | 4 => .array (.object "RegretTable$Fraction")
  | 5 => .array (.object "RegretTable$Fraction")
  | 6 => .array (.object "RegretTable$Fraction")
  | 7 => .object "RegretTable$Fraction"
  | 8 => .object "RegretTable$Fraction"
  | 9 => .object "RegretTable$Fraction"
  | 10 => .int
  | 11 => .int
  | 12 => .int
  | _ => .int
theorem rg_nm2 : ∀ a, a < 14 → ∀ b, b < 14 → a ≠ b → (rg_T2 a).2.1 ≠ (rg_T2 b).2.1 := by decide +kernel
theorem rg_tk2 : ∀ k, k < 14 → parseFieldDescriptor (rg_T2 k).2.2.1 = some (rg_ty2 k) := by decide +kernel
theorem rg_in2 : ∀ w ∈ u_ws rg_c2 rg_T2 14, w ∈ rg_gd := by
  intro w hw
  obtain ⟨k, hk, rfl⟩ := List.mem_map.mp hw
  have hk := List.mem_range.mp hk
  rcases (show k = 0 ∨ k = 1 ∨ k = 2 ∨ k = 3 ∨ k = 4 ∨ k = 5 ∨ k = 6 ∨ k = 7 ∨ k = 8 ∨ k = 9 ∨ k = 10 ∨ k = 11 ∨ k = 12 ∨ k = 13 by omega) with rfl | rfl | rfl | rfl | rfl | rfl | rfl | rfl | rfl | rfl | rfl | rfl | rfl | rfl
  · exact rg_gt 146 (by decide +kernel) (by decide +kernel)
  · exact rg_gt 148 (by decide +kernel) (by decide +kernel)
  · exact rg_gt 150 (by decide +kernel) (by decide +kernel)
  · exact rg_gt 152 (by decide +kernel) (by decide +kernel)
  · exact rg_gt 154 (by decide +kernel) (by decide +kernel)
  · exact rg_gt 156 (by decide +kernel) (by decide +kernel)
  · exact rg_gt 158 (by decide +kernel) (by decide +kernel)
  · exact rg_gt 160 (by decide +kernel) (by decide +kernel)
  · exact rg_gt 162 (by decide +kernel) (by decide +kernel)
  · exact rg_gt 164 (by decide +kernel) (by decide +kernel)
  · exact rg_gt 166 (by decide +kernel) (by decide +kernel)
  · exact rg_gt 168 (by decide +kernel) (by decide +kernel)
  · exact rg_gt 170 (by decide +kernel) (by decide +kernel)
  · exact rg_gt 172 (by decide +kernel) (by decide +kernel)
def rg_c3 : String := "RegretTable$NumberGame"
def rg_T3 : u_T := fun k => match k with
  | 0 => ("RegretTable$NumberGame", "reckoner", "LRegretTable$Reckoner;", true)
  | 1 => ("RegretTable$NumberGame", "learning", "LRegretTable$Learning;", true)
  | 2 => ("RegretTable$NumberGame", "numbers", "[I", true)
  | _ => ("RegretTable$NumberGame", "greatest", "LRegretTable$Fraction;", true)
def rg_ty3 : Nat → FieldType := fun k => match k with
  | 0 => .object "RegretTable$Reckoner"
  | 1 => .object "RegretTable$Learning"
  | 2 => .array .int
  | _ => .object "RegretTable$Fraction"
theorem rg_nm3 : ∀ a, a < 4 → ∀ b, b < 4 → a ≠ b → (rg_T3 a).2.1 ≠ (rg_T3 b).2.1 := by decide +kernel
theorem rg_tk3 : ∀ k, k < 4 → parseFieldDescriptor (rg_T3 k).2.2.1 = some (rg_ty3 k) := by decide +kernel
theorem rg_in3 : ∀ w ∈ u_ws rg_c3 rg_T3 4, w ∈ rg_gd := by
  intro w hw
  obtain ⟨k, hk, rfl⟩ := List.mem_map.mp hw
  have hk := List.mem_range.mp hk
  rcases (show k = 0 ∨ k = 1 ∨ k = 2 ∨ k = 3 by omega) with rfl | rfl | rfl | rfl
  · exact rg_gt 188 (by decide +kernel) (by decide +kernel)
  · exact rg_gt 190 (by decide +kernel) (by decide +kernel)
  · exact rg_gt 192 (by decide +kernel) (by decide +kernel)
  · exact rg_gt 194 (by decide +kernel) (by decide +kernel)
def rg_c4 : String := "RegretTable$Reckoner"
def rg_T4 : u_T := fun k => match k with
  | 0 => ("RegretTable$Reckoner", "common", "LRegretTable$Whole;", true)
  | 1 => ("RegretTable$Reckoner", "quotient", "LRegretTable$Whole;", true)
  | 2 => ("RegretTable$Reckoner", "rest", "LRegretTable$Whole;", true)
  | 3 => ("RegretTable$Reckoner", "greater", "LRegretTable$Whole;", true)
  | 4 => ("RegretTable$Reckoner", "lesser", "LRegretTable$Whole;", true)
  | 5 => ("RegretTable$Reckoner", "shared", "LRegretTable$Whole;", true)
  | 6 => ("RegretTable$Reckoner", "left", "LRegretTable$Whole;", true)
  | 7 => ("RegretTable$Reckoner", "right", "LRegretTable$Whole;", true)
  | 8 => ("RegretTable$Reckoner", "first", "LRegretTable$Whole;", true)
  | 9 => ("RegretTable$Reckoner", "second", "LRegretTable$Whole;", true)
  | 10 => ("RegretTable$Reckoner", "scale", "LRegretTable$Whole;", true)
  | _ => ("RegretTable$Reckoner", "factors", "[J", true)
def rg_ty4 : Nat → FieldType := fun k => match k with
  | 0 => .object "RegretTable$Whole"
  | 1 => .object "RegretTable$Whole"
  | 2 => .object "RegretTable$Whole"
  | 3 => .object "RegretTable$Whole"
  | 4 => .object "RegretTable$Whole"
  | 5 => .object "RegretTable$Whole"
  | 6 => .object "RegretTable$Whole"
  | 7 => .object "RegretTable$Whole"
  | 8 => .object "RegretTable$Whole"
  | 9 => .object "RegretTable$Whole"
  | 10 => .object "RegretTable$Whole"
  | _ => .array .long
theorem rg_nm4 : ∀ a, a < 12 → ∀ b, b < 12 → a ≠ b → (rg_T4 a).2.1 ≠ (rg_T4 b).2.1 := by decide +kernel
theorem rg_tk4 : ∀ k, k < 12 → parseFieldDescriptor (rg_T4 k).2.2.1 = some (rg_ty4 k) := by decide +kernel
theorem rg_in4 : ∀ w ∈ u_ws rg_c4 rg_T4 12, w ∈ rg_gd := by
  intro w hw
  obtain ⟨k, hk, rfl⟩ := List.mem_map.mp hw
  have hk := List.mem_range.mp hk
  rcases (show k = 0 ∨ k = 1 ∨ k = 2 ∨ k = 3 ∨ k = 4 ∨ k = 5 ∨ k = 6 ∨ k = 7 ∨ k = 8 ∨ k = 9 ∨ k = 10 ∨ k = 11 by omega) with rfl | rfl | rfl | rfl | rfl | rfl | rfl | rfl | rfl | rfl | rfl | rfl
  · exact rg_gt 57 (by decide +kernel) (by decide +kernel)
  · exact rg_gt 59 (by decide +kernel) (by decide +kernel)
  · exact rg_gt 61 (by decide +kernel) (by decide +kernel)
  · exact rg_gt 63 (by decide +kernel) (by decide +kernel)
  · exact rg_gt 65 (by decide +kernel) (by decide +kernel)
  · exact rg_gt 67 (by decide +kernel) (by decide +kernel)
  · exact rg_gt 69 (by decide +kernel) (by decide +kernel)
  · exact rg_gt 71 (by decide +kernel) (by decide +kernel)
  · exact rg_gt 73 (by decide +kernel) (by decide +kernel)
  · exact rg_gt 75 (by decide +kernel) (by decide +kernel)
  · exact rg_gt 77 (by decide +kernel) (by decide +kernel)
  · exact rg_gt 79 (by decide +kernel) (by decide +kernel)
def rg_c5 : String := "RegretTable$Whole"
def rg_T5 : u_T := fun k => match k with
  | 0 => ("RegretTable$Whole", "words", "[I", false)
  | 1 => ("RegretTable$Whole", "used", "I", false)
  | _ => ("RegretTable$Whole", "negative", "Z", false)
def rg_ty5 : Nat → FieldType := fun k => match k with
  | 0 => .array .int
  | 1 => .int
  | _ => .boolean
theorem rg_nm5 : ∀ a, a < 3 → ∀ b, b < 3 → a ≠ b → (rg_T5 a).2.1 ≠ (rg_T5 b).2.1 := by decide +kernel
theorem rg_tk5 : ∀ k, k < 3 → parseFieldDescriptor (rg_T5 k).2.2.1 = some (rg_ty5 k) := by decide +kernel
theorem rg_in5 : ∀ w ∈ u_ws rg_c5 rg_T5 3, w ∈ rg_gd := by
  intro w hw
  obtain ⟨k, hk, rfl⟩ := List.mem_map.mp hw
  have hk := List.mem_range.mp hk
  rcases (show k = 0 ∨ k = 1 ∨ k = 2 by omega) with rfl | rfl | rfl
  · exact rg_gt 37 (by decide +kernel) (by decide +kernel)
  · exact rg_gt 39 (by decide +kernel) (by decide +kernel)
  · exact rg_gt 41 (by decide +kernel) (by decide +kernel)
def rg_c6 : String := "RegretTable"
def rg_T6 : u_T := fun k => match k with
  | 0 => ("RegretTable", "reckoner", "LRegretTable$Reckoner;", true)
  | 1 => ("RegretTable", "learning", "LRegretTable$Learning;", true)
  | 2 => ("RegretTable", "numberGame", "LRegretTable$NumberGame;", true)
  | 3 => ("RegretTable", "cardGame", "LRegretTable$CardGame;", true)
  | 4 => ("RegretTable", "viewed", "LRegretTable$Fraction;", true)
  | 5 => ("RegretTable", "gap", "LRegretTable$Fraction;", true)
  | 6 => ("RegretTable", "game", "I", false)
  | 7 => ("RegretTable", "rounds", "I", false)
  | 8 => ("RegretTable", "roundsOfA", "I", false)
  | 9 => ("RegretTable", "roundsOfB", "I", false)
  | _ => ("RegretTable", "refused", "Z", false)
def rg_ty6 : Nat → FieldType := fun k => match k with
  | 0 => .object "RegretTable$Reckoner"
  | 1 => .object "RegretTable$Learning"
  | 2 => .object "RegretTable$NumberGame"
  | 3 => .object "RegretTable$CardGame"
  | 4 => .object "RegretTable$Fraction"
  | 5 => .object "RegretTable$Fraction"
  | 6 => .int
  | 7 => .int
  | 8 => .int
  | 9 => .int
  | _ => .boolean
theorem rg_nm6 : ∀ a, a < 11 → ∀ b, b < 11 → a ≠ b → (rg_T6 a).2.1 ≠ (rg_T6 b).2.1 := by decide +kernel
theorem rg_tk6 : ∀ k, k < 11 → parseFieldDescriptor (rg_T6 k).2.2.1 = some (rg_ty6 k) := by decide +kernel
theorem rg_in6 : ∀ w ∈ u_ws rg_c6 rg_T6 11, w ∈ rg_gd := by
  intro w hw
  obtain ⟨k, hk, rfl⟩ := List.mem_map.mp hw
  have hk := List.mem_range.mp hk
  rcases (show k = 0 ∨ k = 1 ∨ k = 2 ∨ k = 3 ∨ k = 4 ∨ k = 5 ∨ k = 6 ∨ k = 7 ∨ k = 8 ∨ k = 9 ∨ k = 10 by omega) with rfl | rfl | rfl | rfl | rfl | rfl | rfl | rfl | rfl | rfl | rfl
  · exact rg_gt 241 (by decide +kernel) (by decide +kernel)
  · exact rg_gt 243 (by decide +kernel) (by decide +kernel)
  · exact rg_gt 245 (by decide +kernel) (by decide +kernel)
  · exact rg_gt 247 (by decide +kernel) (by decide +kernel)
  · exact rg_gt 249 (by decide +kernel) (by decide +kernel)
  · exact rg_gt 251 (by decide +kernel) (by decide +kernel)
  · exact rg_gt 253 (by decide +kernel) (by decide +kernel)
  · exact rg_gt 255 (by decide +kernel) (by decide +kernel)
  · exact rg_gt 257 (by decide +kernel) (by decide +kernel)
  · exact rg_gt 259 (by decide +kernel) (by decide +kernel)
  · exact rg_gt 261 (by decide +kernel) (by decide +kernel)
def rg_c7 : String := "RegretTableModel"
def rg_T7 : u_T := fun k => match k with
  | 0 => ("RegretTableModel", "store", "[I", true)
  | 1 => ("RegretTableModel", "length", "[I", true)
  | 2 => ("RegretTableModel", "sign", "[I", true)
  | 3 => ("RegretTableModel", "game", "I", false)
  | 4 => ("RegretTableModel", "rows", "I", false)
  | 5 => ("RegretTableModel", "columns", "I", false)
  | 6 => ("RegretTableModel", "deck", "I", false)
  | 7 => ("RegretTableModel", "rounds", "I", false)
  | 8 => ("RegretTableModel", "byColumn", "I", false)
  | 9 => ("RegretTableModel", "byRow", "I", false)
  | 10 => ("RegretTableModel", "numbers", "[I", true)
  | _ => ("RegretTableModel", "isGreat", "[Z", true)
def rg_ty7 : Nat → FieldType := fun k => match k with
  | 0 => .array .int
  | 1 => .array .int
  | 2 => .array .int
  | 3 => .int
  | 4 => .int
  | 5 => .int
  | 6 => .int
  | 7 => .int
  | 8 => .int
  | 9 => .int
  | 10 => .array .int
  | _ => .array .boolean
theorem rg_nm7 : ∀ a, a < 12 → ∀ b, b < 12 → a ≠ b → (rg_T7 a).2.1 ≠ (rg_T7 b).2.1 := by decide +kernel
theorem rg_tk7 : ∀ k, k < 12 → parseFieldDescriptor (rg_T7 k).2.2.1 = some (rg_ty7 k) := by decide +kernel
theorem rg_in7 : ∀ w ∈ u_ws rg_c7 rg_T7 12, w ∈ rg_gd := by
  intro w hw
  obtain ⟨k, hk, rfl⟩ := List.mem_map.mp hw
  have hk := List.mem_range.mp hk
  rcases (show k = 0 ∨ k = 1 ∨ k = 2 ∨ k = 3 ∨ k = 4 ∨ k = 5 ∨ k = 6 ∨ k = 7 ∨ k = 8 ∨ k = 9 ∨ k = 10 ∨ k = 11 by omega) with rfl | rfl | rfl | rfl | rfl | rfl | rfl | rfl | rfl | rfl | rfl | rfl
  · exact rg_gt 654 (by decide +kernel) (by decide +kernel)
  · exact rg_gt 656 (by decide +kernel) (by decide +kernel)
  · exact rg_gt 658 (by decide +kernel) (by decide +kernel)
  · exact rg_gt 660 (by decide +kernel) (by decide +kernel)
  · exact rg_gt 662 (by decide +kernel) (by decide +kernel)
  · exact rg_gt 664 (by decide +kernel) (by decide +kernel)
  · exact rg_gt 666 (by decide +kernel) (by decide +kernel)
  · exact rg_gt 668 (by decide +kernel) (by decide +kernel)
  · exact rg_gt 670 (by decide +kernel) (by decide +kernel)
  · exact rg_gt 672 (by decide +kernel) (by decide +kernel)
  · exact rg_gt 674 (by decide +kernel) (by decide +kernel)
  · exact rg_gt 676 (by decide +kernel) (by decide +kernel)
abbrev vwCl : List vw_C := [(rg_c0, rg_T0, 7), (rg_c1, rg_T1, 2), (rg_c2, rg_T2, 14), (rg_c3, rg_T3, 4), (rg_c4, rg_T4, 12), (rg_c5, rg_T5, 3), (rg_c6, rg_T6, 11), (rg_c7, rg_T7, 12)]
/-- how many slots the objects of a class have; which of them are references -/
def rg_n (c : Nat) : Nat := [7, 2, 14, 4, 12, 3, 11, 12].getD c 0
def rg_ir (c k : Nat) : Bool := ([[true, true, true, true, true, true, false], [true, true], [true, true, true, true, true, true, true, true, true, true, false, false, false, false], [true, true, true, true], [true, true, true, true, true, true, true, true, true, true, true, true], [true, false, false], [true, true, true, true, true, true, false, false, false, false, false], [true, true, true, false, false, false, false, false, false, false, true, true]].getD c []).getD k false
abbrev rg_Mt : Type := MethodName × ByteArray × Nat × Option FieldType × Nat × Nat
def rg_tab : List rg_Mt := [
  (⟨"RegretTable$Whole", "<init>", "()V"⟩, prog_7_method_1_code, 1, none, 1, 20),
  (⟨"RegretTable$Reckoner", "<init>", "()V"⟩, prog_6_method_1_code, 1, none, 2, 40),
  (⟨"RegretTable$Whole", "settle", "(I)V"⟩, prog_7_method_3_code, 3, none, 0, 0),
  (⟨"RegretTable$Whole", "become", "(J)V"⟩, prog_7_method_5_code, 6, none, 1, 22),
  (⟨"RegretTable$Fraction", "<init>", "()V"⟩, prog_3_method_1_code, 1, none, 2, 47),
  (⟨"RegretTable$Learning", "<init>", "(LRegretTable$Reckoner;)V"⟩, prog_4_method_1_code, 3, none, 3, 67),
  (⟨"RegretTable$NumberGame", "<init>", "(LRegretTable$Reckoner;LRegretTable$Learning;)V"⟩, prog_5_method_1_code, 3, none, 3, 67),
  (⟨"RegretTable$CardGame", "<init>", "(LRegretTable$Reckoner;LRegretTable$Learning;)V"⟩, prog_2_method_1_code, 4, none, 3, 67),
  (⟨"RegretTable", "<init>", "()V"⟩, prog_1_method_1_code, 1, none, 4, 90),
  (⟨"RegretTableModel", "at", "(I)I"⟩, prog_9_method_2_code, 1, some .int, 0, 0),
  (⟨"RegretTableModel", "trim", "(I)V"⟩, prog_9_method_5_code, 2, none, 1, 20),
  (⟨"RegretTableModel", "is", "(IJ)V"⟩, prog_9_method_4_code, 6, none, 2, 41),
  (⟨"RegretTableModel", "<init>", "()V"⟩, prog_9_method_1_code, 1, none, 3, 66),
  (⟨"RegretTable", "isWithin", "(III)Z"⟩, prog_1_method_14_code, 3, some .boolean, 0, 0),
  (⟨"RegretTable$Fraction", "become", "(II)V"⟩, prog_3_method_2_code, 3, none, 2, 47),
  (⟨"RegretTable$Learning", "begin", "(IIII)V"⟩, prog_4_method_2_code, 6, none, 3, 69),
  (⟨"RegretTable$NumberGame", "begin", "(II)V"⟩, prog_5_method_2_code, 4, none, 4, 94),
  (⟨"RegretTable", "begin", "(I)V"⟩, prog_1_method_15_code, 2, none, 0, 0),
  (⟨"RegretTable", "table", "(II)Z"⟩, prog_1_method_2_code, 3, some .boolean, 5, 117),
  (⟨"RegretTableModel", "changed", "()V"⟩, prog_9_method_24_code, 2, none, 0, 0),
  (⟨"RegretTableModel", "begin", "(I)V"⟩, prog_9_method_23_code, 3, none, 3, 66),
  (⟨"RegretTableModel", "table", "(II)Z"⟩, prog_9_method_25_code, 4, some .boolean, 4, 88),
  (⟨"RegretTable$Learning", "ways", "(I)I"⟩, prog_4_method_3_code, 2, some .int, 0, 0),
  (⟨"RegretTable$Learning", "has", "(II)Z"⟩, prog_4_method_4_code, 3, some .boolean, 1, 22),
  (⟨"RegretTable", "set", "(III)Z"⟩, prog_1_method_3_code, 4, some .boolean, 2, 44),
  (⟨"RegretTableModel", "set", "(III)Z"⟩, prog_9_method_26_code, 4, some .boolean, 1, 21),
  (⟨"RegretTable$CardGame", "begin", "(I)V"⟩, prog_2_method_2_code, 2, none, 4, 94),
  (⟨"RegretTable", "cards", "(I)Z"⟩, prog_1_method_4_code, 2, some .boolean, 5, 115),
  (⟨"RegretTableModel", "cards", "(I)Z"⟩, prog_9_method_27_code, 2, some .boolean, 4, 88),
  (⟨"RegretTable$Learning", "slot", "(II)I"⟩, prog_4_method_5_code, 3, some .int, 0, 0),
  (⟨"RegretTable$Whole", "sign", "()I"⟩, prog_7_method_7_code, 1, some .int, 0, 0),
  (⟨"RegretTable$Whole", "isOneWithoutSign", "()Z"⟩, prog_7_method_8_code, 1, some .boolean, 0, 0),
  (⟨"RegretTable$Whole", "lowest", "()J"⟩, prog_7_method_11_code, 5, some .long, 0, 0),
  (⟨"RegretTable$Reckoner", "commonOf", "(JJ)J"⟩, prog_6_method_9_code, 11, some .long, 0, 0),
  (⟨"RegretTable$Whole", "compareSize", "(LRegretTable$Whole;)I"⟩, prog_7_method_12_code, 3, some .int, 0, 0),
  (⟨"RegretTable$Whole", "room", "(I)V"⟩, prog_7_method_2_code, 4, none, 0, 0),
  (⟨"RegretTable$Whole", "copy", "(LRegretTable$Whole;)V"⟩, prog_7_method_6_code, 3, none, 1, 23),
  (⟨"java/lang/Integer", "numberOfLeadingZeros", "(I)I"⟩, prog_10_method_47_code, 2, some .int, 0, 0),
  (⟨"RegretTable$Reckoner", "leading", "(LRegretTable$Whole;II)J"⟩, prog_6_method_11_code, 11, some .long, 0, 0),
  (⟨"java/lang/Math", "abs", "(J)J"⟩, prog_11_method_61_code, 2, some .long, 0, 0),
  (⟨"RegretTable$Reckoner", "findFactors", "(LRegretTable$Whole;LRegretTable$Whole;)Z"⟩, prog_6_method_10_code, 26, some .boolean, 1, 30),
  (⟨"RegretTable$Reckoner", "combine", "(LRegretTable$Whole;LRegretTable$Whole;)V"⟩, prog_6_method_12_code, 21, none, 1, 23),
  (⟨"RegretTable$Whole", "clear", "()V"⟩, prog_7_method_4_code, 1, none, 0, 0),
  (⟨"RegretTable$Reckoner", "guessWord", "(LRegretTable$Whole;IIJ)J"⟩, prog_6_method_14_code, 27, some .long, 0, 0),
  (⟨"RegretTable$Reckoner", "takeAway", "(LRegretTable$Whole;LRegretTable$Whole;IJ)Z"⟩, prog_6_method_15_code, 8, some .boolean, 0, 0),
  (⟨"RegretTable$Reckoner", "putBack", "(LRegretTable$Whole;LRegretTable$Whole;I)V"⟩, prog_6_method_16_code, 6, none, 0, 0),
  (⟨"RegretTable$Reckoner", "divide", "(LRegretTable$Whole;LRegretTable$Whole;)V"⟩, prog_6_method_13_code, 11, none, 1, 46),
  (⟨"RegretTable$Reckoner", "findCommon", "(LRegretTable$Whole;LRegretTable$Whole;)V"⟩, prog_6_method_8_code, 8, none, 2, 76),
  (⟨"RegretTable$Reckoner", "divideOut", "(LRegretTable$Whole;LRegretTable$Whole;LRegretTable$Whole;)V"⟩, prog_6_method_7_code, 5, none, 2, 76),
  (⟨"RegretTable$Whole", "product", "(LRegretTable$Whole;LRegretTable$Whole;)V"⟩, prog_7_method_13_code, 10, none, 1, 23),
  (⟨"RegretTable$Whole", "increase", "(LRegretTable$Whole;)V"⟩, prog_7_method_14_code, 16, none, 1, 23),
  (⟨"RegretTable$Reckoner", "addTimes", "(LRegretTable$Fraction;LRegretTable$Fraction;I)V"⟩, prog_6_method_2_code, 4, none, 3, 103),
  (⟨"RegretTable$Fraction", "turnOver", "()V"⟩, prog_3_method_4_code, 2, none, 0, 0),
  (⟨"RegretTable$Fraction", "copy", "(LRegretTable$Fraction;)V"⟩, prog_3_method_3_code, 2, none, 2, 45),
  (⟨"RegretTable$Reckoner", "multiply", "(LRegretTable$Fraction;LRegretTable$Fraction;)V"⟩, prog_6_method_3_code, 3, none, 3, 103),
  (⟨"RegretTable$Learning", "findParts", "(I[LRegretTable$Fraction;)V"⟩, prog_4_method_6_code, 7, none, 4, 126),
  (⟨"RegretTable$Learning", "setCertain", "(II)V"⟩, prog_4_method_8_code, 4, none, 3, 69),
  (⟨"RegretTable$NumberGame", "gain", "(III)I"⟩, prog_5_method_4_code, 4, some .int, 0, 0),
  (⟨"RegretTable$NumberGame", "reckonWorths", "(I)V"⟩, prog_5_method_5_code, 7, none, 4, 126),
  (⟨"RegretTable$Whole", "lengthInBits", "()I"⟩, prog_7_method_9_code, 1, some .int, 1, 21),
  (⟨"java/lang/Math", "max", "(II)I"⟩, prog_11_method_65_code, 2, some .int, 0, 0),
  (⟨"RegretTable$Fraction", "longest", "()I"⟩, prog_3_method_5_code, 1, some .int, 2, 41),
  (⟨"RegretTable$Learning", "learnAt", "(I[LRegretTable$Fraction;)Z"⟩, prog_4_method_10_code, 6, some .boolean, 4, 126),
  (⟨"RegretTable$NumberGame", "learnAgainst", "(II)Z"⟩, prog_5_method_6_code, 3, some .boolean, 5, 152),
  (⟨"RegretTable$Learning", "adopt", "(I)V"⟩, prog_4_method_11_code, 4, none, 3, 66),
  (⟨"RegretTable", "playAgainst", "(II)Z"⟩, prog_1_method_16_code, 3, some .boolean, 6, 174),
  (⟨"RegretTable", "column", "(I)Z"⟩, prog_1_method_5_code, 2, some .boolean, 7, 196),
  (⟨"RegretTableModel", "ways", "(I)I"⟩, prog_9_method_21_code, 2, some .int, 0, 0),
  (⟨"RegretTableModel", "slot", "(II)I"⟩, prog_9_method_22_code, 3, some .int, 0, 0),
  (⟨"RegretTableModel", "copy", "(II)V"⟩, prog_9_method_6_code, 4, none, 1, 20),
  (⟨"RegretTableModel", "limb", "(II)J"⟩, prog_9_method_3_code, 3, some .long, 1, 20),
  (⟨"RegretTableModel", "multiply", "(III)V"⟩, prog_9_method_13_code, 14, none, 2, 42),
  (⟨"RegretTableModel", "zeros", "(I)I"⟩, prog_9_method_15_code, 3, some .int, 2, 42),
  (⟨"RegretTableModel", "right", "(II)V"⟩, prog_9_method_16_code, 11, none, 2, 41),
  (⟨"RegretTableModel", "compare", "(II)I"⟩, prog_9_method_8_code, 4, some .int, 2, 42),
  (⟨"RegretTableModel", "apart", "(III)V"⟩, prog_9_method_10_code, 11, none, 1, 20),
  (⟨"RegretTableModel", "divisor", "(II)I"⟩, prog_9_method_17_code, 9, some .int, 3, 71),
  (⟨"RegretTableModel", "together", "(III)V"⟩, prog_9_method_9_code, 12, none, 1, 20),
  (⟨"RegretTableModel", "plus", "(III)V"⟩, prog_9_method_11_code, 7, none, 3, 65),
  (⟨"RegretTableModel", "without", "(II)V"⟩, prog_9_method_18_code, 21, none, 3, 71),
  (⟨"RegretTableModel", "coprime", "(I)V"⟩, prog_9_method_29_code, 7, none, 4, 111),
  (⟨"RegretTableModel", "weigh", "(II)V"⟩, prog_9_method_28_code, 8, none, 5, 137),
  (⟨"RegretTableModel", "gets", "(III)I"⟩, prog_9_method_33_code, 4, some .int, 0, 0),
  (⟨"RegretTableModel", "scale", "(IJ)V"⟩, prog_9_method_14_code, 4, none, 3, 75),
  (⟨"RegretTableModel", "minus", "(III)V"⟩, prog_9_method_12_code, 5, none, 4, 91),
  (⟨"RegretTableModel", "lower", "(II)V"⟩, prog_9_method_19_code, 4, none, 4, 111),
  (⟨"RegretTableModel", "bitsOf", "(I)I"⟩, prog_9_method_7_code, 5, some .int, 2, 42),
  (⟨"RegretTableModel", "adds", "(II)Z"⟩, prog_9_method_30_code, 3, some .boolean, 5, 134),
  (⟨"RegretTableModel", "sums", "(I)Z"⟩, prog_9_method_31_code, 4, some .boolean, 6, 156),
  (⟨"RegretTableModel", "against", "(II)Z"⟩, prog_9_method_34_code, 5, some .boolean, 7, 179),
  (⟨"RegretTableModel", "stands", "(I)V"⟩, prog_9_method_32_code, 4, none, 2, 43),
  (⟨"RegretTableModel", "alone", "(III)Z"⟩, prog_9_method_35_code, 4, some .boolean, 8, 203),
  (⟨"RegretTableModel", "column", "(I)Z"⟩, prog_9_method_36_code, 2, some .boolean, 9, 226),
  (⟨"RegretTable", "row", "(I)Z"⟩, prog_1_method_6_code, 2, some .boolean, 7, 196),
  (⟨"RegretTableModel", "row", "(I)Z"⟩, prog_9_method_37_code, 2, some .boolean, 9, 226),
  (⟨"RegretTable$Learning", "findAllParts", "([LRegretTable$Fraction;)V"⟩, prog_4_method_7_code, 3, none, 5, 152),
  (⟨"RegretTable$CardGame", "findPlayed", "()V"⟩, prog_2_method_3_code, 4, none, 4, 125),
  (⟨"RegretTable$Learning", "clearWorths", "()V"⟩, prog_4_method_9_code, 2, none, 3, 69),
  (⟨"RegretTable$CardGame", "addWorth", "(IIIII)V"⟩, prog_2_method_4_code, 9, none, 4, 126),
  (⟨"RegretTable$CardGame", "reckonWorthsOfA", "()V"⟩, prog_2_method_5_code, 2, none, 5, 154),
  (⟨"RegretTable$CardGame", "reckonWorthsOfB", "()V"⟩, prog_2_method_6_code, 2, none, 5, 154),
  (⟨"RegretTable$CardGame", "goOnByParts", "()V"⟩, prog_2_method_7_code, 4, none, 4, 126),
  (⟨"RegretTable$CardGame", "learn", "()Z"⟩, prog_2_method_8_code, 2, some .boolean, 6, 175),
  (⟨"RegretTable$NumberGame", "learn", "()Z"⟩, prog_5_method_7_code, 1, some .boolean, 6, 174),
  (⟨"RegretTable", "round", "()I"⟩, prog_1_method_7_code, 3, some .int, 7, 196),
  (⟨"RegretTableModel", "sumsOf", "(II)V"⟩, prog_9_method_38_code, 6, none, 4, 98),
  (⟨"RegretTableModel", "bothOfTable", "()Z"⟩, prog_9_method_39_code, 5, some .boolean, 7, 179),
  (⟨"RegretTableModel", "sum0", "(II)V"⟩, prog_9_method_45_code, 3, none, 3, 66),
  (⟨"RegretTableModel", "beats", "(II)I"⟩, prog_9_method_43_code, 2, some .int, 0, 0),
  (⟨"RegretTableModel", "behind", "(I)I"⟩, prog_9_method_42_code, 1, some .int, 0, 0),
  (⟨"RegretTableModel", "weight", "(II)I"⟩, prog_9_method_44_code, 3, some .int, 0, 0),
  (⟨"RegretTableModel", "sum", "(II)V"⟩, prog_9_method_46_code, 3, none, 4, 91),
  (⟨"RegretTableModel", "moreFirst", "(III)V"⟩, prog_9_method_48_code, 5, none, 5, 115),
  (⟨"RegretTableModel", "first", "(I)I"⟩, prog_9_method_41_code, 1, some .int, 0, 0),
  (⟨"RegretTableModel", "moreBehindPass", "(II)V"⟩, prog_9_method_49_code, 3, none, 5, 115),
  (⟨"RegretTableModel", "more", "(I)V"⟩, prog_9_method_47_code, 5, none, 6, 139),
  (⟨"RegretTableModel", "allOfCards", "()Z"⟩, prog_9_method_50_code, 4, some .boolean, 7, 179),
  (⟨"RegretTableModel", "places", "()I"⟩, prog_9_method_20_code, 1, some .int, 0, 0),
  (⟨"RegretTableModel", "round", "()I"⟩, prog_9_method_40_code, 2, some .int, 8, 203),
  (⟨"RegretTable", "viewWay", "(III)Z"⟩, prog_1_method_17_code, 6, some .boolean, 5, 152),
  (⟨"RegretTable$Reckoner", "keepGreater", "(LRegretTable$Fraction;LRegretTable$Fraction;)V"⟩, prog_6_method_4_code, 3, none, 3, 66),
  (⟨"RegretTable$CardGame", "findGreater", "(I)V"⟩, prog_2_method_12_code, 2, none, 4, 88),
  (⟨"RegretTable$CardGame", "addBestOfA", "(LRegretTable$Fraction;)V"⟩, prog_2_method_10_code, 4, none, 5, 126),
  (⟨"RegretTable$CardGame", "addBestOfB", "(LRegretTable$Fraction;)V"⟩, prog_2_method_11_code, 4, none, 5, 126),
  (⟨"RegretTable$CardGame", "findBest", "(LRegretTable$Fraction;I)V"⟩, prog_2_method_9_code, 3, none, 6, 175),
  (⟨"RegretTable$NumberGame", "findBest", "(LRegretTable$Fraction;I)V"⟩, prog_5_method_8_code, 5, none, 6, 174),
  (⟨"RegretTable", "view", "(III)Z"⟩, prog_1_method_8_code, 7, some .boolean, 7, 198),
  (⟨"RegretTableModel", "isMore", "(IIII)Z"⟩, prog_9_method_51_code, 5, some .boolean, 5, 115),
  (⟨"RegretTableModel", "bestBehind", "(IZ)V"⟩, prog_9_method_54_code, 5, none, 6, 139),
  (⟨"RegretTableModel", "into", "()V"⟩, prog_9_method_53_code, 1, none, 5, 134),
  (⟨"RegretTableModel", "bestOfA", "(I)V"⟩, prog_9_method_55_code, 4, none, 7, 163),
  (⟨"RegretTableModel", "bestOfB", "(I)V"⟩, prog_9_method_56_code, 4, none, 7, 163),
  (⟨"RegretTableModel", "best", "(I)V"⟩, prog_9_method_52_code, 3, none, 8, 186),
  (⟨"RegretTableModel", "gap", "()V"⟩, prog_9_method_57_code, 1, none, 9, 208),
  (⟨"RegretTableModel", "view", "(III)Z"⟩, prog_9_method_58_code, 6, some .boolean, 10, 228),
  (⟨"RegretTable", "size", "(I)I"⟩, prog_1_method_9_code, 2, some .int, 2, 41),
  (⟨"RegretTableModel", "size", "(I)I"⟩, prog_9_method_59_code, 2, some .int, 3, 66),
  (⟨"RegretTable$Whole", "bitsAt", "(I)I"⟩, prog_7_method_10_code, 8, some .int, 0, 0),
  (⟨"RegretTable", "bits", "(II)I"⟩, prog_1_method_10_code, 3, some .int, 1, 27),
  (⟨"RegretTableModel", "bits", "(II)I"⟩, prog_9_method_60_code, 3, some .int, 2, 42),
  (⟨"RegretTable$Reckoner", "cutTimes", "(LRegretTable$Fraction;I)J"⟩, prog_6_method_6_code, 7, some .long, 2, 76),
  (⟨"RegretTable", "times", "(I)J"⟩, prog_1_method_11_code, 2, some .long, 3, 102),
  (⟨"RegretTableModel", "times", "(I)J"⟩, prog_9_method_61_code, 6, some .long, 4, 98),
  (⟨"java/lang/Math", "min", "(II)I"⟩, prog_11_method_69_code, 2, some .int, 0, 0),
  (⟨"RegretTable$NumberGame", "span", "()I"⟩, prog_5_method_3_code, 6, some .int, 1, 21),
  (⟨"RegretTable$Learning", "greatestRegret", "(I)LRegretTable$Fraction;"⟩, prog_4_method_12_code, 3, some (.object "RegretTable$Fraction"), 4, 88),
  (⟨"RegretTable$Reckoner", "isSquareWithin", "(LRegretTable$Fraction;JJ)Z"⟩, prog_6_method_5_code, 6, some .boolean, 2, 52),
  (⟨"RegretTable", "boundOfRegret", "(II)I"⟩, prog_1_method_18_code, 8, some .int, 5, 110),
  (⟨"RegretTable", "bound", "(I)I"⟩, prog_1_method_12_code, 2, some .int, 7, 197),
  (⟨"RegretTableModel", "span", "()I"⟩, prog_9_method_62_code, 6, some .int, 0, 0),
  (⟨"RegretTableModel", "isSquareWithin", "(IIJ)Z"⟩, prog_9_method_63_code, 5, some .boolean, 4, 98),
  (⟨"RegretTableModel", "bound", "(I)I"⟩, prog_9_method_64_code, 5, some .int, 10, 228),
  (⟨"RegretTable$Learning", "longest", "()I"⟩, prog_4_method_13_code, 5, some .int, 3, 61),
  (⟨"RegretTable", "about", "(I)I"⟩, prog_1_method_13_code, 2, some .int, 4, 85),
  (⟨"RegretTableModel", "greatest", "()I"⟩, prog_9_method_65_code, 6, some .int, 3, 66),
  (⟨"RegretTableModel", "about", "(I)I"⟩, prog_9_method_66_code, 2, some .int, 4, 91),
  (⟨"RegretTableLaw", "law", "([I)Z"⟩, code, 4, some .boolean, 11, 253)]
def rg_mt (k : Nat) : rg_Mt := rg_tab.getD k (⟨"", "", ""⟩, code, 0, none, 0, 0)
def rg_y (k : Nat) : MethodName := (rg_mt k).1
def rg_b (k : Nat) : ByteArray := (rg_mt k).2.1
def rg_ml (k : Nat) : Nat := (rg_mt k).2.2.1
def rg_rt (k : Nat) : Option FieldType := (rg_mt k).2.2.2.1
def rg_fr (k : Nat) : Nat := (rg_mt k).2.2.2.2.1
def rg_lo (k : Nat) : Nat := (rg_mt k).2.2.2.2.2
def rg_ws (k : Nat) : List Cond := Cond.code (rg_y k) (rg_b k) (rg_ml k) (rg_rt k) :: rg_gd
theorem rg_good : ∀ w ∈ rg_gd, goodWord w = true := fun w h => (List.mem_filter.mp h).2

/-! numbers in words: the value of n words f in base B -/
def ds (B : Nat) (f : Nat → Nat) : Nat → Nat
  | 0 => 0
  | n + 1 => ds B f n + f n * B ^ n
theorem ds_0 (B : Nat) (f : Nat → Nat) : ds B f 0 = 0 := rfl
theorem ds_s (B : Nat) (f : Nat → Nat) (n : Nat) : ds B f (n + 1) = ds B f n + f n * B ^ n := rfl
theorem ds_cong {B : Nat} {f g : Nat → Nat} : ∀ {n : Nat}, (∀ k, k < n → f k = g k) → ds B f n = ds B g n
  | 0, _ => rfl
  | n + 1, h => by rw [ds_s, ds_s, ds_cong (fun k hk => h k (by omega)), h n (by omega)]
theorem ds_lt {B : Nat} {f : Nat → Nat} : ∀ {n : Nat}, (∀ k, k < n → f k < B) → ds B f n < B ^ n
  | 0, _ => by simp [ds]
  | n + 1, h => by
    have h1 := ds_lt (n := n) (fun k hk => h k (by omega))
    have h2 := h n (by omega)
    rw [ds_s, Nat.pow_succ]
    have h3 : (f n + 1) * B ^ n ≤ B * B ^ n := Nat.mul_le_mul_right _ h2
    rw [Nat.add_mul, Nat.one_mul] at h3
    rw [Nat.mul_comm (B ^ n) B]
    omega
theorem ds_0s {B : Nat} (f : Nat → Nat) : ∀ n : Nat, ds B f (n + 1) = f 0 + B * ds B (fun k => f (k + 1)) n
  | 0 => by simp [ds]
  | n + 1 => by
    rw [ds_s, ds_0s f n, ds_s, Nat.mul_add, Nat.pow_succ]
    have : f (n + 1) * (B ^ n * B) = B * (f (n + 1) * B ^ n) := by
      rw [Nat.mul_comm (B ^ n) B, ← Nat.mul_assoc, Nat.mul_comm (f (n + 1)) B, Nat.mul_assoc]
    omega
theorem ds_app {B : Nat} (f : Nat → Nat) (m : Nat) : ∀ n : Nat, ds B f (m + n) = ds B f m + B ^ m * ds B (fun k => f (m + k)) n
  | 0 => by simp [ds]
  | n + 1 => by
    rw [← Nat.add_assoc, ds_s, ds_app f m n, ds_s, Nat.mul_add, Nat.pow_add]
    have : f (m + n) * (B ^ m * B ^ n) = B ^ m * (f (m + n) * B ^ n) := by
      rw [← Nat.mul_assoc, Nat.mul_comm (f (m + n)) (B ^ m), Nat.mul_assoc]
    omega
theorem ds_zero {B : Nat} {f : Nat → Nat} : ∀ {n : Nat}, (∀ k, k < n → f k = 0) → ds B f n = 0
  | 0, _ => rfl
  | n + 1, h => by rw [ds_s, ds_zero (fun k hk => h k (by omega)), h n (by omega), Nat.zero_mul]
/-- words that are 0 above -/
theorem ds_more {B : Nat} {f : Nat → Nat} {n m : Nat} (h : n ≤ m) (hz : ∀ k, n ≤ k → k < m → f k = 0) : ds B f m = ds B f n := by
  obtain ⟨d, rfl⟩ := Nat.exists_eq_add_of_le h
  rw [ds_app, ds_zero (n := d) (fun k hk => hz (n + k) (by omega) (by omega)), Nat.mul_zero, Nat.add_zero]
theorem ds_top {B : Nat} {f : Nat → Nat} {n : Nat} (h : f n ≠ 0) : B ^ n ≤ ds B f (n + 1) := by
  rw [ds_s]
  have : 1 * B ^ n ≤ f n * B ^ n := Nat.mul_le_mul_right _ (by omega)
  omega
theorem ds_pos {B : Nat} (hB : 0 < B) {f : Nat → Nat} {n : Nat} (h : f n ≠ 0) : 0 < ds B f (n + 1) :=
  Nat.lt_of_lt_of_le (Nat.pow_pos hB) (ds_top h)
/-- the longer number is the greater one -/
theorem ds_longer {B : Nat} {f g : Nat → Nat} {n m : Nat} (hf : ∀ k, k < n → f k < B) (hg : g m ≠ 0) (hm : n ≤ m) (hB : 0 < B) : ds B f n < ds B g (m + 1) :=
  Nat.lt_of_lt_of_le (ds_lt hf) (Nat.le_trans (Nat.pow_le_pow_right hB hm) (ds_top hg))
/-- the first word from above that differs decides -/
theorem ds_cmp {B : Nat} {f g : Nat → Nat} {n j : Nat} (hf : ∀ k, k < n → f k < B) (hj : j < n) (he : ∀ k, j < k → k < n → f k = g k) (hl : f j < g j) : ds B f n < ds B g n := by
  obtain ⟨d, rfl⟩ := Nat.exists_eq_add_of_le (show j + 1 ≤ n by omega)
  rw [ds_app, ds_app (B := B) g]
  have e : ds B (fun k => f (j + 1 + k)) d = ds B (fun k => g (j + 1 + k)) d := ds_cong (fun k hk => he _ (by omega) (by omega))
  rw [e, ds_s, ds_s]
  have h1 : ds B f j < B ^ j := ds_lt (fun k hk => hf k (by omega))
  have h2 : (f j + 1) * B ^ j ≤ g j * B ^ j := Nat.mul_le_mul_right _ hl
  rw [Nat.add_mul, Nat.one_mul] at h2
  omega
theorem ds_mod {B : Nat} {f : Nat → Nat} {n : Nat} (h0 : f 0 < B) (hn : 0 < n) : ds B f n % B = f 0 := by
  obtain ⟨m, rfl⟩ := Nat.exists_eq_succ_of_ne_zero (by omega : n ≠ 0)
  rw [ds_0s, Nat.add_mul_mod_self_left, Nat.mod_eq_of_lt h0]
/-- the words of a number -/
theorem ds_div {B : Nat} (hB : 0 < B) {f : Nat → Nat} {n : Nat} : ∀ (j : Nat), j ≤ n → (∀ k, k < j → f k < B) → ds B f n / B ^ j = ds B (fun k => f (j + k)) (n - j) := by
  intro j hj hf
  obtain ⟨d, rfl⟩ := Nat.exists_eq_add_of_le hj
  rw [ds_app, Nat.add_sub_cancel_left, Nat.add_mul_div_left _ _ (Nat.pow_pos hB), Nat.div_eq_of_lt (ds_lt hf), Nat.zero_add]
theorem ds_word {B : Nat} (hB : 0 < B) {f : Nat → Nat} {n j : Nat} (hj : j < n) (hf : ∀ k, k < n → f k < B) : ds B f n / B ^ j % B = f j := by
  rw [ds_div hB j (by omega) (fun k hk => hf k (by omega)), ds_mod (by simpa using hf j hj) (by omega)]
  rfl
theorem ds_upd {B : Nat} {f : Nat → Nat} {n j : Nat} (hj : j < n) (v : Nat) : ds B (fun k => if k = j then v else f k) n + f j * B ^ j = ds B f n + v * B ^ j := by
  obtain ⟨d, rfl⟩ := Nat.exists_eq_add_of_le (show j + 1 ≤ n by omega)
  rw [ds_app, ds_app (B := B) f]
  have e1 : ds B (fun k => if j + 1 + k = j then v else f (j + 1 + k)) d = ds B (fun k => f (j + 1 + k)) d := ds_cong (fun k hk => by rw [if_neg (by omega)])
  have e2 : ds B (fun k => if k = j then v else f k) j = ds B f j := ds_cong (fun k hk => by rw [if_neg (by omega)])
  rw [e1, ds_s, ds_s, e2]
  simp only [if_true]
  omega

/-! Ints and longs as whole numbers. -/
def zi (a : Int) : Int32 := Int32.ofInt a
def zl (a : Int) : Int64 := Int64.ofInt a
theorem zi_toInt {a : Int} (h1 : -2147483648 ≤ a) (h2 : a < 2147483648) : (zi a).toInt = a := by
  unfold zi
  rw [Int32.toInt_ofInt]
  have e : ((Int32.size : Nat) : Int) = 4294967296 := rfl
  simp only [Int.bmod, e]
  omega
theorem zl_toInt {a : Int} (h1 : -9223372036854775808 ≤ a) (h2 : a < 9223372036854775808) : (zl a).toInt = a := by
  unfold zl
  rw [Int64.toInt_ofInt]
  have e : ((Int64.size : Nat) : Int) = 18446744073709551616 := rfl
  simp only [Int.bmod, e]
  omega
theorem zi_of (x : Int32) : x = zi x.toInt := by
  unfold zi
  exact (Int32.ofInt_toInt x).symm
theorem zl_of (x : Int64) : x = zl x.toInt := by
  unfold zl
  exact (Int64.ofInt_toInt x).symm
theorem zi_rng (x : Int32) : -2147483648 ≤ x.toInt ∧ x.toInt < 2147483648 := ⟨Int32.le_toInt x, Int32.toInt_lt x⟩
theorem zi_add (a b : Int) : zi a + zi b = zi (a + b) := (Int32.ofInt_add a b).symm
theorem zi_sub (a b : Int) : zi a - zi b = zi (a - b) := (Int32.ofInt_sub a b).symm
theorem zi_mul (a b : Int) : zi a * zi b = zi (a * b) := (Int32.ofInt_mul a b).symm
theorem zi_neg (a : Int) : -zi a = zi (-a) := (Int32.ofInt_neg a).symm
theorem zl_add (a b : Int) : zl a + zl b = zl (a + b) := (Int64.ofInt_add a b).symm
theorem zl_sub (a b : Int) : zl a - zl b = zl (a - b) := (Int64.ofInt_sub a b).symm
theorem zl_mul (a b : Int) : zl a * zl b = zl (a * b) := (Int64.ofInt_mul a b).symm
theorem zi_lt {a b : Int} (h1 : -2147483648 ≤ a) (h2 : a < 2147483648) (h3 : -2147483648 ≤ b) (h4 : b < 2147483648) : zi a < zi b ↔ a < b := by
  rw [Int32.lt_iff_toInt_lt, zi_toInt h1 h2, zi_toInt h3 h4]
theorem zi_le {a b : Int} (h1 : -2147483648 ≤ a) (h2 : a < 2147483648) (h3 : -2147483648 ≤ b) (h4 : b < 2147483648) : zi a ≤ zi b ↔ a ≤ b := by
  rw [Int32.le_iff_toInt_le, zi_toInt h1 h2, zi_toInt h3 h4]
theorem zi_eq {a b : Int} (h1 : -2147483648 ≤ a) (h2 : a < 2147483648) (h3 : -2147483648 ≤ b) (h4 : b < 2147483648) : zi a = zi b ↔ a = b := by
  rw [← Int32.toInt_inj, zi_toInt h1 h2, zi_toInt h3 h4]
theorem zl_lt {a b : Int} (h1 : -9223372036854775808 ≤ a) (h2 : a < 9223372036854775808) (h3 : -9223372036854775808 ≤ b) (h4 : b < 9223372036854775808) : zl a < zl b ↔ a < b := by
  rw [Int64.lt_iff_toInt_lt, zl_toInt h1 h2, zl_toInt h3 h4]
theorem zl_eq {a b : Int} (h1 : -9223372036854775808 ≤ a) (h2 : a < 9223372036854775808) (h3 : -9223372036854775808 ≤ b) (h4 : b < 9223372036854775808) : zl a = zl b ↔ a = b := by
  rw [← Int64.toInt_inj, zl_toInt h1 h2, zl_toInt h3 h4]
theorem zi_div {a b : Int} (h1 : 0 ≤ a) (h2 : a < 2147483648) (h3 : 0 < b) (h4 : b < 2147483648) : zi a / zi b = zi (a / b) := by
  apply Int32.toInt_inj.mp
  rw [Int32.toInt_div_of_ne_right, zi_toInt (by omega) h2, zi_toInt (by omega) h4, Int.tdiv_eq_ediv_of_nonneg h1]
  · have q1 : 0 ≤ a / b := Int.ediv_nonneg h1 (by omega)
    have q2 : a / b ≤ a := Int.ediv_le_self b h1
    rw [zi_toInt (by omega) (by omega)]
  · intro e
    rw [show (-1 : Int32) = zi (-1) by decide] at e
    have := (zi_eq (by omega) h4 (a := b) (b := -1) (by omega) (by omega)).mp e
    omega
theorem zi_rem {a b : Int} (h1 : 0 ≤ a) (h2 : a < 2147483648) (h3 : 0 < b) (h4 : b < 2147483648) : zi a - zi a / zi b * zi b = zi (a % b) := by
  rw [zi_div h1 h2 h3 h4, zi_mul, zi_sub, Int.mul_comm, ← Int.emod_def]
theorem zl_div {a b : Int} (h1 : 0 ≤ a) (h2 : a < 9223372036854775808) (h3 : 0 < b) (h4 : b < 9223372036854775808) : zl a / zl b = zl (a / b) := by
  apply Int64.toInt_inj.mp
  rw [Int64.toInt_div_of_ne_right, zl_toInt (by omega) h2, zl_toInt (by omega) h4, Int.tdiv_eq_ediv_of_nonneg h1]
  · have q1 : 0 ≤ a / b := Int.ediv_nonneg h1 (by omega)
    have q2 : a / b ≤ a := Int.ediv_le_self b h1
    rw [zl_toInt (by omega) (by omega)]
  · intro e
    rw [show (-1 : Int64) = zl (-1) by decide] at e
    have := (zl_eq (by omega) h4 (a := b) (b := -1) (by omega) (by omega)).mp e
    omega
theorem zl_rem {a b : Int} (h1 : 0 ≤ a) (h2 : a < 9223372036854775808) (h3 : 0 < b) (h4 : b < 9223372036854775808) : zl a - zl a / zl b * zl b = zl (a % b) := by
  rw [zl_div h1 h2 h3 h4, zl_mul, zl_sub, Int.mul_comm, ← Int.emod_def]
theorem zi_i2l {a : Int} (h1 : -2147483648 ≤ a) (h2 : a < 2147483648) : (zi a).toInt64 = zl a := by
  apply Int64.toInt_inj.mp
  rw [Int32.toInt_toInt64, zi_toInt h1 h2, zl_toInt (by omega) (by omega)]
theorem zl_l2i (a : Int) : (zl a).toInt32 = zi a := by
  unfold zl zi
  exact Int64.toInt32_ofInt
theorem zi_clamp {a : Int} (h1 : 0 ≤ a) (h2 : a < 2147483648) : (zi a).toNatClampNeg = a.toNat := by
  show (zi a).toInt.toNat = _
  rw [zi_toInt (by omega) h2]
theorem zi_neg_iff {a : Int} (h1 : -2147483648 ≤ a) (h2 : a < 2147483648) : zi a < 0 ↔ a < 0 := by
  have : (0 : Int32) = zi 0 := rfl
  rw [this]
  exact zi_lt h1 h2 (by omega) (by omega)
theorem zi_ix {a : Int} {n : Nat} (h1 : 0 ≤ a) (h2 : a < n) (h3 : a < 2147483648) : q_ix (zi a) n = some a.toNat := by
  unfold q_ix
  rw [if_neg, zi_clamp h1 h3]
  rw [zi_clamp h1 h3, zi_neg_iff (by omega) h3]
  omega
theorem zi_ixn {j n : Nat} (h2 : j < n) (h3 : n ≤ 2147483647) : q_ix (zi j) n = some j := by
  rw [zi_ix (by omega) (by omega) (by omega)]
  rfl
theorem zi_b0 : zi 0 &&& 1 = zi 0 := by decide
theorem zi_b1 : zi 1 &&& 1 = zi 1 := by decide

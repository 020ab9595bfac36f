/-! numbers: an Int32 by an integer, an Int64 by an integer -/
def jI (z : Int) : Int32 := Int32.ofInt z
def kI (z : Int) : Int64 := Int64.ofInt z
theorem jI_n (n : Nat) : nI n = jI (n : Int) := by
  unfold nI jI
  exact (Int32.ofInt_eq_ofNat).symm
theorem jI_add (a b : Int) : jI a + jI b = jI (a + b) := (Int32.ofInt_add a b).symm
theorem jI_sub (a b : Int) : jI a - jI b = jI (a - b) := (Int32.ofInt_sub a b).symm
theorem jI_mul (a b : Int) : jI a * jI b = jI (a * b) := (Int32.ofInt_mul a b).symm
theorem jI_neg (a : Int) : -jI a = jI (-a) := (Int32.ofInt_neg a).symm
theorem jI_of (x : Int32) : x = jI x.toInt := (Int32.ofInt_toInt x).symm
theorem jI_i {a : Int} (h1 : -2147483648 ≤ a) (h2 : a < 2147483648) : (jI a).toInt = a := Int32.toInt_ofInt_of_le (by omega) (by omega)
theorem jI_le {a b : Int} (h1 : -2147483648 ≤ a) (h2 : a < 2147483648) (h3 : -2147483648 ≤ b) (h4 : b < 2147483648) : jI a ≤ jI b ↔ a ≤ b := by
  rw [Int32.le_iff_toInt_le, jI_i h1 h2, jI_i h3 h4]
theorem jI_lt {a b : Int} (h1 : -2147483648 ≤ a) (h2 : a < 2147483648) (h3 : -2147483648 ≤ b) (h4 : b < 2147483648) : jI a < jI b ↔ a < b := by
  rw [Int32.lt_iff_toInt_lt, jI_i h1 h2, jI_i h3 h4]
theorem jI_eq {a b : Int} (h1 : -2147483648 ≤ a) (h2 : a < 2147483648) (h3 : -2147483648 ≤ b) (h4 : b < 2147483648) : jI a = jI b ↔ a = b := by
  rw [← Int32.toInt_inj, jI_i h1 h2, jI_i h3 h4]
theorem jI_cl {a : Int} (h1 : 0 ≤ a) (h2 : a < 2147483648) : (jI a).toNatClampNeg = a.toNat := by
  rw [← Int32.toNat_toInt, jI_i (by omega) h2]
theorem jI_in {a : Int} {n : Nat} (h1 : 0 ≤ a) (h2 : a < n) (hn : n < 2147483648) : vp_in (jI a) n := by
  rw [vp_in_iff, jI_i (by omega) (by omega)]
  exact ⟨h1, h2⟩
theorem jI_div {a b : Int} (h1 : -2147483648 < a) (h2 : a < 2147483648) (h3 : 0 < b) (h4 : b < 2147483648) : jI a / jI b = jI (a.tdiv b) := by
  have e : (jI a / jI b).toInt = a.tdiv b := by
    rw [Int32.toInt_div_of_ne_left _ _ (fun h => by
      have := congrArg Int32.toInt h
      rw [jI_i (by omega) h2] at this
      have e2 : Int32.minValue.toInt = -2147483648 := rfl
      omega), jI_i (by omega) h2, jI_i (by omega) h4]
  rw [jI_of (jI a / jI b), e]
theorem kI_add (a b : Int) : kI a + kI b = kI (a + b) := (Int64.ofInt_add a b).symm
theorem kI_sub (a b : Int) : kI a - kI b = kI (a - b) := (Int64.ofInt_sub a b).symm
theorem kI_mul (a b : Int) : kI a * kI b = kI (a * b) := (Int64.ofInt_mul a b).symm
theorem kI_of (x : Int64) : x = kI x.toInt := (Int64.ofInt_toInt x).symm
theorem kI_i {a : Int} (h1 : -9223372036854775808 ≤ a) (h2 : a < 9223372036854775808) : (kI a).toInt = a := Int64.toInt_ofInt_of_le (by omega) (by omega)
theorem kI_j {a : Int} (h1 : -2147483648 ≤ a) (h2 : a < 2147483648) : (jI a).toInt64 = kI a := by
  rw [kI_of (jI a).toInt64, Int32.toInt_toInt64, jI_i h1 h2]
theorem kI_lt {a b : Int} (h1 : -9223372036854775808 ≤ a) (h2 : a < 9223372036854775808) (h3 : -9223372036854775808 ≤ b) (h4 : b < 9223372036854775808) : kI a < kI b ↔ a < b := by
  rw [Int64.lt_iff_toInt_lt, kI_i h1 h2, kI_i h3 h4]
theorem kI_le {a b : Int} (h1 : -9223372036854775808 ≤ a) (h2 : a < 9223372036854775808) (h3 : -9223372036854775808 ≤ b) (h4 : b < 9223372036854775808) : kI a ≤ kI b ↔ a ≤ b := by
  rw [Int64.le_iff_toInt_le, kI_i h1 h2, kI_i h3 h4]
theorem kI_div {a b : Int} (h1 : -9223372036854775808 < a) (h2 : a < 9223372036854775808) (h3 : 0 < b) (h4 : b < 9223372036854775808) : kI a / kI b = kI (a.tdiv b) := by
  have e : (kI a / kI b).toInt = a.tdiv b := by
    rw [Int64.toInt_div_of_ne_left _ _ (fun h => by
      have := congrArg Int64.toInt h
      rw [kI_i (by omega) h2] at this
      have e2 : Int64.minValue.toInt = -9223372036854775808 := rfl
      omega), kI_i (by omega) h2, kI_i (by omega) h4]
  rw [kI_of (kI a / kI b), e]

/-! longs as whole numbers -/
section NUM64
def lI (z : Int) : Int64 := Int64.ofInt z
theorem lI_toInt {z : Int} (h1 : -9223372036854775808 ≤ z) (h2 : z < 9223372036854775808) : (lI z).toInt = z := by
  unfold lI
  rw [Int64.toInt_ofInt, show Int64.size = 18446744073709551616 from rfl]
  exact Int.bmod_eq_of_le (by omega) (by omega)
theorem lI_of (x : Int64) : lI x.toInt = x := Int64.ofInt_toInt x
theorem lI_add (a b : Int) : lI a + lI b = lI (a + b) := (Int64.ofInt_add a b).symm
theorem lI_mul (a b : Int) : lI a * lI b = lI (a * b) := (Int64.ofInt_mul a b).symm
theorem lI_sub (a b : Int) : lI a - lI b = lI (a - b) := (Int64.ofInt_sub a b).symm
theorem lI_i2l (x : Int32) : x.toInt64 = lI x.toInt := by
  apply Int64.toInt_inj.mp
  have := q_rng x
  rw [lI_toInt (by omega) (by omega), Int32.toInt_toInt64]
theorem lI_nI {k : Nat} (h : k < 2 ^ 31) : (nI k).toInt64 = lI k := by rw [lI_i2l, nI_toInt h]
theorem lI_lt {a b : Int} (ha1 : -9223372036854775808 ≤ a) (ha2 : a < 9223372036854775808) (hb1 : -9223372036854775808 ≤ b) (hb2 : b < 9223372036854775808) : lI a < lI b ↔ a < b := by
  rw [q_lt64, lI_toInt ha1 ha2, lI_toInt hb1 hb2]
theorem lI_div16 {a : Int} (h1 : -500000000000000000 ≤ a) (h2 : a ≤ 500000000000000000) : lI (16 * a) / (16 : Int64) = lI a := by
  apply Int64.toInt_inj.mp
  rw [Int64.toInt_div, lI_toInt (by omega) (by omega), lI_toInt (by omega) (by omega), show (16 : Int64).toInt = 16 from rfl, Int.mul_tdiv_cancel_left _ (by decide)]
  exact Int.bmod_eq_of_le (by omega) (by omega)
end NUM64

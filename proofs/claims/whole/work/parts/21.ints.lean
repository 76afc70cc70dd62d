/-! ints as whole numbers -/
theorem in_add {a b : Int32} (h1 : -2147483648 ≤ a.toInt + b.toInt) (h2 : a.toInt + b.toInt < 2147483648) : (a + b).toInt = a.toInt + b.toInt := by
  rw [Int32.toInt_add]
  exact Int.bmod_eq_of_le (by omega) (by omega)
theorem in_sub {a b : Int32} (h1 : -2147483648 ≤ a.toInt - b.toInt) (h2 : a.toInt - b.toInt < 2147483648) : (a - b).toInt = a.toInt - b.toInt := by
  rw [Int32.toInt_sub]
  exact Int.bmod_eq_of_le (by omega) (by omega)
theorem in_mul {a b : Int32} (h1 : -2147483648 ≤ a.toInt * b.toInt) (h2 : a.toInt * b.toInt < 2147483648) : (a * b).toInt = a.toInt * b.toInt := by
  rw [Int32.toInt_mul]
  exact Int.bmod_eq_of_le (by omega) (by omega)
theorem in_neg {a : Int32} (h : -2147483648 < a.toInt) : (-a).toInt = -a.toInt := by
  rw [Int32.toInt_neg]
  have := a.toInt_lt
  exact Int.bmod_eq_of_le (by omega) (by omega)
theorem in_eq {a b : Int32} : a = b ↔ a.toInt = b.toInt := Int32.toInt_inj.symm
theorem in_le {a b : Int32} : a ≤ b ↔ a.toInt ≤ b.toInt := Int32.le_iff_toInt_le
theorem in_lt {a b : Int32} : a < b ↔ a.toInt < b.toInt := Int32.lt_iff_toInt_lt
theorem in_n {n : Nat} (h : n < 2147483648) : (nI n).toInt = n := nI_toInt h
theorem in_c {n : Nat} (h : n < 2147483648) : (nI n).toNatClampNeg = n := nI_clamp h
theorem in_F : (1000000000 : Int32).toInt = 1000000000 := by decide
theorem in_0 : (0 : Int32).toInt = 0 := by decide
theorem in_1 : (1 : Int32).toInt = 1 := by decide
theorem in_lo (a : Int32) : -2147483648 ≤ a.toInt := Int32.le_toInt a
theorem in_hi (a : Int32) : a.toInt < 2147483648 := Int32.toInt_lt a
theorem in_s {n : Nat} : nI n + 1 = nI (n + 1) := nI_1 n
/-- an int between 0 and n is a number -/
theorem in_of {x : Int32} {n : Nat} (h0 : 0 ≤ x.toInt) (h1 : x.toInt < n) : ∃ j : Nat, j < n ∧ x = nI j := by
  have h2 := in_hi x
  refine ⟨x.toInt.toNat, by omega, ?_⟩
  rw [in_eq, in_n (by omega)]
  omega
/-- lists of the first numbers -/
theorem in_ofInt {c : Int} (h1 : -2147483648 ≤ c) (h2 : c < 2147483648) : (Int32.ofInt c).toInt = c := Int32.toInt_ofInt_of_le (by omega) (by omega)

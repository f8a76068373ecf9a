theorem mm_I_add (x y : Int) : mm_I (x + y) = mm_I x + mm_I y := Int32.ofInt_add x y
theorem mm_I_sub (x y : Int) : mm_I (x - y) = mm_I x - mm_I y := Int32.ofInt_sub x y
theorem mm_I_mul (x y : Int) : mm_I (x * y) = mm_I x * mm_I y := Int32.ofInt_mul x y
theorem mm_I_neg (x : Int) : mm_I (0 - x) = -mm_I x := by rw [mm_I_sub, show mm_I 0 = 0 from rfl, Int32.zero_sub]
theorem mm_I_t (z : Int32) : mm_I z.toInt = z := Int32.ofInt_toInt z
theorem mm_J_add (x y : Int) : mm_J (x + y) = mm_J x + mm_J y := Int64.ofInt_add x y
theorem mm_J_sub (x y : Int) : mm_J (x - y) = mm_J x - mm_J y := Int64.ofInt_sub x y
theorem mm_J_mul (x y : Int) : mm_J (x * y) = mm_J x * mm_J y := Int64.ofInt_mul x y
theorem mm_J_t (z : Int64) : mm_J z.toInt = z := Int64.ofInt_toInt z
theorem mm_J_i (z : Int32) : mm_J z.toInt = z.toInt64 := by
  apply Int64.toInt_inj.mp
  rw [Int32.toInt_toInt64]
  exact Int64.toInt_ofInt_of_le (by have := Int32.le_toInt z; omega) (by have := Int32.toInt_lt z; omega)
theorem mm_I_j (x : Int) : (mm_J x).toInt32 = mm_I x := by
  simp [mm_I, mm_J]
theorem mm_I_b {v : Int} (h1 : -128 ≤ v) (h2 : v < 128) : (Int8.ofInt v).toInt32 = mm_I v := by
  apply Int32.toInt_inj.mp
  rw [Int8.toInt_toInt32, Int8.toInt_ofInt_of_le h1 h2]
  exact (Int32.toInt_ofInt_of_le (by omega) (by omega)).symm
theorem mm_I_s {v : Int} (h1 : -32768 ≤ v) (h2 : v < 32768) : (Int16.ofInt v).toInt32 = mm_I v := by
  apply Int32.toInt_inj.mp
  rw [Int16.toInt_toInt32, Int16.toInt_ofInt_of_le h1 h2]
  exact (Int32.toInt_ofInt_of_le (by omega) (by omega)).symm
theorem mm_I_in {x : Int} (h1 : -2147483648 ≤ x) (h2 : x < 2147483648) : (mm_I x).toInt = x := Int32.toInt_ofInt_of_le (by omega) (by omega)
theorem mm_I_cl {x : Int} (h1 : 0 ≤ x) (h2 : x < 2147483648) : (mm_I x).toNatClampNeg = x.toNat := by
  show (mm_I x).toInt.toNat = x.toNat
  rw [mm_I_in (by omega) h2]
theorem mm_I_vp {x : Int} {n : Nat} (h1 : 0 ≤ x) (h2 : x < n) (hn : n < 2147483648) : vp_in (mm_I x) n := by
  rw [vp_in_iff, mm_I_in (by omega) (by omega)]
  exact ⟨h1, h2⟩
theorem mm_I_lt0 {x : Int} (h1 : 0 ≤ x) (h2 : x < 2147483648) : ¬ mm_I x < 0 := by
  rw [Int32.lt_iff_toInt_lt, mm_I_in (by omega) h2, Int32.toInt_zero]; omega
theorem mm_I_nat (n : Nat) : Int32.ofNat n = mm_I (n : Int) := (Int32.ofInt_eq_ofNat (n := n)).symm
theorem mm_J_nat (n : Nat) : Int64.ofNat n = mm_J (n : Int) := (Int64.ofInt_eq_ofNat (n := n)).symm
theorem mm_J_fin (n : Fin 2) : Int64.ofNat (n : Nat) = mm_J ((n : Nat) : Int) := mm_J_nat n

/-! ===== how alike ===== -/
theorem fp_mul1 : (List.range 29).all (fun n => decide (FP.dmul (FP.i2d (Int32.ofInt (n : Int))) FP.dconst1 = FP.i2d (Int32.ofInt (n : Int)) ∧ FP.i2d (Int32.ofInt (n : Int)) &&& 0x7fffffffffffffff ≤ 0x7ff0000000000000)) = true := by decide +kernel
theorem fp_div1 : (List.range 29).all (fun n => (List.range 29).all (fun m => m == 0 || decide (FP.ddiv (FP.i2d (Int32.ofInt (n : Int))) (FP.i2d (Int32.ofInt (m : Int))) &&& 0x7fffffffffffffff ≤ 0x7ff0000000000000 ∧ FP.dcmp (FP.ddiv (FP.i2d (Int32.ofInt (n : Int))) (FP.i2d (Int32.ofInt (m : Int)))) (FP.ddiv (FP.i2d (Int32.ofInt (n : Int))) (FP.i2d (Int32.ofInt (m : Int)))) = some .eq))) = true := by decide +kernel
theorem fp_one : FP.dcmp FP.dconst1 FP.dconst1 = some .eq := by decide +kernel
theorem fp_mul {n : Nat} (hn : n ≤ 28) : FP.dmul (FP.i2d (Int32.ofInt (n : Int))) FP.dconst1 = FP.i2d (Int32.ofInt (n : Int)) ∧ FP.i2d (Int32.ofInt (n : Int)) &&& 0x7fffffffffffffff ≤ 0x7ff0000000000000 := by
  have h := List.all_eq_true.mp fp_mul1 n (List.mem_range.mpr (by omega))
  rwa [decide_eq_true_eq] at h
theorem fp_div {n m : Nat} (hn : n ≤ 28) (hm : m ≤ 28) (h0 : m ≠ 0) : FP.ddiv (FP.i2d (Int32.ofInt (n : Int))) (FP.i2d (Int32.ofInt (m : Int))) &&& 0x7fffffffffffffff ≤ 0x7ff0000000000000 ∧ FP.dcmp (FP.ddiv (FP.i2d (Int32.ofInt (n : Int))) (FP.i2d (Int32.ofInt (m : Int)))) (FP.ddiv (FP.i2d (Int32.ofInt (n : Int))) (FP.i2d (Int32.ofInt (m : Int)))) = some .eq := by
  have h := List.all_eq_true.mp (List.all_eq_true.mp fp_div1 n (List.mem_range.mpr (by omega))) m (List.mem_range.mpr (by omega))
  rcases Bool.or_eq_true_iff.mp h with h | h
  · exact absurd (by simpa using h) h0
  · rwa [decide_eq_true_eq] at h

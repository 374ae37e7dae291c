/-! ===== the constructors ===== -/
set_option maxRecDepth 100000 in
theorem ai_TB : Cond.arrayClass FieldType.int ∈ TB := (tb_in 51 (by decide +kernel) (by decide +kernel))
set_option maxRecDepth 100000 in
theorem oi_TB : Cond.instanceMethod objectInit ∈ TB := (tb_in 36 (by decide +kernel) (by decide +kernel))
set_option maxRecDepth 100000 in
theorem oc_TB : Cond.code objectInit ⟨#[0xb1]⟩ 1 none ∈ TB := (tb_in 37 (by decide +kernel) (by decide +kernel))
set_option maxRecDepth 100000 in
theorem obj_X3 : Cond.methodLink RX3 1 objectInit ∈ TB := (tb_in 43 (by decide +kernel) (by decide +kernel))
set_option maxRecDepth 100000 in
theorem pf_X3_13 : PUTF RX3 13 3 0 := ⟨RX3, TX3, 2, tyX3, rfl, by decide, rfl, rfl, (tb_in 44 (by decide +kernel) (by decide +kernel)), in_X3, tyX3_ok, nmX3, by decide, fun _ => ⟨rfl, rfl⟩, rfl, rfl⟩
set_option maxRecDepth 100000 in
theorem obj_X4 : Cond.methodLink RX4 3 objectInit ∈ TB := (tb_in 57 (by decide +kernel) (by decide +kernel))
set_option maxRecDepth 100000 in
theorem nwc_X4_9 : NEWC RX4 9 3 := ⟨RX3, TX3, 2, tyX3, rfl, rfl, (tb_in 58 (by decide +kernel) (by decide +kernel)), (tb_in 39 (by decide +kernel) (by decide +kernel)), (tb_in 22 (by decide +kernel) (by decide +kernel)), in_X3, tyX3_ok, fun k hk => by rcases (show k = 0 ∨ k = 1 by omega) with rfl | rfl <;> rfl⟩
set_option maxRecDepth 100000 in
theorem myi_X3 : MYI yX3_init cX3_init 2 1 := ⟨⟨(tb_in 42 (by decide +kernel) (by decide +kernel)), (tb_in 22 (by decide +kernel) (by decide +kernel)), ⟨by decide +kernel, by decide +kernel, by decide +kernel⟩, by decide⟩, rfl, (tb_in 41 (by decide +kernel) (by decide +kernel))⟩
set_option maxRecDepth 100000 in
theorem lki_X4_11 : LKI RX4 11 yX3_init := Or.inl (tb_in 59 (by decide +kernel) (by decide +kernel))
set_option maxRecDepth 100000 in
theorem pf_X4_14 : PUTF RX4 14 4 0 := ⟨RX4, TX4, 7, tyX4, rfl, by decide, rfl, rfl, (tb_in 60 (by decide +kernel) (by decide +kernel)), in_X4, tyX4_ok, nmX4, by decide, fun _ => ⟨rfl, rfl⟩, rfl, rfl⟩
set_option maxRecDepth 100000 in
theorem pf_X4_20 : PUTF RX4 20 4 1 := ⟨RX4, TX4, 7, tyX4, rfl, by decide, rfl, rfl, (tb_in 61 (by decide +kernel) (by decide +kernel)), in_X4, tyX4_ok, nmX4, by decide, fun _ => ⟨rfl, rfl⟩, rfl, rfl⟩
set_option maxRecDepth 100000 in
theorem pf_X4_23 : PUTF RX4 23 4 2 := ⟨RX4, TX4, 7, tyX4, rfl, by decide, rfl, rfl, (tb_in 62 (by decide +kernel) (by decide +kernel)), in_X4, tyX4_ok, nmX4, by decide, fun _ => ⟨rfl, rfl⟩, rfl, rfl⟩
set_option maxRecDepth 100000 in
theorem obj_X0 : Cond.methodLink RX0 3 objectInit ∈ TB := (tb_in 103 (by decide +kernel) (by decide +kernel))
set_option maxRecDepth 100000 in
theorem nwc_X0_9 : NEWC RX0 9 3 := ⟨RX3, TX3, 2, tyX3, rfl, rfl, (tb_in 104 (by decide +kernel) (by decide +kernel)), (tb_in 39 (by decide +kernel) (by decide +kernel)), (tb_in 22 (by decide +kernel) (by decide +kernel)), in_X3, tyX3_ok, fun k hk => by rcases (show k = 0 ∨ k = 1 by omega) with rfl | rfl <;> rfl⟩
set_option maxRecDepth 100000 in
theorem lki_X0_13 : LKI RX0 13 yX3_init := Or.inl (tb_in 105 (by decide +kernel) (by decide +kernel))
set_option maxRecDepth 100000 in
theorem pf_X0_16 : PUTF RX0 16 0 0 := ⟨RX0, TX0, 2, tyX0, rfl, by decide, rfl, rfl, (tb_in 106 (by decide +kernel) (by decide +kernel)), in_X0, tyX0_ok, nmX0, by decide, fun _ => ⟨rfl, rfl⟩, rfl, rfl⟩
set_option maxRecDepth 100000 in
theorem pf_X0_20 : PUTF RX0 20 0 1 := ⟨RX0, TX0, 2, tyX0, rfl, by decide, rfl, rfl, (tb_in 107 (by decide +kernel) (by decide +kernel)), in_X0, tyX0_ok, nmX0, by decide, fun _ => ⟨rfl, rfl⟩, rfl, rfl⟩
set_option maxRecDepth 100000 in
theorem obj_X5 : Cond.methodLink RX5 3 objectInit ∈ TB := (tb_in 118 (by decide +kernel) (by decide +kernel))
set_option maxRecDepth 100000 in
theorem nwc_X5_9 : NEWC RX5 9 3 := ⟨RX3, TX3, 2, tyX3, rfl, rfl, (tb_in 119 (by decide +kernel) (by decide +kernel)), (tb_in 39 (by decide +kernel) (by decide +kernel)), (tb_in 22 (by decide +kernel) (by decide +kernel)), in_X3, tyX3_ok, fun k hk => by rcases (show k = 0 ∨ k = 1 by omega) with rfl | rfl <;> rfl⟩
set_option maxRecDepth 100000 in
theorem lki_X5_11 : LKI RX5 11 yX3_init := Or.inl (tb_in 120 (by decide +kernel) (by decide +kernel))
set_option maxRecDepth 100000 in
theorem pf_X5_14 : PUTF RX5 14 5 0 := ⟨RX5, TX5, 5, tyX5, rfl, by decide, rfl, rfl, (tb_in 121 (by decide +kernel) (by decide +kernel)), in_X5, tyX5_ok, nmX5, by decide, fun _ => ⟨rfl, rfl⟩, rfl, rfl⟩
set_option maxRecDepth 100000 in
theorem pf_X5_20 : PUTF RX5 20 5 1 := ⟨RX5, TX5, 5, tyX5, rfl, by decide, rfl, rfl, (tb_in 122 (by decide +kernel) (by decide +kernel)), in_X5, tyX5_ok, nmX5, by decide, fun _ => ⟨rfl, rfl⟩, rfl, rfl⟩
set_option maxRecDepth 100000 in
theorem pf_X5_23 : PUTF RX5 23 5 2 := ⟨RX5, TX5, 5, tyX5, rfl, by decide, rfl, rfl, (tb_in 123 (by decide +kernel) (by decide +kernel)), in_X5, tyX5_ok, nmX5, by decide, fun _ => ⟨rfl, rfl⟩, rfl, rfl⟩
set_option maxRecDepth 100000 in
theorem pf_X5_26 : PUTF RX5 26 5 3 := ⟨RX5, TX5, 5, tyX5, rfl, by decide, rfl, rfl, (tb_in 124 (by decide +kernel) (by decide +kernel)), in_X5, tyX5_ok, nmX5, by decide, fun _ => ⟨rfl, rfl⟩, rfl, rfl⟩
set_option maxRecDepth 100000 in
theorem pf_X5_29 : PUTF RX5 29 5 4 := ⟨RX5, TX5, 5, tyX5, rfl, by decide, rfl, rfl, (tb_in 125 (by decide +kernel) (by decide +kernel)), in_X5, tyX5_ok, nmX5, by decide, fun _ => ⟨rfl, rfl⟩, rfl, rfl⟩
set_option maxRecDepth 100000 in
theorem obj_X2 : Cond.methodLink RX2 3 objectInit ∈ TB := (tb_in 142 (by decide +kernel) (by decide +kernel))
set_option maxRecDepth 100000 in
theorem nwc_X2_9 : NEWC RX2 9 3 := ⟨RX3, TX3, 2, tyX3, rfl, rfl, (tb_in 143 (by decide +kernel) (by decide +kernel)), (tb_in 39 (by decide +kernel) (by decide +kernel)), (tb_in 22 (by decide +kernel) (by decide +kernel)), in_X3, tyX3_ok, fun k hk => by rcases (show k = 0 ∨ k = 1 by omega) with rfl | rfl <;> rfl⟩
set_option maxRecDepth 100000 in
theorem lki_X2_11 : LKI RX2 11 yX3_init := Or.inl (tb_in 144 (by decide +kernel) (by decide +kernel))
set_option maxRecDepth 100000 in
theorem pf_X2_14 : PUTF RX2 14 2 0 := ⟨RX2, TX2, 10, tyX2, rfl, by decide, rfl, rfl, (tb_in 145 (by decide +kernel) (by decide +kernel)), in_X2, tyX2_ok, nmX2, by decide, fun _ => ⟨rfl, rfl⟩, rfl, rfl⟩
set_option maxRecDepth 100000 in
theorem pf_X2_20 : PUTF RX2 20 2 1 := ⟨RX2, TX2, 10, tyX2, rfl, by decide, rfl, rfl, (tb_in 146 (by decide +kernel) (by decide +kernel)), in_X2, tyX2_ok, nmX2, by decide, fun _ => ⟨rfl, rfl⟩, rfl, rfl⟩
set_option maxRecDepth 100000 in
theorem pf_X2_23 : PUTF RX2 23 2 2 := ⟨RX2, TX2, 10, tyX2, rfl, by decide, rfl, rfl, (tb_in 147 (by decide +kernel) (by decide +kernel)), in_X2, tyX2_ok, nmX2, by decide, fun _ => ⟨rfl, rfl⟩, rfl, rfl⟩
set_option maxRecDepth 100000 in
theorem pf_X2_26 : PUTF RX2 26 2 3 := ⟨RX2, TX2, 10, tyX2, rfl, by decide, rfl, rfl, (tb_in 148 (by decide +kernel) (by decide +kernel)), in_X2, tyX2_ok, nmX2, by decide, fun _ => ⟨rfl, rfl⟩, rfl, rfl⟩
set_option maxRecDepth 100000 in
theorem pf_X2_29 : PUTF RX2 29 2 4 := ⟨RX2, TX2, 10, tyX2, rfl, by decide, rfl, rfl, (tb_in 149 (by decide +kernel) (by decide +kernel)), in_X2, tyX2_ok, nmX2, by decide, fun _ => ⟨rfl, rfl⟩, rfl, rfl⟩
set_option maxRecDepth 100000 in
theorem pf_X1_11 : PUTF RX1 11 1 0 := ⟨RX1, TX1, 2, tyX1, rfl, by decide, rfl, rfl, (tb_in 91 (by decide +kernel) (by decide +kernel)), in_X1, tyX1_ok, nmX1, by decide, fun _ => ⟨rfl, rfl⟩, rfl, rfl⟩
set_option maxRecDepth 100000 in
theorem myi_X4 : MYI yX4_init cX4_init 1 0 := ⟨⟨(tb_in 56 (by decide +kernel) (by decide +kernel)), (tb_in 23 (by decide +kernel) (by decide +kernel)), ⟨by decide +kernel, by decide +kernel, by decide +kernel⟩, by decide⟩, rfl, (tb_in 55 (by decide +kernel) (by decide +kernel))⟩
set_option maxRecDepth 100000 in
theorem lki_X1_21 : LKI RX1 21 yX4_init := Or.inr (fun U h => h.2.2.1)
set_option maxRecDepth 100000 in
theorem obj_X1 : Cond.methodLink RX1 3 objectInit ∈ TB := (tb_in 87 (by decide +kernel) (by decide +kernel))

set_option maxRecDepth 100000 in
theorem nwc_X1_9 : NEWC RX1 9 4 := ⟨RX4, TX4, 7, tyX4, rfl, rfl, (tb_in 88 (by decide +kernel) (by decide +kernel)), (tb_in 53 (by decide +kernel) (by decide +kernel)), (tb_in 23 (by decide +kernel) (by decide +kernel)), in_X4, tyX4_ok, fun k hk => by rcases (show k = 0 ∨ k = 1 ∨ k = 2 ∨ k = 3 ∨ k = 4 ∨ k = 5 ∨ k = 6 by omega) with rfl | rfl | rfl | rfl | rfl | rfl | rfl <;> rfl⟩
set_option maxRecDepth 100000 in
theorem obj_X6 : Cond.methodLink RX6 3 objectInit ∈ TB := (tb_in 35 (by decide +kernel) (by decide +kernel))
set_option maxRecDepth 100000 in
theorem nwc_X6_9 : NEWC RX6 9 3 := ⟨RX3, TX3, 2, tyX3, rfl, rfl, (tb_in 38 (by decide +kernel) (by decide +kernel)), (tb_in 39 (by decide +kernel) (by decide +kernel)), (tb_in 22 (by decide +kernel) (by decide +kernel)), in_X3, tyX3_ok, fun k hk => by rcases (show k = 0 ∨ k = 1 by omega) with rfl | rfl <;> rfl⟩
set_option maxRecDepth 100000 in
theorem lki_X6_11 : LKI RX6 11 yX3_init := Or.inl (tb_in 40 (by decide +kernel) (by decide +kernel))
set_option maxRecDepth 100000 in
theorem pf_X6_14 : PUTF RX6 14 6 0 := ⟨RX6, TX6, 9, tyX6, rfl, by decide, rfl, rfl, (tb_in 176 (by decide +kernel) (by decide +kernel)), in_X6, tyX6_ok, nmX6, by decide, fun _ => ⟨rfl, rfl⟩, rfl, rfl⟩
set_option maxRecDepth 100000 in
theorem nwc_X6_18 : NEWC RX6 18 4 := ⟨RX4, TX4, 7, tyX4, rfl, rfl, (tb_in 52 (by decide +kernel) (by decide +kernel)), (tb_in 53 (by decide +kernel) (by decide +kernel)), (tb_in 23 (by decide +kernel) (by decide +kernel)), in_X4, tyX4_ok, fun k hk => by rcases (show k = 0 ∨ k = 1 ∨ k = 2 ∨ k = 3 ∨ k = 4 ∨ k = 5 ∨ k = 6 by omega) with rfl | rfl | rfl | rfl | rfl | rfl | rfl <;> rfl⟩
set_option maxRecDepth 100000 in
theorem lki_X6_20 : LKI RX6 20 yX4_init := Or.inr (fun U h => h.2.1)
set_option maxRecDepth 100000 in
theorem pf_X6_21 : PUTF RX6 21 6 1 := ⟨RX6, TX6, 9, tyX6, rfl, by decide, rfl, rfl, (tb_in 177 (by decide +kernel) (by decide +kernel)), in_X6, tyX6_ok, nmX6, by decide, fun _ => ⟨rfl, rfl⟩, rfl, rfl⟩
set_option maxRecDepth 100000 in
theorem pf_X6_25 : PUTF RX6 25 6 2 := ⟨RX6, TX6, 9, tyX6, rfl, by decide, rfl, rfl, (tb_in 178 (by decide +kernel) (by decide +kernel)), in_X6, tyX6_ok, nmX6, by decide, fun _ => ⟨rfl, rfl⟩, rfl, rfl⟩
set_option maxRecDepth 100000 in
theorem nwc_X6_32 : NEWC RX6 32 1 := ⟨RX1, TX1, 2, tyX1, rfl, rfl, (tb_in 82 (by decide +kernel) (by decide +kernel)), (tb_in 83 (by decide +kernel) (by decide +kernel)), (tb_in 24 (by decide +kernel) (by decide +kernel)), in_X1, tyX1_ok, fun k hk => by rcases (show k = 0 ∨ k = 1 by omega) with rfl | rfl <;> rfl⟩
set_option maxRecDepth 100000 in
theorem myi_X1 : MYI yX1_init cX1_init 2 0 := ⟨⟨(tb_in 86 (by decide +kernel) (by decide +kernel)), (tb_in 24 (by decide +kernel) (by decide +kernel)), ⟨by decide +kernel, by decide +kernel, by decide +kernel⟩, by decide⟩, rfl, (tb_in 85 (by decide +kernel) (by decide +kernel))⟩
set_option maxRecDepth 100000 in
theorem lki_X6_34 : LKI RX6 34 yX1_init := Or.inl (tb_in 84 (by decide +kernel) (by decide +kernel))
set_option maxRecDepth 100000 in
theorem pf_X6_35 : PUTF RX6 35 6 4 := ⟨RX6, TX6, 9, tyX6, rfl, by decide, rfl, rfl, (tb_in 180 (by decide +kernel) (by decide +kernel)), in_X6, tyX6_ok, nmX6, by decide, fun _ => ⟨rfl, rfl⟩, rfl, rfl⟩
set_option maxRecDepth 100000 in
theorem pf_X6_39 : PUTF RX6 39 6 5 := ⟨RX6, TX6, 9, tyX6, rfl, by decide, rfl, rfl, (tb_in 181 (by decide +kernel) (by decide +kernel)), in_X6, tyX6_ok, nmX6, by decide, fun _ => ⟨rfl, rfl⟩, rfl, rfl⟩
set_option maxRecDepth 100000 in
theorem nwc_X6_42 : NEWC RX6 42 0 := ⟨RX0, TX0, 2, tyX0, rfl, rfl, (tb_in 98 (by decide +kernel) (by decide +kernel)), (tb_in 99 (by decide +kernel) (by decide +kernel)), (tb_in 25 (by decide +kernel) (by decide +kernel)), in_X0, tyX0_ok, fun k hk => by rcases (show k = 0 ∨ k = 1 by omega) with rfl | rfl <;> rfl⟩
set_option maxRecDepth 100000 in
theorem myi_X0 : MYI yX0_init cX0_init 1 0 := ⟨⟨(tb_in 102 (by decide +kernel) (by decide +kernel)), (tb_in 25 (by decide +kernel) (by decide +kernel)), ⟨by decide +kernel, by decide +kernel, by decide +kernel⟩, by decide⟩, rfl, (tb_in 101 (by decide +kernel) (by decide +kernel))⟩
set_option maxRecDepth 100000 in
theorem lki_X6_44 : LKI RX6 44 yX0_init := Or.inr (fun U h => h.2.2.2.1)
set_option maxRecDepth 100000 in
theorem pf_X6_45 : PUTF RX6 45 6 6 := ⟨RX6, TX6, 9, tyX6, rfl, by decide, rfl, rfl, (tb_in 182 (by decide +kernel) (by decide +kernel)), in_X6, tyX6_ok, nmX6, by decide, fun _ => ⟨rfl, rfl⟩, rfl, rfl⟩
set_option maxRecDepth 100000 in
theorem nwc_X6_49 : NEWC RX6 49 5 := ⟨RX5, TX5, 5, tyX5, rfl, rfl, (tb_in 113 (by decide +kernel) (by decide +kernel)), (tb_in 114 (by decide +kernel) (by decide +kernel)), (tb_in 26 (by decide +kernel) (by decide +kernel)), in_X5, tyX5_ok, fun k hk => by rcases (show k = 0 ∨ k = 1 ∨ k = 2 ∨ k = 3 ∨ k = 4 by omega) with rfl | rfl | rfl | rfl | rfl <;> rfl⟩
set_option maxRecDepth 100000 in
theorem myi_X5 : MYI yX5_init cX5_init 1 0 := ⟨⟨(tb_in 117 (by decide +kernel) (by decide +kernel)), (tb_in 26 (by decide +kernel) (by decide +kernel)), ⟨by decide +kernel, by decide +kernel, by decide +kernel⟩, by decide⟩, rfl, (tb_in 116 (by decide +kernel) (by decide +kernel))⟩
set_option maxRecDepth 100000 in
theorem lki_X6_51 : LKI RX6 51 yX5_init := Or.inr (fun U h => h.2.2.2.2.1)
set_option maxRecDepth 100000 in
theorem pf_X6_52 : PUTF RX6 52 6 7 := ⟨RX6, TX6, 9, tyX6, rfl, by decide, rfl, rfl, (tb_in 183 (by decide +kernel) (by decide +kernel)), in_X6, tyX6_ok, nmX6, by decide, fun _ => ⟨rfl, rfl⟩, rfl, rfl⟩
set_option maxRecDepth 100000 in
theorem nwc_X6_56 : NEWC RX6 56 2 := ⟨RX2, TX2, 10, tyX2, rfl, rfl, (tb_in 137 (by decide +kernel) (by decide +kernel)), (tb_in 138 (by decide +kernel) (by decide +kernel)), (tb_in 27 (by decide +kernel) (by decide +kernel)), in_X2, tyX2_ok, fun k hk => by rcases (show k = 0 ∨ k = 1 ∨ k = 2 ∨ k = 3 ∨ k = 4 ∨ k = 5 ∨ k = 6 ∨ k = 7 ∨ k = 8 ∨ k = 9 by omega) with rfl | rfl | rfl | rfl | rfl | rfl | rfl | rfl | rfl | rfl <;> rfl⟩
set_option maxRecDepth 100000 in
theorem myi_X2 : MYI yX2_init cX2_init 1 0 := ⟨⟨(tb_in 141 (by decide +kernel) (by decide +kernel)), (tb_in 27 (by decide +kernel) (by decide +kernel)), ⟨by decide +kernel, by decide +kernel, by decide +kernel⟩, by decide⟩, rfl, (tb_in 140 (by decide +kernel) (by decide +kernel))⟩
set_option maxRecDepth 100000 in
theorem lki_X6_58 : LKI RX6 58 yX2_init := Or.inr (fun U h => h.2.2.2.2.2)
set_option maxRecDepth 100000 in
theorem pf_X6_59 : PUTF RX6 59 6 8 := ⟨RX6, TX6, 9, tyX6, rfl, by decide, rfl, rfl, (tb_in 184 (by decide +kernel) (by decide +kernel)), in_X6, tyX6_ok, nmX6, by decide, fun _ => ⟨rfl, rfl⟩, rfl, rfl⟩
theorem H0_row {i : Nat} (hi : kd i = 5) (k : Nat) : H0 i k = if k = 0 then 1 else 0 := by
  have h77 : i ≠ 77 := fun z => by subst z; exact absurd hi (by decide)
  have h76 : i ≠ 76 := fun z => by subst z; exact absurd hi (by decide)
  have h1 : (fc 3 k = 2) = (k = 0) := by
    rcases (show k = 0 ∨ k = 1 ∨ 2 ≤ k by omega) with rfl | rfl | h
    · decide
    · decide
    · have : fc 3 k = 3 := getD_out (show ([2, 0] : List Nat).length ≤ k from h)
      rw [this]
      simp
      omega
  unfold H0
  rw [hi]
  simp [h77, h76, h1]
theorem H0_arr {i : Nat} (hi : kd i = 0) (h77 : i ≠ 77) (k : Nat) : H0 i k = 0 := by
  have h76 : i ≠ 76 := fun z => by subst z; exact absurd hi (by decide)
  unfold H0
  rw [hi]
  simp [h77, h76]
theorem row_pos {i : Nat} (hi : kd i = 5) : 0 < al (i + 1) := by
  have h1 : ((List.range NC).all (fun i => !(kd i == 5) || decide (0 < al (i + 1)))) = true := by decide +kernel
  have h2 := List.all_eq_true.mp h1 i (List.mem_range.mpr (kd_lt hi (by omega)))
  simp only [hi, BEq.rfl, Bool.not_true, Bool.false_or, decide_eq_true_eq] at h2
  exact h2
set_option maxHeartbeats 4000000 in
set_option maxRecDepth 100000 in
theorem I_X3 {i rm : Nat} (hi : kd i = 5) (hal : al (i + 1) = rm) (h0 : 0 < rm) (h : MH) : CONI 1 yX3_init cX3_init 2 [vR i, vI (rm : Int)] (i + 1) (zer i h) (i + 2) (ini i (i + 2) h) 1 rm := by
  subst hal
  have hk1 := kd_row1 hi
  have hr0 := rf_row hi
  have hp : ¬ (al (i + 1) : Int) ≤ 0 := by omega
  have hi77 : i + 1 ≠ 77 := fun z => by have : i = 76 := by omega
                                        subst this; exact absurd hi (by decide)
  refine coni_of (own := RX3) (fl := flX3) (by decide +kernel) rfl rfl flok_X3 (by decide) ai_TB oi_TB oc_TB rfl (Nat.le_of_ble_eq_true rfl) ?_
  intro K hA hB hC hR
  show K 0 0 0 [(0, vR i), (1, vI (al (i + 1) : Int))] [] (i + 1) (zer i h)
  refine hA.1 _ _ 0 0 i _ _ _ _ 0 rfl rfl (by decide +kernel) ?_
  refine hB.2.2.2.2.1 _ _ 1 1 i _ _ _ _ obj_X3 (Nat.le_of_ble_eq_true rfl) (by decide +kernel) ?_
  refine hA.1 _ _ 4 0 i _ _ _ _ 0 rfl rfl (by decide +kernel) ?_
  refine hA.2.2.1 _ _ 5 _ _ _ _ (0) (by decide) (by decide +kernel) ?_
  refine hB.2.1 _ _ 6 7 3 1 i (i + 1) _ _ _ (0) rfl hi (by omega) (by decide) (by decide +kernel) ?_
  refine hA.1 _ _ 9 0 i _ _ _ _ 0 rfl rfl (by decide +kernel) ?_
  refine hB.2.2.2.2.2.2.1 _ _ 10 1 _ _ _ _ (al (i + 1) : Int) 1 rfl rfl (by decide +kernel) ?_
  refine hB.2.2.2.2.2.2.2.2.2 _ _ 11 18 _ 7 _ _ _ _ (by decide +kernel) (by decide) hp ?_
  refine hB.2.2.2.2.2.2.1 _ _ 14 1 _ _ _ _ (al (i + 1) : Int) 1 rfl rfl (by decide +kernel) ?_
  refine hB.2.2.2.2.2.2.2.2.1 _ _ 15 19 _ 4 _ _ _ (by decide +kernel) (by decide) ?_
  refine hB.2.2.1 _ _ 19 (i + 1) (al (i + 1) : Int) _ _ _ hk1 rfl (by decide) (by omega) (by decide +kernel) ?_
  refine hB.1 _ _ 21 13 3 0 i (i + 1) (i + 1 + 1) _ _ _ pf_X3_13 hi (by omega) hr0 (by decide +kernel) ?_
  rw [Nat.zero_add, Nat.zero_add]
  refine hR 24 _ _ (by decide +kernel) ?_
  funext a k
  rcases (show a < i ∨ a = i ∨ a = i + 1 ∨ i + 2 ≤ a by omega) with c | c | c | c
  · simp [up, zer, ini, c, show a ≠ i by omega, show a < i + 1 by omega]
  · subst c
    rw [show ini a (a + 2) h a k = H0 a k by simp [ini], H0_row hi]
    by_cases k0 : k = 0
    · simp [up, k0]
    · simp [up, zer, k0]
  · subst c
    rw [show ini i (i + 2) h (i + 1) k = H0 (i + 1) k by simp [ini, show ¬ i + 1 < i by omega], H0_arr hk1 hi77]
    simp [up, zer]
  · simp [up, zer, ini, show ¬ a < i by omega, show a ≠ i by omega, show ¬ a < i + 1 by omega, show ¬ a < i + 2 by omega]
theorem H0_st {i : Nat} (hi : kd i = 6) (k : Nat) : H0 i k = if k < 4 then 1 else 0 := by
  have h77 : i ≠ 77 := fun z => by subst z; exact absurd hi (by decide)
  have h76 : i ≠ 76 := fun z => by subst z; exact absurd hi (by decide)
  have h1 : (fc 4 k = 2) = (k < 3) := by
    rcases (show k = 0 ∨ k = 1 ∨ k = 2 ∨ k = 3 ∨ k = 4 ∨ k = 5 ∨ k = 6 ∨ 7 ≤ k by omega) with rfl | rfl | rfl | rfl | rfl | rfl | rfl | h
    · decide
    · decide
    · decide
    · decide
    · decide
    · decide
    · decide
    · have : fc 4 k = 3 := getD_out (show ([2, 2, 2, 0, 0, 0, 0] : List Nat).length ≤ k from h)
      rw [this]
      simp
      omega
  unfold H0
  rw [hi]
  simp [h77, h76, h1]
  by_cases c : k < 3
  · rw [if_pos c, if_pos (by omega)]
  · rw [if_neg c]
    by_cases d : k = 3
    · rw [if_pos d, if_pos (by omega)]
    · rw [if_neg d, if_neg (by omega)]
set_option maxHeartbeats 4000000 in
set_option maxRecDepth 100000 in
theorem I_X4 {i : Nat} (hi : kd i = 6) (h : MH) : CONI 2 yX4_init cX4_init 1 [vR i] (i + 1) (zer i h) (i + 7) (ini i (i + 7) h) 6 48 := by
  obtain ⟨r1, r2, r3, s1, s2, s3, b1, b2, b3⟩ := st_rf hi
  refine coni_of (own := RX4) (fl := flX4) (by decide +kernel) rfl rfl flok_X4 (by decide) ai_TB oi_TB oc_TB rfl (Nat.le_of_ble_eq_true rfl) ?_
  intro K hA hB hC hR
  show K 0 0 0 [(0, vR i)] [] (i + 1) (zer i h)
  refine hA.1 _ _ 0 0 i _ _ _ _ 0 rfl rfl (by decide +kernel) ?_
  refine hB.2.2.2.2.1 _ _ 1 3 i _ _ _ _ obj_X4 (Nat.le_of_ble_eq_true rfl) (by decide +kernel) ?_
  refine hA.1 _ _ 4 0 i _ _ _ _ 0 rfl rfl (by decide +kernel) ?_
  refine hA.2.2.2.2.2.1 _ _ 5 9 3 (i + 1) _ _ _ nwc_X4_9 s1 (Nat.le_of_ble_eq_true rfl) (Nat.le_of_ble_eq_true rfl) (by decide +kernel) ?_
  refine hA.2.1 _ _ 8 (i + 1) _ _ _ _ (by decide +kernel) ?_
  refine hA.2.2.2.1 _ _ 9 _ _ _ _ (14) (by decide) (by decide +kernel) ?_
  refine hA.2.2.2.2.2.2 _ _ 11 11 1 (i + 1) 2 (i + 2) (i + 3) 1 14 yX3_init cX3_init [vI 14] [vR (i + 1), vR i] _ _ _ _ myi_X3 lki_X4_11 (by decide) (I_X3 (i := (i + 1)) (rm := 14) s1 b1 (by decide) _) rfl (Nat.le_of_ble_eq_true rfl) (by decide +kernel) (Nat.le_of_ble_eq_true rfl) (Nat.le_of_ble_eq_true rfl) ?_
  refine hB.1 _ _ 14 14 4 0 i (i + 1) (i + 3) _ _ _ pf_X4_14 hi (by omega) r1 (by decide +kernel) ?_
  refine hA.1 _ _ 17 0 i _ _ _ _ 0 rfl rfl (by decide +kernel) ?_
  refine hA.2.2.2.2.2.1 _ _ 18 9 3 (i + 3) _ _ _ nwc_X4_9 s2 (Nat.le_of_ble_eq_true rfl) (Nat.le_of_ble_eq_true rfl) (by decide +kernel) ?_
  refine hA.2.1 _ _ 21 (i + 3) _ _ _ _ (by decide +kernel) ?_
  refine hA.2.2.2.1 _ _ 22 _ _ _ _ (14) (by decide) (by decide +kernel) ?_
  refine hA.2.2.2.2.2.2 _ _ 24 11 1 (i + 3) 2 (i + 4) (i + 5) 1 14 yX3_init cX3_init [vI 14] [vR (i + 3), vR i] _ _ _ _ myi_X3 lki_X4_11 (by decide) (I_X3 (i := (i + 3)) (rm := 14) s2 b2 (by decide) _) rfl (Nat.le_of_ble_eq_true rfl) (by decide +kernel) (Nat.le_of_ble_eq_true rfl) (Nat.le_of_ble_eq_true rfl) ?_
  refine hB.1 _ _ 27 20 4 1 i (i + 3) (i + 5) _ _ _ pf_X4_20 hi (by omega) r2 (by decide +kernel) ?_
  refine hA.1 _ _ 30 0 i _ _ _ _ 0 rfl rfl (by decide +kernel) ?_
  refine hA.2.2.2.2.2.1 _ _ 31 9 3 (i + 5) _ _ _ nwc_X4_9 s3 (Nat.le_of_ble_eq_true rfl) (Nat.le_of_ble_eq_true rfl) (by decide +kernel) ?_
  refine hA.2.1 _ _ 34 (i + 5) _ _ _ _ (by decide +kernel) ?_
  refine hA.2.2.2.1 _ _ 35 _ _ _ _ (14) (by decide) (by decide +kernel) ?_
  refine hA.2.2.2.2.2.2 _ _ 37 11 1 (i + 5) 2 (i + 6) (i + 7) 1 14 yX3_init cX3_init [vI 14] [vR (i + 5), vR i] _ _ _ _ myi_X3 lki_X4_11 (by decide) (I_X3 (i := (i + 5)) (rm := 14) s3 b3 (by decide) _) rfl (Nat.le_of_ble_eq_true rfl) (by decide +kernel) (Nat.le_of_ble_eq_true rfl) (Nat.le_of_ble_eq_true rfl) ?_
  refine hB.1 _ _ 40 23 4 2 i (i + 5) (i + 7) _ _ _ pf_X4_23 hi (by omega) r3 (by decide +kernel) ?_
  refine hA.1 _ _ 43 0 i _ _ _ _ 0 rfl rfl (by decide +kernel) ?_
  refine hA.2.2.1 _ _ 44 _ _ _ _ (1) (by decide) (by decide +kernel) ?_
  refine hB.2.1 _ _ 45 26 4 3 i (i + 7) _ _ _ (1) rfl hi (by omega) (by decide) (by decide +kernel) ?_
  refine hA.1 _ _ 48 0 i _ _ _ _ 0 rfl rfl (by decide +kernel) ?_
  refine hA.2.2.1 _ _ 49 _ _ _ _ (0) (by decide) (by decide +kernel) ?_
  refine hB.2.1 _ _ 50 30 4 4 i (i + 7) _ _ _ (0) rfl hi (by omega) (by decide) (by decide +kernel) ?_
  refine hA.1 _ _ 53 0 i _ _ _ _ 0 rfl rfl (by decide +kernel) ?_
  refine hA.2.2.1 _ _ 54 _ _ _ _ (0) (by decide) (by decide +kernel) ?_
  refine hB.2.1 _ _ 55 33 4 5 i (i + 7) _ _ _ (0) rfl hi (by omega) (by decide) (by decide +kernel) ?_
  refine hA.1 _ _ 58 0 i _ _ _ _ 0 rfl rfl (by decide +kernel) ?_
  refine hA.2.2.1 _ _ 59 _ _ _ _ (0) (by decide) (by decide +kernel) ?_
  refine hB.2.1 _ _ 60 36 4 6 i (i + 7) _ _ _ (0) rfl hi (by omega) (by decide) (by decide +kernel) ?_
  refine hR 63 _ _ (by decide +kernel) ?_
  funext a k
  rcases (show a < i ∨ a = i ∨ (i + 1 ≤ a ∧ a < i + 3) ∨ (i + 3 ≤ a ∧ a < i + 5) ∨ (i + 5 ≤ a ∧ a < i + 7) ∨ i + 7 ≤ a by omega) with c | c | c | c | c | c
  · simp [up, zer, ini, c, show a ≠ i by omega, show a < i + 1 by omega, show a < i + 3 by omega, show a < i + 5 by omega]
  · subst c
    rw [show ini a (a + 7) h a k = H0 a k by simp [ini], H0_st hi]
    rcases (show k = 0 ∨ k = 1 ∨ k = 2 ∨ k = 3 ∨ k = 4 ∨ k = 5 ∨ k = 6 ∨ 7 ≤ k by omega) with rfl | rfl | rfl | rfl | rfl | rfl | rfl | q
    · simp [up, zer, ini]
    · simp [up, zer, ini]
    · simp [up, zer, ini]
    · simp [up, zer, ini]
    · simp [up, zer, ini]
    · simp [up, zer, ini]
    · simp [up, zer, ini]
    · simp [up, zer, ini, show k ≠ 0 by omega, show k ≠ 1 by omega, show k ≠ 2 by omega, show k ≠ 3 by omega, show k ≠ 4 by omega, show k ≠ 5 by omega, show k ≠ 6 by omega, show ¬ k < 4 by omega]
  · simp [up, zer, ini, show a ≠ i by omega, show ¬ a < i by omega, show ¬ a < i + 1 by omega, show a < i + 3 by omega, show a < i + 5 by omega, show a < i + 7 by omega]
  · simp [up, zer, ini, show a ≠ i by omega, show ¬ a < i by omega, show ¬ a < i + 1 by omega, show ¬ a < i + 3 by omega, show a < i + 5 by omega, show a < i + 7 by omega]
  · simp [up, zer, ini, show a ≠ i by omega, show ¬ a < i by omega, show ¬ a < i + 1 by omega, show ¬ a < i + 3 by omega, show ¬ a < i + 5 by omega, show a < i + 7 by omega]
  · simp [up, zer, ini, show a ≠ i by omega, show ¬ a < i by omega, show ¬ a < i + 1 by omega, show ¬ a < i + 3 by omega, show ¬ a < i + 5 by omega, show ¬ a < i + 7 by omega]
theorem H0_out {i k ci : Nat} (hi : kd i = ci + 2) (hne : ci ≠ 4) (hk : fn ci ≤ k) (h77 : ¬ (i = 77 ∧ k = 45)) (h76 : ¬ (i = 76 ∧ k = 8)) : H0 i k = 0 := by
  have hf : fc ci k = 3 := getD_out (show (fcL.getD ci []).length ≤ k from hk)
  unfold H0
  rw [hi, show ci + 2 - 2 = ci by omega, hf]
  rw [if_neg (by omega), if_neg (by omega), if_neg (by omega), if_neg h77, if_neg h76]
set_option maxHeartbeats 4000000 in
set_option maxRecDepth 100000 in
theorem I_X0 (h : MH) : CONI 2 yX0_init cX0_init 1 [vR 49] 50 (zer 49 h) 54 (ini 49 54 h) 4 288 := by
  refine coni_of (own := RX0) (fl := flX0) (by decide +kernel) rfl rfl flok_X0 (by decide) ai_TB oi_TB oc_TB rfl (Nat.le_of_ble_eq_true rfl) ?_
  intro K hA hB hC hR
  show K 0 0 0 [(0, vR 49)] [] 50 (zer 49 h)
  refine hA.1 _ _ 0 0 49 _ _ _ _ 0 rfl rfl (by decide +kernel) ?_
  refine hB.2.2.2.2.1 _ _ 1 3 49 _ _ _ _ obj_X0 (Nat.le_of_ble_eq_true rfl) (by decide +kernel) ?_
  refine hA.1 _ _ 4 0 49 _ _ _ _ 0 rfl rfl (by decide +kernel) ?_
  refine hA.2.2.2.2.2.1 _ _ 5 9 3 50 _ _ _ nwc_X0_9 rfl (Nat.le_of_ble_eq_true rfl) (Nat.le_of_ble_eq_true rfl) (by decide +kernel) ?_
  refine hA.2.1 _ _ 8 50 _ _ _ _ (by decide +kernel) ?_
  refine hA.2.2.2.2.1 _ _ 9 _ _ _ _ (225) (by decide) (by decide +kernel) ?_
  refine hA.2.2.2.2.2.2 _ _ 12 13 1 50 2 51 52 1 225 yX3_init cX3_init [vI 225] [vR 50, vR 49] _ _ _ _ myi_X3 lki_X0_13 (by decide) (I_X3 (i := 50) (rm := 225) rfl rfl (by decide) _) rfl (Nat.le_of_ble_eq_true rfl) (by decide +kernel) (Nat.le_of_ble_eq_true rfl) (Nat.le_of_ble_eq_true rfl) ?_
  refine hB.1 _ _ 15 16 0 0 49 50 52 _ _ _ pf_X0_16 rfl (Nat.le_of_ble_eq_true rfl) rfl (by decide +kernel) ?_
  refine hA.1 _ _ 18 0 49 _ _ _ _ 0 rfl rfl (by decide +kernel) ?_
  refine hA.2.2.2.2.2.1 _ _ 19 9 3 52 _ _ _ nwc_X0_9 rfl (Nat.le_of_ble_eq_true rfl) (Nat.le_of_ble_eq_true rfl) (by decide +kernel) ?_
  refine hA.2.1 _ _ 22 52 _ _ _ _ (by decide +kernel) ?_
  refine hA.2.2.2.1 _ _ 23 _ _ _ _ (59) (by decide) (by decide +kernel) ?_
  refine hA.2.2.2.2.2.2 _ _ 25 13 1 52 2 53 54 1 59 yX3_init cX3_init [vI 59] [vR 52, vR 49] _ _ _ _ myi_X3 lki_X0_13 (by decide) (I_X3 (i := 52) (rm := 59) rfl rfl (by decide) _) rfl (Nat.le_of_ble_eq_true rfl) (by decide +kernel) (Nat.le_of_ble_eq_true rfl) (Nat.le_of_ble_eq_true rfl) ?_
  refine hB.1 _ _ 28 20 0 1 49 52 54 _ _ _ pf_X0_20 rfl (Nat.le_of_ble_eq_true rfl) rfl (by decide +kernel) ?_
  refine hR 31 _ _ (by decide +kernel) ?_
  funext a k
  rcases (show a < 49 ∨ a = 49 ∨ (50 ≤ a ∧ a < 52) ∨ (52 ≤ a ∧ a < 54) ∨ 54 ≤ a by omega) with c | c | c | c | c
  · simp [up, zer, ini, show a ≠ 49 by omega, show a < 49 by omega, show a < 50 by omega, show a < 52 by omega, show a < 54 by omega]
  · subst c
    rcases (show k = 0 ∨ k = 1 ∨ 2 ≤ k by omega) with rfl | rfl | q
    · exact (show (_ : Int) = H0 49 0 from rfl)
    · exact (show (_ : Int) = H0 49 1 from rfl)
    · have hz : H0 49 k = 0 := H0_out (ci := 0) (by decide) (by decide) q (by omega) (by omega)
      simp [up, zer, ini, hz, show k ≠ 0 by omega, show k ≠ 1 by omega]
  · simp [up, zer, ini, show a ≠ 49 by omega, show ¬ a < 49 by omega, show ¬ a < 50 by omega, show a < 52 by omega, show a < 54 by omega]
  · simp [up, zer, ini, show a ≠ 49 by omega, show ¬ a < 49 by omega, show ¬ a < 50 by omega, show ¬ a < 52 by omega, show a < 54 by omega]
  · simp [up, zer, ini, show a ≠ 49 by omega, show ¬ a < 49 by omega, show ¬ a < 50 by omega, show ¬ a < 52 by omega, show ¬ a < 54 by omega]
set_option maxHeartbeats 4000000 in
set_option maxRecDepth 100000 in
theorem I_X5 (h : MH) : CONI 2 yX5_init cX5_init 1 [vR 54] 55 (zer 54 h) 65 (ini 54 65 h) 10 150 := by
  refine coni_of (own := RX5) (fl := flX5) (by decide +kernel) rfl rfl flok_X5 (by decide) ai_TB oi_TB oc_TB rfl (Nat.le_of_ble_eq_true rfl) ?_
  intro K hA hB hC hR
  show K 0 0 0 [(0, vR 54)] [] 55 (zer 54 h)
  refine hA.1 _ _ 0 0 54 _ _ _ _ 0 rfl rfl (by decide +kernel) ?_
  refine hB.2.2.2.2.1 _ _ 1 3 54 _ _ _ _ obj_X5 (Nat.le_of_ble_eq_true rfl) (by decide +kernel) ?_
  refine hA.1 _ _ 4 0 54 _ _ _ _ 0 rfl rfl (by decide +kernel) ?_
  refine hA.2.2.2.2.2.1 _ _ 5 9 3 55 _ _ _ nwc_X5_9 rfl (Nat.le_of_ble_eq_true rfl) (Nat.le_of_ble_eq_true rfl) (by decide +kernel) ?_
  refine hA.2.1 _ _ 8 55 _ _ _ _ (by decide +kernel) ?_
  refine hA.2.2.2.1 _ _ 9 _ _ _ _ (28) (by decide) (by decide +kernel) ?_
  refine hA.2.2.2.2.2.2 _ _ 11 11 1 55 2 56 57 1 28 yX3_init cX3_init [vI 28] [vR 55, vR 54] _ _ _ _ myi_X3 lki_X5_11 (by decide) (I_X3 (i := 55) (rm := 28) rfl rfl (by decide) _) rfl (Nat.le_of_ble_eq_true rfl) (by decide +kernel) (Nat.le_of_ble_eq_true rfl) (Nat.le_of_ble_eq_true rfl) ?_
  refine hB.1 _ _ 14 14 5 0 54 55 57 _ _ _ pf_X5_14 rfl (Nat.le_of_ble_eq_true rfl) rfl (by decide +kernel) ?_
  refine hA.1 _ _ 17 0 54 _ _ _ _ 0 rfl rfl (by decide +kernel) ?_
  refine hA.2.2.2.2.2.1 _ _ 18 9 3 57 _ _ _ nwc_X5_9 rfl (Nat.le_of_ble_eq_true rfl) (Nat.le_of_ble_eq_true rfl) (by decide +kernel) ?_
  refine hA.2.1 _ _ 21 57 _ _ _ _ (by decide +kernel) ?_
  refine hA.2.2.2.1 _ _ 22 _ _ _ _ (28) (by decide) (by decide +kernel) ?_
  refine hA.2.2.2.2.2.2 _ _ 24 11 1 57 2 58 59 1 28 yX3_init cX3_init [vI 28] [vR 57, vR 54] _ _ _ _ myi_X3 lki_X5_11 (by decide) (I_X3 (i := 57) (rm := 28) rfl rfl (by decide) _) rfl (Nat.le_of_ble_eq_true rfl) (by decide +kernel) (Nat.le_of_ble_eq_true rfl) (Nat.le_of_ble_eq_true rfl) ?_
  refine hB.1 _ _ 27 20 5 1 54 57 59 _ _ _ pf_X5_20 rfl (Nat.le_of_ble_eq_true rfl) rfl (by decide +kernel) ?_
  refine hA.1 _ _ 30 0 54 _ _ _ _ 0 rfl rfl (by decide +kernel) ?_
  refine hA.2.2.2.2.2.1 _ _ 31 9 3 59 _ _ _ nwc_X5_9 rfl (Nat.le_of_ble_eq_true rfl) (Nat.le_of_ble_eq_true rfl) (by decide +kernel) ?_
  refine hA.2.1 _ _ 34 59 _ _ _ _ (by decide +kernel) ?_
  refine hA.2.2.2.1 _ _ 35 _ _ _ _ (28) (by decide) (by decide +kernel) ?_
  refine hA.2.2.2.2.2.2 _ _ 37 11 1 59 2 60 61 1 28 yX3_init cX3_init [vI 28] [vR 59, vR 54] _ _ _ _ myi_X3 lki_X5_11 (by decide) (I_X3 (i := 59) (rm := 28) rfl rfl (by decide) _) rfl (Nat.le_of_ble_eq_true rfl) (by decide +kernel) (Nat.le_of_ble_eq_true rfl) (Nat.le_of_ble_eq_true rfl) ?_
  refine hB.1 _ _ 40 23 5 2 54 59 61 _ _ _ pf_X5_23 rfl (Nat.le_of_ble_eq_true rfl) rfl (by decide +kernel) ?_
  refine hA.1 _ _ 43 0 54 _ _ _ _ 0 rfl rfl (by decide +kernel) ?_
  refine hA.2.2.2.2.2.1 _ _ 44 9 3 61 _ _ _ nwc_X5_9 rfl (Nat.le_of_ble_eq_true rfl) (Nat.le_of_ble_eq_true rfl) (by decide +kernel) ?_
  refine hA.2.1 _ _ 47 61 _ _ _ _ (by decide +kernel) ?_
  refine hA.2.2.2.1 _ _ 48 _ _ _ _ (28) (by decide) (by decide +kernel) ?_
  refine hA.2.2.2.2.2.2 _ _ 50 11 1 61 2 62 63 1 28 yX3_init cX3_init [vI 28] [vR 61, vR 54] _ _ _ _ myi_X3 lki_X5_11 (by decide) (I_X3 (i := 61) (rm := 28) rfl rfl (by decide) _) rfl (Nat.le_of_ble_eq_true rfl) (by decide +kernel) (Nat.le_of_ble_eq_true rfl) (Nat.le_of_ble_eq_true rfl) ?_
  refine hB.1 _ _ 53 26 5 3 54 61 63 _ _ _ pf_X5_26 rfl (Nat.le_of_ble_eq_true rfl) rfl (by decide +kernel) ?_
  refine hA.1 _ _ 56 0 54 _ _ _ _ 0 rfl rfl (by decide +kernel) ?_
  refine hA.2.2.2.2.2.1 _ _ 57 9 3 63 _ _ _ nwc_X5_9 rfl (Nat.le_of_ble_eq_true rfl) (Nat.le_of_ble_eq_true rfl) (by decide +kernel) ?_
  refine hA.2.1 _ _ 60 63 _ _ _ _ (by decide +kernel) ?_
  refine hA.2.2.2.1 _ _ 61 _ _ _ _ (28) (by decide) (by decide +kernel) ?_
  refine hA.2.2.2.2.2.2 _ _ 63 11 1 63 2 64 65 1 28 yX3_init cX3_init [vI 28] [vR 63, vR 54] _ _ _ _ myi_X3 lki_X5_11 (by decide) (I_X3 (i := 63) (rm := 28) rfl rfl (by decide) _) rfl (Nat.le_of_ble_eq_true rfl) (by decide +kernel) (Nat.le_of_ble_eq_true rfl) (Nat.le_of_ble_eq_true rfl) ?_
  refine hB.1 _ _ 66 29 5 4 54 63 65 _ _ _ pf_X5_29 rfl (Nat.le_of_ble_eq_true rfl) rfl (by decide +kernel) ?_
  refine hR 69 _ _ (by decide +kernel) ?_
  funext a k
  rcases (show a < 54 ∨ a = 54 ∨ (55 ≤ a ∧ a < 57) ∨ (57 ≤ a ∧ a < 59) ∨ (59 ≤ a ∧ a < 61) ∨ (61 ≤ a ∧ a < 63) ∨ (63 ≤ a ∧ a < 65) ∨ 65 ≤ a by omega) with c | c | c | c | c | c | c | c
  · simp [up, zer, ini, show a ≠ 54 by omega, show a < 54 by omega, show a < 55 by omega, show a < 57 by omega, show a < 59 by omega, show a < 61 by omega, show a < 63 by omega, show a < 65 by omega]
  · subst c
    rcases (show k = 0 ∨ k = 1 ∨ k = 2 ∨ k = 3 ∨ k = 4 ∨ 5 ≤ k by omega) with rfl | rfl | rfl | rfl | rfl | q
    · exact (show (_ : Int) = H0 54 0 from rfl)
    · exact (show (_ : Int) = H0 54 1 from rfl)
    · exact (show (_ : Int) = H0 54 2 from rfl)
    · exact (show (_ : Int) = H0 54 3 from rfl)
    · exact (show (_ : Int) = H0 54 4 from rfl)
    · have hz : H0 54 k = 0 := H0_out (ci := 5) (by decide) (by decide) q (by omega) (by omega)
      simp [up, zer, ini, hz, show k ≠ 0 by omega, show k ≠ 1 by omega, show k ≠ 2 by omega, show k ≠ 3 by omega, show k ≠ 4 by omega]
  · simp [up, zer, ini, show a ≠ 54 by omega, show ¬ a < 54 by omega, show ¬ a < 55 by omega, show a < 57 by omega, show a < 59 by omega, show a < 61 by omega, show a < 63 by omega, show a < 65 by omega]
  · simp [up, zer, ini, show a ≠ 54 by omega, show ¬ a < 54 by omega, show ¬ a < 55 by omega, show ¬ a < 57 by omega, show a < 59 by omega, show a < 61 by omega, show a < 63 by omega, show a < 65 by omega]
  · simp [up, zer, ini, show a ≠ 54 by omega, show ¬ a < 54 by omega, show ¬ a < 55 by omega, show ¬ a < 57 by omega, show ¬ a < 59 by omega, show a < 61 by omega, show a < 63 by omega, show a < 65 by omega]
  · simp [up, zer, ini, show a ≠ 54 by omega, show ¬ a < 54 by omega, show ¬ a < 55 by omega, show ¬ a < 57 by omega, show ¬ a < 59 by omega, show ¬ a < 61 by omega, show a < 63 by omega, show a < 65 by omega]
  · simp [up, zer, ini, show a ≠ 54 by omega, show ¬ a < 54 by omega, show ¬ a < 55 by omega, show ¬ a < 57 by omega, show ¬ a < 59 by omega, show ¬ a < 61 by omega, show ¬ a < 63 by omega, show a < 65 by omega]
  · simp [up, zer, ini, show a ≠ 54 by omega, show ¬ a < 54 by omega, show ¬ a < 55 by omega, show ¬ a < 57 by omega, show ¬ a < 59 by omega, show ¬ a < 61 by omega, show ¬ a < 63 by omega, show ¬ a < 65 by omega]
set_option maxHeartbeats 4000000 in
set_option maxRecDepth 100000 in
theorem I_X2 (h : MH) : CONI 2 yX2_init cX2_init 1 [vR 65] 66 (zer 65 h) 76 (ini 65 76 h) 10 150 := by
  refine coni_of (own := RX2) (fl := flX2) (by decide +kernel) rfl rfl flok_X2 (by decide) ai_TB oi_TB oc_TB rfl (Nat.le_of_ble_eq_true rfl) ?_
  intro K hA hB hC hR
  show K 0 0 0 [(0, vR 65)] [] 66 (zer 65 h)
  refine hA.1 _ _ 0 0 65 _ _ _ _ 0 rfl rfl (by decide +kernel) ?_
  refine hB.2.2.2.2.1 _ _ 1 3 65 _ _ _ _ obj_X2 (Nat.le_of_ble_eq_true rfl) (by decide +kernel) ?_
  refine hA.1 _ _ 4 0 65 _ _ _ _ 0 rfl rfl (by decide +kernel) ?_
  refine hA.2.2.2.2.2.1 _ _ 5 9 3 66 _ _ _ nwc_X2_9 rfl (Nat.le_of_ble_eq_true rfl) (Nat.le_of_ble_eq_true rfl) (by decide +kernel) ?_
  refine hA.2.1 _ _ 8 66 _ _ _ _ (by decide +kernel) ?_
  refine hA.2.2.2.1 _ _ 9 _ _ _ _ (28) (by decide) (by decide +kernel) ?_
  refine hA.2.2.2.2.2.2 _ _ 11 11 1 66 2 67 68 1 28 yX3_init cX3_init [vI 28] [vR 66, vR 65] _ _ _ _ myi_X3 lki_X2_11 (by decide) (I_X3 (i := 66) (rm := 28) rfl rfl (by decide) _) rfl (Nat.le_of_ble_eq_true rfl) (by decide +kernel) (Nat.le_of_ble_eq_true rfl) (Nat.le_of_ble_eq_true rfl) ?_
  refine hB.1 _ _ 14 14 2 0 65 66 68 _ _ _ pf_X2_14 rfl (Nat.le_of_ble_eq_true rfl) rfl (by decide +kernel) ?_
  refine hA.1 _ _ 17 0 65 _ _ _ _ 0 rfl rfl (by decide +kernel) ?_
  refine hA.2.2.2.2.2.1 _ _ 18 9 3 68 _ _ _ nwc_X2_9 rfl (Nat.le_of_ble_eq_true rfl) (Nat.le_of_ble_eq_true rfl) (by decide +kernel) ?_
  refine hA.2.1 _ _ 21 68 _ _ _ _ (by decide +kernel) ?_
  refine hA.2.2.2.1 _ _ 22 _ _ _ _ (28) (by decide) (by decide +kernel) ?_
  refine hA.2.2.2.2.2.2 _ _ 24 11 1 68 2 69 70 1 28 yX3_init cX3_init [vI 28] [vR 68, vR 65] _ _ _ _ myi_X3 lki_X2_11 (by decide) (I_X3 (i := 68) (rm := 28) rfl rfl (by decide) _) rfl (Nat.le_of_ble_eq_true rfl) (by decide +kernel) (Nat.le_of_ble_eq_true rfl) (Nat.le_of_ble_eq_true rfl) ?_
  refine hB.1 _ _ 27 20 2 1 65 68 70 _ _ _ pf_X2_20 rfl (Nat.le_of_ble_eq_true rfl) rfl (by decide +kernel) ?_
  refine hA.1 _ _ 30 0 65 _ _ _ _ 0 rfl rfl (by decide +kernel) ?_
  refine hA.2.2.2.2.2.1 _ _ 31 9 3 70 _ _ _ nwc_X2_9 rfl (Nat.le_of_ble_eq_true rfl) (Nat.le_of_ble_eq_true rfl) (by decide +kernel) ?_
  refine hA.2.1 _ _ 34 70 _ _ _ _ (by decide +kernel) ?_
  refine hA.2.2.2.1 _ _ 35 _ _ _ _ (28) (by decide) (by decide +kernel) ?_
  refine hA.2.2.2.2.2.2 _ _ 37 11 1 70 2 71 72 1 28 yX3_init cX3_init [vI 28] [vR 70, vR 65] _ _ _ _ myi_X3 lki_X2_11 (by decide) (I_X3 (i := 70) (rm := 28) rfl rfl (by decide) _) rfl (Nat.le_of_ble_eq_true rfl) (by decide +kernel) (Nat.le_of_ble_eq_true rfl) (Nat.le_of_ble_eq_true rfl) ?_
  refine hB.1 _ _ 40 23 2 2 65 70 72 _ _ _ pf_X2_23 rfl (Nat.le_of_ble_eq_true rfl) rfl (by decide +kernel) ?_
  refine hA.1 _ _ 43 0 65 _ _ _ _ 0 rfl rfl (by decide +kernel) ?_
  refine hA.2.2.2.2.2.1 _ _ 44 9 3 72 _ _ _ nwc_X2_9 rfl (Nat.le_of_ble_eq_true rfl) (Nat.le_of_ble_eq_true rfl) (by decide +kernel) ?_
  refine hA.2.1 _ _ 47 72 _ _ _ _ (by decide +kernel) ?_
  refine hA.2.2.2.1 _ _ 48 _ _ _ _ (28) (by decide) (by decide +kernel) ?_
  refine hA.2.2.2.2.2.2 _ _ 50 11 1 72 2 73 74 1 28 yX3_init cX3_init [vI 28] [vR 72, vR 65] _ _ _ _ myi_X3 lki_X2_11 (by decide) (I_X3 (i := 72) (rm := 28) rfl rfl (by decide) _) rfl (Nat.le_of_ble_eq_true rfl) (by decide +kernel) (Nat.le_of_ble_eq_true rfl) (Nat.le_of_ble_eq_true rfl) ?_
  refine hB.1 _ _ 53 26 2 3 65 72 74 _ _ _ pf_X2_26 rfl (Nat.le_of_ble_eq_true rfl) rfl (by decide +kernel) ?_
  refine hA.1 _ _ 56 0 65 _ _ _ _ 0 rfl rfl (by decide +kernel) ?_
  refine hA.2.2.2.2.2.1 _ _ 57 9 3 74 _ _ _ nwc_X2_9 rfl (Nat.le_of_ble_eq_true rfl) (Nat.le_of_ble_eq_true rfl) (by decide +kernel) ?_
  refine hA.2.1 _ _ 60 74 _ _ _ _ (by decide +kernel) ?_
  refine hA.2.2.2.1 _ _ 61 _ _ _ _ (28) (by decide) (by decide +kernel) ?_
  refine hA.2.2.2.2.2.2 _ _ 63 11 1 74 2 75 76 1 28 yX3_init cX3_init [vI 28] [vR 74, vR 65] _ _ _ _ myi_X3 lki_X2_11 (by decide) (I_X3 (i := 74) (rm := 28) rfl rfl (by decide) _) rfl (Nat.le_of_ble_eq_true rfl) (by decide +kernel) (Nat.le_of_ble_eq_true rfl) (Nat.le_of_ble_eq_true rfl) ?_
  refine hB.1 _ _ 66 29 2 4 65 74 76 _ _ _ pf_X2_29 rfl (Nat.le_of_ble_eq_true rfl) rfl (by decide +kernel) ?_
  refine hA.1 _ _ 69 0 65 _ _ _ _ 0 rfl rfl (by decide +kernel) ?_
  refine hA.2.2.1 _ _ 70 _ _ _ _ (0) (by decide) (by decide +kernel) ?_
  refine hB.2.1 _ _ 71 32 2 5 65 76 _ _ _ (0) rfl rfl (Nat.le_of_ble_eq_true rfl) (by decide) (by decide +kernel) ?_
  refine hA.1 _ _ 74 0 65 _ _ _ _ 0 rfl rfl (by decide +kernel) ?_
  refine hA.2.2.1 _ _ 75 _ _ _ _ (0) (by decide) (by decide +kernel) ?_
  refine hB.2.1 _ _ 76 36 2 6 65 76 _ _ _ (0) rfl rfl (Nat.le_of_ble_eq_true rfl) (by decide) (by decide +kernel) ?_
  refine hA.1 _ _ 79 0 65 _ _ _ _ 0 rfl rfl (by decide +kernel) ?_
  refine hA.2.2.1 _ _ 80 _ _ _ _ (0) (by decide) (by decide +kernel) ?_
  refine hB.2.1 _ _ 81 39 2 7 65 76 _ _ _ (0) rfl rfl (Nat.le_of_ble_eq_true rfl) (by decide) (by decide +kernel) ?_
  refine hA.1 _ _ 84 0 65 _ _ _ _ 0 rfl rfl (by decide +kernel) ?_
  refine hA.2.2.1 _ _ 85 _ _ _ _ (0) (by decide) (by decide +kernel) ?_
  refine hB.2.1 _ _ 86 42 2 8 65 76 _ _ _ (0) rfl rfl (Nat.le_of_ble_eq_true rfl) (by decide) (by decide +kernel) ?_
  refine hA.1 _ _ 89 0 65 _ _ _ _ 0 rfl rfl (by decide +kernel) ?_
  refine hA.2.2.1 _ _ 90 _ _ _ _ (0) (by decide) (by decide +kernel) ?_
  refine hB.2.1 _ _ 91 45 2 9 65 76 _ _ _ (0) rfl rfl (Nat.le_of_ble_eq_true rfl) (by decide) (by decide +kernel) ?_
  refine hR 94 _ _ (by decide +kernel) ?_
  funext a k
  rcases (show a < 65 ∨ a = 65 ∨ (66 ≤ a ∧ a < 68) ∨ (68 ≤ a ∧ a < 70) ∨ (70 ≤ a ∧ a < 72) ∨ (72 ≤ a ∧ a < 74) ∨ (74 ≤ a ∧ a < 76) ∨ 76 ≤ a by omega) with c | c | c | c | c | c | c | c
  · simp [up, zer, ini, show a ≠ 65 by omega, show a < 65 by omega, show a < 66 by omega, show a < 68 by omega, show a < 70 by omega, show a < 72 by omega, show a < 74 by omega, show a < 76 by omega]
  · subst c
    rcases (show k = 0 ∨ k = 1 ∨ k = 2 ∨ k = 3 ∨ k = 4 ∨ k = 5 ∨ k = 6 ∨ k = 7 ∨ k = 8 ∨ k = 9 ∨ 10 ≤ k by omega) with rfl | rfl | rfl | rfl | rfl | rfl | rfl | rfl | rfl | rfl | q
    · exact (show (_ : Int) = H0 65 0 from rfl)
    · exact (show (_ : Int) = H0 65 1 from rfl)
    · exact (show (_ : Int) = H0 65 2 from rfl)
    · exact (show (_ : Int) = H0 65 3 from rfl)
    · exact (show (_ : Int) = H0 65 4 from rfl)
    · exact (show (_ : Int) = H0 65 5 from rfl)
    · exact (show (_ : Int) = H0 65 6 from rfl)
    · exact (show (_ : Int) = H0 65 7 from rfl)
    · exact (show (_ : Int) = H0 65 8 from rfl)
    · exact (show (_ : Int) = H0 65 9 from rfl)
    · have hz : H0 65 k = 0 := H0_out (ci := 2) (by decide) (by decide) q (by omega) (by omega)
      simp [up, zer, ini, hz, show k ≠ 0 by omega, show k ≠ 1 by omega, show k ≠ 2 by omega, show k ≠ 3 by omega, show k ≠ 4 by omega, show k ≠ 5 by omega, show k ≠ 6 by omega, show k ≠ 7 by omega, show k ≠ 8 by omega, show k ≠ 9 by omega]
  · simp [up, zer, ini, show a ≠ 65 by omega, show ¬ a < 65 by omega, show ¬ a < 66 by omega, show a < 68 by omega, show a < 70 by omega, show a < 72 by omega, show a < 74 by omega, show a < 76 by omega]
  · simp [up, zer, ini, show a ≠ 65 by omega, show ¬ a < 65 by omega, show ¬ a < 66 by omega, show ¬ a < 68 by omega, show a < 70 by omega, show a < 72 by omega, show a < 74 by omega, show a < 76 by omega]
  · simp [up, zer, ini, show a ≠ 65 by omega, show ¬ a < 65 by omega, show ¬ a < 66 by omega, show ¬ a < 68 by omega, show ¬ a < 70 by omega, show a < 72 by omega, show a < 74 by omega, show a < 76 by omega]
  · simp [up, zer, ini, show a ≠ 65 by omega, show ¬ a < 65 by omega, show ¬ a < 66 by omega, show ¬ a < 68 by omega, show ¬ a < 70 by omega, show ¬ a < 72 by omega, show a < 74 by omega, show a < 76 by omega]
  · simp [up, zer, ini, show a ≠ 65 by omega, show ¬ a < 65 by omega, show ¬ a < 66 by omega, show ¬ a < 68 by omega, show ¬ a < 70 by omega, show ¬ a < 72 by omega, show ¬ a < 74 by omega, show a < 76 by omega]
  · simp [up, zer, ini, show a ≠ 65 by omega, show ¬ a < 65 by omega, show ¬ a < 66 by omega, show ¬ a < 68 by omega, show ¬ a < 70 by omega, show ¬ a < 72 by omega, show ¬ a < 74 by omega, show ¬ a < 76 by omega]
def MJ (j : Nat) (h : MH) : MH := fun a => if a < 17 then h a else if a = 17 then H0 17 else if a = 18 then (fun k => if k < j then 1 else 0) else if a < 19 + 7 * j then H0 a else fun _ => 0
theorem H0_18 (k : Nat) : H0 18 k = if k < 4 then 1 else 0 := by
  unfold H0
  rw [show kd 18 = 1 from rfl]
  by_cases c : k < 4
  · rw [if_neg (by omega), if_pos ⟨rfl, c⟩, if_pos c]
  · rw [if_neg (by omega), if_neg (by omega), if_neg (by omega), if_neg (by omega), if_neg (by omega), if_neg c]
theorem rf_18 {j : Nat} (hj : j < 4) : rf 18 j = 19 + 7 * j := by
  rcases (show j = 0 ∨ j = 1 ∨ j = 2 ∨ j = 3 by omega) with rfl | rfl | rfl | rfl <;> rfl
set_option maxHeartbeats 4000000 in
set_option maxRecDepth 100000 in
theorem I_X1 (h : MH) : CONI 3 yX1_init cX1_init 2 [vR 17] 18 (zer 17 h) 47 (ini 17 47 h) 29 224 := by
  refine coni_of (own := RX1) (fl := flX1) (by decide +kernel) rfl rfl flok_X1 (by decide) ai_TB oi_TB oc_TB rfl (Nat.le_of_ble_eq_true rfl) ?_
  intro K hA hB hC hR
  show K 0 0 0 [(0, vR 17)] [] 18 (zer 17 h)
  have f4 : fn 4 = 7 := rfl
  have loop : ∀ (r j : Nat), j + r = 4 → K (1 + 7 * j) (4 + 55 * j) 19 [(1, vI (j : Int)), (0, vR 17)] [] (19 + 7 * j) (MJ j h) := by
    intro r
    induction r with
    | zero =>
      intro j hj
      have hj4 : j = 4 := by omega
      subst hj4
      refine hB.2.2.2.2.2.2.1 _ _ 19 1 _ _ _ _ 4 1 rfl rfl (by decide +kernel) ?_
      refine hA.1 _ _ 20 0 17 _ _ _ _ 0 rfl rfl (by decide +kernel) ?_
      refine hB.2.2.2.2.2.1 _ _ 21 11 1 0 17 18 _ _ _ _ pf_X1_11 rfl (by decide) (by show ¬ H0 17 0 = 0; decide) rfl (by decide +kernel) ?_
      refine hC.1 _ _ 24 18 _ 4 _ _ _ rfl (by decide) rfl (by decide +kernel) ?_
      refine hC.2.2.1 _ _ 25 47 _ 22 _ _ _ 4 4 (by decide +kernel) (by decide) (fun q => absurd q (by decide)) (fun _ => ?_)
      refine hR 47 _ _ (by decide +kernel) ?_
      funext a k
      unfold MJ ini
      by_cases c1 : a < 17
      · rw [if_pos c1, if_pos c1]
      · rw [if_neg c1, if_neg c1]
        by_cases c2 : a = 17
        · subst c2; rfl
        · rw [if_neg c2]
          by_cases c3 : a = 18
          · subst c3
            rw [if_pos (show (18 : Nat) = 18 from rfl), if_pos (show (18 : Nat) < 47 by decide)]
            exact (H0_18 k).symm
          · rw [if_neg c3]
    | succ r ih =>
      intro j hj
      have hj4 : j < 4 := by omega
      have jz : 0 ≤ (j : Int) ∧ (j : Int) < ((al 18 : Nat) : Int) := ⟨Int.natCast_nonneg _, by show (j : Int) < ((4 : Nat) : Int); omega⟩
      have jlt : (j : Int) < 4 := by omega
      have w1 : wr ((j : Int) + 1) = ((j + 1 : Nat) : Int) := by rw [wr_id (by omega)]; omega
      have ks : kd (19 + 7 * j) = 6 := kd_slot j hj4
      refine hB.2.2.2.2.2.2.1 _ _ 19 1 _ _ _ _ (j : Int) 1 rfl rfl (by decide +kernel) ?_
      refine hA.1 _ _ 20 0 17 _ _ _ _ 0 rfl rfl (by decide +kernel) ?_
      refine hB.2.2.2.2.2.1 _ _ 21 11 1 0 17 18 _ _ _ _ pf_X1_11 rfl (by omega) (by show ¬ H0 17 0 = 0; decide) rfl (by decide +kernel) ?_
      refine hC.1 _ _ 24 18 _ 4 _ _ _ rfl (by omega) rfl (by decide +kernel) ?_
      refine hC.2.2.1 _ _ 25 47 _ 22 _ _ _ (j : Int) 4 (by decide +kernel) (by decide) (fun _ => ?_) (fun q => absurd jlt q)
      refine hA.1 _ _ 28 0 17 _ _ _ _ 0 rfl rfl (by decide +kernel) ?_
      refine hB.2.2.2.2.2.1 _ _ 29 11 1 0 17 18 _ _ _ _ pf_X1_11 rfl (by omega) (by show ¬ H0 17 0 = 0; decide) rfl (by decide +kernel) ?_
      refine hB.2.2.2.2.2.2.1 _ _ 32 1 _ _ _ _ (j : Int) 1 rfl rfl (by decide +kernel) ?_
      refine hA.2.2.2.2.2.1 _ _ 33 9 4 (19 + 7 * j) _ _ _ nwc_X1_9 ks (by omega) (by rw [f4]; omega) (by decide +kernel) ?_
      refine hA.2.1 _ _ 36 (19 + 7 * j) _ _ _ _ (by decide +kernel) ?_
      refine hA.2.2.2.2.2.2 _ _ 37 21 2 (19 + 7 * j) 1 (19 + 7 * j + 1) (19 + 7 * j + 7) 6 48 yX4_init cX4_init [] [vR (19 + 7 * j), vI (j : Int), vR 18] _ _ _ _ myi_X4 lki_X1_21 (by decide) (I_X4 (i := 19 + 7 * j) ks _) rfl (Nat.le_of_ble_eq_true rfl) (by decide +kernel) (by omega) (by rw [f4]; omega) ?_
      refine hC.2.2.2.1 _ _ 40 18 (19 + 7 * j) _ (j : Int) _ _ _ rfl (by omega) jz (rf_18 hj4) ks (by omega) (by decide +kernel) ?_
      refine hC.2.1 _ _ 41 1 _ _ _ _ (j : Int) 1 rfl (by decide) (by decide +kernel) ?_
      refine hB.2.2.2.2.2.2.2.2.1 _ _ 44 19 _ (-25) _ _ _ (by decide +kernel) (by decide) ?_
      have hs := ih (j + 1) (by omega)
      rw [show 1 + 7 * (j + 1) = 1 + 7 * j + 1 + 6 by omega, show 4 + 55 * (j + 1) = 4 + 55 * j + fn 4 + 48 by rw [f4]; omega, show 19 + 7 * (j + 1) = 19 + 7 * j + 7 by omega] at hs
      rw [w1]
      have em : up (ini (19 + 7 * j) (19 + 7 * j + 7) (MJ j h)) 18 (j : Int).toNat 1 = MJ (j + 1) h := by
        rw [nn]
        funext a k
        rcases (show a < 17 ∨ a = 17 ∨ a = 18 ∨ (19 ≤ a ∧ a < 19 + 7 * j) ∨ (19 + 7 * j ≤ a ∧ a < 19 + 7 * j + 7) ∨ 19 + 7 * j + 7 ≤ a by omega) with c | c | c | c | c | c
        · simp [up, ini, MJ, show a ≠ 18 by omega, show a < 19 + 7 * j by omega, c]
        · subst c
          simp [up, ini, MJ, show 17 < 19 + 7 * j by omega]
        · subst c
          by_cases q : k = j
          · simp [up, ini, MJ, q]
          · simp [up, ini, MJ, q, show 18 < 19 + 7 * j by omega]
            by_cases q2 : k < j
            · rw [if_pos q2, if_pos (by omega)]
            · rw [if_neg q2, if_neg (by omega)]
        · simp [up, ini, MJ, show a ≠ 18 by omega, show a ≠ 17 by omega, show ¬ a < 17 by omega, show a < 19 + 7 * j by omega, show a < 19 + 7 * (j + 1) by omega]
        · simp [up, ini, MJ, show a ≠ 18 by omega, show a ≠ 17 by omega, show ¬ a < 17 by omega, show ¬ a < 19 + 7 * j by omega, show a < 19 + 7 * j + 7 by omega, show a < 19 + 7 * (j + 1) by omega]
        · simp [up, ini, MJ, show a ≠ 18 by omega, show a ≠ 17 by omega, show ¬ a < 17 by omega, show ¬ a < 19 + 7 * j by omega, show ¬ a < 19 + 7 * j + 7 by omega, show ¬ a < 19 + 7 * (j + 1) by omega]
      rw [em]
      exact hs
  refine hA.1 _ _ 0 0 17 _ _ _ _ 0 rfl rfl (by decide +kernel) ?_
  refine hB.2.2.2.2.1 _ _ 1 3 17 _ _ _ _ obj_X1 (Nat.le_of_ble_eq_true rfl) (by decide +kernel) ?_
  refine hA.1 _ _ 4 0 17 _ _ _ _ 0 rfl rfl (by decide +kernel) ?_
  refine hA.2.2.1 _ _ 5 _ _ _ _ (4) (by decide) (by decide +kernel) ?_
  refine hB.2.2.2.1 _ _ 6 18 9 4 _ _ _ (tb_in 88 (by decide +kernel) (by decide +kernel)) rfl rfl (by decide) (by decide) (by decide +kernel) ?_
  refine hB.1 _ _ 9 11 1 0 17 18 _ _ _ _ pf_X1_11 rfl (by decide) rfl (by decide +kernel) ?_
  refine hA.1 _ _ 12 0 17 _ _ _ _ 0 rfl rfl (by decide +kernel) ?_
  refine hA.2.2.1 _ _ 13 _ _ _ _ (0) (by decide) (by decide +kernel) ?_
  refine hB.2.1 _ _ 14 17 1 1 17 _ _ _ _ (0) rfl rfl (by decide) (by decide) (by decide +kernel) ?_
  refine hA.2.2.1 _ _ 17 _ _ _ _ (0) (by decide) (by decide +kernel) ?_
  refine hB.2.2.2.2.2.2.2.1 _ _ 18 1 _ _ _ _ 0 1 rfl (by decide) (by decide +kernel) ?_
  have em : up (up (zer 18 (zer 17 h)) 17 0 1) 17 1 0 = MJ 0 h := by
    funext a k
    rcases (show a < 17 ∨ a = 17 ∨ a = 18 ∨ 19 ≤ a by omega) with c | c | c | c
    · simp [up, zer, MJ, c, show a ≠ 17 by omega, show a < 18 by omega]
    · subst c
      rcases (show k = 0 ∨ k = 1 ∨ 2 ≤ k by omega) with rfl | rfl | q
      · rfl
      · rfl
      · have hz : H0 17 k = 0 := H0_out (ci := 1) (by decide) (by decide) q (by omega) (by omega)
        simp [up, zer, MJ, hz, show k ≠ 0 by omega, show k ≠ 1 by omega]
    · subst c
      simp [up, zer, MJ]
    · simp [up, zer, MJ, show a ≠ 17 by omega, show a ≠ 18 by omega, show ¬ a < 17 by omega, show ¬ a < 18 by omega, show ¬ a < 19 by omega]
  rw [em]
  exact loop 4 0 rfl
set_option maxHeartbeats 4000000 in
set_option maxRecDepth 100000 in
theorem I_X6 (h : MH) : CONI 4 yX6_init cX6_init 1 [vR 0] 1 (zer 0 h) 76 (ini 0 76 h) 75 999 := by
  refine coni_of (own := RX6) (fl := flX6) (by decide +kernel) rfl rfl flok_X6 (by decide) ai_TB oi_TB oc_TB rfl (Nat.le_of_ble_eq_true rfl) ?_
  intro K hA hB hC hR
  show K 0 0 0 [(0, vR 0)] [] 1 (zer 0 h)
  refine hA.1 _ _ 0 0 0 _ _ _ _ 0 rfl rfl (by decide +kernel) ?_
  refine hB.2.2.2.2.1 _ _ 1 3 0 _ _ _ _ obj_X6 (Nat.le_of_ble_eq_true rfl) (by decide +kernel) ?_
  refine hA.1 _ _ 4 0 0 _ _ _ _ 0 rfl rfl (by decide +kernel) ?_
  refine hA.2.2.2.2.2.1 _ _ 5 9 3 1 _ _ _ nwc_X6_9 rfl (Nat.le_of_ble_eq_true rfl) (Nat.le_of_ble_eq_true rfl) (by decide +kernel) ?_
  refine hA.2.1 _ _ 8 1 _ _ _ _ (by decide +kernel) ?_
  refine hA.2.2.2.1 _ _ 9 _ _ _ _ (40) (by decide) (by decide +kernel) ?_
  refine hA.2.2.2.2.2.2 _ _ 11 11 1 1 2 2 3 1 40 yX3_init cX3_init [vI 40] [vR 1, vR 0] _ _ _ _ myi_X3 lki_X6_11 (by decide) (I_X3 (i := 1) (rm := 40) rfl rfl (by decide) _) rfl (Nat.le_of_ble_eq_true rfl) (by decide +kernel) (Nat.le_of_ble_eq_true rfl) (Nat.le_of_ble_eq_true rfl) ?_
  refine hB.1 _ _ 14 14 6 0 0 1 3 _ _ _ pf_X6_14 rfl (Nat.le_of_ble_eq_true rfl) rfl (by decide +kernel) ?_
  refine hA.1 _ _ 17 0 0 _ _ _ _ 0 rfl rfl (by decide +kernel) ?_
  refine hA.2.2.2.2.2.1 _ _ 18 18 4 3 _ _ _ nwc_X6_18 rfl (Nat.le_of_ble_eq_true rfl) (Nat.le_of_ble_eq_true rfl) (by decide +kernel) ?_
  refine hA.2.1 _ _ 21 3 _ _ _ _ (by decide +kernel) ?_
  refine hA.2.2.2.2.2.2 _ _ 22 20 2 3 1 4 10 6 48 yX4_init cX4_init [] [vR 3, vR 0] _ _ _ _ myi_X4 lki_X6_20 (by decide) (I_X4 (i := 3) rfl _) rfl (Nat.le_of_ble_eq_true rfl) (by decide +kernel) (Nat.le_of_ble_eq_true rfl) (Nat.le_of_ble_eq_true rfl) ?_
  refine hB.1 _ _ 25 21 6 1 0 3 10 _ _ _ pf_X6_21 rfl (Nat.le_of_ble_eq_true rfl) rfl (by decide +kernel) ?_
  refine hA.1 _ _ 28 0 0 _ _ _ _ 0 rfl rfl (by decide +kernel) ?_
  refine hA.2.2.2.2.2.1 _ _ 29 18 4 10 _ _ _ nwc_X6_18 rfl (Nat.le_of_ble_eq_true rfl) (Nat.le_of_ble_eq_true rfl) (by decide +kernel) ?_
  refine hA.2.1 _ _ 32 10 _ _ _ _ (by decide +kernel) ?_
  refine hA.2.2.2.2.2.2 _ _ 33 20 2 10 1 11 17 6 48 yX4_init cX4_init [] [vR 10, vR 0] _ _ _ _ myi_X4 lki_X6_20 (by decide) (I_X4 (i := 10) rfl _) rfl (Nat.le_of_ble_eq_true rfl) (by decide +kernel) (Nat.le_of_ble_eq_true rfl) (Nat.le_of_ble_eq_true rfl) ?_
  refine hB.1 _ _ 36 25 6 2 0 10 17 _ _ _ pf_X6_25 rfl (Nat.le_of_ble_eq_true rfl) rfl (by decide +kernel) ?_
  refine hA.1 _ _ 39 0 0 _ _ _ _ 0 rfl rfl (by decide +kernel) ?_
  refine hA.2.2.1 _ _ 40 _ _ _ _ (0) (by decide) (by decide +kernel) ?_
  refine hB.2.1 _ _ 41 28 6 3 0 17 _ _ _ (0) rfl rfl (Nat.le_of_ble_eq_true rfl) (by decide) (by decide +kernel) ?_
  refine hA.1 _ _ 44 0 0 _ _ _ _ 0 rfl rfl (by decide +kernel) ?_
  refine hA.2.2.2.2.2.1 _ _ 45 32 1 17 _ _ _ nwc_X6_32 rfl (Nat.le_of_ble_eq_true rfl) (Nat.le_of_ble_eq_true rfl) (by decide +kernel) ?_
  refine hA.2.1 _ _ 48 17 _ _ _ _ (by decide +kernel) ?_
  refine hA.2.2.2.2.2.2 _ _ 49 34 3 17 2 18 47 29 224 yX1_init cX1_init [] [vR 17, vR 0] _ _ _ _ myi_X1 lki_X6_34 (by decide) (I_X1 _) rfl (Nat.le_of_ble_eq_true rfl) (by decide +kernel) (Nat.le_of_ble_eq_true rfl) (Nat.le_of_ble_eq_true rfl) ?_
  refine hB.1 _ _ 52 35 6 4 0 17 47 _ _ _ pf_X6_35 rfl (Nat.le_of_ble_eq_true rfl) rfl (by decide +kernel) ?_
  refine hA.1 _ _ 55 0 0 _ _ _ _ 0 rfl rfl (by decide +kernel) ?_
  refine hA.2.2.2.2.2.1 _ _ 56 9 3 47 _ _ _ nwc_X6_9 rfl (Nat.le_of_ble_eq_true rfl) (Nat.le_of_ble_eq_true rfl) (by decide +kernel) ?_
  refine hA.2.1 _ _ 59 47 _ _ _ _ (by decide +kernel) ?_
  refine hA.2.2.2.1 _ _ 60 _ _ _ _ (14) (by decide) (by decide +kernel) ?_
  refine hA.2.2.2.2.2.2 _ _ 62 11 1 47 2 48 49 1 14 yX3_init cX3_init [vI 14] [vR 47, vR 0] _ _ _ _ myi_X3 lki_X6_11 (by decide) (I_X3 (i := 47) (rm := 14) rfl rfl (by decide) _) rfl (Nat.le_of_ble_eq_true rfl) (by decide +kernel) (Nat.le_of_ble_eq_true rfl) (Nat.le_of_ble_eq_true rfl) ?_
  refine hB.1 _ _ 65 39 6 5 0 47 49 _ _ _ pf_X6_39 rfl (Nat.le_of_ble_eq_true rfl) rfl (by decide +kernel) ?_
  refine hA.1 _ _ 68 0 0 _ _ _ _ 0 rfl rfl (by decide +kernel) ?_
  refine hA.2.2.2.2.2.1 _ _ 69 42 0 49 _ _ _ nwc_X6_42 rfl (Nat.le_of_ble_eq_true rfl) (Nat.le_of_ble_eq_true rfl) (by decide +kernel) ?_
  refine hA.2.1 _ _ 72 49 _ _ _ _ (by decide +kernel) ?_
  refine hA.2.2.2.2.2.2 _ _ 73 44 2 49 1 50 54 4 288 yX0_init cX0_init [] [vR 49, vR 0] _ _ _ _ myi_X0 lki_X6_44 (by decide) (I_X0 _) rfl (Nat.le_of_ble_eq_true rfl) (by decide +kernel) (Nat.le_of_ble_eq_true rfl) (Nat.le_of_ble_eq_true rfl) ?_
  refine hB.1 _ _ 76 45 6 6 0 49 54 _ _ _ pf_X6_45 rfl (Nat.le_of_ble_eq_true rfl) rfl (by decide +kernel) ?_
  refine hA.1 _ _ 79 0 0 _ _ _ _ 0 rfl rfl (by decide +kernel) ?_
  refine hA.2.2.2.2.2.1 _ _ 80 49 5 54 _ _ _ nwc_X6_49 rfl (Nat.le_of_ble_eq_true rfl) (Nat.le_of_ble_eq_true rfl) (by decide +kernel) ?_
  refine hA.2.1 _ _ 83 54 _ _ _ _ (by decide +kernel) ?_
  refine hA.2.2.2.2.2.2 _ _ 84 51 2 54 1 55 65 10 150 yX5_init cX5_init [] [vR 54, vR 0] _ _ _ _ myi_X5 lki_X6_51 (by decide) (I_X5 _) rfl (Nat.le_of_ble_eq_true rfl) (by decide +kernel) (Nat.le_of_ble_eq_true rfl) (Nat.le_of_ble_eq_true rfl) ?_
  refine hB.1 _ _ 87 52 6 7 0 54 65 _ _ _ pf_X6_52 rfl (Nat.le_of_ble_eq_true rfl) rfl (by decide +kernel) ?_
  refine hA.1 _ _ 90 0 0 _ _ _ _ 0 rfl rfl (by decide +kernel) ?_
  refine hA.2.2.2.2.2.1 _ _ 91 56 2 65 _ _ _ nwc_X6_56 rfl (Nat.le_of_ble_eq_true rfl) (Nat.le_of_ble_eq_true rfl) (by decide +kernel) ?_
  refine hA.2.1 _ _ 94 65 _ _ _ _ (by decide +kernel) ?_
  refine hA.2.2.2.2.2.2 _ _ 95 58 2 65 1 66 76 10 150 yX2_init cX2_init [] [vR 65, vR 0] _ _ _ _ myi_X2 lki_X6_58 (by decide) (I_X2 _) rfl (Nat.le_of_ble_eq_true rfl) (by decide +kernel) (Nat.le_of_ble_eq_true rfl) (Nat.le_of_ble_eq_true rfl) ?_
  refine hB.1 _ _ 98 59 6 8 0 65 76 _ _ _ pf_X6_59 rfl (Nat.le_of_ble_eq_true rfl) rfl (by decide +kernel) ?_
  refine hR 101 _ _ (by decide +kernel) ?_
  funext a k
  rcases (show a = 0 ∨ (1 ≤ a ∧ a < 3) ∨ (3 ≤ a ∧ a < 10) ∨ (10 ≤ a ∧ a < 17) ∨ (17 ≤ a ∧ a < 47) ∨ (47 ≤ a ∧ a < 49) ∨ (49 ≤ a ∧ a < 54) ∨ (54 ≤ a ∧ a < 65) ∨ (65 ≤ a ∧ a < 76) ∨ 76 ≤ a by omega) with c | c | c | c | c | c | c | c | c | c
  · subst c
    rcases (show k = 0 ∨ k = 1 ∨ k = 2 ∨ k = 3 ∨ k = 4 ∨ k = 5 ∨ k = 6 ∨ k = 7 ∨ k = 8 ∨ 9 ≤ k by omega) with rfl | rfl | rfl | rfl | rfl | rfl | rfl | rfl | rfl | q
    · exact (show (_ : Int) = H0 0 0 from rfl)
    · exact (show (_ : Int) = H0 0 1 from rfl)
    · exact (show (_ : Int) = H0 0 2 from rfl)
    · exact (show (_ : Int) = H0 0 3 from rfl)
    · exact (show (_ : Int) = H0 0 4 from rfl)
    · exact (show (_ : Int) = H0 0 5 from rfl)
    · exact (show (_ : Int) = H0 0 6 from rfl)
    · exact (show (_ : Int) = H0 0 7 from rfl)
    · exact (show (_ : Int) = H0 0 8 from rfl)
    · have hz : H0 0 k = 0 := H0_out (ci := 6) (by decide) (by decide) q (by omega) (by omega)
      simp [up, zer, ini, hz, show k ≠ 0 by omega, show k ≠ 1 by omega, show k ≠ 2 by omega, show k ≠ 3 by omega, show k ≠ 4 by omega, show k ≠ 5 by omega, show k ≠ 6 by omega, show k ≠ 7 by omega, show k ≠ 8 by omega]
  · simp [up, zer, ini, show a ≠ 0 by omega, show ¬ a < 0 by omega, show ¬ a < 1 by omega, show a < 3 by omega, show a < 10 by omega, show a < 17 by omega, show a < 47 by omega, show a < 49 by omega, show a < 54 by omega, show a < 65 by omega, show a < 76 by omega]
  · simp [up, zer, ini, show a ≠ 0 by omega, show ¬ a < 0 by omega, show ¬ a < 1 by omega, show ¬ a < 3 by omega, show a < 10 by omega, show a < 17 by omega, show a < 47 by omega, show a < 49 by omega, show a < 54 by omega, show a < 65 by omega, show a < 76 by omega]
  · simp [up, zer, ini, show a ≠ 0 by omega, show ¬ a < 0 by omega, show ¬ a < 1 by omega, show ¬ a < 3 by omega, show ¬ a < 10 by omega, show a < 17 by omega, show a < 47 by omega, show a < 49 by omega, show a < 54 by omega, show a < 65 by omega, show a < 76 by omega]
  · simp [up, zer, ini, show a ≠ 0 by omega, show ¬ a < 0 by omega, show ¬ a < 1 by omega, show ¬ a < 3 by omega, show ¬ a < 10 by omega, show ¬ a < 17 by omega, show a < 47 by omega, show a < 49 by omega, show a < 54 by omega, show a < 65 by omega, show a < 76 by omega]
  · simp [up, zer, ini, show a ≠ 0 by omega, show ¬ a < 0 by omega, show ¬ a < 1 by omega, show ¬ a < 3 by omega, show ¬ a < 10 by omega, show ¬ a < 17 by omega, show ¬ a < 47 by omega, show a < 49 by omega, show a < 54 by omega, show a < 65 by omega, show a < 76 by omega]
  · simp [up, zer, ini, show a ≠ 0 by omega, show ¬ a < 0 by omega, show ¬ a < 1 by omega, show ¬ a < 3 by omega, show ¬ a < 10 by omega, show ¬ a < 17 by omega, show ¬ a < 47 by omega, show ¬ a < 49 by omega, show a < 54 by omega, show a < 65 by omega, show a < 76 by omega]
  · simp [up, zer, ini, show a ≠ 0 by omega, show ¬ a < 0 by omega, show ¬ a < 1 by omega, show ¬ a < 3 by omega, show ¬ a < 10 by omega, show ¬ a < 17 by omega, show ¬ a < 47 by omega, show ¬ a < 49 by omega, show ¬ a < 54 by omega, show a < 65 by omega, show a < 76 by omega]
  · simp [up, zer, ini, show a ≠ 0 by omega, show ¬ a < 0 by omega, show ¬ a < 1 by omega, show ¬ a < 3 by omega, show ¬ a < 10 by omega, show ¬ a < 17 by omega, show ¬ a < 47 by omega, show ¬ a < 49 by omega, show ¬ a < 54 by omega, show ¬ a < 65 by omega, show a < 76 by omega]
  · simp [up, zer, ini, show a ≠ 0 by omega, show ¬ a < 0 by omega, show ¬ a < 1 by omega, show ¬ a < 3 by omega, show ¬ a < 10 by omega, show ¬ a < 17 by omega, show ¬ a < 47 by omega, show ¬ a < 49 by omega, show ¬ a < 54 by omega, show ¬ a < 65 by omega, show ¬ a < 76 by omega]

set_option maxRecDepth 100000 in
theorem in_X0 : ∀ w ∈ u_ws RX0 TX0 2, w ∈ TB := tb_all (by decide +kernel) (by decide +kernel)
set_option maxRecDepth 100000 in
theorem in_X1 : ∀ w ∈ u_ws RX1 TX1 2, w ∈ TB := tb_all (by decide +kernel) (by decide +kernel)
set_option maxRecDepth 100000 in
theorem in_X2 : ∀ w ∈ u_ws RX2 TX2 10, w ∈ TB := tb_all (by decide +kernel) (by decide +kernel)
set_option maxRecDepth 100000 in
theorem in_X3 : ∀ w ∈ u_ws RX3 TX3 2, w ∈ TB := tb_all (by decide +kernel) (by decide +kernel)
set_option maxRecDepth 100000 in
theorem in_X4 : ∀ w ∈ u_ws RX4 TX4 7, w ∈ TB := tb_all (by decide +kernel) (by decide +kernel)
set_option maxRecDepth 100000 in
theorem in_X5 : ∀ w ∈ u_ws RX5 TX5 5, w ∈ TB := tb_all (by decide +kernel) (by decide +kernel)
set_option maxRecDepth 100000 in
theorem in_X6 : ∀ w ∈ u_ws RX6 TX6 9, w ∈ TB := tb_all (by decide +kernel) (by decide +kernel)
def fl0 : Nat → Option (Nat × Nat) := fun i => ([] : List (Nat × (Nat × Nat))).lookup i
abbrev RX9 : String := RL
abbrev flX9 : Nat → Option (Nat × Nat) := fl0
theorem flok_X9 : flok RX9 flX9 := flok_of (fun q hq => by cases hq)
theorem flok_0 : flok "java/lang/Math" fl0 := flok_of (fun q hq => by cases hq)
set_option maxRecDepth 100000 in
theorem fld_X0_16 : FLD RX0 16 0 0 := ⟨RX0, TX0, 2, tyX0, rfl, by decide, by decide, rfl, (tb_in 106 (by decide +kernel) (by decide +kernel)), in_X0, tyX0_ok, nmX0, fun h => absurd h (by decide), fun h => absurd h (by decide), fun h => absurd (show fc 0 0 = 2 by decide) h⟩
set_option maxRecDepth 100000 in
theorem fld_X0_20 : FLD RX0 20 0 1 := ⟨RX0, TX0, 2, tyX0, rfl, by decide, by decide, rfl, (tb_in 107 (by decide +kernel) (by decide +kernel)), in_X0, tyX0_ok, nmX0, fun h => absurd h (by decide), fun h => absurd h (by decide), fun h => absurd (show fc 0 1 = 2 by decide) h⟩
def flX0 : Nat → Option (Nat × Nat) := fun i => ([(16, (0, 0)), (20, (0, 1))] : List (Nat × (Nat × Nat))).lookup i
theorem flok_X0 : flok RX0 flX0 := flok_of (List.forall_mem_cons.mpr ⟨fld_X0_16, List.forall_mem_cons.mpr ⟨fld_X0_20, List.forall_mem_nil _⟩⟩)
set_option maxRecDepth 100000 in
theorem fld_X1_11 : FLD RX1 11 1 0 := ⟨RX1, TX1, 2, tyX1, rfl, by decide, by decide, rfl, (tb_in 91 (by decide +kernel) (by decide +kernel)), in_X1, tyX1_ok, nmX1, fun h => absurd h (by decide), fun h => absurd h (by decide), fun h => absurd (show fc 1 0 = 2 by decide) h⟩
set_option maxRecDepth 100000 in
theorem fld_X1_17 : FLD RX1 17 1 1 := ⟨RX1, TX1, 2, tyX1, rfl, by decide, by decide, rfl, (tb_in 92 (by decide +kernel) (by decide +kernel)), in_X1, tyX1_ok, nmX1, fun _ => rfl, fun h => absurd h (by decide), fun _ => rfl⟩
def flX1 : Nat → Option (Nat × Nat) := fun i => ([(11, (1, 0)), (17, (1, 1))] : List (Nat × (Nat × Nat))).lookup i
theorem flok_X1 : flok RX1 flX1 := flok_of (List.forall_mem_cons.mpr ⟨fld_X1_11, List.forall_mem_cons.mpr ⟨fld_X1_17, List.forall_mem_nil _⟩⟩)
set_option maxRecDepth 100000 in
theorem fld_X2_14 : FLD RX2 14 2 0 := ⟨RX2, TX2, 10, tyX2, rfl, by decide, by decide, rfl, (tb_in 145 (by decide +kernel) (by decide +kernel)), in_X2, tyX2_ok, nmX2, fun h => absurd h (by decide), fun h => absurd h (by decide), fun h => absurd (show fc 2 0 = 2 by decide) h⟩
set_option maxRecDepth 100000 in
theorem fld_X2_20 : FLD RX2 20 2 1 := ⟨RX2, TX2, 10, tyX2, rfl, by decide, by decide, rfl, (tb_in 146 (by decide +kernel) (by decide +kernel)), in_X2, tyX2_ok, nmX2, fun h => absurd h (by decide), fun h => absurd h (by decide), fun h => absurd (show fc 2 1 = 2 by decide) h⟩
set_option maxRecDepth 100000 in
theorem fld_X2_23 : FLD RX2 23 2 2 := ⟨RX2, TX2, 10, tyX2, rfl, by decide, by decide, rfl, (tb_in 147 (by decide +kernel) (by decide +kernel)), in_X2, tyX2_ok, nmX2, fun h => absurd h (by decide), fun h => absurd h (by decide), fun h => absurd (show fc 2 2 = 2 by decide) h⟩
set_option maxRecDepth 100000 in
theorem fld_X2_26 : FLD RX2 26 2 3 := ⟨RX2, TX2, 10, tyX2, rfl, by decide, by decide, rfl, (tb_in 148 (by decide +kernel) (by decide +kernel)), in_X2, tyX2_ok, nmX2, fun h => absurd h (by decide), fun h => absurd h (by decide), fun h => absurd (show fc 2 3 = 2 by decide) h⟩
set_option maxRecDepth 100000 in
theorem fld_X2_29 : FLD RX2 29 2 4 := ⟨RX2, TX2, 10, tyX2, rfl, by decide, by decide, rfl, (tb_in 149 (by decide +kernel) (by decide +kernel)), in_X2, tyX2_ok, nmX2, fun h => absurd h (by decide), fun h => absurd h (by decide), fun h => absurd (show fc 2 4 = 2 by decide) h⟩
set_option maxRecDepth 100000 in
theorem fld_X2_32 : FLD RX2 32 2 5 := ⟨RX2, TX2, 10, tyX2, rfl, by decide, by decide, rfl, (tb_in 150 (by decide +kernel) (by decide +kernel)), in_X2, tyX2_ok, nmX2, fun _ => rfl, fun h => absurd h (by decide), fun _ => rfl⟩
set_option maxRecDepth 100000 in
theorem fld_X2_36 : FLD RX2 36 2 6 := ⟨RX2, TX2, 10, tyX2, rfl, by decide, by decide, rfl, (tb_in 151 (by decide +kernel) (by decide +kernel)), in_X2, tyX2_ok, nmX2, fun _ => rfl, fun h => absurd h (by decide), fun _ => rfl⟩
set_option maxRecDepth 100000 in
theorem fld_X2_39 : FLD RX2 39 2 7 := ⟨RX2, TX2, 10, tyX2, rfl, by decide, by decide, rfl, (tb_in 152 (by decide +kernel) (by decide +kernel)), in_X2, tyX2_ok, nmX2, fun _ => rfl, fun h => absurd h (by decide), fun _ => rfl⟩
set_option maxRecDepth 100000 in
theorem fld_X2_42 : FLD RX2 42 2 8 := ⟨RX2, TX2, 10, tyX2, rfl, by decide, by decide, rfl, (tb_in 153 (by decide +kernel) (by decide +kernel)), in_X2, tyX2_ok, nmX2, fun _ => rfl, fun h => absurd h (by decide), fun _ => rfl⟩
set_option maxRecDepth 100000 in
theorem fld_X2_45 : FLD RX2 45 2 9 := ⟨RX2, TX2, 10, tyX2, rfl, by decide, by decide, rfl, (tb_in 154 (by decide +kernel) (by decide +kernel)), in_X2, tyX2_ok, nmX2, fun _ => rfl, fun h => absurd h (by decide), fun _ => rfl⟩
def flX2 : Nat → Option (Nat × Nat) := fun i => ([(14, (2, 0)), (20, (2, 1)), (23, (2, 2)), (26, (2, 3)), (29, (2, 4)), (32, (2, 5)), (36, (2, 6)), (39, (2, 7)), (42, (2, 8)), (45, (2, 9))] : List (Nat × (Nat × Nat))).lookup i
theorem flok_X2 : flok RX2 flX2 := flok_of (List.forall_mem_cons.mpr ⟨fld_X2_14, List.forall_mem_cons.mpr ⟨fld_X2_20, List.forall_mem_cons.mpr ⟨fld_X2_23, List.forall_mem_cons.mpr ⟨fld_X2_26, List.forall_mem_cons.mpr ⟨fld_X2_29, List.forall_mem_cons.mpr ⟨fld_X2_32, List.forall_mem_cons.mpr ⟨fld_X2_36, List.forall_mem_cons.mpr ⟨fld_X2_39, List.forall_mem_cons.mpr ⟨fld_X2_42, List.forall_mem_cons.mpr ⟨fld_X2_45, List.forall_mem_nil _⟩⟩⟩⟩⟩⟩⟩⟩⟩⟩)
set_option maxRecDepth 100000 in
theorem fld_X3_7 : FLD RX3 7 3 1 := ⟨RX3, TX3, 2, tyX3, rfl, by decide, by decide, rfl, (tb_in 45 (by decide +kernel) (by decide +kernel)), in_X3, tyX3_ok, nmX3, fun _ => rfl, fun h => absurd h (by decide), fun _ => rfl⟩
set_option maxRecDepth 100000 in
theorem fld_X3_13 : FLD RX3 13 3 0 := ⟨RX3, TX3, 2, tyX3, rfl, by decide, by decide, rfl, (tb_in 44 (by decide +kernel) (by decide +kernel)), in_X3, tyX3_ok, nmX3, fun h => absurd h (by decide), fun h => absurd h (by decide), fun h => absurd (show fc 3 0 = 2 by decide) h⟩
def flX3 : Nat → Option (Nat × Nat) := fun i => ([(7, (3, 1)), (13, (3, 0))] : List (Nat × (Nat × Nat))).lookup i
theorem flok_X3 : flok RX3 flX3 := flok_of (List.forall_mem_cons.mpr ⟨fld_X3_7, List.forall_mem_cons.mpr ⟨fld_X3_13, List.forall_mem_nil _⟩⟩)
set_option maxRecDepth 100000 in
theorem fld_X4_14 : FLD RX4 14 4 0 := ⟨RX4, TX4, 7, tyX4, rfl, by decide, by decide, rfl, (tb_in 60 (by decide +kernel) (by decide +kernel)), in_X4, tyX4_ok, nmX4, fun h => absurd h (by decide), fun h => absurd h (by decide), fun h => absurd (show fc 4 0 = 2 by decide) h⟩
set_option maxRecDepth 100000 in
theorem fld_X4_20 : FLD RX4 20 4 1 := ⟨RX4, TX4, 7, tyX4, rfl, by decide, by decide, rfl, (tb_in 61 (by decide +kernel) (by decide +kernel)), in_X4, tyX4_ok, nmX4, fun h => absurd h (by decide), fun h => absurd h (by decide), fun h => absurd (show fc 4 1 = 2 by decide) h⟩
set_option maxRecDepth 100000 in
theorem fld_X4_23 : FLD RX4 23 4 2 := ⟨RX4, TX4, 7, tyX4, rfl, by decide, by decide, rfl, (tb_in 62 (by decide +kernel) (by decide +kernel)), in_X4, tyX4_ok, nmX4, fun h => absurd h (by decide), fun h => absurd h (by decide), fun h => absurd (show fc 4 2 = 2 by decide) h⟩
set_option maxRecDepth 100000 in
theorem fld_X4_26 : FLD RX4 26 4 3 := ⟨RX4, TX4, 7, tyX4, rfl, by decide, by decide, rfl, (tb_in 63 (by decide +kernel) (by decide +kernel)), in_X4, tyX4_ok, nmX4, fun _ => rfl, fun h => absurd h (by decide), fun _ => rfl⟩
set_option maxRecDepth 100000 in
theorem fld_X4_30 : FLD RX4 30 4 4 := ⟨RX4, TX4, 7, tyX4, rfl, by decide, by decide, rfl, (tb_in 64 (by decide +kernel) (by decide +kernel)), in_X4, tyX4_ok, nmX4, fun _ => rfl, fun h => absurd h (by decide), fun _ => rfl⟩
set_option maxRecDepth 100000 in
theorem fld_X4_33 : FLD RX4 33 4 5 := ⟨RX4, TX4, 7, tyX4, rfl, by decide, by decide, rfl, (tb_in 65 (by decide +kernel) (by decide +kernel)), in_X4, tyX4_ok, nmX4, fun _ => rfl, fun h => absurd h (by decide), fun _ => rfl⟩
set_option maxRecDepth 100000 in
theorem fld_X4_36 : FLD RX4 36 4 6 := ⟨RX4, TX4, 7, tyX4, rfl, by decide, by decide, rfl, (tb_in 66 (by decide +kernel) (by decide +kernel)), in_X4, tyX4_ok, nmX4, fun _ => rfl, fun h => absurd h (by decide), fun _ => rfl⟩
def flX4 : Nat → Option (Nat × Nat) := fun i => ([(14, (4, 0)), (20, (4, 1)), (23, (4, 2)), (26, (4, 3)), (30, (4, 4)), (33, (4, 5)), (36, (4, 6))] : List (Nat × (Nat × Nat))).lookup i
theorem flok_X4 : flok RX4 flX4 := flok_of (List.forall_mem_cons.mpr ⟨fld_X4_14, List.forall_mem_cons.mpr ⟨fld_X4_20, List.forall_mem_cons.mpr ⟨fld_X4_23, List.forall_mem_cons.mpr ⟨fld_X4_26, List.forall_mem_cons.mpr ⟨fld_X4_30, List.forall_mem_cons.mpr ⟨fld_X4_33, List.forall_mem_cons.mpr ⟨fld_X4_36, List.forall_mem_nil _⟩⟩⟩⟩⟩⟩⟩)
set_option maxRecDepth 100000 in
theorem fld_X5_14 : FLD RX5 14 5 0 := ⟨RX5, TX5, 5, tyX5, rfl, by decide, by decide, rfl, (tb_in 121 (by decide +kernel) (by decide +kernel)), in_X5, tyX5_ok, nmX5, fun h => absurd h (by decide), fun h => absurd h (by decide), fun h => absurd (show fc 5 0 = 2 by decide) h⟩
set_option maxRecDepth 100000 in
theorem fld_X5_20 : FLD RX5 20 5 1 := ⟨RX5, TX5, 5, tyX5, rfl, by decide, by decide, rfl, (tb_in 122 (by decide +kernel) (by decide +kernel)), in_X5, tyX5_ok, nmX5, fun h => absurd h (by decide), fun h => absurd h (by decide), fun h => absurd (show fc 5 1 = 2 by decide) h⟩
set_option maxRecDepth 100000 in
theorem fld_X5_23 : FLD RX5 23 5 2 := ⟨RX5, TX5, 5, tyX5, rfl, by decide, by decide, rfl, (tb_in 123 (by decide +kernel) (by decide +kernel)), in_X5, tyX5_ok, nmX5, fun h => absurd h (by decide), fun h => absurd h (by decide), fun h => absurd (show fc 5 2 = 2 by decide) h⟩
set_option maxRecDepth 100000 in
theorem fld_X5_26 : FLD RX5 26 5 3 := ⟨RX5, TX5, 5, tyX5, rfl, by decide, by decide, rfl, (tb_in 124 (by decide +kernel) (by decide +kernel)), in_X5, tyX5_ok, nmX5, fun h => absurd h (by decide), fun h => absurd h (by decide), fun h => absurd (show fc 5 3 = 2 by decide) h⟩
set_option maxRecDepth 100000 in
theorem fld_X5_29 : FLD RX5 29 5 4 := ⟨RX5, TX5, 5, tyX5, rfl, by decide, by decide, rfl, (tb_in 125 (by decide +kernel) (by decide +kernel)), in_X5, tyX5_ok, nmX5, fun h => absurd h (by decide), fun h => absurd h (by decide), fun h => absurd (show fc 5 4 = 2 by decide) h⟩
def flX5 : Nat → Option (Nat × Nat) := fun i => ([(14, (5, 0)), (20, (5, 1)), (23, (5, 2)), (26, (5, 3)), (29, (5, 4))] : List (Nat × (Nat × Nat))).lookup i
theorem flok_X5 : flok RX5 flX5 := flok_of (List.forall_mem_cons.mpr ⟨fld_X5_14, List.forall_mem_cons.mpr ⟨fld_X5_20, List.forall_mem_cons.mpr ⟨fld_X5_23, List.forall_mem_cons.mpr ⟨fld_X5_26, List.forall_mem_cons.mpr ⟨fld_X5_29, List.forall_mem_nil _⟩⟩⟩⟩⟩)
set_option maxRecDepth 100000 in
theorem fld_X6_14 : FLD RX6 14 6 0 := ⟨RX6, TX6, 9, tyX6, rfl, by decide, by decide, rfl, (tb_in 176 (by decide +kernel) (by decide +kernel)), in_X6, tyX6_ok, nmX6, fun h => absurd h (by decide), fun h => absurd h (by decide), fun h => absurd (show fc 6 0 = 2 by decide) h⟩
set_option maxRecDepth 100000 in
theorem fld_X6_21 : FLD RX6 21 6 1 := ⟨RX6, TX6, 9, tyX6, rfl, by decide, by decide, rfl, (tb_in 177 (by decide +kernel) (by decide +kernel)), in_X6, tyX6_ok, nmX6, fun h => absurd h (by decide), fun h => absurd h (by decide), fun h => absurd (show fc 6 1 = 2 by decide) h⟩
set_option maxRecDepth 100000 in
theorem fld_X6_25 : FLD RX6 25 6 2 := ⟨RX6, TX6, 9, tyX6, rfl, by decide, by decide, rfl, (tb_in 178 (by decide +kernel) (by decide +kernel)), in_X6, tyX6_ok, nmX6, fun h => absurd h (by decide), fun h => absurd h (by decide), fun h => absurd (show fc 6 2 = 2 by decide) h⟩
set_option maxRecDepth 100000 in
theorem fld_X6_28 : FLD RX6 28 6 3 := ⟨RX6, TX6, 9, tyX6, rfl, by decide, by decide, rfl, (tb_in 179 (by decide +kernel) (by decide +kernel)), in_X6, tyX6_ok, nmX6, fun h => absurd h (by decide), fun _ => rfl, fun _ => rfl⟩
set_option maxRecDepth 100000 in
theorem fld_X6_35 : FLD RX6 35 6 4 := ⟨RX6, TX6, 9, tyX6, rfl, by decide, by decide, rfl, (tb_in 180 (by decide +kernel) (by decide +kernel)), in_X6, tyX6_ok, nmX6, fun h => absurd h (by decide), fun h => absurd h (by decide), fun h => absurd (show fc 6 4 = 2 by decide) h⟩
set_option maxRecDepth 100000 in
theorem fld_X6_39 : FLD RX6 39 6 5 := ⟨RX6, TX6, 9, tyX6, rfl, by decide, by decide, rfl, (tb_in 181 (by decide +kernel) (by decide +kernel)), in_X6, tyX6_ok, nmX6, fun h => absurd h (by decide), fun h => absurd h (by decide), fun h => absurd (show fc 6 5 = 2 by decide) h⟩
set_option maxRecDepth 100000 in
theorem fld_X6_45 : FLD RX6 45 6 6 := ⟨RX6, TX6, 9, tyX6, rfl, by decide, by decide, rfl, (tb_in 182 (by decide +kernel) (by decide +kernel)), in_X6, tyX6_ok, nmX6, fun h => absurd h (by decide), fun h => absurd h (by decide), fun h => absurd (show fc 6 6 = 2 by decide) h⟩
set_option maxRecDepth 100000 in
theorem fld_X6_52 : FLD RX6 52 6 7 := ⟨RX6, TX6, 9, tyX6, rfl, by decide, by decide, rfl, (tb_in 183 (by decide +kernel) (by decide +kernel)), in_X6, tyX6_ok, nmX6, fun h => absurd h (by decide), fun h => absurd h (by decide), fun h => absurd (show fc 6 7 = 2 by decide) h⟩
set_option maxRecDepth 100000 in
theorem fld_X6_59 : FLD RX6 59 6 8 := ⟨RX6, TX6, 9, tyX6, rfl, by decide, by decide, rfl, (tb_in 184 (by decide +kernel) (by decide +kernel)), in_X6, tyX6_ok, nmX6, fun h => absurd h (by decide), fun h => absurd h (by decide), fun h => absurd (show fc 6 8 = 2 by decide) h⟩
def flX6 : Nat → Option (Nat × Nat) := fun i => ([(14, (6, 0)), (21, (6, 1)), (25, (6, 2)), (28, (6, 3)), (35, (6, 4)), (39, (6, 5)), (45, (6, 6)), (52, (6, 7)), (59, (6, 8))] : List (Nat × (Nat × Nat))).lookup i
theorem flok_X6 : flok RX6 flX6 := flok_of (List.forall_mem_cons.mpr ⟨fld_X6_14, List.forall_mem_cons.mpr ⟨fld_X6_21, List.forall_mem_cons.mpr ⟨fld_X6_25, List.forall_mem_cons.mpr ⟨fld_X6_28, List.forall_mem_cons.mpr ⟨fld_X6_35, List.forall_mem_cons.mpr ⟨fld_X6_39, List.forall_mem_cons.mpr ⟨fld_X6_45, List.forall_mem_cons.mpr ⟨fld_X6_52, List.forall_mem_cons.mpr ⟨fld_X6_59, List.forall_mem_nil _⟩⟩⟩⟩⟩⟩⟩⟩⟩)
set_option maxRecDepth 100000 in
theorem my_yX3_becomeZeros : MY yX3_becomeZeros cX3_becomeZeros 3 none 1 := ⟨(tb_in 227 (by decide +kernel) (by decide +kernel)), (tb_in 22 (by decide +kernel) (by decide +kernel)), ⟨by decide +kernel, by decide +kernel, by decide +kernel⟩, by decide⟩
set_option maxRecDepth 100000 in
theorem vw_X0_23 : VW RX0 23 yX3_becomeZeros := ⟨(tb_in 224 (by decide +kernel) (by decide +kernel)), (tb_in 225 (by decide +kernel) (by decide +kernel)), (tb_in 226 (by decide +kernel) (by decide +kernel))⟩
set_option maxRecDepth 100000 in
theorem my_yX3_size : MY yX3_size cX3_size 1 (Option.some Jvm.ClassFile.FieldType.int) 0 := ⟨(tb_in 239 (by decide +kernel) (by decide +kernel)), (tb_in 22 (by decide +kernel) (by decide +kernel)), ⟨by decide +kernel, by decide +kernel, by decide +kernel⟩, by decide⟩
set_option maxRecDepth 100000 in
theorem vw_X0_26 : VW RX0 26 yX3_size := ⟨(tb_in 236 (by decide +kernel) (by decide +kernel)), (tb_in 237 (by decide +kernel) (by decide +kernel)), (tb_in 238 (by decide +kernel) (by decide +kernel))⟩
set_option maxRecDepth 100000 in
theorem my_yX3_at : MY yX3_at cX3_at 2 (Option.some Jvm.ClassFile.FieldType.int) 1 := ⟨(tb_in 243 (by decide +kernel) (by decide +kernel)), (tb_in 22 (by decide +kernel) (by decide +kernel)), ⟨by decide +kernel, by decide +kernel, by decide +kernel⟩, by decide⟩
set_option maxRecDepth 100000 in
theorem vw_X0_30 : VW RX0 30 yX3_at := ⟨(tb_in 240 (by decide +kernel) (by decide +kernel)), (tb_in 241 (by decide +kernel) (by decide +kernel)), (tb_in 242 (by decide +kernel) (by decide +kernel))⟩
set_option maxRecDepth 100000 in
theorem my_yX0_keptFrom : MY yX0_keptFrom cX0_keptFrom 3 (Option.some Jvm.ClassFile.FieldType.int) 2 := ⟨(tb_in 247 (by decide +kernel) (by decide +kernel)), (tb_in 25 (by decide +kernel) (by decide +kernel)), ⟨by decide +kernel, by decide +kernel, by decide +kernel⟩, by decide⟩
set_option maxRecDepth 100000 in
theorem vw_X0_34 : VW RX0 34 yX0_keptFrom := ⟨(tb_in 244 (by decide +kernel) (by decide +kernel)), (tb_in 246 (by decide +kernel) (by decide +kernel)), (tb_in 1 (by decide +kernel) (by decide +kernel))⟩
set_option maxRecDepth 100000 in
theorem mw_X0_38 : MW RX0 38 Lib.Math.max.name Lib.Math.max.code := ⟨(tb_in 248 (by decide +kernel) (by decide +kernel)), (tb_in 249 (by decide +kernel) (by decide +kernel)), (tb_in 28 (by decide +kernel) (by decide +kernel)), (tb_in 250 (by decide +kernel) (by decide +kernel))⟩
set_option maxRecDepth 100000 in
theorem my_yX3_change : MY yX3_change cX3_change 3 none 2 := ⟨(tb_in 254 (by decide +kernel) (by decide +kernel)), (tb_in 22 (by decide +kernel) (by decide +kernel)), ⟨by decide +kernel, by decide +kernel, by decide +kernel⟩, by decide⟩
set_option maxRecDepth 100000 in
theorem vw_X0_43 : VW RX0 43 yX3_change := ⟨(tb_in 251 (by decide +kernel) (by decide +kernel)), (tb_in 252 (by decide +kernel) (by decide +kernel)), (tb_in 253 (by decide +kernel) (by decide +kernel))⟩
set_option maxRecDepth 100000 in
theorem my_yX0_compare : MY yX0_compare cX0_compare 6 none 2 := ⟨(tb_in 223 (by decide +kernel) (by decide +kernel)), (tb_in 25 (by decide +kernel) (by decide +kernel)), ⟨by decide +kernel, by decide +kernel, by decide +kernel⟩, by decide⟩
set_option maxRecDepth 100000 in
theorem vw_X0_49 : VW RX0 49 yX0_compare := ⟨(tb_in 523 (by decide +kernel) (by decide +kernel)), (tb_in 221 (by decide +kernel) (by decide +kernel)), (tb_in 222 (by decide +kernel) (by decide +kernel))⟩
set_option maxRecDepth 100000 in
theorem my_yX0_keptOf : MY yX0_keptOf cX0_keptOf 3 (Option.some Jvm.ClassFile.FieldType.int) 2 := ⟨(tb_in 522 (by decide +kernel) (by decide +kernel)), (tb_in 25 (by decide +kernel) (by decide +kernel)), ⟨by decide +kernel, by decide +kernel, by decide +kernel⟩, by decide⟩
set_option maxRecDepth 100000 in
theorem vw_X0_53 : VW RX0 53 yX0_keptOf := ⟨(tb_in 519 (by decide +kernel) (by decide +kernel)), (tb_in 520 (by decide +kernel) (by decide +kernel)), (tb_in 521 (by decide +kernel) (by decide +kernel))⟩
set_option maxRecDepth 100000 in
theorem my_yX0_entry : MY yX0_entry cX0_entry 5 (Option.some Jvm.ClassFile.FieldType.int) 2 := ⟨(tb_in 577 (by decide +kernel) (by decide +kernel)), (tb_in 25 (by decide +kernel) (by decide +kernel)), ⟨by decide +kernel, by decide +kernel, by decide +kernel⟩, by decide⟩
set_option maxRecDepth 100000 in
theorem vw_X0_57 : VW RX0 57 yX0_entry := ⟨(tb_in 574 (by decide +kernel) (by decide +kernel)), (tb_in 576 (by decide +kernel) (by decide +kernel)), (tb_in 19 (by decide +kernel) (by decide +kernel))⟩
set_option maxRecDepth 100000 in
theorem my_yX0_followKept : MY yX0_followKept cX0_followKept 5 (Option.some Jvm.ClassFile.FieldType.int) 4 := ⟨(tb_in 580 (by decide +kernel) (by decide +kernel)), (tb_in 25 (by decide +kernel) (by decide +kernel)), ⟨by decide +kernel, by decide +kernel, by decide +kernel⟩, by decide⟩
set_option maxRecDepth 100000 in
theorem sw_X0_60 : SW RX0 60 yX0_followKept := ⟨(tb_in 578 (by decide +kernel) (by decide +kernel)), (tb_in 579 (by decide +kernel) (by decide +kernel))⟩
set_option maxRecDepth 100000 in
theorem my_yX1_dropOldest : MY yX1_dropOldest cX1_dropOldest 2 none 0 := ⟨(tb_in 413 (by decide +kernel) (by decide +kernel)), (tb_in 24 (by decide +kernel) (by decide +kernel)), ⟨by decide +kernel, by decide +kernel, by decide +kernel⟩, by decide⟩
set_option maxRecDepth 100000 in
theorem vw_X1_22 : VW RX1 22 yX1_dropOldest := ⟨(tb_in 410 (by decide +kernel) (by decide +kernel)), (tb_in 412 (by decide +kernel) (by decide +kernel)), (tb_in 14 (by decide +kernel) (by decide +kernel))⟩
set_option maxRecDepth 100000 in
theorem my_yX1_slot : MY yX1_slot cX1_slot 2 (Option.some (Jvm.ClassFile.FieldType.object "HunkSlides$State")) 1 := ⟨(tb_in 417 (by decide +kernel) (by decide +kernel)), (tb_in 24 (by decide +kernel) (by decide +kernel)), ⟨by decide +kernel, by decide +kernel, by decide +kernel⟩, by decide⟩
set_option maxRecDepth 100000 in
theorem vw_X1_25 : VW RX1 25 yX1_slot := ⟨(tb_in 414 (by decide +kernel) (by decide +kernel)), (tb_in 416 (by decide +kernel) (by decide +kernel)), (tb_in 15 (by decide +kernel) (by decide +kernel))⟩
set_option maxRecDepth 100000 in
theorem my_yX1_copy : MY yX1_copy cX1_copy 2 none 2 := ⟨(tb_in 420 (by decide +kernel) (by decide +kernel)), (tb_in 24 (by decide +kernel) (by decide +kernel)), ⟨by decide +kernel, by decide +kernel, by decide +kernel⟩, by decide⟩
set_option maxRecDepth 100000 in
theorem sw_X1_29 : SW RX1 29 yX1_copy := ⟨(tb_in 418 (by decide +kernel) (by decide +kernel)), (tb_in 419 (by decide +kernel) (by decide +kernel))⟩
set_option maxRecDepth 100000 in
theorem my_yX4_become : MY yX4_become cX4_become 2 none 1 := ⟨(tb_in 424 (by decide +kernel) (by decide +kernel)), (tb_in 23 (by decide +kernel) (by decide +kernel)), ⟨by decide +kernel, by decide +kernel, by decide +kernel⟩, by decide⟩
set_option maxRecDepth 100000 in
theorem vw_X1_33 : VW RX1 33 yX4_become := ⟨(tb_in 421 (by decide +kernel) (by decide +kernel)), (tb_in 422 (by decide +kernel) (by decide +kernel)), (tb_in 423 (by decide +kernel) (by decide +kernel))⟩
set_option maxRecDepth 100000 in
theorem mw_X2_100 : MW RX2 100 Lib.Math.max.name Lib.Math.max.code := ⟨(tb_in 401 (by decide +kernel) (by decide +kernel)), (tb_in 249 (by decide +kernel) (by decide +kernel)), (tb_in 28 (by decide +kernel) (by decide +kernel)), (tb_in 250 (by decide +kernel) (by decide +kernel))⟩
set_option maxRecDepth 100000 in
theorem my_yX5_kind : MY yX5_kind cX5_kind 2 (Option.some Jvm.ClassFile.FieldType.int) 1 := ⟨(tb_in 364 (by decide +kernel) (by decide +kernel)), (tb_in 26 (by decide +kernel) (by decide +kernel)), ⟨by decide +kernel, by decide +kernel, by decide +kernel⟩, by decide⟩
set_option maxRecDepth 100000 in
theorem vw_X2_106 : VW RX2 106 yX5_kind := ⟨(tb_in 361 (by decide +kernel) (by decide +kernel)), (tb_in 362 (by decide +kernel) (by decide +kernel)), (tb_in 363 (by decide +kernel) (by decide +kernel))⟩
set_option maxRecDepth 100000 in
theorem my_yX5_sign : MY yX5_sign cX5_sign 2 (Option.some Jvm.ClassFile.FieldType.int) 1 := ⟨(tb_in 368 (by decide +kernel) (by decide +kernel)), (tb_in 26 (by decide +kernel) (by decide +kernel)), ⟨by decide +kernel, by decide +kernel, by decide +kernel⟩, by decide⟩
set_option maxRecDepth 100000 in
theorem vw_X2_109 : VW RX2 109 yX5_sign := ⟨(tb_in 365 (by decide +kernel) (by decide +kernel)), (tb_in 366 (by decide +kernel) (by decide +kernel)), (tb_in 367 (by decide +kernel) (by decide +kernel))⟩
set_option maxRecDepth 100000 in
theorem my_yX2_fitsAt : MY yX2_fitsAt cX2_fitsAt 3 (Option.some Jvm.ClassFile.FieldType.boolean) 1 := ⟨(tb_in 385 (by decide +kernel) (by decide +kernel)), (tb_in 27 (by decide +kernel) (by decide +kernel)), ⟨by decide +kernel, by decide +kernel, by decide +kernel⟩, by decide⟩
set_option maxRecDepth 100000 in
theorem vw_X2_112 : VW RX2 112 yX2_fitsAt := ⟨(tb_in 382 (by decide +kernel) (by decide +kernel)), (tb_in 384 (by decide +kernel) (by decide +kernel)), (tb_in 12 (by decide +kernel) (by decide +kernel))⟩
set_option maxRecDepth 100000 in
theorem my_yX3_putOut : MY yX3_putOut cX3_putOut 3 none 1 := ⟨(tb_in 395 (by decide +kernel) (by decide +kernel)), (tb_in 22 (by decide +kernel) (by decide +kernel)), ⟨by decide +kernel, by decide +kernel, by decide +kernel⟩, by decide⟩
set_option maxRecDepth 100000 in
theorem vw_X2_116 : VW RX2 116 yX3_putOut := ⟨(tb_in 392 (by decide +kernel) (by decide +kernel)), (tb_in 393 (by decide +kernel) (by decide +kernel)), (tb_in 394 (by decide +kernel) (by decide +kernel))⟩
set_option maxRecDepth 100000 in
theorem my_yX3_putIn : MY yX3_putIn cX3_putIn 4 none 2 := ⟨(tb_in 400 (by decide +kernel) (by decide +kernel)), (tb_in 22 (by decide +kernel) (by decide +kernel)), ⟨by decide +kernel, by decide +kernel, by decide +kernel⟩, by decide⟩
set_option maxRecDepth 100000 in
theorem vw_X2_118 : VW RX2 118 yX3_putIn := ⟨(tb_in 397 (by decide +kernel) (by decide +kernel)), (tb_in 398 (by decide +kernel) (by decide +kernel)), (tb_in 399 (by decide +kernel) (by decide +kernel))⟩
set_option maxRecDepth 100000 in
theorem my_yX3_become : MY yX3_become cX3_become 3 none 1 := ⟨(tb_in 335 (by decide +kernel) (by decide +kernel)), (tb_in 22 (by decide +kernel) (by decide +kernel)), ⟨by decide +kernel, by decide +kernel, by decide +kernel⟩, by decide⟩
set_option maxRecDepth 100000 in
theorem vw_X2_48 : VW RX2 48 yX3_become := ⟨(tb_in 332 (by decide +kernel) (by decide +kernel)), (tb_in 333 (by decide +kernel) (by decide +kernel)), (tb_in 334 (by decide +kernel) (by decide +kernel))⟩
set_option maxRecDepth 100000 in
theorem my_yX3_emptyOut : MY yX3_emptyOut cX3_emptyOut 1 none 0 := ⟨(tb_in 231 (by decide +kernel) (by decide +kernel)), (tb_in 22 (by decide +kernel) (by decide +kernel)), ⟨by decide +kernel, by decide +kernel, by decide +kernel⟩, by decide⟩
set_option maxRecDepth 100000 in
theorem vw_X2_52 : VW RX2 52 yX3_emptyOut := ⟨(tb_in 338 (by decide +kernel) (by decide +kernel)), (tb_in 229 (by decide +kernel) (by decide +kernel)), (tb_in 230 (by decide +kernel) (by decide +kernel))⟩
set_option maxRecDepth 100000 in
theorem my_yX5_hunks : MY yX5_hunks cX5_hunks 1 (Option.some Jvm.ClassFile.FieldType.int) 0 := ⟨(tb_in 278 (by decide +kernel) (by decide +kernel)), (tb_in 26 (by decide +kernel) (by decide +kernel)), ⟨by decide +kernel, by decide +kernel, by decide +kernel⟩, by decide⟩
set_option maxRecDepth 100000 in
theorem vw_X2_55 : VW RX2 55 yX5_hunks := ⟨(tb_in 339 (by decide +kernel) (by decide +kernel)), (tb_in 276 (by decide +kernel) (by decide +kernel)), (tb_in 277 (by decide +kernel) (by decide +kernel))⟩
set_option maxRecDepth 100000 in
theorem my_yX2_layOne : MY yX2_layOne cX2_layOne 10 none 4 := ⟨(tb_in 343 (by decide +kernel) (by decide +kernel)), (tb_in 27 (by decide +kernel) (by decide +kernel)), ⟨by decide +kernel, by decide +kernel, by decide +kernel⟩, by decide⟩
set_option maxRecDepth 100000 in
theorem vw_X2_61 : VW RX2 61 yX2_layOne := ⟨(tb_in 340 (by decide +kernel) (by decide +kernel)), (tb_in 342 (by decide +kernel) (by decide +kernel)), (tb_in 9 (by decide +kernel) (by decide +kernel))⟩
set_option maxRecDepth 100000 in
theorem vw_X2_65 : VW RX2 65 yX3_at := ⟨(tb_in 387 (by decide +kernel) (by decide +kernel)), (tb_in 241 (by decide +kernel) (by decide +kernel)), (tb_in 242 (by decide +kernel) (by decide +kernel))⟩
set_option maxRecDepth 100000 in
theorem my_yX5_around : MY yX5_around cX5_around 5 (Option.some Jvm.ClassFile.FieldType.int) 3 := ⟨(tb_in 347 (by decide +kernel) (by decide +kernel)), (tb_in 26 (by decide +kernel) (by decide +kernel)), ⟨by decide +kernel, by decide +kernel, by decide +kernel⟩, by decide⟩
set_option maxRecDepth 100000 in
theorem vw_X2_69 : VW RX2 69 yX5_around := ⟨(tb_in 344 (by decide +kernel) (by decide +kernel)), (tb_in 345 (by decide +kernel) (by decide +kernel)), (tb_in 346 (by decide +kernel) (by decide +kernel))⟩
set_option maxRecDepth 100000 in
theorem my_yX5_top : MY yX5_top cX5_top 2 (Option.some Jvm.ClassFile.FieldType.int) 1 := ⟨(tb_in 286 (by decide +kernel) (by decide +kernel)), (tb_in 26 (by decide +kernel) (by decide +kernel)), ⟨by decide +kernel, by decide +kernel, by decide +kernel⟩, by decide⟩
set_option maxRecDepth 100000 in
theorem vw_X2_73 : VW RX2 73 yX5_top := ⟨(tb_in 355 (by decide +kernel) (by decide +kernel)), (tb_in 284 (by decide +kernel) (by decide +kernel)), (tb_in 285 (by decide +kernel) (by decide +kernel))⟩
set_option maxRecDepth 100000 in
theorem my_yX5_end : MY yX5_end cX5_end 2 (Option.some Jvm.ClassFile.FieldType.int) 1 := ⟨(tb_in 290 (by decide +kernel) (by decide +kernel)), (tb_in 26 (by decide +kernel) (by decide +kernel)), ⟨by decide +kernel, by decide +kernel, by decide +kernel⟩, by decide⟩
set_option maxRecDepth 100000 in
theorem vw_X2_76 : VW RX2 76 yX5_end := ⟨(tb_in 356 (by decide +kernel) (by decide +kernel)), (tb_in 288 (by decide +kernel) (by decide +kernel)), (tb_in 289 (by decide +kernel) (by decide +kernel))⟩
set_option maxRecDepth 100000 in
theorem my_yX2_takeParts : MY yX2_takeParts cX2_takeParts 8 none 4 := ⟨(tb_in 360 (by decide +kernel) (by decide +kernel)), (tb_in 27 (by decide +kernel) (by decide +kernel)), ⟨by decide +kernel, by decide +kernel, by decide +kernel⟩, by decide⟩
set_option maxRecDepth 100000 in
theorem vw_X2_79 : VW RX2 79 yX2_takeParts := ⟨(tb_in 357 (by decide +kernel) (by decide +kernel)), (tb_in 359 (by decide +kernel) (by decide +kernel)), (tb_in 10 (by decide +kernel) (by decide +kernel))⟩
set_option maxRecDepth 100000 in
theorem my_yX5_newAhead : MY yX5_newAhead cX5_newAhead 2 (Option.some Jvm.ClassFile.FieldType.int) 1 := ⟨(tb_in 373 (by decide +kernel) (by decide +kernel)), (tb_in 26 (by decide +kernel) (by decide +kernel)), ⟨by decide +kernel, by decide +kernel, by decide +kernel⟩, by decide⟩
set_option maxRecDepth 100000 in
theorem vw_X2_82 : VW RX2 82 yX5_newAhead := ⟨(tb_in 370 (by decide +kernel) (by decide +kernel)), (tb_in 371 (by decide +kernel) (by decide +kernel)), (tb_in 372 (by decide +kernel) (by decide +kernel))⟩
set_option maxRecDepth 100000 in
theorem my_yX5_oldAhead : MY yX5_oldAhead cX5_oldAhead 2 (Option.some Jvm.ClassFile.FieldType.int) 1 := ⟨(tb_in 377 (by decide +kernel) (by decide +kernel)), (tb_in 26 (by decide +kernel) (by decide +kernel)), ⟨by decide +kernel, by decide +kernel, by decide +kernel⟩, by decide⟩
set_option maxRecDepth 100000 in
theorem vw_X2_85 : VW RX2 85 yX5_oldAhead := ⟨(tb_in 374 (by decide +kernel) (by decide +kernel)), (tb_in 375 (by decide +kernel) (by decide +kernel)), (tb_in 376 (by decide +kernel) (by decide +kernel))⟩
set_option maxRecDepth 100000 in
theorem my_yX2_search : MY yX2_search cX2_search 3 (Option.some Jvm.ClassFile.FieldType.int) 1 := ⟨(tb_in 381 (by decide +kernel) (by decide +kernel)), (tb_in 27 (by decide +kernel) (by decide +kernel)), ⟨by decide +kernel, by decide +kernel, by decide +kernel⟩, by decide⟩
set_option maxRecDepth 100000 in
theorem vw_X2_88 : VW RX2 88 yX2_search := ⟨(tb_in 378 (by decide +kernel) (by decide +kernel)), (tb_in 380 (by decide +kernel) (by decide +kernel)), (tb_in 11 (by decide +kernel) (by decide +kernel))⟩
set_option maxRecDepth 100000 in
theorem my_yX3_add : MY yX3_add cX3_add 2 none 1 := ⟨(tb_in 235 (by decide +kernel) (by decide +kernel)), (tb_in 22 (by decide +kernel) (by decide +kernel)), ⟨by decide +kernel, by decide +kernel, by decide +kernel⟩, by decide⟩
set_option maxRecDepth 100000 in
theorem vw_X2_91 : VW RX2 91 yX3_add := ⟨(tb_in 369 (by decide +kernel) (by decide +kernel)), (tb_in 233 (by decide +kernel) (by decide +kernel)), (tb_in 234 (by decide +kernel) (by decide +kernel))⟩
set_option maxRecDepth 100000 in
theorem my_yX2_replaceAt : MY yX2_replaceAt cX2_replaceAt 3 none 1 := ⟨(tb_in 391 (by decide +kernel) (by decide +kernel)), (tb_in 27 (by decide +kernel) (by decide +kernel)), ⟨by decide +kernel, by decide +kernel, by decide +kernel⟩, by decide⟩
set_option maxRecDepth 100000 in
theorem vw_X2_94 : VW RX2 94 yX2_replaceAt := ⟨(tb_in 388 (by decide +kernel) (by decide +kernel)), (tb_in 390 (by decide +kernel) (by decide +kernel)), (tb_in 13 (by decide +kernel) (by decide +kernel))⟩
set_option maxRecDepth 100000 in
theorem vw_X2_97 : VW RX2 97 yX3_size := ⟨(tb_in 386 (by decide +kernel) (by decide +kernel)), (tb_in 237 (by decide +kernel) (by decide +kernel)), (tb_in 238 (by decide +kernel) (by decide +kernel))⟩
set_option maxRecDepth 100000 in
theorem vw_X3_17 : VW RX3 17 yX3_at := ⟨(tb_in 337 (by decide +kernel) (by decide +kernel)), (tb_in 241 (by decide +kernel) (by decide +kernel)), (tb_in 242 (by decide +kernel) (by decide +kernel))⟩
set_option maxRecDepth 100000 in
theorem vw_X3_21 : VW RX3 21 yX3_change := ⟨(tb_in 396 (by decide +kernel) (by decide +kernel)), (tb_in 252 (by decide +kernel) (by decide +kernel)), (tb_in 253 (by decide +kernel) (by decide +kernel))⟩
set_option maxRecDepth 100000 in
theorem vw_X3_25 : VW RX3 25 yX3_emptyOut := ⟨(tb_in 228 (by decide +kernel) (by decide +kernel)), (tb_in 229 (by decide +kernel) (by decide +kernel)), (tb_in 230 (by decide +kernel) (by decide +kernel))⟩
set_option maxRecDepth 100000 in
theorem vw_X3_28 : VW RX3 28 yX3_size := ⟨(tb_in 336 (by decide +kernel) (by decide +kernel)), (tb_in 237 (by decide +kernel) (by decide +kernel)), (tb_in 238 (by decide +kernel) (by decide +kernel))⟩
set_option maxRecDepth 100000 in
theorem vw_X3_31 : VW RX3 31 yX3_add := ⟨(tb_in 232 (by decide +kernel) (by decide +kernel)), (tb_in 233 (by decide +kernel) (by decide +kernel)), (tb_in 234 (by decide +kernel) (by decide +kernel))⟩
set_option maxRecDepth 100000 in
theorem vw_X4_39 : VW RX4 39 yX3_become := ⟨(tb_in 425 (by decide +kernel) (by decide +kernel)), (tb_in 333 (by decide +kernel) (by decide +kernel)), (tb_in 334 (by decide +kernel) (by decide +kernel))⟩
set_option maxRecDepth 100000 in
theorem mw_X5_101 : MW RX5 101 Lib.Math.max.name Lib.Math.max.code := ⟨(tb_in 493 (by decide +kernel) (by decide +kernel)), (tb_in 249 (by decide +kernel) (by decide +kernel)), (tb_in 28 (by decide +kernel) (by decide +kernel)), (tb_in 250 (by decide +kernel) (by decide +kernel))⟩
set_option maxRecDepth 100000 in
theorem my_yX5_worth : MY yX5_worth cX5_worth 2 (Option.some Jvm.ClassFile.FieldType.int) 1 := ⟨(tb_in 488 (by decide +kernel) (by decide +kernel)), (tb_in 26 (by decide +kernel) (by decide +kernel)), ⟨by decide +kernel, by decide +kernel, by decide +kernel⟩, by decide⟩
set_option maxRecDepth 100000 in
theorem vw_X5_106 : VW RX5 106 yX5_worth := ⟨(tb_in 485 (by decide +kernel) (by decide +kernel)), (tb_in 486 (by decide +kernel) (by decide +kernel)), (tb_in 487 (by decide +kernel) (by decide +kernel))⟩
set_option maxRecDepth 100000 in
theorem my_yX5_barAt : MY yX5_barAt cX5_barAt 6 (Option.some Jvm.ClassFile.FieldType.int) 3 := ⟨(tb_in 318 (by decide +kernel) (by decide +kernel)), (tb_in 26 (by decide +kernel) (by decide +kernel)), ⟨by decide +kernel, by decide +kernel, by decide +kernel⟩, by decide⟩
set_option maxRecDepth 100000 in
theorem vw_X5_109 : VW RX5 109 yX5_barAt := ⟨(tb_in 315 (by decide +kernel) (by decide +kernel)), (tb_in 317 (by decide +kernel) (by decide +kernel)), (tb_in 6 (by decide +kernel) (by decide +kernel))⟩
set_option maxRecDepth 100000 in
theorem my_yX5_has : MY yX5_has cX5_has 2 (Option.some Jvm.ClassFile.FieldType.boolean) 1 := ⟨(tb_in 351 (by decide +kernel) (by decide +kernel)), (tb_in 26 (by decide +kernel) (by decide +kernel)), ⟨by decide +kernel, by decide +kernel, by decide +kernel⟩, by decide⟩
set_option maxRecDepth 100000 in
theorem vw_X5_113 : VW RX5 113 yX5_has := ⟨(tb_in 348 (by decide +kernel) (by decide +kernel)), (tb_in 349 (by decide +kernel) (by decide +kernel)), (tb_in 350 (by decide +kernel) (by decide +kernel))⟩
set_option maxRecDepth 100000 in
theorem mw_X5_116 : MW RX5 116 Lib.Math.min.name Lib.Math.min.code := ⟨(tb_in 352 (by decide +kernel) (by decide +kernel)), (tb_in 353 (by decide +kernel) (by decide +kernel)), (tb_in 28 (by decide +kernel) (by decide +kernel)), (tb_in 354 (by decide +kernel) (by decide +kernel))⟩
set_option maxRecDepth 100000 in
theorem vw_X5_32 : VW RX5 32 yX0_compare := ⟨(tb_in 220 (by decide +kernel) (by decide +kernel)), (tb_in 221 (by decide +kernel) (by decide +kernel)), (tb_in 222 (by decide +kernel) (by decide +kernel))⟩
set_option maxRecDepth 100000 in
theorem vw_X5_38 : VW RX5 38 yX3_emptyOut := ⟨(tb_in 255 (by decide +kernel) (by decide +kernel)), (tb_in 229 (by decide +kernel) (by decide +kernel)), (tb_in 230 (by decide +kernel) (by decide +kernel))⟩
set_option maxRecDepth 100000 in
theorem vw_X5_41 : VW RX5 41 yX3_size := ⟨(tb_in 256 (by decide +kernel) (by decide +kernel)), (tb_in 237 (by decide +kernel) (by decide +kernel)), (tb_in 238 (by decide +kernel) (by decide +kernel))⟩
set_option maxRecDepth 100000 in
theorem my_yX0_step : MY yX0_step cX0_step 7 (Option.some Jvm.ClassFile.FieldType.int) 4 := ⟨(tb_in 260 (by decide +kernel) (by decide +kernel)), (tb_in 25 (by decide +kernel) (by decide +kernel)), ⟨by decide +kernel, by decide +kernel, by decide +kernel⟩, by decide⟩
set_option maxRecDepth 100000 in
theorem vw_X5_45 : VW RX5 45 yX0_step := ⟨(tb_in 257 (by decide +kernel) (by decide +kernel)), (tb_in 258 (by decide +kernel) (by decide +kernel)), (tb_in 259 (by decide +kernel) (by decide +kernel))⟩
set_option maxRecDepth 100000 in
theorem vw_X5_49 : VW RX5 49 yX3_add := ⟨(tb_in 261 (by decide +kernel) (by decide +kernel)), (tb_in 233 (by decide +kernel) (by decide +kernel)), (tb_in 234 (by decide +kernel) (by decide +kernel))⟩
set_option maxRecDepth 100000 in
theorem vw_X5_52 : VW RX5 52 yX3_at := ⟨(tb_in 262 (by decide +kernel) (by decide +kernel)), (tb_in 241 (by decide +kernel) (by decide +kernel)), (tb_in 242 (by decide +kernel) (by decide +kernel))⟩
set_option maxRecDepth 100000 in
theorem my_yX5_findHunks : MY yX5_findHunks cX5_findHunks 3 none 0 := ⟨(tb_in 266 (by decide +kernel) (by decide +kernel)), (tb_in 26 (by decide +kernel) (by decide +kernel)), ⟨by decide +kernel, by decide +kernel, by decide +kernel⟩, by decide⟩
set_option maxRecDepth 100000 in
theorem vw_X5_56 : VW RX5 56 yX5_findHunks := ⟨(tb_in 263 (by decide +kernel) (by decide +kernel)), (tb_in 265 (by decide +kernel) (by decide +kernel)), (tb_in 2 (by decide +kernel) (by decide +kernel))⟩
set_option maxRecDepth 100000 in
theorem my_yX5_size : MY yX5_size cX5_size 1 (Option.some Jvm.ClassFile.FieldType.int) 0 := ⟨(tb_in 270 (by decide +kernel) (by decide +kernel)), (tb_in 26 (by decide +kernel) (by decide +kernel)), ⟨by decide +kernel, by decide +kernel, by decide +kernel⟩, by decide⟩
set_option maxRecDepth 100000 in
theorem vw_X5_59 : VW RX5 59 yX5_size := ⟨(tb_in 267 (by decide +kernel) (by decide +kernel)), (tb_in 268 (by decide +kernel) (by decide +kernel)), (tb_in 269 (by decide +kernel) (by decide +kernel))⟩
set_option maxRecDepth 100000 in
theorem my_yX5_inHunk : MY yX5_inHunk cX5_inHunk 2 (Option.some Jvm.ClassFile.FieldType.boolean) 1 := ⟨(tb_in 274 (by decide +kernel) (by decide +kernel)), (tb_in 26 (by decide +kernel) (by decide +kernel)), ⟨by decide +kernel, by decide +kernel, by decide +kernel⟩, by decide⟩
set_option maxRecDepth 100000 in
theorem vw_X5_60 : VW RX5 60 yX5_inHunk := ⟨(tb_in 271 (by decide +kernel) (by decide +kernel)), (tb_in 273 (by decide +kernel) (by decide +kernel)), (tb_in 3 (by decide +kernel) (by decide +kernel))⟩
set_option maxRecDepth 100000 in
theorem vw_X5_64 : VW RX5 64 yX5_hunks := ⟨(tb_in 275 (by decide +kernel) (by decide +kernel)), (tb_in 276 (by decide +kernel) (by decide +kernel)), (tb_in 277 (by decide +kernel) (by decide +kernel))⟩
set_option maxRecDepth 100000 in
theorem my_yX5_linesOf : MY yX5_linesOf cX5_linesOf 3 (Option.some Jvm.ClassFile.FieldType.int) 2 := ⟨(tb_in 282 (by decide +kernel) (by decide +kernel)), (tb_in 26 (by decide +kernel) (by decide +kernel)), ⟨by decide +kernel, by decide +kernel, by decide +kernel⟩, by decide⟩
set_option maxRecDepth 100000 in
theorem vw_X5_67 : VW RX5 67 yX5_linesOf := ⟨(tb_in 279 (by decide +kernel) (by decide +kernel)), (tb_in 280 (by decide +kernel) (by decide +kernel)), (tb_in 281 (by decide +kernel) (by decide +kernel))⟩
set_option maxRecDepth 100000 in
theorem my_yX5_isPlain : MY yX5_isPlain cX5_isPlain 2 (Option.some Jvm.ClassFile.FieldType.boolean) 1 := ⟨(tb_in 306 (by decide +kernel) (by decide +kernel)), (tb_in 26 (by decide +kernel) (by decide +kernel)), ⟨by decide +kernel, by decide +kernel, by decide +kernel⟩, by decide⟩
set_option maxRecDepth 100000 in
theorem vw_X5_71 : VW RX5 71 yX5_isPlain := ⟨(tb_in 303 (by decide +kernel) (by decide +kernel)), (tb_in 304 (by decide +kernel) (by decide +kernel)), (tb_in 305 (by decide +kernel) (by decide +kernel))⟩
set_option maxRecDepth 100000 in
theorem my_yX5_bestTop : MY yX5_bestTop cX5_bestTop 6 (Option.some Jvm.ClassFile.FieldType.int) 1 := ⟨(tb_in 310 (by decide +kernel) (by decide +kernel)), (tb_in 26 (by decide +kernel) (by decide +kernel)), ⟨by decide +kernel, by decide +kernel, by decide +kernel⟩, by decide⟩
set_option maxRecDepth 100000 in
theorem vw_X5_74 : VW RX5 74 yX5_bestTop := ⟨(tb_in 307 (by decide +kernel) (by decide +kernel)), (tb_in 309 (by decide +kernel) (by decide +kernel)), (tb_in 5 (by decide +kernel) (by decide +kernel))⟩
set_option maxRecDepth 100000 in
theorem my_yX5_moveTo : MY yX5_moveTo cX5_moveTo 6 none 2 := ⟨(tb_in 326 (by decide +kernel) (by decide +kernel)), (tb_in 26 (by decide +kernel) (by decide +kernel)), ⟨by decide +kernel, by decide +kernel, by decide +kernel⟩, by decide⟩
set_option maxRecDepth 100000 in
theorem vw_X5_77 : VW RX5 77 yX5_moveTo := ⟨(tb_in 323 (by decide +kernel) (by decide +kernel)), (tb_in 325 (by decide +kernel) (by decide +kernel)), (tb_in 8 (by decide +kernel) (by decide +kernel))⟩
set_option maxRecDepth 100000 in
theorem vw_X5_81 : VW RX5 81 yX5_top := ⟨(tb_in 283 (by decide +kernel) (by decide +kernel)), (tb_in 284 (by decide +kernel) (by decide +kernel)), (tb_in 285 (by decide +kernel) (by decide +kernel))⟩
set_option maxRecDepth 100000 in
theorem vw_X5_84 : VW RX5 84 yX5_end := ⟨(tb_in 287 (by decide +kernel) (by decide +kernel)), (tb_in 288 (by decide +kernel) (by decide +kernel)), (tb_in 289 (by decide +kernel) (by decide +kernel))⟩
set_option maxRecDepth 100000 in
theorem vw_X5_87 : VW RX5 87 yX3_change := ⟨(tb_in 327 (by decide +kernel) (by decide +kernel)), (tb_in 252 (by decide +kernel) (by decide +kernel)), (tb_in 253 (by decide +kernel) (by decide +kernel))⟩
set_option maxRecDepth 100000 in
theorem my_yX5_reach : MY yX5_reach cX5_reach 5 (Option.some Jvm.ClassFile.FieldType.int) 2 := ⟨(tb_in 314 (by decide +kernel) (by decide +kernel)), (tb_in 26 (by decide +kernel) (by decide +kernel)), ⟨by decide +kernel, by decide +kernel, by decide +kernel⟩, by decide⟩
set_option maxRecDepth 100000 in
theorem vw_X5_90 : VW RX5 90 yX5_reach := ⟨(tb_in 311 (by decide +kernel) (by decide +kernel)), (tb_in 312 (by decide +kernel) (by decide +kernel)), (tb_in 313 (by decide +kernel) (by decide +kernel))⟩
set_option maxRecDepth 100000 in
theorem my_yX5_worthAt : MY yX5_worthAt cX5_worthAt 6 (Option.some Jvm.ClassFile.FieldType.int) 2 := ⟨(tb_in 322 (by decide +kernel) (by decide +kernel)), (tb_in 26 (by decide +kernel) (by decide +kernel)), ⟨by decide +kernel, by decide +kernel, by decide +kernel⟩, by decide⟩
set_option maxRecDepth 100000 in
theorem vw_X5_94 : VW RX5 94 yX5_worthAt := ⟨(tb_in 319 (by decide +kernel) (by decide +kernel)), (tb_in 321 (by decide +kernel) (by decide +kernel)), (tb_in 7 (by decide +kernel) (by decide +kernel))⟩
set_option maxRecDepth 100000 in
theorem my_yX5_linesWithin : MY yX5_linesWithin cX5_linesWithin 6 (Option.some Jvm.ClassFile.FieldType.int) 3 := ⟨(tb_in 294 (by decide +kernel) (by decide +kernel)), (tb_in 26 (by decide +kernel) (by decide +kernel)), ⟨by decide +kernel, by decide +kernel, by decide +kernel⟩, by decide⟩
set_option maxRecDepth 100000 in
theorem vw_X5_97 : VW RX5 97 yX5_linesWithin := ⟨(tb_in 291 (by decide +kernel) (by decide +kernel)), (tb_in 293 (by decide +kernel) (by decide +kernel)), (tb_in 4 (by decide +kernel) (by decide +kernel))⟩
set_option maxRecDepth 100000 in
theorem vw_X6_102 : VW RX6 102 yX3_putOut := ⟨(tb_in 624 (by decide +kernel) (by decide +kernel)), (tb_in 393 (by decide +kernel) (by decide +kernel)), (tb_in 394 (by decide +kernel) (by decide +kernel))⟩
set_option maxRecDepth 100000 in
theorem vw_X6_105 : VW RX6 105 yX3_become := ⟨(tb_in 430 (by decide +kernel) (by decide +kernel)), (tb_in 333 (by decide +kernel) (by decide +kernel)), (tb_in 334 (by decide +kernel) (by decide +kernel))⟩
set_option maxRecDepth 100000 in
theorem my_yX6_distanceNow : MY yX6_distanceNow cX6_distanceNow 1 (Option.some Jvm.ClassFile.FieldType.int) 0 := ⟨(tb_in 514 (by decide +kernel) (by decide +kernel)), (tb_in 21 (by decide +kernel) (by decide +kernel)), ⟨by decide +kernel, by decide +kernel, by decide +kernel⟩, by decide⟩
set_option maxRecDepth 100000 in
theorem vw_X6_109 : VW RX6 109 yX6_distanceNow := ⟨(tb_in 511 (by decide +kernel) (by decide +kernel)), (tb_in 513 (by decide +kernel) (by decide +kernel)), (tb_in 18 (by decide +kernel) (by decide +kernel))⟩
set_option maxRecDepth 100000 in
theorem my_yX4_setting : MY yX4_setting cX4_setting 2 (Option.some Jvm.ClassFile.FieldType.int) 1 := ⟨(tb_in 298 (by decide +kernel) (by decide +kernel)), (tb_in 23 (by decide +kernel) (by decide +kernel)), ⟨by decide +kernel, by decide +kernel, by decide +kernel⟩, by decide⟩
set_option maxRecDepth 100000 in
theorem vw_X6_112 : VW RX6 112 yX4_setting := ⟨(tb_in 295 (by decide +kernel) (by decide +kernel)), (tb_in 296 (by decide +kernel) (by decide +kernel)), (tb_in 297 (by decide +kernel) (by decide +kernel))⟩
set_option maxRecDepth 100000 in
theorem my_yX4_changeSetting : MY yX4_changeSetting cX4_changeSetting 3 none 2 := ⟨(tb_in 659 (by decide +kernel) (by decide +kernel)), (tb_in 23 (by decide +kernel) (by decide +kernel)), ⟨by decide +kernel, by decide +kernel, by decide +kernel⟩, by decide⟩
set_option maxRecDepth 100000 in
theorem vw_X6_115 : VW RX6 115 yX4_changeSetting := ⟨(tb_in 656 (by decide +kernel) (by decide +kernel)), (tb_in 657 (by decide +kernel) (by decide +kernel)), (tb_in 658 (by decide +kernel) (by decide +kernel))⟩
set_option maxRecDepth 100000 in
theorem my_yX6_show : MY yX6_show cX6_show 1 none 0 := ⟨(tb_in 211 (by decide +kernel) (by decide +kernel)), (tb_in 21 (by decide +kernel) (by decide +kernel)), ⟨by decide +kernel, by decide +kernel, by decide +kernel⟩, by decide⟩
set_option maxRecDepth 100000 in
theorem vw_X6_118 : VW RX6 118 yX6_show := ⟨(tb_in 208 (by decide +kernel) (by decide +kernel)), (tb_in 210 (by decide +kernel) (by decide +kernel)), (tb_in 0 (by decide +kernel) (by decide +kernel))⟩
set_option maxRecDepth 100000 in
theorem my_yX2_layAll : MY yX2_layAll cX2_layAll 6 none 4 := ⟨(tb_in 331 (by decide +kernel) (by decide +kernel)), (tb_in 27 (by decide +kernel) (by decide +kernel)), ⟨by decide +kernel, by decide +kernel, by decide +kernel⟩, by decide⟩
set_option maxRecDepth 100000 in
theorem vw_X6_121 : VW RX6 121 yX2_layAll := ⟨(tb_in 328 (by decide +kernel) (by decide +kernel)), (tb_in 329 (by decide +kernel) (by decide +kernel)), (tb_in 330 (by decide +kernel) (by decide +kernel))⟩
set_option maxRecDepth 100000 in
theorem my_yX2_longest : MY yX2_longest cX2_longest 1 (Option.some Jvm.ClassFile.FieldType.int) 0 := ⟨(tb_in 405 (by decide +kernel) (by decide +kernel)), (tb_in 27 (by decide +kernel) (by decide +kernel)), ⟨by decide +kernel, by decide +kernel, by decide +kernel⟩, by decide⟩
set_option maxRecDepth 100000 in
theorem vw_X6_125 : VW RX6 125 yX2_longest := ⟨(tb_in 402 (by decide +kernel) (by decide +kernel)), (tb_in 403 (by decide +kernel) (by decide +kernel)), (tb_in 404 (by decide +kernel) (by decide +kernel))⟩
set_option maxRecDepth 100000 in
theorem my_yX2_result : MY yX2_result cX2_result 1 (Option.some (Jvm.ClassFile.FieldType.object "HunkSlides$Row")) 0 := ⟨(tb_in 429 (by decide +kernel) (by decide +kernel)), (tb_in 27 (by decide +kernel) (by decide +kernel)), ⟨by decide +kernel, by decide +kernel, by decide +kernel⟩, by decide⟩
set_option maxRecDepth 100000 in
theorem vw_X6_128 : VW RX6 128 yX2_result := ⟨(tb_in 426 (by decide +kernel) (by decide +kernel)), (tb_in 427 (by decide +kernel) (by decide +kernel)), (tb_in 428 (by decide +kernel) (by decide +kernel))⟩
set_option maxRecDepth 100000 in
theorem my_yX2_laid : MY yX2_laid cX2_laid 1 (Option.some Jvm.ClassFile.FieldType.int) 0 := ⟨(tb_in 434 (by decide +kernel) (by decide +kernel)), (tb_in 27 (by decide +kernel) (by decide +kernel)), ⟨by decide +kernel, by decide +kernel, by decide +kernel⟩, by decide⟩
set_option maxRecDepth 100000 in
theorem vw_X6_132 : VW RX6 132 yX2_laid := ⟨(tb_in 431 (by decide +kernel) (by decide +kernel)), (tb_in 432 (by decide +kernel) (by decide +kernel)), (tb_in 433 (by decide +kernel) (by decide +kernel))⟩
set_option maxRecDepth 100000 in
theorem vw_X6_135 : VW RX6 135 yX5_hunks := ⟨(tb_in 435 (by decide +kernel) (by decide +kernel)), (tb_in 276 (by decide +kernel) (by decide +kernel)), (tb_in 277 (by decide +kernel) (by decide +kernel))⟩
set_option maxRecDepth 100000 in
theorem my_yX4_addPatches : MY yX4_addPatches cX4_addPatches 3 none 2 := ⟨(tb_in 439 (by decide +kernel) (by decide +kernel)), (tb_in 23 (by decide +kernel) (by decide +kernel)), ⟨by decide +kernel, by decide +kernel, by decide +kernel⟩, by decide⟩
set_option maxRecDepth 100000 in
theorem vw_X6_138 : VW RX6 138 yX4_addPatches := ⟨(tb_in 436 (by decide +kernel) (by decide +kernel)), (tb_in 437 (by decide +kernel) (by decide +kernel)), (tb_in 438 (by decide +kernel) (by decide +kernel))⟩
set_option maxRecDepth 100000 in
theorem vw_X6_141 : VW RX6 141 yX3_at := ⟨(tb_in 550 (by decide +kernel) (by decide +kernel)), (tb_in 241 (by decide +kernel) (by decide +kernel)), (tb_in 242 (by decide +kernel) (by decide +kernel))⟩
set_option maxRecDepth 100000 in
theorem my_yX0_apartBySteps : MY yX0_apartBySteps cX0_apartBySteps 7 (Option.some Jvm.ClassFile.FieldType.int) 2 := ⟨(tb_in 573 (by decide +kernel) (by decide +kernel)), (tb_in 25 (by decide +kernel) (by decide +kernel)), ⟨by decide +kernel, by decide +kernel, by decide +kernel⟩, by decide⟩
set_option maxRecDepth 100000 in
theorem vw_X6_144 : VW RX6 144 yX0_apartBySteps := ⟨(tb_in 570 (by decide +kernel) (by decide +kernel)), (tb_in 571 (by decide +kernel) (by decide +kernel)), (tb_in 572 (by decide +kernel) (by decide +kernel))⟩
set_option maxRecDepth 100000 in
theorem vw_X6_148 : VW RX6 148 yX5_size := ⟨(tb_in 468 (by decide +kernel) (by decide +kernel)), (tb_in 268 (by decide +kernel) (by decide +kernel)), (tb_in 269 (by decide +kernel) (by decide +kernel))⟩
set_option maxRecDepth 100000 in
theorem vw_X6_149 : VW RX6 149 yX5_kind := ⟨(tb_in 538 (by decide +kernel) (by decide +kernel)), (tb_in 362 (by decide +kernel) (by decide +kernel)), (tb_in 363 (by decide +kernel) (by decide +kernel))⟩
set_option maxRecDepth 100000 in
theorem vw_X6_152 : VW RX6 152 yX5_sign := ⟨(tb_in 539 (by decide +kernel) (by decide +kernel)), (tb_in 366 (by decide +kernel) (by decide +kernel)), (tb_in 367 (by decide +kernel) (by decide +kernel))⟩
set_option maxRecDepth 100000 in
theorem vw_X6_155 : VW RX6 155 yX5_oldAhead := ⟨(tb_in 540 (by decide +kernel) (by decide +kernel)), (tb_in 375 (by decide +kernel) (by decide +kernel)), (tb_in 376 (by decide +kernel) (by decide +kernel))⟩
set_option maxRecDepth 100000 in
theorem vw_X6_158 : VW RX6 158 yX5_newAhead := ⟨(tb_in 541 (by decide +kernel) (by decide +kernel)), (tb_in 371 (by decide +kernel) (by decide +kernel)), (tb_in 372 (by decide +kernel) (by decide +kernel))⟩
set_option maxRecDepth 100000 in
theorem my_yX5_hunkOf : MY yX5_hunkOf cX5_hunkOf 3 (Option.some Jvm.ClassFile.FieldType.int) 1 := ⟨(tb_in 545 (by decide +kernel) (by decide +kernel)), (tb_in 26 (by decide +kernel) (by decide +kernel)), ⟨by decide +kernel, by decide +kernel, by decide +kernel⟩, by decide⟩
set_option maxRecDepth 100000 in
theorem vw_X6_161 : VW RX6 161 yX5_hunkOf := ⟨(tb_in 542 (by decide +kernel) (by decide +kernel)), (tb_in 543 (by decide +kernel) (by decide +kernel)), (tb_in 544 (by decide +kernel) (by decide +kernel))⟩
set_option maxRecDepth 100000 in
theorem vw_X6_164 : VW RX6 164 yX5_has := ⟨(tb_in 555 (by decide +kernel) (by decide +kernel)), (tb_in 349 (by decide +kernel) (by decide +kernel)), (tb_in 350 (by decide +kernel) (by decide +kernel))⟩
set_option maxRecDepth 100000 in
theorem vw_X6_167 : VW RX6 167 yX5_top := ⟨(tb_in 556 (by decide +kernel) (by decide +kernel)), (tb_in 284 (by decide +kernel) (by decide +kernel)), (tb_in 285 (by decide +kernel) (by decide +kernel))⟩
set_option maxRecDepth 100000 in
theorem vw_X6_170 : VW RX6 170 yX5_linesOf := ⟨(tb_in 557 (by decide +kernel) (by decide +kernel)), (tb_in 280 (by decide +kernel) (by decide +kernel)), (tb_in 281 (by decide +kernel) (by decide +kernel))⟩
set_option maxRecDepth 100000 in
theorem vw_X6_174 : VW RX6 174 yX5_isPlain := ⟨(tb_in 558 (by decide +kernel) (by decide +kernel)), (tb_in 304 (by decide +kernel) (by decide +kernel)), (tb_in 305 (by decide +kernel) (by decide +kernel))⟩
set_option maxRecDepth 100000 in
theorem vw_X6_177 : VW RX6 177 yX5_reach := ⟨(tb_in 559 (by decide +kernel) (by decide +kernel)), (tb_in 312 (by decide +kernel) (by decide +kernel)), (tb_in 313 (by decide +kernel) (by decide +kernel))⟩
set_option maxRecDepth 100000 in
theorem vw_X6_181 : VW RX6 181 yX5_worth := ⟨(tb_in 560 (by decide +kernel) (by decide +kernel)), (tb_in 486 (by decide +kernel) (by decide +kernel)), (tb_in 487 (by decide +kernel) (by decide +kernel))⟩
set_option maxRecDepth 100000 in
theorem my_yX5_greatestWorth : MY yX5_greatestWorth cX5_greatestWorth 3 (Option.some Jvm.ClassFile.FieldType.int) 1 := ⟨(tb_in 564 (by decide +kernel) (by decide +kernel)), (tb_in 26 (by decide +kernel) (by decide +kernel)), ⟨by decide +kernel, by decide +kernel, by decide +kernel⟩, by decide⟩
set_option maxRecDepth 100000 in
theorem vw_X6_184 : VW RX6 184 yX5_greatestWorth := ⟨(tb_in 561 (by decide +kernel) (by decide +kernel)), (tb_in 562 (by decide +kernel) (by decide +kernel)), (tb_in 563 (by decide +kernel) (by decide +kernel))⟩
set_option maxRecDepth 100000 in
theorem vw_X6_187 : VW RX6 187 yX5_around := ⟨(tb_in 565 (by decide +kernel) (by decide +kernel)), (tb_in 345 (by decide +kernel) (by decide +kernel)), (tb_in 346 (by decide +kernel) (by decide +kernel))⟩
set_option maxRecDepth 100000 in
theorem my_yX5_hindrance : MY yX5_hindrance cX5_hindrance 3 (Option.some Jvm.ClassFile.FieldType.int) 2 := ⟨(tb_in 596 (by decide +kernel) (by decide +kernel)), (tb_in 26 (by decide +kernel) (by decide +kernel)), ⟨by decide +kernel, by decide +kernel, by decide +kernel⟩, by decide⟩
set_option maxRecDepth 100000 in
theorem vw_X6_191 : VW RX6 191 yX5_hindrance := ⟨(tb_in 593 (by decide +kernel) (by decide +kernel)), (tb_in 594 (by decide +kernel) (by decide +kernel)), (tb_in 595 (by decide +kernel) (by decide +kernel))⟩
set_option maxRecDepth 100000 in
theorem my_yX6_heldNumber : MY yX6_heldNumber cX6_heldNumber 2 (Option.some Jvm.ClassFile.FieldType.int) 1 := ⟨(tb_in 451 (by decide +kernel) (by decide +kernel)), (tb_in 21 (by decide +kernel) (by decide +kernel)), ⟨by decide +kernel, by decide +kernel, by decide +kernel⟩, by decide⟩
set_option maxRecDepth 100000 in
theorem vw_X6_194 : VW RX6 194 yX6_heldNumber := ⟨(tb_in 448 (by decide +kernel) (by decide +kernel)), (tb_in 450 (by decide +kernel) (by decide +kernel)), (tb_in 16 (by decide +kernel) (by decide +kernel))⟩
set_option maxRecDepth 100000 in
theorem my_yX6_shownNumber : MY yX6_shownNumber cX6_shownNumber 2 (Option.some Jvm.ClassFile.FieldType.int) 1 := ⟨(tb_in 467 (by decide +kernel) (by decide +kernel)), (tb_in 21 (by decide +kernel) (by decide +kernel)), ⟨by decide +kernel, by decide +kernel, by decide +kernel⟩, by decide⟩
set_option maxRecDepth 100000 in
theorem vw_X6_197 : VW RX6 197 yX6_shownNumber := ⟨(tb_in 464 (by decide +kernel) (by decide +kernel)), (tb_in 466 (by decide +kernel) (by decide +kernel)), (tb_in 17 (by decide +kernel) (by decide +kernel))⟩
set_option maxRecDepth 100000 in
theorem vw_X6_200 : VW RX6 200 yX0_keptOf := ⟨(tb_in 585 (by decide +kernel) (by decide +kernel)), (tb_in 520 (by decide +kernel) (by decide +kernel)), (tb_in 521 (by decide +kernel) (by decide +kernel))⟩
set_option maxRecDepth 100000 in
theorem my_yX2_placeOf : MY yX2_placeOf cX2_placeOf 2 (Option.some Jvm.ClassFile.FieldType.int) 1 := ⟨(tb_in 632 (by decide +kernel) (by decide +kernel)), (tb_in 27 (by decide +kernel) (by decide +kernel)), ⟨by decide +kernel, by decide +kernel, by decide +kernel⟩, by decide⟩
set_option maxRecDepth 100000 in
theorem vw_X6_203 : VW RX6 203 yX2_placeOf := ⟨(tb_in 629 (by decide +kernel) (by decide +kernel)), (tb_in 630 (by decide +kernel) (by decide +kernel)), (tb_in 631 (by decide +kernel) (by decide +kernel))⟩
set_option maxRecDepth 100000 in
theorem my_yX2_lowerOf : MY yX2_lowerOf cX2_lowerOf 2 (Option.some Jvm.ClassFile.FieldType.int) 1 := ⟨(tb_in 636 (by decide +kernel) (by decide +kernel)), (tb_in 27 (by decide +kernel) (by decide +kernel)), ⟨by decide +kernel, by decide +kernel, by decide +kernel⟩, by decide⟩
set_option maxRecDepth 100000 in
theorem vw_X6_206 : VW RX6 206 yX2_lowerOf := ⟨(tb_in 633 (by decide +kernel) (by decide +kernel)), (tb_in 634 (by decide +kernel) (by decide +kernel)), (tb_in 635 (by decide +kernel) (by decide +kernel))⟩
set_option maxRecDepth 100000 in
theorem my_yX3_isEmpty : MY yX3_isEmpty cX3_isEmpty 1 (Option.some Jvm.ClassFile.FieldType.boolean) 0 := ⟨(tb_in 648 (by decide +kernel) (by decide +kernel)), (tb_in 22 (by decide +kernel) (by decide +kernel)), ⟨by decide +kernel, by decide +kernel, by decide +kernel⟩, by decide⟩
set_option maxRecDepth 100000 in
theorem vw_X6_209 : VW RX6 209 yX3_isEmpty := ⟨(tb_in 645 (by decide +kernel) (by decide +kernel)), (tb_in 646 (by decide +kernel) (by decide +kernel)), (tb_in 647 (by decide +kernel) (by decide +kernel))⟩
set_option maxRecDepth 100000 in
theorem my_yX0_apart : MY yX0_apart cX0_apart 3 (Option.some Jvm.ClassFile.FieldType.int) 2 := ⟨(tb_in 518 (by decide +kernel) (by decide +kernel)), (tb_in 25 (by decide +kernel) (by decide +kernel)), ⟨by decide +kernel, by decide +kernel, by decide +kernel⟩, by decide⟩
set_option maxRecDepth 100000 in
theorem vw_X6_213 : VW RX6 213 yX0_apart := ⟨(tb_in 515 (by decide +kernel) (by decide +kernel)), (tb_in 516 (by decide +kernel) (by decide +kernel)), (tb_in 517 (by decide +kernel) (by decide +kernel))⟩
set_option maxRecDepth 100000 in
theorem my_yX1_isEmpty : MY yX1_isEmpty cX1_isEmpty 1 (Option.some Jvm.ClassFile.FieldType.boolean) 0 := ⟨(tb_in 501 (by decide +kernel) (by decide +kernel)), (tb_in 24 (by decide +kernel) (by decide +kernel)), ⟨by decide +kernel, by decide +kernel, by decide +kernel⟩, by decide⟩
set_option maxRecDepth 100000 in
theorem vw_X6_216 : VW RX6 216 yX1_isEmpty := ⟨(tb_in 498 (by decide +kernel) (by decide +kernel)), (tb_in 499 (by decide +kernel) (by decide +kernel)), (tb_in 500 (by decide +kernel) (by decide +kernel))⟩
set_option maxRecDepth 100000 in
theorem my_yX1_takeBack : MY yX1_takeBack cX1_takeBack 2 none 1 := ⟨(tb_in 505 (by decide +kernel) (by decide +kernel)), (tb_in 24 (by decide +kernel) (by decide +kernel)), ⟨by decide +kernel, by decide +kernel, by decide +kernel⟩, by decide⟩
set_option maxRecDepth 100000 in
theorem vw_X6_217 : VW RX6 217 yX1_takeBack := ⟨(tb_in 502 (by decide +kernel) (by decide +kernel)), (tb_in 503 (by decide +kernel) (by decide +kernel)), (tb_in 504 (by decide +kernel) (by decide +kernel))⟩
set_option maxRecDepth 100000 in
theorem my_yX1_size : MY yX1_size cX1_size 1 (Option.some Jvm.ClassFile.FieldType.int) 0 := ⟨(tb_in 463 (by decide +kernel) (by decide +kernel)), (tb_in 24 (by decide +kernel) (by decide +kernel)), ⟨by decide +kernel, by decide +kernel, by decide +kernel⟩, by decide⟩
set_option maxRecDepth 100000 in
theorem vw_X6_220 : VW RX6 220 yX1_size := ⟨(tb_in 460 (by decide +kernel) (by decide +kernel)), (tb_in 461 (by decide +kernel) (by decide +kernel)), (tb_in 462 (by decide +kernel) (by decide +kernel))⟩
set_option maxRecDepth 100000 in
theorem vw_X6_221 : VW RX6 221 yX4_become := ⟨(tb_in 510 (by decide +kernel) (by decide +kernel)), (tb_in 422 (by decide +kernel) (by decide +kernel)), (tb_in 423 (by decide +kernel) (by decide +kernel))⟩
set_option maxRecDepth 100000 in
theorem my_yJ0_length_8abf5 : MY yJ0_length_8abf5 cJ0_length_8abf5 1 (Option.some Jvm.ClassFile.FieldType.int) 0 := ⟨(tb_in 615 (by decide +kernel) (by decide +kernel)), (tb_in 29 (by decide +kernel) (by decide +kernel)), ⟨by decide +kernel, by decide +kernel, by decide +kernel⟩, by decide⟩
set_option maxRecDepth 100000 in
theorem vw_X6_225 : VW RX6 225 yJ0_length_8abf5 := ⟨(tb_in 612 (by decide +kernel) (by decide +kernel)), (tb_in 613 (by decide +kernel) (by decide +kernel)), (tb_in 614 (by decide +kernel) (by decide +kernel))⟩
set_option maxRecDepth 100000 in
theorem my_yX5_gather : MY yX5_gather cX5_gather 9 none 3 := ⟨(tb_in 219 (by decide +kernel) (by decide +kernel)), (tb_in 26 (by decide +kernel) (by decide +kernel)), ⟨by decide +kernel, by decide +kernel, by decide +kernel⟩, by decide⟩
set_option maxRecDepth 100000 in
theorem vw_X6_233 : VW RX6 233 yX5_gather := ⟨(tb_in 216 (by decide +kernel) (by decide +kernel)), (tb_in 217 (by decide +kernel) (by decide +kernel)), (tb_in 218 (by decide +kernel) (by decide +kernel))⟩
set_option maxRecDepth 100000 in
theorem my_yX5_settle : MY yX5_settle cX5_settle 2 none 0 := ⟨(tb_in 302 (by decide +kernel) (by decide +kernel)), (tb_in 26 (by decide +kernel) (by decide +kernel)), ⟨by decide +kernel, by decide +kernel, by decide +kernel⟩, by decide⟩
set_option maxRecDepth 100000 in
theorem vw_X6_237 : VW RX6 237 yX5_settle := ⟨(tb_in 299 (by decide +kernel) (by decide +kernel)), (tb_in 300 (by decide +kernel) (by decide +kernel)), (tb_in 301 (by decide +kernel) (by decide +kernel))⟩
set_option maxRecDepth 100000 in
theorem my_yX5_linesOfKind : MY yX5_linesOfKind cX5_linesOfKind 2 (Option.some Jvm.ClassFile.FieldType.int) 1 := ⟨(tb_in 472 (by decide +kernel) (by decide +kernel)), (tb_in 26 (by decide +kernel) (by decide +kernel)), ⟨by decide +kernel, by decide +kernel, by decide +kernel⟩, by decide⟩
set_option maxRecDepth 100000 in
theorem vw_X6_240 : VW RX6 240 yX5_linesOfKind := ⟨(tb_in 469 (by decide +kernel) (by decide +kernel)), (tb_in 470 (by decide +kernel) (by decide +kernel)), (tb_in 471 (by decide +kernel) (by decide +kernel))⟩
set_option maxRecDepth 100000 in
theorem my_yX5_plainHunks : MY yX5_plainHunks cX5_plainHunks 3 (Option.some Jvm.ClassFile.FieldType.int) 0 := ⟨(tb_in 476 (by decide +kernel) (by decide +kernel)), (tb_in 26 (by decide +kernel) (by decide +kernel)), ⟨by decide +kernel, by decide +kernel, by decide +kernel⟩, by decide⟩
set_option maxRecDepth 100000 in
theorem vw_X6_243 : VW RX6 243 yX5_plainHunks := ⟨(tb_in 473 (by decide +kernel) (by decide +kernel)), (tb_in 474 (by decide +kernel) (by decide +kernel)), (tb_in 475 (by decide +kernel) (by decide +kernel))⟩
set_option maxRecDepth 100000 in
theorem my_yX5_slidingHunks : MY yX5_slidingHunks cX5_slidingHunks 3 (Option.some Jvm.ClassFile.FieldType.int) 0 := ⟨(tb_in 480 (by decide +kernel) (by decide +kernel)), (tb_in 26 (by decide +kernel) (by decide +kernel)), ⟨by decide +kernel, by decide +kernel, by decide +kernel⟩, by decide⟩
set_option maxRecDepth 100000 in
theorem vw_X6_246 : VW RX6 246 yX5_slidingHunks := ⟨(tb_in 477 (by decide +kernel) (by decide +kernel)), (tb_in 478 (by decide +kernel) (by decide +kernel)), (tb_in 479 (by decide +kernel) (by decide +kernel))⟩
set_option maxRecDepth 100000 in
theorem my_yX5_worthOfAll : MY yX5_worthOfAll cX5_worthOfAll 3 (Option.some Jvm.ClassFile.FieldType.int) 0 := ⟨(tb_in 484 (by decide +kernel) (by decide +kernel)), (tb_in 26 (by decide +kernel) (by decide +kernel)), ⟨by decide +kernel, by decide +kernel, by decide +kernel⟩, by decide⟩
set_option maxRecDepth 100000 in
theorem vw_X6_249 : VW RX6 249 yX5_worthOfAll := ⟨(tb_in 481 (by decide +kernel) (by decide +kernel)), (tb_in 482 (by decide +kernel) (by decide +kernel)), (tb_in 483 (by decide +kernel) (by decide +kernel))⟩
set_option maxRecDepth 100000 in
theorem my_yX5_longestKept : MY yX5_longestKept cX5_longestKept 4 (Option.some Jvm.ClassFile.FieldType.int) 0 := ⟨(tb_in 492 (by decide +kernel) (by decide +kernel)), (tb_in 26 (by decide +kernel) (by decide +kernel)), ⟨by decide +kernel, by decide +kernel, by decide +kernel⟩, by decide⟩
set_option maxRecDepth 100000 in
theorem vw_X6_252 : VW RX6 252 yX5_longestKept := ⟨(tb_in 489 (by decide +kernel) (by decide +kernel)), (tb_in 490 (by decide +kernel) (by decide +kernel)), (tb_in 491 (by decide +kernel) (by decide +kernel))⟩
set_option maxRecDepth 100000 in
theorem my_yX4_laid : MY yX4_laid cX4_laid 1 (Option.some Jvm.ClassFile.FieldType.int) 0 := ⟨(tb_in 455 (by decide +kernel) (by decide +kernel)), (tb_in 23 (by decide +kernel) (by decide +kernel)), ⟨by decide +kernel, by decide +kernel, by decide +kernel⟩, by decide⟩
set_option maxRecDepth 100000 in
theorem vw_X6_255 : VW RX6 255 yX4_laid := ⟨(tb_in 452 (by decide +kernel) (by decide +kernel)), (tb_in 453 (by decide +kernel) (by decide +kernel)), (tb_in 454 (by decide +kernel) (by decide +kernel))⟩
set_option maxRecDepth 100000 in
theorem my_yX4_leftOut : MY yX4_leftOut cX4_leftOut 1 (Option.some Jvm.ClassFile.FieldType.int) 0 := ⟨(tb_in 459 (by decide +kernel) (by decide +kernel)), (tb_in 23 (by decide +kernel) (by decide +kernel)), ⟨by decide +kernel, by decide +kernel, by decide +kernel⟩, by decide⟩
set_option maxRecDepth 100000 in
theorem vw_X6_256 : VW RX6 256 yX4_leftOut := ⟨(tb_in 456 (by decide +kernel) (by decide +kernel)), (tb_in 457 (by decide +kernel) (by decide +kernel)), (tb_in 458 (by decide +kernel) (by decide +kernel))⟩
set_option maxRecDepth 100000 in
theorem vw_X6_63 : VW RX6 63 yX3_size := ⟨(tb_in 447 (by decide +kernel) (by decide +kernel)), (tb_in 237 (by decide +kernel) (by decide +kernel)), (tb_in 238 (by decide +kernel) (by decide +kernel))⟩
set_option maxRecDepth 100000 in
theorem my_yX6_isText : MY yX6_isText cX6_isText 1 (Option.some Jvm.ClassFile.FieldType.boolean) 1 := ⟨(tb_in 446 (by decide +kernel) (by decide +kernel)), (tb_in 21 (by decide +kernel) (by decide +kernel)), ⟨by decide +kernel, by decide +kernel, by decide +kernel⟩, by decide⟩
set_option maxRecDepth 100000 in
theorem sw_X6_77 : SW RX6 77 yX6_isText := ⟨(tb_in 444 (by decide +kernel) (by decide +kernel)), (tb_in 445 (by decide +kernel) (by decide +kernel))⟩
set_option maxRecDepth 100000 in
theorem my_yX1_record : MY yX1_record cX1_record 2 none 1 := ⟨(tb_in 409 (by decide +kernel) (by decide +kernel)), (tb_in 24 (by decide +kernel) (by decide +kernel)), ⟨by decide +kernel, by decide +kernel, by decide +kernel⟩, by decide⟩
set_option maxRecDepth 100000 in
theorem vw_X6_84 : VW RX6 84 yX1_record := ⟨(tb_in 406 (by decide +kernel) (by decide +kernel)), (tb_in 407 (by decide +kernel) (by decide +kernel)), (tb_in 408 (by decide +kernel) (by decide +kernel))⟩
set_option maxRecDepth 100000 in
theorem my_yX4_text : MY yX4_text cX4_text 2 (Option.some (Jvm.ClassFile.FieldType.object "HunkSlides$Row")) 1 := ⟨(tb_in 215 (by decide +kernel) (by decide +kernel)), (tb_in 23 (by decide +kernel) (by decide +kernel)), ⟨by decide +kernel, by decide +kernel, by decide +kernel⟩, by decide⟩
set_option maxRecDepth 100000 in
theorem vw_X6_88 : VW RX6 88 yX4_text := ⟨(tb_in 212 (by decide +kernel) (by decide +kernel)), (tb_in 213 (by decide +kernel) (by decide +kernel)), (tb_in 214 (by decide +kernel) (by decide +kernel))⟩
set_option maxRecDepth 100000 in
theorem my_yX6_isSign : MY yX6_isSign cX6_isSign 1 (Option.some Jvm.ClassFile.FieldType.boolean) 1 := ⟨(tb_in 610 (by decide +kernel) (by decide +kernel)), (tb_in 21 (by decide +kernel) (by decide +kernel)), ⟨by decide +kernel, by decide +kernel, by decide +kernel⟩, by decide⟩
set_option maxRecDepth 100000 in
theorem sw_X6_92 : SW RX6 92 yX6_isSign := ⟨(tb_in 608 (by decide +kernel) (by decide +kernel)), (tb_in 609 (by decide +kernel) (by decide +kernel))⟩
set_option maxRecDepth 100000 in
theorem vw_X6_95 : VW RX6 95 yX3_putIn := ⟨(tb_in 622 (by decide +kernel) (by decide +kernel)), (tb_in 398 (by decide +kernel) (by decide +kernel)), (tb_in 399 (by decide +kernel) (by decide +kernel))⟩
set_option maxRecDepth 100000 in
theorem vw_X6_99 : VW RX6 99 yX3_change := ⟨(tb_in 623 (by decide +kernel) (by decide +kernel)), (tb_in 252 (by decide +kernel) (by decide +kernel)), (tb_in 253 (by decide +kernel) (by decide +kernel))⟩
set_option maxRecDepth 100000 in
theorem my_yX6_view : MY yX6_view cX6_view 3 (Option.some Jvm.ClassFile.FieldType.int) 2 := ⟨(tb_in 537 (by decide +kernel) (by decide +kernel)), (tb_in 21 (by decide +kernel) (by decide +kernel)), ⟨by decide +kernel, by decide +kernel, by decide +kernel⟩, by decide⟩
set_option maxRecDepth 100000 in
theorem vw_X9_14 : VW RX9 14 yX6_view := ⟨(tb_in 534 (by decide +kernel) (by decide +kernel)), (tb_in 535 (by decide +kernel) (by decide +kernel)), (tb_in 536 (by decide +kernel) (by decide +kernel))⟩
set_option maxRecDepth 100000 in
theorem my_yX6_line : MY yX6_line cX6_line 4 (Option.some Jvm.ClassFile.FieldType.int) 2 := ⟨(tb_in 549 (by decide +kernel) (by decide +kernel)), (tb_in 21 (by decide +kernel) (by decide +kernel)), ⟨by decide +kernel, by decide +kernel, by decide +kernel⟩, by decide⟩
set_option maxRecDepth 100000 in
theorem vw_X9_18 : VW RX9 18 yX6_line := ⟨(tb_in 546 (by decide +kernel) (by decide +kernel)), (tb_in 547 (by decide +kernel) (by decide +kernel)), (tb_in 548 (by decide +kernel) (by decide +kernel))⟩
set_option maxRecDepth 100000 in
theorem my_yX6_hunk : MY yX6_hunk cX6_hunk 3 (Option.some Jvm.ClassFile.FieldType.int) 2 := ⟨(tb_in 554 (by decide +kernel) (by decide +kernel)), (tb_in 21 (by decide +kernel) (by decide +kernel)), ⟨by decide +kernel, by decide +kernel, by decide +kernel⟩, by decide⟩
set_option maxRecDepth 100000 in
theorem vw_X9_21 : VW RX9 21 yX6_hunk := ⟨(tb_in 551 (by decide +kernel) (by decide +kernel)), (tb_in 552 (by decide +kernel) (by decide +kernel)), (tb_in 553 (by decide +kernel) (by decide +kernel))⟩
set_option maxRecDepth 100000 in
theorem my_yX6_distance : MY yX6_distance cX6_distance 2 (Option.some Jvm.ClassFile.FieldType.int) 1 := ⟨(tb_in 569 (by decide +kernel) (by decide +kernel)), (tb_in 21 (by decide +kernel) (by decide +kernel)), ⟨by decide +kernel, by decide +kernel, by decide +kernel⟩, by decide⟩
set_option maxRecDepth 100000 in
theorem vw_X9_24 : VW RX9 24 yX6_distance := ⟨(tb_in 566 (by decide +kernel) (by decide +kernel)), (tb_in 567 (by decide +kernel) (by decide +kernel)), (tb_in 568 (by decide +kernel) (by decide +kernel))⟩
set_option maxRecDepth 100000 in
theorem my_yX6_alike : MY yX6_alike cX6_alike 3 (Option.some Jvm.ClassFile.FieldType.double) 0 := ⟨(tb_in 584 (by decide +kernel) (by decide +kernel)), (tb_in 21 (by decide +kernel) (by decide +kernel)), ⟨by decide +kernel, by decide +kernel, by decide +kernel⟩, by decide⟩
set_option maxRecDepth 100000 in
theorem vw_X9_27 : VW RX9 27 yX6_alike := ⟨(tb_in 581 (by decide +kernel) (by decide +kernel)), (tb_in 582 (by decide +kernel) (by decide +kernel)), (tb_in 583 (by decide +kernel) (by decide +kernel))⟩
set_option maxRecDepth 100000 in
theorem my_yX6_whyNot : MY yX6_whyNot cX6_whyNot 3 (Option.some Jvm.ClassFile.FieldType.int) 2 := ⟨(tb_in 592 (by decide +kernel) (by decide +kernel)), (tb_in 21 (by decide +kernel) (by decide +kernel)), ⟨by decide +kernel, by decide +kernel, by decide +kernel⟩, by decide⟩
set_option maxRecDepth 100000 in
theorem vw_X9_31 : VW RX9 31 yX6_whyNot := ⟨(tb_in 589 (by decide +kernel) (by decide +kernel)), (tb_in 590 (by decide +kernel) (by decide +kernel)), (tb_in 591 (by decide +kernel) (by decide +kernel))⟩
set_option maxRecDepth 100000 in
theorem my_yX6_save : MY yX6_save cX6_save 1 (Option.some Jvm.ClassFile.FieldType.int) 0 := ⟨(tb_in 603 (by decide +kernel) (by decide +kernel)), (tb_in 21 (by decide +kernel) (by decide +kernel)), ⟨by decide +kernel, by decide +kernel, by decide +kernel⟩, by decide⟩
set_option maxRecDepth 100000 in
theorem vw_X9_35 : VW RX9 35 yX6_save := ⟨(tb_in 600 (by decide +kernel) (by decide +kernel)), (tb_in 601 (by decide +kernel) (by decide +kernel)), (tb_in 602 (by decide +kernel) (by decide +kernel))⟩
set_option maxRecDepth 100000 in
theorem my_yX6_edit : MY yX6_edit cX6_edit 7 (Option.some Jvm.ClassFile.FieldType.int) 3 := ⟨(tb_in 607 (by decide +kernel) (by decide +kernel)), (tb_in 21 (by decide +kernel) (by decide +kernel)), ⟨by decide +kernel, by decide +kernel, by decide +kernel⟩, by decide⟩
set_option maxRecDepth 100000 in
theorem vw_X9_39 : VW RX9 39 yX6_edit := ⟨(tb_in 604 (by decide +kernel) (by decide +kernel)), (tb_in 605 (by decide +kernel) (by decide +kernel)), (tb_in 606 (by decide +kernel) (by decide +kernel))⟩
set_option maxRecDepth 100000 in
theorem my_yX6_ifLaid : MY yX6_ifLaid cX6_ifLaid 5 (Option.some Jvm.ClassFile.FieldType.int) 3 := ⟨(tb_in 628 (by decide +kernel) (by decide +kernel)), (tb_in 21 (by decide +kernel) (by decide +kernel)), ⟨by decide +kernel, by decide +kernel, by decide +kernel⟩, by decide⟩
set_option maxRecDepth 100000 in
theorem vw_X9_43 : VW RX9 43 yX6_ifLaid := ⟨(tb_in 625 (by decide +kernel) (by decide +kernel)), (tb_in 626 (by decide +kernel) (by decide +kernel)), (tb_in 627 (by decide +kernel) (by decide +kernel))⟩
set_option maxRecDepth 100000 in
theorem my_yX6_lay : MY yX6_lay cX6_lay 2 (Option.some Jvm.ClassFile.FieldType.int) 1 := ⟨(tb_in 207 (by decide +kernel) (by decide +kernel)), (tb_in 21 (by decide +kernel) (by decide +kernel)), ⟨by decide +kernel, by decide +kernel, by decide +kernel⟩, by decide⟩
set_option maxRecDepth 100000 in
theorem vw_X9_47 : VW RX9 47 yX6_lay := ⟨(tb_in 204 (by decide +kernel) (by decide +kernel)), (tb_in 205 (by decide +kernel) (by decide +kernel)), (tb_in 206 (by decide +kernel) (by decide +kernel))⟩
set_option maxRecDepth 100000 in
theorem my_yX6_restore : MY yX6_restore cX6_restore 1 (Option.some Jvm.ClassFile.FieldType.int) 0 := ⟨(tb_in 509 (by decide +kernel) (by decide +kernel)), (tb_in 21 (by decide +kernel) (by decide +kernel)), ⟨by decide +kernel, by decide +kernel, by decide +kernel⟩, by decide⟩
set_option maxRecDepth 100000 in
theorem vw_X9_51 : VW RX9 51 yX6_restore := ⟨(tb_in 506 (by decide +kernel) (by decide +kernel)), (tb_in 507 (by decide +kernel) (by decide +kernel)), (tb_in 508 (by decide +kernel) (by decide +kernel))⟩
set_option maxRecDepth 100000 in
theorem my_yX6_least : MY yX6_least cX6_least 6 (Option.some Jvm.ClassFile.FieldType.int) 0 := ⟨(tb_in 644 (by decide +kernel) (by decide +kernel)), (tb_in 21 (by decide +kernel) (by decide +kernel)), ⟨by decide +kernel, by decide +kernel, by decide +kernel⟩, by decide⟩
set_option maxRecDepth 100000 in
theorem vw_X9_54 : VW RX9 54 yX6_least := ⟨(tb_in 641 (by decide +kernel) (by decide +kernel)), (tb_in 642 (by decide +kernel) (by decide +kernel)), (tb_in 643 (by decide +kernel) (by decide +kernel))⟩
set_option maxRecDepth 100000 in
theorem my_yX6_undo : MY yX6_undo cX6_undo 1 (Option.some Jvm.ClassFile.FieldType.int) 0 := ⟨(tb_in 497 (by decide +kernel) (by decide +kernel)), (tb_in 21 (by decide +kernel) (by decide +kernel)), ⟨by decide +kernel, by decide +kernel, by decide +kernel⟩, by decide⟩
set_option maxRecDepth 100000 in
theorem vw_X9_57 : VW RX9 57 yX6_undo := ⟨(tb_in 494 (by decide +kernel) (by decide +kernel)), (tb_in 495 (by decide +kernel) (by decide +kernel)), (tb_in 496 (by decide +kernel) (by decide +kernel))⟩
set_option maxRecDepth 100000 in
theorem my_yL_low : MY yL_low cL_low 2 (Option.some Jvm.ClassFile.FieldType.int) 2 := ⟨(tb_in 529 (by decide +kernel) (by decide +kernel)), (tb_in 20 (by decide +kernel) (by decide +kernel)), ⟨by decide +kernel, by decide +kernel, by decide +kernel⟩, by decide⟩
set_option maxRecDepth 100000 in
theorem sw_X9_60 : SW RX9 60 yL_low := ⟨(tb_in 527 (by decide +kernel) (by decide +kernel)), (tb_in 528 (by decide +kernel) (by decide +kernel))⟩
set_option maxRecDepth 100000 in
theorem my_yX6_set : MY yX6_set cX6_set 4 (Option.some Jvm.ClassFile.FieldType.int) 2 := ⟨(tb_in 655 (by decide +kernel) (by decide +kernel)), (tb_in 21 (by decide +kernel) (by decide +kernel)), ⟨by decide +kernel, by decide +kernel, by decide +kernel⟩, by decide⟩
set_option maxRecDepth 100000 in
theorem vw_X9_65 : VW RX9 65 yX6_set := ⟨(tb_in 652 (by decide +kernel) (by decide +kernel)), (tb_in 653 (by decide +kernel) (by decide +kernel)), (tb_in 654 (by decide +kernel) (by decide +kernel))⟩
set_option maxRecDepth 100000 in
theorem my_yX6_swap : MY yX6_swap cX6_swap 3 (Option.some Jvm.ClassFile.FieldType.int) 2 := ⟨(tb_in 663 (by decide +kernel) (by decide +kernel)), (tb_in 21 (by decide +kernel) (by decide +kernel)), ⟨by decide +kernel, by decide +kernel, by decide +kernel⟩, by decide⟩
set_option maxRecDepth 100000 in
theorem vw_X9_68 : VW RX9 68 yX6_swap := ⟨(tb_in 660 (by decide +kernel) (by decide +kernel)), (tb_in 661 (by decide +kernel) (by decide +kernel)), (tb_in 662 (by decide +kernel) (by decide +kernel))⟩
set_option maxRecDepth 100000 in
theorem my_yX6_count : MY yX6_count cX6_count 2 (Option.some Jvm.ClassFile.FieldType.int) 1 := ⟨(tb_in 443 (by decide +kernel) (by decide +kernel)), (tb_in 21 (by decide +kernel) (by decide +kernel)), ⟨by decide +kernel, by decide +kernel, by decide +kernel⟩, by decide⟩
set_option maxRecDepth 100000 in
theorem vw_X9_8 : VW RX9 8 yX6_count := ⟨(tb_in 440 (by decide +kernel) (by decide +kernel)), (tb_in 441 (by decide +kernel) (by decide +kernel)), (tb_in 442 (by decide +kernel) (by decide +kernel))⟩
theorem kt_5_0 {i : Nat} (hi : kd i = 5) : kd (rf i 0) = 0 := kt_all (by decide) (by decide +kernel) hi
theorem kt_6_0 {i : Nat} (hi : kd i = 6) : kd (rf i 0) = 5 := kt_all (by decide) (by decide +kernel) hi
theorem kt_6_1 {i : Nat} (hi : kd i = 6) : kd (rf i 1) = 5 := kt_all (by decide) (by decide +kernel) hi
theorem kt_6_2 {i : Nat} (hi : kd i = 6) : kd (rf i 2) = 5 := kt_all (by decide) (by decide +kernel) hi

section
-- ===== PART A: goes FIRST, ahead of the names: the tables' words, and 'selects' of the private methods out of them =====
/-- a private method of a class that the tables say can be made, by its rows of tables_1 -/
def lw_okq (q : MethodName × Nat) : Prop := (q.1.cls ≠ "java/lang/invoke/MethodHandle" ∧ q.1.cls ≠ "java/lang/invoke/VarHandle") ∧ Cond.instantiable q.1.cls q.2 ∈ tables_1 ∧ Cond.privateMethod q.1 ∈ tables_1 ∧ Cond.instanceMethod q.1 ∈ tables_1
theorem lw_p0 : lw_okq (⟨"HunkSlides", "show", "()V"⟩, 9) := ⟨⟨by decide +kernel, by decide +kernel⟩, List.mem_of_getElem? (i := 11) (by decide +kernel), List.mem_of_getElem? (i := 189) (by decide +kernel), List.mem_of_getElem? (i := 190) (by decide +kernel)⟩
theorem lw_p1 : lw_okq (⟨"HunkSlides$Comparison", "keptFrom", "(II)I"⟩, 2) := ⟨⟨by decide +kernel, by decide +kernel⟩, List.mem_of_getElem? (i := 79) (by decide +kernel), List.mem_of_getElem? (i := 225) (by decide +kernel), List.mem_of_getElem? (i := 226) (by decide +kernel)⟩
theorem lw_p2 : lw_okq (⟨"HunkSlides$View", "findHunks", "()V"⟩, 5) := ⟨⟨by decide +kernel, by decide +kernel⟩, List.mem_of_getElem? (i := 94) (by decide +kernel), List.mem_of_getElem? (i := 244) (by decide +kernel), List.mem_of_getElem? (i := 245) (by decide +kernel)⟩
theorem lw_p3 : lw_okq (⟨"HunkSlides$View", "inHunk", "(I)Z"⟩, 5) := ⟨⟨by decide +kernel, by decide +kernel⟩, List.mem_of_getElem? (i := 94) (by decide +kernel), List.mem_of_getElem? (i := 252) (by decide +kernel), List.mem_of_getElem? (i := 253) (by decide +kernel)⟩
theorem lw_p4 : lw_okq (⟨"HunkSlides$View", "linesWithin", "(III)I"⟩, 5) := ⟨⟨by decide +kernel, by decide +kernel⟩, List.mem_of_getElem? (i := 94) (by decide +kernel), List.mem_of_getElem? (i := 272) (by decide +kernel), List.mem_of_getElem? (i := 273) (by decide +kernel)⟩
theorem lw_p5 : lw_okq (⟨"HunkSlides$View", "bestTop", "(I)I"⟩, 5) := ⟨⟨by decide +kernel, by decide +kernel⟩, List.mem_of_getElem? (i := 94) (by decide +kernel), List.mem_of_getElem? (i := 288) (by decide +kernel), List.mem_of_getElem? (i := 289) (by decide +kernel)⟩
theorem lw_p6 : lw_okq (⟨"HunkSlides$View", "barAt", "(IIZ)I"⟩, 5) := ⟨⟨by decide +kernel, by decide +kernel⟩, List.mem_of_getElem? (i := 94) (by decide +kernel), List.mem_of_getElem? (i := 296) (by decide +kernel), List.mem_of_getElem? (i := 297) (by decide +kernel)⟩
theorem lw_p7 : lw_okq (⟨"HunkSlides$View", "worthAt", "(II)I"⟩, 5) := ⟨⟨by decide +kernel, by decide +kernel⟩, List.mem_of_getElem? (i := 94) (by decide +kernel), List.mem_of_getElem? (i := 300) (by decide +kernel), List.mem_of_getElem? (i := 301) (by decide +kernel)⟩
theorem lw_p8 : lw_okq (⟨"HunkSlides$View", "moveTo", "(II)V"⟩, 5) := ⟨⟨by decide +kernel, by decide +kernel⟩, List.mem_of_getElem? (i := 94) (by decide +kernel), List.mem_of_getElem? (i := 304) (by decide +kernel), List.mem_of_getElem? (i := 305) (by decide +kernel)⟩
theorem lw_p9 : lw_okq (⟨"HunkSlides$Laying", "layOne", "(LHunkSlides$View;IIZ)V"⟩, 10) := ⟨⟨by decide +kernel, by decide +kernel⟩, List.mem_of_getElem? (i := 118) (by decide +kernel), List.mem_of_getElem? (i := 321) (by decide +kernel), List.mem_of_getElem? (i := 322) (by decide +kernel)⟩
theorem lw_p10 : lw_okq (⟨"HunkSlides$Laying", "takeParts", "(LHunkSlides$View;IIZ)V"⟩, 10) := ⟨⟨by decide +kernel, by decide +kernel⟩, List.mem_of_getElem? (i := 118) (by decide +kernel), List.mem_of_getElem? (i := 338) (by decide +kernel), List.mem_of_getElem? (i := 339) (by decide +kernel)⟩
theorem lw_p11 : lw_okq (⟨"HunkSlides$Laying", "search", "(I)I"⟩, 10) := ⟨⟨by decide +kernel, by decide +kernel⟩, List.mem_of_getElem? (i := 118) (by decide +kernel), List.mem_of_getElem? (i := 359) (by decide +kernel), List.mem_of_getElem? (i := 360) (by decide +kernel)⟩
theorem lw_p12 : lw_okq (⟨"HunkSlides$Laying", "fitsAt", "(I)Z"⟩, 10) := ⟨⟨by decide +kernel, by decide +kernel⟩, List.mem_of_getElem? (i := 118) (by decide +kernel), List.mem_of_getElem? (i := 363) (by decide +kernel), List.mem_of_getElem? (i := 364) (by decide +kernel)⟩
theorem lw_p13 : lw_okq (⟨"HunkSlides$Laying", "replaceAt", "(I)V"⟩, 10) := ⟨⟨by decide +kernel, by decide +kernel⟩, List.mem_of_getElem? (i := 118) (by decide +kernel), List.mem_of_getElem? (i := 369) (by decide +kernel), List.mem_of_getElem? (i := 370) (by decide +kernel)⟩
theorem lw_p14 : lw_okq (⟨"HunkSlides$History", "dropOldest", "()V"⟩, 2) := ⟨⟨by decide +kernel, by decide +kernel⟩, List.mem_of_getElem? (i := 63) (by decide +kernel), List.mem_of_getElem? (i := 391) (by decide +kernel), List.mem_of_getElem? (i := 392) (by decide +kernel)⟩
theorem lw_p15 : lw_okq (⟨"HunkSlides$History", "slot", "(I)LHunkSlides$State;"⟩, 2) := ⟨⟨by decide +kernel, by decide +kernel⟩, List.mem_of_getElem? (i := 63) (by decide +kernel), List.mem_of_getElem? (i := 395) (by decide +kernel), List.mem_of_getElem? (i := 396) (by decide +kernel)⟩
def lw_privs_1 : List (MethodName × Nat) := [(⟨"HunkSlides", "show", "()V"⟩, 9), (⟨"HunkSlides$Comparison", "keptFrom", "(II)I"⟩, 2), (⟨"HunkSlides$View", "findHunks", "()V"⟩, 5), (⟨"HunkSlides$View", "inHunk", "(I)Z"⟩, 5), (⟨"HunkSlides$View", "linesWithin", "(III)I"⟩, 5), (⟨"HunkSlides$View", "bestTop", "(I)I"⟩, 5), (⟨"HunkSlides$View", "barAt", "(IIZ)I"⟩, 5), (⟨"HunkSlides$View", "worthAt", "(II)I"⟩, 5), (⟨"HunkSlides$View", "moveTo", "(II)V"⟩, 5), (⟨"HunkSlides$Laying", "layOne", "(LHunkSlides$View;IIZ)V"⟩, 10), (⟨"HunkSlides$Laying", "takeParts", "(LHunkSlides$View;IIZ)V"⟩, 10), (⟨"HunkSlides$Laying", "search", "(I)I"⟩, 10), (⟨"HunkSlides$Laying", "fitsAt", "(I)Z"⟩, 10), (⟨"HunkSlides$Laying", "replaceAt", "(I)V"⟩, 10), (⟨"HunkSlides$History", "dropOldest", "()V"⟩, 2), (⟨"HunkSlides$History", "slot", "(I)LHunkSlides$State;"⟩, 2)]
theorem lw_r1 : ∀ q ∈ lw_privs_1, lw_okq q := List.forall_mem_cons.mpr ⟨lw_p0, List.forall_mem_cons.mpr ⟨lw_p1, List.forall_mem_cons.mpr ⟨lw_p2, List.forall_mem_cons.mpr ⟨lw_p3, List.forall_mem_cons.mpr ⟨lw_p4, List.forall_mem_cons.mpr ⟨lw_p5, List.forall_mem_cons.mpr ⟨lw_p6, List.forall_mem_cons.mpr ⟨lw_p7, List.forall_mem_cons.mpr ⟨lw_p8, List.forall_mem_cons.mpr ⟨lw_p9, List.forall_mem_cons.mpr ⟨lw_p10, List.forall_mem_cons.mpr ⟨lw_p11, List.forall_mem_cons.mpr ⟨lw_p12, List.forall_mem_cons.mpr ⟨lw_p13, List.forall_mem_cons.mpr ⟨lw_p14, List.forall_mem_cons.mpr ⟨lw_p15, fun _ h => absurd h List.not_mem_nil⟩⟩⟩⟩⟩⟩⟩⟩⟩⟩⟩⟩⟩⟩⟩⟩
theorem lw_p16 : lw_okq (⟨"HunkSlides", "heldNumber", "(I)I"⟩, 9) := ⟨⟨by decide +kernel, by decide +kernel⟩, List.mem_of_getElem? (i := 11) (by decide +kernel), List.mem_of_getElem? (i := 429) (by decide +kernel), List.mem_of_getElem? (i := 430) (by decide +kernel)⟩
theorem lw_p17 : lw_okq (⟨"HunkSlides", "shownNumber", "(I)I"⟩, 9) := ⟨⟨by decide +kernel, by decide +kernel⟩, List.mem_of_getElem? (i := 11) (by decide +kernel), List.mem_of_getElem? (i := 445) (by decide +kernel), List.mem_of_getElem? (i := 446) (by decide +kernel)⟩
theorem lw_p18 : lw_okq (⟨"HunkSlides", "distanceNow", "()I"⟩, 9) := ⟨⟨by decide +kernel, by decide +kernel⟩, List.mem_of_getElem? (i := 11) (by decide +kernel), List.mem_of_getElem? (i := 492) (by decide +kernel), List.mem_of_getElem? (i := 493) (by decide +kernel)⟩
theorem lw_p19 : lw_okq (⟨"HunkSlides$Comparison", "entry", "(II)I"⟩, 2) := ⟨⟨by decide +kernel, by decide +kernel⟩, List.mem_of_getElem? (i := 79) (by decide +kernel), List.mem_of_getElem? (i := 555) (by decide +kernel), List.mem_of_getElem? (i := 556) (by decide +kernel)⟩
def lw_privs_2 : List (MethodName × Nat) := [(⟨"HunkSlides", "heldNumber", "(I)I"⟩, 9), (⟨"HunkSlides", "shownNumber", "(I)I"⟩, 9), (⟨"HunkSlides", "distanceNow", "()I"⟩, 9), (⟨"HunkSlides$Comparison", "entry", "(II)I"⟩, 2)]
theorem lw_r2 : ∀ q ∈ lw_privs_2, lw_okq q := List.forall_mem_cons.mpr ⟨lw_p16, List.forall_mem_cons.mpr ⟨lw_p17, List.forall_mem_cons.mpr ⟨lw_p18, List.forall_mem_cons.mpr ⟨lw_p19, fun _ h => absurd h List.not_mem_nil⟩⟩⟩⟩
def lw_privs : List (MethodName × Nat) := lw_privs_1 ++ (lw_privs_2)
def lw_tbl : List Cond := k2_sels lw_privs ++ tables_1
theorem lw_privs_ok : ∀ q ∈ lw_privs, lw_okq q := by
  show ∀ q ∈ lw_privs_1 ++ (lw_privs_2), lw_okq q
  exact List.forall_mem_append.mpr ⟨lw_r1, lw_r2⟩
/-- the streams that the claim lets the run draw from -/
abbrev lw_cs : List Choice := [Jvm.Choice.named "NaN.bits"]
theorem lw_bits : nanBits ∈ lw_cs := by first | decide | exact List.mem_cons_self | simp [lw_cs, nanBits]
end
section
def RX0 : String := "HunkSlides$Comparison"
def TX0 : u_T := fun k => match k with
  | 0 => ("HunkSlides$Comparison", "most", "LHunkSlides$Row;", true)
  | _ => ("HunkSlides$Comparison", "farthest", "LHunkSlides$Row;", true)
def tyX0 : Nat → FieldType := fun k => match k with
  | 0 => .object "HunkSlides$Row"
  | _ => .object "HunkSlides$Row"
abbrev wsX00 : List Cond := u_ws RX0 TX0 2
theorem nmX0 : ∀ a, a < 2 → ∀ b, b < 2 → a ≠ b → (TX0 a).2.1 ≠ (TX0 b).2.1 := by decide +kernel
theorem tyX0_ok : ∀ k, k < 2 → parseFieldDescriptor (TX0 k).2.2.1 = some (tyX0 k) := by decide +kernel
abbrev cX0_init : ByteArray := prog_2_method_1_code
def yX0_init : MethodName := ⟨RX0, "<init>", "()V"⟩
abbrev cX0_compare : ByteArray := prog_2_method_2_code
def yX0_compare : MethodName := ⟨RX0, "compare", "(LHunkSlides$Row;LHunkSlides$Row;)V"⟩
abbrev cX0_step : ByteArray := prog_2_method_3_code
def yX0_step : MethodName := ⟨RX0, "step", "(LHunkSlides$Row;LHunkSlides$Row;II)I"⟩
abbrev cX0_keptOf : ByteArray := prog_2_method_4_code
def yX0_keptOf : MethodName := ⟨RX0, "keptOf", "(LHunkSlides$Row;LHunkSlides$Row;)I"⟩
abbrev cX0_apart : ByteArray := prog_2_method_5_code
def yX0_apart : MethodName := ⟨RX0, "apart", "(LHunkSlides$Row;LHunkSlides$Row;)I"⟩
abbrev cX0_apartBySteps : ByteArray := prog_2_method_6_code
def yX0_apartBySteps : MethodName := ⟨RX0, "apartBySteps", "(LHunkSlides$Row;LHunkSlides$Row;)I"⟩
abbrev cX0_keptFrom : ByteArray := prog_2_method_7_code
def yX0_keptFrom : MethodName := ⟨RX0, "keptFrom", "(II)I"⟩
abbrev cX0_entry : ByteArray := prog_2_method_8_code
def yX0_entry : MethodName := ⟨RX0, "entry", "(II)I"⟩
abbrev cX0_followKept : ByteArray := prog_2_method_9_code
def yX0_followKept : MethodName := ⟨RX0, "followKept", "(LHunkSlides$Row;LHunkSlides$Row;II)I"⟩
def RX1 : String := "HunkSlides$History"
def TX1 : u_T := fun k => match k with
  | 0 => ("HunkSlides$History", "states", "[LHunkSlides$State;", true)
  | _ => ("HunkSlides$History", "size", "I", false)
def tyX1 : Nat → FieldType := fun k => match k with
  | 0 => .array (.object "HunkSlides$State")
  | _ => .int
abbrev wsX10 : List Cond := u_ws RX1 TX1 2
theorem nmX1 : ∀ a, a < 2 → ∀ b, b < 2 → a ≠ b → (TX1 a).2.1 ≠ (TX1 b).2.1 := by decide +kernel
theorem tyX1_ok : ∀ k, k < 2 → parseFieldDescriptor (TX1 k).2.2.1 = some (tyX1 k) := by decide +kernel
abbrev cX1_init : ByteArray := prog_3_method_1_code
def yX1_init : MethodName := ⟨RX1, "<init>", "()V"⟩
abbrev cX1_size : ByteArray := prog_3_method_2_code
def yX1_size : MethodName := ⟨RX1, "size", "()I"⟩
abbrev cX1_isEmpty : ByteArray := prog_3_method_3_code
def yX1_isEmpty : MethodName := ⟨RX1, "isEmpty", "()Z"⟩
abbrev cX1_record : ByteArray := prog_3_method_4_code
def yX1_record : MethodName := ⟨RX1, "record", "(LHunkSlides$State;)V"⟩
abbrev cX1_takeBack : ByteArray := prog_3_method_5_code
def yX1_takeBack : MethodName := ⟨RX1, "takeBack", "(LHunkSlides$State;)V"⟩
abbrev cX1_dropOldest : ByteArray := prog_3_method_6_code
def yX1_dropOldest : MethodName := ⟨RX1, "dropOldest", "()V"⟩
abbrev cX1_slot : ByteArray := prog_3_method_7_code
def yX1_slot : MethodName := ⟨RX1, "slot", "(I)LHunkSlides$State;"⟩
abbrev cX1_copy : ByteArray := prog_3_method_8_code
def yX1_copy : MethodName := ⟨RX1, "copy", "(LHunkSlides$State;LHunkSlides$State;)V"⟩
def RX2 : String := "HunkSlides$Laying"
def TX2 : u_T := fun k => match k with
  | 0 => ("HunkSlides$Laying", "text", "LHunkSlides$Row;", true)
  | 1 => ("HunkSlides$Laying", "putOut", "LHunkSlides$Row;", true)
  | 2 => ("HunkSlides$Laying", "putIn", "LHunkSlides$Row;", true)
  | 3 => ("HunkSlides$Laying", "places", "LHunkSlides$Row;", true)
  | 4 => ("HunkSlides$Laying", "lower", "LHunkSlides$Row;", true)
  | 5 => ("HunkSlides$Laying", "laid", "I", false)
  | 6 => ("HunkSlides$Laying", "longest", "I", false)
  | 7 => ("HunkSlides$Laying", "shift", "I", false)
  | 8 => ("HunkSlides$Laying", "growth", "I", false)
  | _ => ("HunkSlides$Laying", "first", "I", false)
def tyX2 : Nat → FieldType := fun k => match k with
  | 0 => .object "HunkSlides$Row"
  | 1 => .object "HunkSlides$Row"
  | 2 => .object "HunkSlides$Row"
  | 3 => .object "HunkSlides$Row"
  | 4 => .object "HunkSlides$Row"
  | 5 => .int
  | 6 => .int
  | 7 => .int
  | 8 => .int
  | _ => .int
abbrev wsX20 : List Cond := u_ws RX2 TX2 10
theorem nmX2 : ∀ a, a < 10 → ∀ b, b < 10 → a ≠ b → (TX2 a).2.1 ≠ (TX2 b).2.1 := by decide +kernel
theorem tyX2_ok : ∀ k, k < 10 → parseFieldDescriptor (TX2 k).2.2.1 = some (tyX2 k) := by decide +kernel
abbrev cX2_init : ByteArray := prog_4_method_1_code
def yX2_init : MethodName := ⟨RX2, "<init>", "()V"⟩
abbrev cX2_layAll : ByteArray := prog_4_method_2_code
def yX2_layAll : MethodName := ⟨RX2, "layAll", "(LHunkSlides$View;LHunkSlides$Row;IZ)V"⟩
abbrev cX2_laid : ByteArray := prog_4_method_3_code
def yX2_laid : MethodName := ⟨RX2, "laid", "()I"⟩
abbrev cX2_longest : ByteArray := prog_4_method_4_code
def yX2_longest : MethodName := ⟨RX2, "longest", "()I"⟩
abbrev cX2_result : ByteArray := prog_4_method_5_code
def yX2_result : MethodName := ⟨RX2, "result", "()LHunkSlides$Row;"⟩
abbrev cX2_placeOf : ByteArray := prog_4_method_6_code
def yX2_placeOf : MethodName := ⟨RX2, "placeOf", "(I)I"⟩
abbrev cX2_lowerOf : ByteArray := prog_4_method_7_code
def yX2_lowerOf : MethodName := ⟨RX2, "lowerOf", "(I)I"⟩
abbrev cX2_layOne : ByteArray := prog_4_method_8_code
def yX2_layOne : MethodName := ⟨RX2, "layOne", "(LHunkSlides$View;IIZ)V"⟩
abbrev cX2_takeParts : ByteArray := prog_4_method_9_code
def yX2_takeParts : MethodName := ⟨RX2, "takeParts", "(LHunkSlides$View;IIZ)V"⟩
abbrev cX2_search : ByteArray := prog_4_method_10_code
def yX2_search : MethodName := ⟨RX2, "search", "(I)I"⟩
abbrev cX2_fitsAt : ByteArray := prog_4_method_11_code
def yX2_fitsAt : MethodName := ⟨RX2, "fitsAt", "(I)Z"⟩
abbrev cX2_replaceAt : ByteArray := prog_4_method_12_code
def yX2_replaceAt : MethodName := ⟨RX2, "replaceAt", "(I)V"⟩
def RX3 : String := "HunkSlides$Row"
def TX3 : u_T := fun k => match k with
  | 0 => ("HunkSlides$Row", "values", "[I", true)
  | _ => ("HunkSlides$Row", "size", "I", false)
def tyX3 : Nat → FieldType := fun k => match k with
  | 0 => .array .int
  | _ => .int
abbrev wsX30 : List Cond := u_ws RX3 TX3 2
theorem nmX3 : ∀ a, a < 2 → ∀ b, b < 2 → a ≠ b → (TX3 a).2.1 ≠ (TX3 b).2.1 := by decide +kernel
theorem tyX3_ok : ∀ k, k < 2 → parseFieldDescriptor (TX3 k).2.2.1 = some (tyX3 k) := by decide +kernel
abbrev cX3_init : ByteArray := prog_5_method_1_code
def yX3_init : MethodName := ⟨RX3, "<init>", "(I)V"⟩
abbrev cX3_size : ByteArray := prog_5_method_2_code
def yX3_size : MethodName := ⟨RX3, "size", "()I"⟩
abbrev cX3_isEmpty : ByteArray := prog_5_method_3_code
def yX3_isEmpty : MethodName := ⟨RX3, "isEmpty", "()Z"⟩
abbrev cX3_at : ByteArray := prog_5_method_4_code
def yX3_at : MethodName := ⟨RX3, "at", "(I)I"⟩
abbrev cX3_emptyOut : ByteArray := prog_5_method_5_code
def yX3_emptyOut : MethodName := ⟨RX3, "emptyOut", "()V"⟩
abbrev cX3_add : ByteArray := prog_5_method_6_code
def yX3_add : MethodName := ⟨RX3, "add", "(I)V"⟩
abbrev cX3_change : ByteArray := prog_5_method_7_code
def yX3_change : MethodName := ⟨RX3, "change", "(II)V"⟩
abbrev cX3_putIn : ByteArray := prog_5_method_8_code
def yX3_putIn : MethodName := ⟨RX3, "putIn", "(II)V"⟩
abbrev cX3_putOut : ByteArray := prog_5_method_9_code
def yX3_putOut : MethodName := ⟨RX3, "putOut", "(I)V"⟩
abbrev cX3_become : ByteArray := prog_5_method_10_code
def yX3_become : MethodName := ⟨RX3, "become", "(LHunkSlides$Row;)V"⟩
abbrev cX3_becomeZeros : ByteArray := prog_5_method_11_code
def yX3_becomeZeros : MethodName := ⟨RX3, "becomeZeros", "(I)V"⟩
def RX4 : String := "HunkSlides$State"
def TX4 : u_T := fun k => match k with
  | 0 => ("HunkSlides$State", "oldText", "LHunkSlides$Row;", true)
  | 1 => ("HunkSlides$State", "newText", "LHunkSlides$Row;", true)
  | 2 => ("HunkSlides$State", "thirdText", "LHunkSlides$Row;", true)
  | 3 => ("HunkSlides$State", "around", "I", false)
  | 4 => ("HunkSlides$State", "slide", "I", false)
  | 5 => ("HunkSlides$State", "laid", "I", false)
  | _ => ("HunkSlides$State", "leftOut", "I", false)
def tyX4 : Nat → FieldType := fun k => match k with
  | 0 => .object "HunkSlides$Row"
  | 1 => .object "HunkSlides$Row"
  | 2 => .object "HunkSlides$Row"
  | 3 => .int
  | 4 => .int
  | 5 => .int
  | _ => .int
abbrev wsX40 : List Cond := u_ws RX4 TX4 7
theorem nmX4 : ∀ a, a < 7 → ∀ b, b < 7 → a ≠ b → (TX4 a).2.1 ≠ (TX4 b).2.1 := by decide +kernel
theorem tyX4_ok : ∀ k, k < 7 → parseFieldDescriptor (TX4 k).2.2.1 = some (tyX4 k) := by decide +kernel
abbrev cX4_init : ByteArray := prog_6_method_1_code
def yX4_init : MethodName := ⟨RX4, "<init>", "()V"⟩
abbrev cX4_text : ByteArray := prog_6_method_2_code
def yX4_text : MethodName := ⟨RX4, "text", "(I)LHunkSlides$Row;"⟩
abbrev cX4_setting : ByteArray := prog_6_method_3_code
def yX4_setting : MethodName := ⟨RX4, "setting", "(I)I"⟩
abbrev cX4_changeSetting : ByteArray := prog_6_method_4_code
def yX4_changeSetting : MethodName := ⟨RX4, "changeSetting", "(II)V"⟩
abbrev cX4_laid : ByteArray := prog_6_method_5_code
def yX4_laid : MethodName := ⟨RX4, "laid", "()I"⟩
abbrev cX4_leftOut : ByteArray := prog_6_method_6_code
def yX4_leftOut : MethodName := ⟨RX4, "leftOut", "()I"⟩
abbrev cX4_addPatches : ByteArray := prog_6_method_7_code
def yX4_addPatches : MethodName := ⟨RX4, "addPatches", "(II)V"⟩
abbrev cX4_become : ByteArray := prog_6_method_8_code
def yX4_become : MethodName := ⟨RX4, "become", "(LHunkSlides$State;)V"⟩
def RX5 : String := "HunkSlides$View"
def TX5 : u_T := fun k => match k with
  | 0 => ("HunkSlides$View", "kinds", "LHunkSlides$Row;", true)
  | 1 => ("HunkSlides$View", "signs", "LHunkSlides$Row;", true)
  | 2 => ("HunkSlides$View", "tops", "LHunkSlides$Row;", true)
  | 3 => ("HunkSlides$View", "ends", "LHunkSlides$Row;", true)
  | _ => ("HunkSlides$View", "plain", "LHunkSlides$Row;", true)
def tyX5 : Nat → FieldType := fun k => match k with
  | 0 => .object "HunkSlides$Row"
  | 1 => .object "HunkSlides$Row"
  | 2 => .object "HunkSlides$Row"
  | 3 => .object "HunkSlides$Row"
  | _ => .object "HunkSlides$Row"
abbrev wsX50 : List Cond := u_ws RX5 TX5 5
theorem nmX5 : ∀ a, a < 5 → ∀ b, b < 5 → a ≠ b → (TX5 a).2.1 ≠ (TX5 b).2.1 := by decide +kernel
theorem tyX5_ok : ∀ k, k < 5 → parseFieldDescriptor (TX5 k).2.2.1 = some (tyX5 k) := by decide +kernel
abbrev cX5_init : ByteArray := prog_7_method_1_code
def yX5_init : MethodName := ⟨RX5, "<init>", "()V"⟩
abbrev cX5_gather : ByteArray := prog_7_method_2_code
def yX5_gather : MethodName := ⟨RX5, "gather", "(LHunkSlides$Row;LHunkSlides$Row;LHunkSlides$Comparison;)V"⟩
abbrev cX5_findHunks : ByteArray := prog_7_method_3_code
def yX5_findHunks : MethodName := ⟨RX5, "findHunks", "()V"⟩
abbrev cX5_settle : ByteArray := prog_7_method_4_code
def yX5_settle : MethodName := ⟨RX5, "settle", "()V"⟩
abbrev cX5_moveTo : ByteArray := prog_7_method_5_code
def yX5_moveTo : MethodName := ⟨RX5, "moveTo", "(II)V"⟩
abbrev cX5_bestTop : ByteArray := prog_7_method_6_code
def yX5_bestTop : MethodName := ⟨RX5, "bestTop", "(I)I"⟩
abbrev cX5_size : ByteArray := prog_7_method_7_code
def yX5_size : MethodName := ⟨RX5, "size", "()I"⟩
abbrev cX5_kind : ByteArray := prog_7_method_8_code
def yX5_kind : MethodName := ⟨RX5, "kind", "(I)I"⟩
abbrev cX5_sign : ByteArray := prog_7_method_9_code
def yX5_sign : MethodName := ⟨RX5, "sign", "(I)I"⟩
abbrev cX5_oldAhead : ByteArray := prog_7_method_10_code
def yX5_oldAhead : MethodName := ⟨RX5, "oldAhead", "(I)I"⟩
abbrev cX5_newAhead : ByteArray := prog_7_method_11_code
def yX5_newAhead : MethodName := ⟨RX5, "newAhead", "(I)I"⟩
abbrev cX5_linesOfKind : ByteArray := prog_7_method_12_code
def yX5_linesOfKind : MethodName := ⟨RX5, "linesOfKind", "(I)I"⟩
abbrev cX5_linesWithin : ByteArray := prog_7_method_13_code
def yX5_linesWithin : MethodName := ⟨RX5, "linesWithin", "(III)I"⟩
abbrev cX5_hunkOf : ByteArray := prog_7_method_14_code
def yX5_hunkOf : MethodName := ⟨RX5, "hunkOf", "(I)I"⟩
abbrev cX5_longestKept : ByteArray := prog_7_method_15_code
def yX5_longestKept : MethodName := ⟨RX5, "longestKept", "()I"⟩
abbrev cX5_inHunk : ByteArray := prog_7_method_16_code
def yX5_inHunk : MethodName := ⟨RX5, "inHunk", "(I)Z"⟩
abbrev cX5_hunks : ByteArray := prog_7_method_17_code
def yX5_hunks : MethodName := ⟨RX5, "hunks", "()I"⟩
abbrev cX5_has : ByteArray := prog_7_method_18_code
def yX5_has : MethodName := ⟨RX5, "has", "(I)Z"⟩
abbrev cX5_top : ByteArray := prog_7_method_19_code
def yX5_top : MethodName := ⟨RX5, "top", "(I)I"⟩
abbrev cX5_end : ByteArray := prog_7_method_20_code
def yX5_end : MethodName := ⟨RX5, "end", "(I)I"⟩
abbrev cX5_linesOf : ByteArray := prog_7_method_21_code
def yX5_linesOf : MethodName := ⟨RX5, "linesOf", "(II)I"⟩
abbrev cX5_isPlain : ByteArray := prog_7_method_22_code
def yX5_isPlain : MethodName := ⟨RX5, "isPlain", "(I)Z"⟩
abbrev cX5_plainHunks : ByteArray := prog_7_method_23_code
def yX5_plainHunks : MethodName := ⟨RX5, "plainHunks", "()I"⟩
abbrev cX5_slidingHunks : ByteArray := prog_7_method_24_code
def yX5_slidingHunks : MethodName := ⟨RX5, "slidingHunks", "()I"⟩
abbrev cX5_worthOfAll : ByteArray := prog_7_method_25_code
def yX5_worthOfAll : MethodName := ⟨RX5, "worthOfAll", "()I"⟩
abbrev cX5_worth : ByteArray := prog_7_method_26_code
def yX5_worth : MethodName := ⟨RX5, "worth", "(I)I"⟩
abbrev cX5_greatestWorth : ByteArray := prog_7_method_27_code
def yX5_greatestWorth : MethodName := ⟨RX5, "greatestWorth", "(I)I"⟩
abbrev cX5_worthAt : ByteArray := prog_7_method_28_code
def yX5_worthAt : MethodName := ⟨RX5, "worthAt", "(II)I"⟩
abbrev cX5_reach : ByteArray := prog_7_method_29_code
def yX5_reach : MethodName := ⟨RX5, "reach", "(IZ)I"⟩
abbrev cX5_hindrance : ByteArray := prog_7_method_30_code
def yX5_hindrance : MethodName := ⟨RX5, "hindrance", "(IZ)I"⟩
abbrev cX5_barAt : ByteArray := prog_7_method_31_code
def yX5_barAt : MethodName := ⟨RX5, "barAt", "(IIZ)I"⟩
abbrev cX5_around : ByteArray := prog_7_method_32_code
def yX5_around : MethodName := ⟨RX5, "around", "(IIZ)I"⟩
def RX6 : String := "HunkSlides"
def TX6 : u_T := fun k => match k with
  | 0 => ("HunkSlides", "pad", "LHunkSlides$Row;", true)
  | 1 => ("HunkSlides", "now", "LHunkSlides$State;", true)
  | 2 => ("HunkSlides", "snapshot", "LHunkSlides$State;", true)
  | 3 => ("HunkSlides", "saved", "Z", false)
  | 4 => ("HunkSlides", "history", "LHunkSlides$History;", true)
  | 5 => ("HunkSlides", "spare", "LHunkSlides$Row;", true)
  | 6 => ("HunkSlides", "comparison", "LHunkSlides$Comparison;", true)
  | 7 => ("HunkSlides", "shown", "LHunkSlides$View;", true)
  | _ => ("HunkSlides", "laying", "LHunkSlides$Laying;", true)
def tyX6 : Nat → FieldType := fun k => match k with
  | 0 => .object "HunkSlides$Row"
  | 1 => .object "HunkSlides$State"
  | 2 => .object "HunkSlides$State"
  | 3 => .boolean
  | 4 => .object "HunkSlides$History"
  | 5 => .object "HunkSlides$Row"
  | 6 => .object "HunkSlides$Comparison"
  | 7 => .object "HunkSlides$View"
  | _ => .object "HunkSlides$Laying"
abbrev wsX60 : List Cond := u_ws RX6 TX6 9
theorem nmX6 : ∀ a, a < 9 → ∀ b, b < 9 → a ≠ b → (TX6 a).2.1 ≠ (TX6 b).2.1 := by decide +kernel
theorem tyX6_ok : ∀ k, k < 9 → parseFieldDescriptor (TX6 k).2.2.1 = some (tyX6 k) := by decide +kernel
abbrev cX6_init : ByteArray := prog_1_method_1_code
def yX6_init : MethodName := ⟨RX6, "<init>", "()V"⟩
abbrev cX6_edit : ByteArray := prog_1_method_6_code
def yX6_edit : MethodName := ⟨RX6, "edit", "(III)I"⟩
abbrev cX6_swap : ByteArray := prog_1_method_7_code
def yX6_swap : MethodName := ⟨RX6, "swap", "(II)I"⟩
abbrev cX6_set : ByteArray := prog_1_method_8_code
def yX6_set : MethodName := ⟨RX6, "set", "(II)I"⟩
abbrev cX6_lay : ByteArray := prog_1_method_9_code
def yX6_lay : MethodName := ⟨RX6, "lay", "(Z)I"⟩
abbrev cX6_line : ByteArray := prog_1_method_10_code
def yX6_line : MethodName := ⟨RX6, "line", "(II)I"⟩
abbrev cX6_distance : ByteArray := prog_1_method_11_code
def yX6_distance : MethodName := ⟨RX6, "distance", "(I)I"⟩
abbrev cX6_view : ByteArray := prog_1_method_12_code
def yX6_view : MethodName := ⟨RX6, "view", "(II)I"⟩
abbrev cX6_hunk : ByteArray := prog_1_method_13_code
def yX6_hunk : MethodName := ⟨RX6, "hunk", "(II)I"⟩
abbrev cX6_whyNot : ByteArray := prog_1_method_14_code
def yX6_whyNot : MethodName := ⟨RX6, "whyNot", "(IZ)I"⟩
abbrev cX6_count : ByteArray := prog_1_method_15_code
def yX6_count : MethodName := ⟨RX6, "count", "(I)I"⟩
abbrev cX6_alike : ByteArray := prog_1_method_16_code
def yX6_alike : MethodName := ⟨RX6, "alike", "()D"⟩
abbrev cX6_ifLaid : ByteArray := prog_1_method_17_code
def yX6_ifLaid : MethodName := ⟨RX6, "ifLaid", "(IZI)I"⟩
abbrev cX6_least : ByteArray := prog_1_method_19_code
def yX6_least : MethodName := ⟨RX6, "least", "()I"⟩
abbrev cX6_undo : ByteArray := prog_1_method_20_code
def yX6_undo : MethodName := ⟨RX6, "undo", "()I"⟩
abbrev cX6_save : ByteArray := prog_1_method_21_code
def yX6_save : MethodName := ⟨RX6, "save", "()I"⟩
abbrev cX6_restore : ByteArray := prog_1_method_22_code
def yX6_restore : MethodName := ⟨RX6, "restore", "()I"⟩
abbrev cX6_isText : ByteArray := prog_1_method_23_code
def yX6_isText : MethodName := ⟨RX6, "isText", "(I)Z"⟩
abbrev cX6_isSign : ByteArray := prog_1_method_24_code
def yX6_isSign : MethodName := ⟨RX6, "isSign", "(I)Z"⟩
abbrev cX6_distanceNow : ByteArray := prog_1_method_26_code
def yX6_distanceNow : MethodName := ⟨RX6, "distanceNow", "()I"⟩
abbrev cX6_show : ByteArray := prog_1_method_27_code
def yX6_show : MethodName := ⟨RX6, "show", "()V"⟩
abbrev cX6_shownNumber : ByteArray := prog_1_method_28_code
def yX6_shownNumber : MethodName := ⟨RX6, "shownNumber", "(I)I"⟩
abbrev cX6_heldNumber : ByteArray := prog_1_method_29_code
def yX6_heldNumber : MethodName := ⟨RX6, "heldNumber", "(I)I"⟩
def RX7 : String := "HunkSlidesModel"
def TX7 : u_T := fun k => match k with
  | _ => ("", "", "", false)
def tyX7 : Nat → FieldType := fun k => match k with
  | _ => .int
abbrev wsX70 : List Cond := u_ws RX7 TX7 0
theorem nmX7 : ∀ a, a < 0 → ∀ b, b < 0 → a ≠ b → (TX7 a).2.1 ≠ (TX7 b).2.1 := by decide +kernel
theorem tyX7_ok : ∀ k, k < 0 → parseFieldDescriptor (TX7 k).2.2.1 = some (tyX7 k) := by decide +kernel
def RJ9 : String := "java/lang/Math"
abbrev cJ9_max_7cf53 : ByteArray := prog_10_method_65_code
def yJ9_max_7cf53 : MethodName := ⟨RJ9, "max", "(II)I"⟩
abbrev cJ9_min_7cf53 : ByteArray := prog_10_method_69_code
def yJ9_min_7cf53 : MethodName := ⟨RJ9, "min", "(II)I"⟩
def RJ0 : String := "java/lang/String"
abbrev cJ0_length_8abf5 : ByteArray := prog_11_method_54_code
def yJ0_length_8abf5 : MethodName := ⟨RJ0, "length", "()I"⟩
abbrev cJ0_coder_7d493 : ByteArray := prog_11_method_152_code
def yJ0_coder_7d493 : MethodName := ⟨RJ0, "coder", "()B"⟩
def RL : String := "HunkSlidesLaw"
abbrev cL_cell : ByteArray := method_2_code
def yL_cell : MethodName := ⟨RL, "cell", "([II)I"⟩
abbrev cL_low : ByteArray := method_3_code
def yL_low : MethodName := ⟨RL, "low", "(II)I"⟩
abbrev cL_isView : ByteArray := method_4_code
def yL_isView : MethodName := ⟨RL, "isView", "(LHunkSlides;)Z"⟩
abbrev cL_isHunk : ByteArray := method_5_code
def yL_isHunk : MethodName := ⟨RL, "isHunk", "(LHunkSlides;I)Z"⟩
abbrev cL_isLaid : ByteArray := method_6_code
def yL_isLaid : MethodName := ⟨RL, "isLaid", "(LHunkSlides;Z)Z"⟩
abbrev cL_isLeast : ByteArray := method_7_code
def yL_isLeast : MethodName := ⟨RL, "isLeast", "(LHunkSlides;)Z"⟩
abbrev cL_does : ByteArray := method_8_code
def yL_does : MethodName := ⟨RL, "does", "(LHunkSlides;I)Z"⟩
abbrev cL_law : ByteArray := code
def yL_law : MethodName := ⟨RL, "law", "([I)Z"⟩
abbrev vwCl : List vw_C := [(RX0, TX0, 2), (RX1, TX1, 2), (RX2, TX2, 10), (RX3, TX3, 2), (RX4, TX4, 7), (RX5, TX5, 5), (RX6, TX6, 9)]
end
section
def NC : Nat := 76
def kdL : List Nat := [8, 5, 0, 6, 5, 0, 5, 0, 5, 0, 6, 5, 0, 5, 0, 5, 0, 3, 1, 6, 5, 0, 5, 0, 5, 0, 6, 5, 0, 5, 0, 5, 0, 6, 5, 0, 5, 0, 5, 0, 6, 5, 0, 5, 0, 5, 0, 5, 0, 2, 5, 0, 5, 0, 7, 5, 0, 5, 0, 5, 0, 5, 0, 5, 0, 4, 5, 0, 5, 0, 5, 0, 5, 0, 5, 0]
def alL : List Nat := [0, 0, 40, 0, 0, 14, 0, 14, 0, 14, 0, 0, 14, 0, 14, 0, 14, 0, 4, 0, 0, 14, 0, 14, 0, 14, 0, 0, 14, 0, 14, 0, 14, 0, 0, 14, 0, 14, 0, 14, 0, 0, 14, 0, 14, 0, 14, 0, 14, 0, 0, 225, 0, 59, 0, 0, 28, 0, 28, 0, 28, 0, 28, 0, 28, 0, 0, 28, 0, 28, 0, 28, 0, 28, 0, 28]
def rfL : List (List Nat) := [[1, 3, 10, 0, 17, 47, 49, 54, 65], [2, 0], [], [4, 6, 8, 0, 0, 0, 0], [5, 0], [], [7, 0], [], [9, 0], [], [11, 13, 15, 0, 0, 0, 0], [12, 0], [], [14, 0], [], [16, 0], [], [18, 0], [19, 26, 33, 40], [20, 22, 24, 0, 0, 0, 0], [21, 0], [], [23, 0], [], [25, 0], [], [27, 29, 31, 0, 0, 0, 0], [28, 0], [], [30, 0], [], [32, 0], [], [34, 36, 38, 0, 0, 0, 0], [35, 0], [], [37, 0], [], [39, 0], [], [41, 43, 45, 0, 0, 0, 0], [42, 0], [], [44, 0], [], [46, 0], [], [48, 0], [], [50, 52], [51, 0], [], [53, 0], [], [55, 57, 59, 61, 63], [56, 0], [], [58, 0], [], [60, 0], [], [62, 0], [], [64, 0], [], [66, 68, 70, 72, 74, 0, 0, 0, 0, 0], [67, 0], [], [69, 0], [], [71, 0], [], [73, 0], [], [75, 0], []]
def fcL : List (List Nat) := [[2, 2], [2, 0], [2, 2, 2, 2, 2, 0, 0, 0, 0, 0], [2, 0], [2, 2, 2, 0, 0, 0, 0], [2, 2, 2, 2, 2], [2, 2, 2, 1, 2, 2, 2, 2, 2]]
/-! ===== the mini machine: numbers as Int, cells by their places in the world behind the constructors ===== -/
abbrev MV : Type := Int ⊕ (Option Nat ⊕ UInt64)
abbrev MH : Type := Nat → Nat → Int
abbrev ML : Type := List (Nat × MV)
abbrev vI (z : Int) : MV := Sum.inl z
abbrev vR (i : Nat) : MV := Sum.inr (Sum.inl (some i))
abbrev vO (o : Option Nat) : MV := Sum.inr (Sum.inl o)
abbrev vD (d : UInt64) : MV := Sum.inr (Sum.inr d)
def inR (z : Int) : Prop := -2147483648 ≤ z ∧ z ≤ 2147483647
def wr (z : Int) : Int := Int.bmod z 4294967296
def up (h : MH) (i j : Nat) (v : Int) : MH := fun a b => if a = i ∧ b = j then v else h a b
def c2 : MV → Bool
  | .inr (.inr _) => true
  | _ => false
def tv (ad : Nat → Nat) : MV → Value
  | .inl z => .int (Int32.ofInt z)
  | .inr (.inl (some i)) => .ref (ad i)
  | .inr (.inl none) => .null
  | .inr (.inr d) => .double d
def okV : MV → Prop
  | .inl z => inR z
  | _ => True
def tl (ad : Nat → Nat) (q : Nat × MV) : Nat × Value := (q.1, tv ad q.2)
def kd (i : Nat) : Nat := kdL.getD i 1000
def al (i : Nat) : Nat := alL.getD i 0
def rf (i k : Nat) : Nat := (rfL.getD i []).getD k 0
def fc (ci k : Nat) : Nat := (fcL.getD ci []).getD k 3
def fn (ci : Nat) : Nat := (fcL.getD ci []).length
def lkL : ML → Nat → Option MV
  | [], _ => none
  | q :: l, i => bif q.1 == i then some q.2 else lkL l i
def sto (L : ML) (i : Nat) (v : MV) : ML := (i, v) :: L.filter (fun q => !(q.1 == i) && !(q.1 + 1 == i && c2 q.2))
def sto2 (L : ML) (i : Nat) (v : MV) : ML := (i, v) :: L.filter (fun q => !(q.1 == i) && (!(q.1 == i + 1) && !(q.1 + 1 == i && c2 q.2)))
def ilen : Instr → Nat
  | .bipush _ | .iload _ | .istore _ | .aload _ | .astore _ | .dload _ | .dstore _ | .ldc _ | .newarray _ => 2
  | .sipush _ | .iinc _ _ | .getfield _ | .putfield _ | .invokevirtual _ | .invokespecial _ | .invokestatic _ | .goto _ | .if_icmp _ _ | .ifCond _ _ | .ifnull _ | .ifnonnull _ | .new _ | .anewarray _ => 3
  | _ => 1
def plen : List Instr → Nat
  | [] => 0
  | I :: is => ilen I + plen is
def sits (cc : ByteArray) : Nat → List Instr → Bool
  | _, [] => true
  | pc, I :: is => decide (decode cc pc = .ok (I, ilen I)) && sits cc (pc + ilen I) is
def andv (x y : Int) : Int := (Int32.ofInt x &&& Int32.ofInt y).toInt
def shrv (x y : Int) : Int := (Int32.ofInt x >>> (Int32.ofInt y &&& 31)).toInt
def remv (x y : Int) : Int := (Int32.ofInt x - Int32.ofInt x / Int32.ofInt y * Int32.ofInt y).toInt
abbrev MR : Type := Option ((ML × List MV × MH) × Prop)
/-- one instruction of a straight stretch; the Prop is what must hold for it -/
def mstep (fl : Nat → Option (Nat × Nat)) (nL : Nat) : Instr → ML → List MV → MH → MR
  | .iconst n, L, st, h => bif decide (-100 ≤ n) && decide (n ≤ 100) then some ((L, vI n :: st, h), True) else none
  | .bipush n, L, st, h => bif decide (-128 ≤ n) && decide (n ≤ 127) then some ((L, vI n :: st, h), True) else none
  | .sipush n, L, st, h => bif decide (-32768 ≤ n) && decide (n ≤ 32767) then some ((L, vI n :: st, h), True) else none
  | .iload_n k, L, st, h => match lkL L k.val with
    | some (.inl z) => some ((L, vI z :: st, h), True)
    | _ => none
  | .iload k, L, st, h => match lkL L k with
    | some (.inl z) => some ((L, vI z :: st, h), True)
    | _ => none
  | .aload_n k, L, st, h => match lkL L k.val with
    | some (.inr (.inl o)) => some ((L, vO o :: st, h), True)
    | _ => none
  | .aload k, L, st, h => match lkL L k with
    | some (.inr (.inl o)) => some ((L, vO o :: st, h), True)
    | _ => none
  | .dload k, L, st, h => match lkL L k with
    | some (.inr (.inr d)) => some ((L, vD d :: st, h), True)
    | _ => none
  | .istore_n k, L, .inl z :: st, h => bif decide (k.val < nL) then some ((sto L k.val (vI z), st, h), True) else none
  | .istore k, L, .inl z :: st, h => bif decide (k < nL) then some ((sto L k (vI z), st, h), True) else none
  | .astore_n k, L, .inr (.inl (some i)) :: st, h => bif decide (k.val < nL) then some ((sto L k.val (vR i), st, h), True) else none
  | .astore k, L, .inr (.inl (some i)) :: st, h => bif decide (k < nL) then some ((sto L k (vR i), st, h), True) else none
  | .dstore k, L, .inr (.inr d) :: st, h => bif decide (k + 1 < nL) then some ((sto2 L k (vD d), st, h), True) else none
  | .iinc k n, L, st, h => match lkL L k with
    | some (.inl z) => bif decide (k < nL) then some ((sto L k (vI (wr (z + n))), st, h), True) else none
    | _ => none
  | .iadd, L, .inl y :: .inl x :: st, h => some ((L, vI (wr (x + y)) :: st, h), True)
  | .isub, L, .inl y :: .inl x :: st, h => some ((L, vI (wr (x - y)) :: st, h), True)
  | .imul, L, .inl y :: .inl x :: st, h => some ((L, vI (wr (x * y)) :: st, h), True)
  | .ineg, L, .inl x :: st, h => some ((L, vI (wr (-x)) :: st, h), True)
  | .i2c, L, .inl x :: st, h => some ((L, vI (x % 65536) :: st, h), True)
  | .dup, L, .inl z :: st, h => some ((L, vI z :: vI z :: st, h), True)
  | .dup, L, .inr (.inl o) :: st, h => some ((L, vO o :: vO o :: st, h), True)
  | .dup2, L, .inl y :: .inr (.inl o) :: st, h => some ((L, vI y :: vO o :: vI y :: vO o :: st, h), True)
  | .pop, L, .inl _ :: st, h => some ((L, st, h), True)
  | .aconst_null, L, st, h => some ((L, vO none :: st, h), True)
  | .getfield idx, L, .inr (.inl (some i)) :: st, h => match fl idx with
    | some (ci, k) => bif fc ci k == 2 then some ((L, vR (rf i k) :: st, h), kd i = ci + 2) else some ((L, vI (h i k) :: st, h), kd i = ci + 2)
    | none => none
  | .putfield idx, L, .inl v :: .inr (.inl (some i)) :: st, h => match fl idx with
    | some (ci, k) => bif fc ci k == 0 then some ((L, st, up h i k v), kd i = ci + 2) else bif fc ci k == 1 then some ((L, st, up h i k v), kd i = ci + 2 ∧ (v = 0 ∨ v = 1)) else none
    | none => none
  | .iaload, L, .inl j :: .inr (.inl (some a)) :: st, h => some ((L, vI (h a j.toNat) :: st, h), kd a = 0 ∧ 0 ≤ j ∧ j < (al a : Int))
  | .iastore, L, .inl v :: .inl j :: .inr (.inl (some a)) :: st, h => some ((L, st, up h a j.toNat v), kd a = 0 ∧ 0 ≤ j ∧ j < (al a : Int))
  | .arraylength, L, .inr (.inl (some a)) :: st, h => some ((L, vI (al a : Int) :: st, h), kd a ≤ 1)
  | .aaload, L, .inl j :: .inr (.inl (some a)) :: st, h => some ((L, vR (rf a j.toNat) :: st, h), kd a = 1 ∧ 0 ≤ j ∧ j < (al a : Int))
  | .i2d, L, .inl x :: st, h => some ((L, vD (FP.i2d (Int32.ofInt x)) :: st, h), True)
  | .dconst n, L, st, h => bif n.val == 1 then some ((L, vD FP.dconst1 :: st, h), True) else none
  | .dmul, L, .inr (.inr y) :: .inr (.inr x) :: st, h => some ((L, vD (FP.dmul x y) :: st, h), vf_n64 (FP.dmul x y))
  | .ddiv, L, .inr (.inr y) :: .inr (.inr x) :: st, h => some ((L, vD (FP.ddiv x y) :: st, h), vf_n64 (FP.ddiv x y))
  | .dcmp op, L, .inr (.inr y) :: .inr (.inr x) :: st, h => some ((L, vI (Op.cmpValue (FP.dcmp x y) op).toInt :: st, h), True)
  | .iand, L, .inl y :: .inl x :: st, h => some ((L, vI (andv x y) :: st, h), True)
  | .ishr, L, .inl y :: .inl x :: st, h => some ((L, vI (shrv x y) :: st, h), True)
  | .irem, L, .inl y :: .inl x :: st, h => some ((L, vI (remv x y) :: st, h), ¬ y = 0)
  | _, _, _, _ => none
def mrun (fl : Nat → Option (Nat × Nat)) (nL : Nat) : List Instr → ML → List MV → MH → MR
  | [], L, st, h => some ((L, st, h), True)
  | I :: is, L, st, h => match mstep fl nL I L st h with
    | none => none
    | some ((L1, st1, h1), P) => match mrun fl nL is L1 st1 h1 with
      | none => none
      | some (c, P') => some (c, P ∧ P')
end
section
def sgIdx : Nat := 223
/-! ===== Int32 against Int ===== -/
theorem ti {z : Int} (h : inR z) : (Int32.ofInt z).toInt = z := by
  unfold inR at h
  rw [Int32.toInt_ofInt]
  have : (Int32.size : Int) = 4294967296 := rfl
  first
    | (rw [this]; exact Int.bmod_eq_of_le (by omega) (by omega))
    | (exact Int.bmod_eq_of_le (by omega) (by omega))
theorem inR_wr (z : Int) : inR (wr z) := by
  unfold inR wr
  have h1 := @Int.le_bmod z 4294967296 (by omega)
  have h2 := @Int.bmod_lt z 4294967296 (by omega)
  omega
theorem wr_id {z : Int} (h : -2147483648 ≤ z ∧ z ≤ 2147483647) : wr z = z := by
  unfold wr
  exact Int.bmod_eq_of_le (by omega) (by omega)
theorem oi_wr (z : Int) : Int32.ofInt (wr z) = Int32.ofInt z := by
  apply Int32.toInt_inj.mp
  rw [ti (inR_wr z), Int32.toInt_ofInt]
  rfl
theorem inR_toInt (x : Int32) : inR x.toInt := by
  unfold inR
  have h1 := Int32.le_toInt x
  have h2 := Int32.toInt_lt x
  omega
theorem oi_toInt (x : Int32) : Int32.ofInt x.toInt = x := Int32.ofInt_toInt x
theorem oi_add (x y : Int) : Int32.ofInt x + Int32.ofInt y = Int32.ofInt (wr (x + y)) := by rw [oi_wr, Int32.ofInt_add]
theorem oi_sub (x y : Int) : Int32.ofInt x - Int32.ofInt y = Int32.ofInt (wr (x - y)) := by rw [oi_wr, Int32.ofInt_sub]
theorem oi_mul (x y : Int) : Int32.ofInt x * Int32.ofInt y = Int32.ofInt (wr (x * y)) := by rw [oi_wr, Int32.ofInt_mul]
theorem oi_neg (x : Int) : -Int32.ofInt x = Int32.ofInt (wr (-x)) := by rw [oi_wr, Int32.ofInt_neg]
theorem oi_eq {x y : Int} (hx : inR x) (hy : inR y) : Int32.ofInt x = Int32.ofInt y ↔ x = y :=
  ⟨fun h => by rw [← ti hx, ← ti hy, h], fun h => by rw [h]⟩
theorem oi_lt {x y : Int} (hx : inR x) (hy : inR y) : Int32.ofInt x < Int32.ofInt y ↔ x < y := by rw [Int32.lt_iff_toInt_lt, ti hx, ti hy]
theorem oi_le {x y : Int} (hx : inR x) (hy : inR y) : Int32.ofInt x ≤ Int32.ofInt y ↔ x ≤ y := by rw [Int32.le_iff_toInt_le, ti hx, ti hy]
theorem oi_nat (n : Nat) : Int32.ofInt (n : Int) = Int32.ofNat n := rfl
theorem oi_clamp {z : Int} (h0 : 0 ≤ z) (h1 : inR z) : (Int32.ofInt z).toNatClampNeg = z.toNat := by
  show (Int32.ofInt z).toInt.toNat = _
  rw [ti h1]
theorem oi_in {z : Int} {n : Nat} (h1 : inR z) (h : 0 ≤ z ∧ z < (n : Int)) : vp_in (Int32.ofInt z) n := by
  rw [vp_in_iff, ti h1]
  exact h
theorem inR_lit {n : Int} (h : -32768 ≤ n ∧ n ≤ 32767) : inR n := by unfold inR; omega
theorem oi_i2c {x : Int} (h : inR x) : ((Int32.ofInt x).toUInt32 % 65536).toInt32 = Int32.ofInt (x % 65536) := by
  apply Int32.toInt_inj.mp
  rw [pk_char, ti (by unfold inR; omega)]
  rw [nI_toInt (by omega)]
  have h2 : ((Int32.ofInt x).toBitVec.toNat : Int) = x % 4294967296 := by
    have h3 : (Int32.ofInt x).toBitVec.toInt = x := ti h
    have h4 := BitVec.toInt_eq_toNat_cond (Int32.ofInt x).toBitVec
    have h5 := (Int32.ofInt x).toBitVec.isLt
    rw [h3] at h4
    unfold inR at h
    split at h4 <;> omega
  omega
/-! ===== the world of cells, and one instruction of the mini machine against the machine ===== -/
def TB : List Cond := lw_tbl.filter goodWord
theorem TB_in {w : Cond} (h : w ∈ TB) : w ∈ lw_tbl := (List.mem_filter.mp h).1
theorem TB_good : GoodIn TB TB := fun w h => ⟨h, good_of_word (List.mem_filter.mp h).2⟩
def cellE (cI cS : ClassId) (ad : Nat → Nat) (h : MH) (i : Nat) : va_E :=
  if kd i = 0 then .inl (cI, al i, .inl (fun j => Int32.ofInt (h i j)))
  else if kd i = 1 then .inl (cS, al i, .inr (.inr (.inr (.inr (fun j => some (ad (rf i j)))))))
  else .inr (kd i - 2, (List.range (fn (kd i - 2))).map (fun k => if fc (kd i - 2) k = 2 then .ref (ad (rf i k)) else .int (Int32.ofInt (h i k))))
def wsOf (cI cS : ClassId) (ad : Nat → Nat) (h : MH) : va_W := (List.range NC).map (fun i => (ad i, cellE cI cS ad h i))
theorem kd_lt {i n : Nat} (h : kd i = n) (hn : n < 1000) : i < NC := by
  rcases Nat.lt_or_ge i NC with q | q
  · exact q
  · exfalso
    unfold kd at h
    rw [List.getD_eq_getElem?_getD, List.getElem?_eq_none (by exact q)] at h
    simp at h
    omega
theorem wsOf_at {cI cS : ClassId} {ad : Nat → Nat} {h : MH} {i : Nat} (hi : i < NC) : (wsOf cI cS ad h)[i]? = some (ad i, cellE cI cS ad h i) := by
  simp [wsOf, hi]
theorem up_ne {h : MH} {i k : Nat} {v : Int} {a : Nat} (ha : a ≠ i) : up h i k v a = h a := by
  funext b
  simp [up, ha]
theorem cellE_up {cI cS : ClassId} {ad : Nat → Nat} {h : MH} {i k : Nat} {v : Int} {a : Nat} (ha : a ≠ i) : cellE cI cS ad (up h i k v) a = cellE cI cS ad h a := by
  unfold cellE
  rw [up_ne ha]
theorem wsOf_up {cI cS : ClassId} {ad : Nat → Nat} {h : MH} {i k : Nat} {v : Int} : wsOf cI cS ad (up h i k v) = (wsOf cI cS ad h).set i (ad i, cellE cI cS ad (up h i k v) i) := by
  apply List.ext_getElem?
  intro j
  have hlen : (wsOf cI cS ad h).length = NC := by simp [wsOf]
  by_cases hj : j < NC
  · by_cases hij : j = i
    · subst hij
      rw [wsOf_at hj, List.getElem?_set_self (by rw [hlen]; exact hj)]
    · rw [List.getElem?_set_ne (Ne.symm hij), wsOf_at hj, wsOf_at hj, cellE_up hij]
  · rw [List.getElem?_eq_none (by simp [wsOf]; omega), List.getElem?_eq_none (by simp [wsOf]; omega)]
theorem cellE_i {cI cS : ClassId} {ad : Nat → Nat} {h : MH} {i : Nat} (hk : kd i = 0) : cellE cI cS ad h i = .inl (cI, al i, .inl (fun j => Int32.ofInt (h i j))) := by
  unfold cellE; rw [if_pos hk]
theorem cellE_s {cI cS : ClassId} {ad : Nat → Nat} {h : MH} {i : Nat} (hk : kd i = 1) : cellE cI cS ad h i = .inl (cS, al i, .inr (.inr (.inr (.inr (fun j => some (ad (rf i j))))))) := by
  unfold cellE; rw [if_neg (by omega), if_pos hk]
theorem cellE_o {cI cS : ClassId} {ad : Nat → Nat} {h : MH} {i ci : Nat} (hk : kd i = ci + 2) : cellE cI cS ad h i = .inr (ci, (List.range (fn ci)).map (fun k => if fc ci k = 2 then .ref (ad (rf i k)) else .int (Int32.ofInt (h i k)))) := by
  unfold cellE
  rw [if_neg (by omega), if_neg (by omega)]
  have : kd i - 2 = ci := by omega
  rw [this]
def sgTx : String := "abcdef.{}"
def EXT (ad : Nat → Nat) (A : Nat → Prop) (U : State) (H : Heap) : Prop := vk_R "HunkSlides" sgIdx sgTx (ad 101) U ∧ vk_S 1 [9] [[97, 98, 99, 100, 101, 102, 46, 123, 125]] (fun _ => ad 101) (fun _ => ad 102) A U H ∧ va_Z "java/lang/String" "COMPACT_STRINGS" "Z" (.int 1) A U H
abbrev tysOf (cI cS : ClassId) : List (ClassId × FieldType) := [(cI, .int), (cS, .object "HunkSlides$State")]
def wld (D : va_G) (cI cS : ClassId) (ad : Nat → Nat) (A : Nat → Prop) (h : MH) (H : Heap) : Prop := va_P D vwCl (wsOf cI cS ad h) H ∧ va_D A (wsOf cI cS ad h) ∧ ∀ i j, inR (h i j)
def CX (own : String) (cc : ByteArray) (nL : Nat) (ret : Option FieldType) (p : Program) (s : State) (m : MethodId) (args : Array Value) (meth : Method) (c : Code) (D : va_G) (cI cS : ClassId) (ad : Nat → Nat) (A : Nat → Prop) : Prop :=
  p.tables.exec = Jvm.exec ∧ c.code = cc ∧ c.maxLocals = nL ∧ meth.sig.returnType = ret ∧ s.vm.findClass own = some m.cls ∧ (∀ w ∈ TB, w.before args s = true) ∧ va_K D vwCl (tysOf cI cS) s ∧ meth.locks = false ∧ EXT ad A s s.heap
def FLD (own : String) (idx ci k : Nat) : Prop := ∃ (C : String) (T : u_T) (N : Nat) (ty : Nat → FieldType), vwCl[ci]? = some (C, T, N) ∧ k < N ∧ fn ci = N ∧ (T k).1 = C ∧ Cond.fieldLink own idx C (T k).2.1 (T k).2.2.1 ∈ TB ∧ (∀ w ∈ u_ws C T N, w ∈ TB) ∧
  (∀ k, k < N → parseFieldDescriptor (T k).2.2.1 = some (ty k)) ∧ (∀ a, a < N → ∀ b, b < N → a ≠ b → (T a).2.1 ≠ (T b).2.1) ∧ (fc ci k = 0 → ty k = .int) ∧ (fc ci k = 1 → ty k = .boolean) ∧ (fc ci k ≠ 2 → (T k).2.2.2 = false)
def flok (own : String) (fl : Nat → Option (Nat × Nat)) : Prop := ∀ idx ci k, fl idx = some (ci, k) → FLD own idx ci k
def WM (p : Program) (l : Launch) (e : Env) (R : Room) (s : State) (m : MethodId) (args : Array Value) (below : List Frame) (meth : Method) (c : Code) (cells slots : Nat) (Q : State → Prop) (D : va_G) (cI cS : ClassId) (ad : Nat → Nat) (A : Nat → Prop) (nL : Nat) (pc : Nat) (L : ML) (st : List MV) (h : MH) : Prop :=
  (∀ q ∈ L, okV q.2) → (∀ v ∈ st, okV v) → ∀ (H : Heap) (ls : Array Slot) (locs : List Loc), wld D cI cS ad A h H → va_S A s.heap H locs → lv_has ls nL (L.map (tl ad)) → W p l e R s m args below meth c H locs cells slots Q (F0 m pc ls (st.map (tv ad)))
theorem tv_cat (ad : Nat → Nat) (v : MV) : ((tv ad v).category == 2) = c2 v := by
  rcases v with z | (_ | i) | d <;> rfl
theorem tv_cat1 {ad : Nat → Nat} {v : MV} (h : c2 v = false) : (tv ad v).category = 1 := by
  rcases v with z | (_ | i) | d
  · rfl
  · rfl
  · rfl
  · cases h
theorem lk_at {ad : Nat → Nat} {ls : Array Slot} {nL : Nat} {v : MV} {i : Nat} : ∀ {L : ML}, lv_has ls nL (L.map (tl ad)) → lkL L i = some v → ls[i]? = some (.val (tv ad v)) := by
  intro L h hk
  have key : ∀ L : ML, lkL L i = some v → (i, v) ∈ L := by
    intro L
    induction L with
    | nil => intro h; cases h
    | cons q l ih =>
      intro h
      unfold lkL at h
      cases hq : q.1 == i with
      | true =>
        rw [hq] at h
        have hq2 : q.1 = i := by simpa using hq
        obtain ⟨a, b⟩ := q
        cases h
        cases hq2
        exact List.mem_cons_self
      | false =>
        rw [hq] at h
        exact List.mem_cons_of_mem _ (ih h)
  exact h.2.2 (tl ad (i, v)) (List.mem_map_of_mem (key L hk))
theorem lk_ok {v : MV} {i : Nat} : ∀ {L : ML}, (∀ q ∈ L, okV q.2) → lkL L i = some v → okV v := by
  intro L
  induction L with
  | nil => intro _ h; cases h
  | cons q l ih =>
    intro ho h
    unfold lkL at h
    cases hq : q.1 == i with
    | true =>
      rw [hq] at h
      cases h
      exact ho q List.mem_cons_self
    | false =>
      rw [hq] at h
      exact ih (fun q hq => ho q (List.mem_cons_of_mem _ hq)) h
theorem sto_map (ad : Nat → Nat) (L : ML) (i : Nat) (v : MV) : (i, tv ad v) :: (L.map (tl ad)).filter (fun q => !(q.1 == i) && !(q.1 + 1 == i && q.2.category == 2)) = (sto L i v).map (tl ad) := by
  unfold sto
  rw [List.map_cons, List.filter_map]
  congr 2
  apply List.filter_congr
  intro q _
  simp only [Function.comp, tl, tv_cat]
theorem sto2_map (ad : Nat → Nat) (L : ML) (i : Nat) (v : MV) : (i, tv ad v) :: (L.map (tl ad)).filter (fun q => !(q.1 == i) && (!(q.1 == i + 1) && !(q.1 + 1 == i && q.2.category == 2))) = (sto2 L i v).map (tl ad) := by
  unfold sto2
  rw [List.map_cons, List.filter_map]
  congr 2
  apply List.filter_congr
  intro q _
  simp only [Function.comp, tl, tv_cat]
theorem sto_ok {L : ML} {i : Nat} {v : MV} (ho : ∀ q ∈ L, okV q.2) (hv : okV v) : ∀ q ∈ sto L i v, okV q.2 := by
  intro q hq
  rcases List.mem_cons.mp hq with rfl | hq
  · exact hv
  · exact ho q (List.mem_filter.mp hq).1
theorem sto2_ok {L : ML} {i : Nat} {v : MV} (ho : ∀ q ∈ L, okV q.2) (hv : okV v) : ∀ q ∈ sto2 L i v, okV q.2 := by
  intro q hq
  rcases List.mem_cons.mp hq with rfl | hq
  · exact hv
  · exact ho q (List.mem_filter.mp hq).1
theorem okc {v : MV} {st : List MV} (hv : okV v) (h : ∀ v ∈ st, okV v) : ∀ w ∈ v :: st, okV w := List.forall_mem_cons.mpr ⟨hv, h⟩
theorem rng_up {h : MH} {i k : Nat} {v : Int} (hh : ∀ i j, inR (h i j)) (hv : inR v) : ∀ a b, inR (up h i k v a b) := by
  intro a b
  unfold up
  split
  · exact hv
  · exact hh a b
theorem al_le (i : Nat) : al i ≤ 1000 := by
  unfold al
  rw [List.getD_eq_getElem?_getD]
  cases hq : alL[i]? with
  | none => exact Nat.zero_le _
  | some x =>
    have : ∀ y ∈ alL, y ≤ 1000 := by decide
    exact this x (List.mem_of_getElem? hq)
end
section
section STEP
variable {p : Program} {l : Launch} {e : Env} {R : Room} {s : State} {m : MethodId} {args : Array Value} {below : List Frame} {meth : Method} {c : Code} {cells slots : Nat} {Q : State → Prop} {D : va_G} {cI cS : ClassId} {ad : Nat → Nat} {A : Nat → Prop} {nL : Nat}
variable {own : String} {cc : ByteArray} {ret : Option FieldType} {fl : Nat → Option (Nat × Nat)} {pc : Nat}
theorem wm_get (hX : CX own cc nL ret p s m args meth c D cI cS ad A) (hf : flok own fl) {idx ci k i : Nat} {L : ML} {st : List MV} {h : MH} (hfl : fl idx = some (ci, k)) (hki : kd i = ci + 2) (hd : decode cc pc = .ok (.getfield idx, 3))
    (hk : WM p l e R s m args below meth c cells slots Q D cI cS ad A nL (pc + 3) L ((if fc ci k = 2 then vR (rf i k) else vI (h i k)) :: st) h) : WM p l e R s m args below meth c cells slots Q D cI cS ad A nL pc L (vR i :: st) h := by
  obtain ⟨hx, hb, hml, hr, hown, hts, hK, hlocks, hE⟩ := hX
  obtain ⟨C, T, N, ty, g1, g2, g3, g4, g5, g6, g7, g8, g9, g10, g11⟩ := hf idx ci k hfl
  intro hoL hoS H ls locs hw hS hl
  have hi : i < NC := kd_lt hki (by
    have : ci < 7 := (List.getElem?_eq_some_iff.mp g1).1
    omega)
  refine va_get (ref := C) (D := D) (cl := vwCl) (tys := tysOf cI cS) (Ts := TB) hx hb hts g6 hown hK hw.1 i (by rw [wsOf_at hi, cellE_o hki]) g1 k g2 (hts _ g5) (fun _ q => by rw [g4] at q; exact q) (v := tv ad (if fc ci k = 2 then vR (rf i k) else vI (h i k))) ?_ hd ?_
  · rw [List.getElem?_map, List.getElem?_range (by omega)]
    show some (if fc ci k = 2 then _ else _) = _
    split <;> rfl
  · refine hk hoL ?_ H ls locs hw hS hl
    intro v hv
    rcases List.mem_cons.mp hv with rfl | hv
    · split
      · exact trivial
      · exact hw.2.2 i k
    · exact hoS v (List.mem_cons_of_mem _ hv)
theorem wm_put (hX : CX own cc nL ret p s m args meth c D cI cS ad A) (hf : flok own fl) {idx ci k i : Nat} {L : ML} {st : List MV} {h : MH} {v : Int} (hfl : fl idx = some (ci, k)) (hki : kd i = ci + 2) (hc : fc ci k = 0 ∨ (fc ci k = 1 ∧ (v = 0 ∨ v = 1))) (hd : decode cc pc = .ok (.putfield idx, 3))
    (hk : WM p l e R s m args below meth c cells slots Q D cI cS ad A nL (pc + 3) L st (up h i k v)) : WM p l e R s m args below meth c cells slots Q D cI cS ad A nL pc L (vI v :: vR i :: st) h := by
  obtain ⟨hx, hb, hml, hr, hown, hts, hK, hlocks, hE⟩ := hX
  obtain ⟨C, T, N, ty, g1, g2, g3, g4, g5, g6, g7, g8, g9, g10, g11⟩ := hf idx ci k hfl
  intro hoL hoS H ls locs hw hS hl
  have hi : i < NC := kd_lt hki (by
    have : ci < 7 := (List.getElem?_eq_some_iff.mp g1).1
    omega)
  have hv0 : inR v := hoS (vI v) List.mem_cons_self
  have hn2 : fc ci k ≠ 2 := by omega
  have hnar : narrow (ty k) (.int (Int32.ofInt v)) = .int (Int32.ofInt v) ∧ fits (ty k) (.int (Int32.ofInt v)) = true := by
    rcases hc with hc | ⟨hc, rfl | rfl⟩
    · rw [g9 hc]; exact ⟨rfl, rfl⟩
    · rw [g10 hc]; exact ⟨by decide, by decide⟩
    · rw [g10 hc]; exact ⟨by decide, by decide⟩
  refine va_put (ref := C) (D := D) (cl := vwCl) (tys := tysOf cI cS) (Ts := TB) (v := .int (Int32.ofInt v)) (ty := ty k) hx hb hts g6 ty g7 g8 hown hK hw.1 hw.2.1 hS i (by rw [wsOf_at hi, cellE_o hki]) g1 k g2 (hts _ g5) (fun _ q => by rw [g4] at q; exact q) (g11 hn2) (g7 k g2) hnar.1 hnar.2 (by simp; omega) hd ?_
  intro H1 locs1 hP1 hD1 hS1
  have hset : (wsOf cI cS ad h).set i (ad i, .inr (ci, ((List.range (fn ci)).map (fun k => if fc ci k = 2 then Value.ref (ad (rf i k)) else .int (Int32.ofInt (h i k)))).set k (.int (Int32.ofInt v)))) = wsOf cI cS ad (up h i k v) := by
    rw [wsOf_up]
    congr 2
    rw [cellE_o hki]
    congr 2
    apply List.ext_getElem?
    intro j
    by_cases hj : j < fn ci
    · by_cases hjk : j = k
      · subst hjk
        rw [List.getElem?_set_self (by simp; omega), List.getElem?_map, List.getElem?_range hj]
        show _ = some (if fc ci j = 2 then _ else _)
        rw [if_neg hn2]
        simp [up]
      · rw [List.getElem?_set_ne (Ne.symm hjk), List.getElem?_map, List.getElem?_map, List.getElem?_range hj]
        simp [up, hjk]
    · rw [List.getElem?_eq_none (by simp; omega), List.getElem?_eq_none (by simp; omega)]
  rw [hset] at hP1 hD1
  exact hk hoL (fun w hw => hoS w (List.mem_cons_of_mem _ (List.mem_cons_of_mem _ hw))) H1 ls locs1 ⟨hP1, hD1, rng_up hw.2.2 hv0⟩ hS1 hl
theorem wm_iald (hX : CX own cc nL ret p s m args meth c D cI cS ad A) {a : Nat} {j : Int} {L : ML} {st : List MV} {h : MH} (hka : kd a = 0) (hj : 0 ≤ j ∧ j < (al a : Int)) (hd : decode cc pc = .ok (.iaload, 1))
    (hk : WM p l e R s m args below meth c cells slots Q D cI cS ad A nL (pc + 1) L (vI (h a j.toNat) :: st) h) : WM p l e R s m args below meth c cells slots Q D cI cS ad A nL pc L (vI j :: vR a :: st) h := by
  obtain ⟨hx, hb, hml, hr, hown, hts, hK, hlocks, hE⟩ := hX
  intro hoL hoS H ls locs hw hS hl
  have hi : a < NC := kd_lt hka (by omega)
  have hj0 : inR j := hoS (vI j) List.mem_cons_self
  refine va_iald (D := D) (cl := vwCl) (tys := tysOf cI cS) hx hb hK hw.1 a 0 (by rw [wsOf_at hi, cellE_i hka]) rfl (oi_in hj0 hj) hd ?_
  rw [oi_clamp hj.1 hj0]
  exact hk hoL (okc (v := vI (h a j.toNat)) (hw.2.2 _ _) (fun w hw => hoS w (List.mem_cons_of_mem _ (List.mem_cons_of_mem _ hw)))) H ls locs hw hS hl
theorem wm_iast (hX : CX own cc nL ret p s m args meth c D cI cS ad A) {a : Nat} {j v : Int} {L : ML} {st : List MV} {h : MH} (hka : kd a = 0) (hj : 0 ≤ j ∧ j < (al a : Int)) (hd : decode cc pc = .ok (.iastore, 1))
    (hk : WM p l e R s m args below meth c cells slots Q D cI cS ad A nL (pc + 1) L st (up h a j.toNat v)) : WM p l e R s m args below meth c cells slots Q D cI cS ad A nL pc L (vI v :: vI j :: vR a :: st) h := by
  obtain ⟨hx, hb, hml, hr, hown, hts, hK, hlocks, hE⟩ := hX
  intro hoL hoS H ls locs hw hS hl
  have hi : a < NC := kd_lt hka (by omega)
  have hv0 : inR v := hoS (vI v) List.mem_cons_self
  have hj0 : inR j := hoS (vI j) (List.mem_cons_of_mem _ List.mem_cons_self)
  refine va_iast (D := D) (cl := vwCl) (tys := tysOf cI cS) hx hb hK hw.1 hw.2.1 hS a 0 (by rw [wsOf_at hi, cellE_i hka]) rfl (oi_in hj0 hj) hd ?_
  intro H1 locs1 hP1 hD1 hS1
  rw [oi_clamp hj.1 hj0] at hP1 hD1
  have hset : (wsOf cI cS ad h).set a (ad a, .inl (cI, al a, .inl (upd (fun j => Int32.ofInt (h a j)) j.toNat (Int32.ofInt v)))) = wsOf cI cS ad (up h a j.toNat v) := by
    rw [wsOf_up]
    congr 2
    rw [cellE_i hka]
    congr 4
    funext b
    unfold upd up
    by_cases hbj : b = j.toNat
    · simp [hbj]
    · simp [hbj]
  rw [hset] at hP1 hD1
  exact hk hoL (fun w hw => hoS w (List.mem_cons_of_mem _ (List.mem_cons_of_mem _ (List.mem_cons_of_mem _ hw)))) H1 ls locs1 ⟨hP1, hD1, rng_up hw.2.2 hv0⟩ hS1 hl
theorem wm_alen (hX : CX own cc nL ret p s m args meth c D cI cS ad A) {a : Nat} {L : ML} {st : List MV} {h : MH} (hka : kd a ≤ 1) (hd : decode cc pc = .ok (.arraylength, 1))
    (hk : WM p l e R s m args below meth c cells slots Q D cI cS ad A nL (pc + 1) L (vI (al a : Int) :: st) h) : WM p l e R s m args below meth c cells slots Q D cI cS ad A nL pc L (vR a :: st) h := by
  obtain ⟨hx, hb, hml, hr, hown, hts, hK, hlocks, hE⟩ := hX
  intro hoL hoS H ls locs hw hS hl
  have hi : a < NC := kd_lt (n := kd a) rfl (by omega)
  have hol : okV (vI (al a : Int)) := by
    have := al_le a
    show inR _
    unfold inR
    omega
  rcases (show kd a = 0 ∨ kd a = 1 by omega) with hk0 | hk0
  · refine va_alen (D := D) (cl := vwCl) (tys := tysOf cI cS) hx hb hK hw.1 a 0 (by rw [wsOf_at hi, cellE_i hk0]) rfl (v := Int32.ofInt (al a : Int)) rfl hd ?_
    exact hk hoL (okc hol (fun w hw => hoS w (List.mem_cons_of_mem _ hw))) H ls locs hw hS hl
  · refine va_alen (D := D) (cl := vwCl) (tys := tysOf cI cS) hx hb hK hw.1 a 1 (by rw [wsOf_at hi, cellE_s hk0]) rfl (v := Int32.ofInt (al a : Int)) rfl hd ?_
    exact hk hoL (okc hol (fun w hw => hoS w (List.mem_cons_of_mem _ hw))) H ls locs hw hS hl
theorem wm_aald (hX : CX own cc nL ret p s m args meth c D cI cS ad A) {a : Nat} {j : Int} {L : ML} {st : List MV} {h : MH} (hka : kd a = 1) (hj : 0 ≤ j ∧ j < (al a : Int)) (hd : decode cc pc = .ok (.aaload, 1))
    (hk : WM p l e R s m args below meth c cells slots Q D cI cS ad A nL (pc + 1) L (vR (rf a j.toNat) :: st) h) : WM p l e R s m args below meth c cells slots Q D cI cS ad A nL pc L (vI j :: vR a :: st) h := by
  obtain ⟨hx, hb, hml, hr, hown, hts, hK, hlocks, hE⟩ := hX
  intro hoL hoS H ls locs hw hS hl
  have hi : a < NC := kd_lt hka (by omega)
  have hj0 : inR j := hoS (vI j) List.mem_cons_self
  refine va_aldq (D := D) (cl := vwCl) (tys := tysOf cI cS) hx hb hK hw.1 a 1 (by rw [wsOf_at hi, cellE_s hka]) rfl (oi_in hj0 hj) hd ?_
  rw [oi_clamp hj.1 hj0]
  exact hk hoL (okc (v := vR (rf a j.toNat)) trivial (fun w hw => hoS w (List.mem_cons_of_mem _ (List.mem_cons_of_mem _ hw)))) H ls locs hw hS hl
theorem step_ok (hX : CX own cc nL ret p s m args meth c D cI cS ad A) (hf : flok own fl) {I : Instr} {L L' : ML} {st st' : List MV} {h h' : MH} {P : Prop} (hd : decode cc pc = .ok (I, ilen I)) (hs : mstep fl nL I L st h = some ((L', st', h'), P)) (hP : P)
    (hk : WM p l e R s m args below meth c cells slots Q D cI cS ad A nL (pc + ilen I) L' st' h') : WM p l e R s m args below meth c cells slots Q D cI cS ad A nL pc L st h := by
  have hX0 := hX
  obtain ⟨hx, hb, hml, hr, hown, hts, hK, hlocks, hE⟩ := hX
  unfold mstep at hs
  split at hs
  -- iconst
  · rename_i n
    cases hc : (decide (-100 ≤ n) && decide (n ≤ 100)) with
    | false => rw [hc] at hs; cases hs
    | true =>
      rw [hc] at hs; cases hs
      simp only [Bool.and_eq_true, decide_eq_true_eq] at hc
      intro hoL hoS H ls locs hw hS hl
      exact lv_iconst hx hb hd rfl (hk hoL (okc (v := vI n) (inR_lit (by omega)) hoS) H ls locs hw hS hl)
  · rename_i n
    cases hc : (decide (-128 ≤ n) && decide (n ≤ 127)) with
    | false => rw [hc] at hs; cases hs
    | true =>
      rw [hc] at hs; cases hs
      simp only [Bool.and_eq_true, decide_eq_true_eq] at hc
      intro hoL hoS H ls locs hw hS hl
      refine lv_bipush hx hb hd (v := Int32.ofInt n) ?_ (hk hoL (okc (v := vI n) (inR_lit (by omega)) hoS) H ls locs hw hS hl)
      apply Int32.toInt_inj.mp
      rw [ti (inR_lit (by omega)), Int8.toInt_toInt32, Int8.toInt_ofInt]
      exact Int.bmod_eq_of_le (by show -((256 : Int) / 2) ≤ n; omega) (by show n < ((256 : Int) + 1) / 2; omega)
  · rename_i n
    cases hc : (decide (-32768 ≤ n) && decide (n ≤ 32767)) with
    | false => rw [hc] at hs; cases hs
    | true =>
      rw [hc] at hs; cases hs
      simp only [Bool.and_eq_true, decide_eq_true_eq] at hc
      intro hoL hoS H ls locs hw hS hl
      refine lv_sipush hx hb hd (v := Int32.ofInt n) ?_ (hk hoL (okc (v := vI n) (inR_lit (by omega)) hoS) H ls locs hw hS hl)
      apply Int32.toInt_inj.mp
      rw [ti (inR_lit (by omega)), Int16.toInt_toInt32, Int16.toInt_ofInt]
      exact Int.bmod_eq_of_le (by show -((65536 : Int) / 2) ≤ n; omega) (by show n < ((65536 : Int) + 1) / 2; omega)
  -- loads
  · rename_i k
    split at hs
    · rename_i z hz; cases hs
      intro hoL hoS H ls locs hw hS hl
      exact lv_iload_n hx hb hd rfl (lk_at hl hz) (hk hoL (okc (v := vI z) (lk_ok hoL hz) hoS) H ls locs hw hS hl)
    · cases hs
  · rename_i k
    split at hs
    · rename_i z hz; cases hs
      intro hoL hoS H ls locs hw hS hl
      exact lv_iload hx hb hd (lk_at hl hz) (hk hoL (okc (v := vI z) (lk_ok hoL hz) hoS) H ls locs hw hS hl)
    · cases hs
  · rename_i k
    split at hs
    · rename_i o hz; cases hs
      intro hoL hoS H ls locs hw hS hl
      cases o with
      | none => exact lv_aload_nN hx hb hd rfl (lk_at hl hz) (hk hoL (okc (v := vO none) trivial hoS) H ls locs hw hS hl)
      | some i => exact lv_aload_n hx hb hd rfl (lk_at hl hz) (hk hoL (okc (v := vO (some i)) trivial hoS) H ls locs hw hS hl)
    · cases hs
  · rename_i k
    split at hs
    · rename_i o hz; cases hs
      intro hoL hoS H ls locs hw hS hl
      cases o with
      | none => exact lv_aloadN hx hb hd (lk_at hl hz) (hk hoL (okc (v := vO none) trivial hoS) H ls locs hw hS hl)
      | some i => exact lv_aload hx hb hd (lk_at hl hz) (hk hoL (okc (v := vO (some i)) trivial hoS) H ls locs hw hS hl)
    · cases hs
  · rename_i k
    split at hs
    · rename_i z hz; cases hs
      intro hoL hoS H ls locs hw hS hl
      exact lv_dload hx hb hd (lk_at hl hz) (hk hoL (okc (v := vD z) trivial hoS) H ls locs hw hS hl)
    · cases hs
  -- stores
  · rename_i k z st
    cases hc : decide (k.val < nL) with
    | false => rw [hc] at hs; cases hs
    | true =>
      rw [hc] at hs; cases hs
      intro hoL hoS H ls locs hw hS hl
      exact lv_istore_n hx hb hd rfl hl (of_decide_eq_true hc) (sto_map ad L k.val (vI z)) (fun ls' hl' => hk (sto_ok hoL (hoS _ List.mem_cons_self)) (fun w hw => hoS w (List.mem_cons_of_mem _ hw)) H ls' locs hw hS hl')
  · rename_i k z st
    cases hc : decide (k < nL) with
    | false => rw [hc] at hs; cases hs
    | true =>
      rw [hc] at hs; cases hs
      intro hoL hoS H ls locs hw hS hl
      exact lv_istore hx hb hd hl (of_decide_eq_true hc) (sto_map ad L k (vI z)) (fun ls' hl' => hk (sto_ok hoL (hoS _ List.mem_cons_self)) (fun w hw => hoS w (List.mem_cons_of_mem _ hw)) H ls' locs hw hS hl')
  · rename_i k z st
    cases hc : decide (k.val < nL) with
    | false => rw [hc] at hs; cases hs
    | true =>
      rw [hc] at hs; cases hs
      intro hoL hoS H ls locs hw hS hl
      exact lv_astore_n hx hb hd rfl hl (of_decide_eq_true hc) (sto_map ad L k.val (vR z)) (fun ls' hl' => hk (sto_ok hoL (hoS _ List.mem_cons_self)) (fun w hw => hoS w (List.mem_cons_of_mem _ hw)) H ls' locs hw hS hl')
  · rename_i k z st
    cases hc : decide (k < nL) with
    | false => rw [hc] at hs; cases hs
    | true =>
      rw [hc] at hs; cases hs
      intro hoL hoS H ls locs hw hS hl
      exact lv_astore hx hb hd hl (of_decide_eq_true hc) (sto_map ad L k (vR z)) (fun ls' hl' => hk (sto_ok hoL (hoS _ List.mem_cons_self)) (fun w hw => hoS w (List.mem_cons_of_mem _ hw)) H ls' locs hw hS hl')
  · rename_i k z st
    cases hc : decide (k + 1 < nL) with
    | false => rw [hc] at hs; cases hs
    | true =>
      rw [hc] at hs; cases hs
      intro hoL hoS H ls locs hw hS hl
      exact lv_dstore hx hb hd hl (of_decide_eq_true hc) (sto2_map ad L k (vD z)) (fun ls' hl' => hk (sto2_ok hoL (hoS _ List.mem_cons_self)) (fun w hw => hoS w (List.mem_cons_of_mem _ hw)) H ls' locs hw hS hl')
  -- iinc
  · rename_i k n
    split at hs
    · rename_i z hz
      cases hc : decide (k < nL) with
      | false => rw [hc] at hs; cases hs
      | true =>
        rw [hc] at hs; cases hs
        intro hoL hoS H ls locs hw hS hl
        obtain ⟨j, hj⟩ : ∃ j, (L.map (tl ad))[j]? = some (k, Value.int (Int32.ofInt z)) := by
          have key : ∀ L : ML, lkL L k = some (.inl z) → (k, vI z) ∈ L := by
            intro L
            induction L with
            | nil => intro h; cases h
            | cons q l ih =>
              intro h
              unfold lkL at h
              cases hq : q.1 == k with
              | true =>
                rw [hq] at h
                have hq2 : q.1 = k := by simpa using hq
                obtain ⟨a, b⟩ := q
                cases h
                cases hq2
                exact List.mem_cons_self
              | false =>
                rw [hq] at h
                exact List.mem_cons_of_mem _ (ih h)
          exact List.getElem?_of_mem (List.mem_map_of_mem (f := tl ad) (key L hz))
        have hz0 : inR z := lk_ok hoL hz
        exact lv_iinc hx hb hd hl hj (v := Int32.ofInt (wr (z + n))) (by rw [oi_wr, Int32.ofInt_add]) (of_decide_eq_true hc) (sto_map ad L k (vI (wr (z + n)))) (fun ls' hl' => hk (sto_ok hoL (inR_wr _)) hoS H ls' locs hw hS hl')
    · cases hs
  -- arithmetic
  · rename_i y x st
    cases hs
    intro hoL hoS H ls locs hw hS hl
    have k9 := hk hoL (okc (v := vI (wr (x + y))) (inR_wr _) (fun w hw => hoS w (List.mem_cons_of_mem _ (List.mem_cons_of_mem _ hw)))) H ls locs hw hS hl
    exact lv_iadd hx hb hd (by rw [oi_add]; exact k9)
  · rename_i y x st
    cases hs
    intro hoL hoS H ls locs hw hS hl
    have k9 := hk hoL (okc (v := vI (wr (x - y))) (inR_wr _) (fun w hw => hoS w (List.mem_cons_of_mem _ (List.mem_cons_of_mem _ hw)))) H ls locs hw hS hl
    exact lv_isub hx hb hd (by rw [oi_sub]; exact k9)
  · rename_i y x st
    cases hs
    intro hoL hoS H ls locs hw hS hl
    have k9 := hk hoL (okc (v := vI (wr (x * y))) (inR_wr _) (fun w hw => hoS w (List.mem_cons_of_mem _ (List.mem_cons_of_mem _ hw)))) H ls locs hw hS hl
    exact lv_imul hx hb hd (by rw [oi_mul]; exact k9)
  · rename_i x st
    cases hs
    intro hoL hoS H ls locs hw hS hl
    have k9 := hk hoL (okc (v := vI (wr (-x))) (inR_wr _) (fun w hw => hoS w (List.mem_cons_of_mem _ hw))) H ls locs hw hS hl
    exact lv_ineg hx hb hd (by rw [oi_neg]; exact k9)
  · rename_i x st
    cases hs
    intro hoL hoS H ls locs hw hS hl
    have hx0 : inR x := hoS _ List.mem_cons_self
    exact lv_i2c hx hb hd (oi_i2c hx0) (hk hoL (okc (v := vI (x % 65536)) (by show inR _; unfold inR; omega) (fun w hw => hoS w (List.mem_cons_of_mem _ hw))) H ls locs hw hS hl)
  -- stack
  · rename_i z st
    cases hs
    intro hoL hoS H ls locs hw hS hl
    exact lv_dup hx hb hd rfl (hk hoL (okc (v := vI z) (hoS _ List.mem_cons_self) hoS) H ls locs hw hS hl)
  · rename_i o st
    cases hs
    intro hoL hoS H ls locs hw hS hl
    exact lv_dup hx hb hd (tv_cat1 (v := vO o) rfl) (hk hoL (okc (v := vO o) trivial hoS) H ls locs hw hS hl)
  · rename_i y o st
    cases hs
    intro hoL hoS H ls locs hw hS hl
    exact lv_dup2_11 hx hb hd rfl (tv_cat1 (v := vO o) rfl) (hk hoL (okc (v := vI y) (hoS _ List.mem_cons_self) (okc (v := vO o) trivial hoS)) H ls locs hw hS hl)
  · rename_i z st
    cases hs
    intro hoL hoS H ls locs hw hS hl
    exact lv_pop hx hb hd rfl (hk hoL (fun w hw => hoS w (List.mem_cons_of_mem _ hw)) H ls locs hw hS hl)
  · skip
    cases hs
    intro hoL hoS H ls locs hw hS hl
    exact lv_null hx hb hd (hk hoL (okc (v := vO none) trivial hoS) H ls locs hw hS hl)
  -- fields, arrays
  · rename_i idx i st
    split at hs
    · rename_i ci k hfl
      cases hc : (fc ci k == 2) with
      | true =>
        rw [hc] at hs; cases hs
        refine wm_get hX0 hf hfl hP hd ?_
        rw [if_pos (by simpa using hc)]
        exact hk
      | false =>
        rw [hc] at hs; cases hs
        refine wm_get hX0 hf hfl hP hd ?_
        rw [if_neg (by simpa using hc)]
        exact hk
    · cases hs
  · rename_i idx v i st
    split at hs
    · rename_i ci k hfl
      cases hc : (fc ci k == 0) with
      | true =>
        rw [hc] at hs; cases hs
        exact wm_put hX0 hf hfl hP (Or.inl (by simpa using hc)) hd hk
      | false =>
        rw [hc] at hs
        cases hc1 : (fc ci k == 1) with
        | true =>
          rw [hc1] at hs; cases hs
          exact wm_put hX0 hf hfl hP.1 (Or.inr ⟨by simpa using hc1, hP.2⟩) hd hk
        | false => rw [hc1] at hs; cases hs
    · cases hs
  · rename_i j a st
    cases hs
    exact wm_iald hX0 hP.1 hP.2 hd hk
  · rename_i v j a st
    cases hs
    exact wm_iast hX0 hP.1 hP.2 hd hk
  · rename_i a st
    cases hs
    exact wm_alen hX0 hP hd hk
  · rename_i j a st
    cases hs
    exact wm_aald hX0 hP.1 hP.2 hd hk
  -- doubles
  · rename_i x st
    cases hs
    intro hoL hoS H ls locs hw hS hl
    exact lv_i2d hx hb hd (hk hoL (okc (v := vD _) trivial (fun w hw => hoS w (List.mem_cons_of_mem _ hw))) H ls locs hw hS hl)
  · rename_i n
    cases hc : (n.val == 1) with
    | false => rw [hc] at hs; cases hs
    | true =>
      rw [hc] at hs; cases hs
      have hn : n = 1 := by
        apply Fin.ext
        simpa using hc
      subst hn
      intro hoL hoS H ls locs hw hS hl
      exact lv_dconst1 hx hb hd (hk hoL (okc (v := vD _) trivial hoS) H ls locs hw hS hl)
  · rename_i y x st
    cases hs
    intro hoL hoS H ls locs hw hS hl
    exact lv_dmul hx hb hd hP (hk hoL (okc (v := vD _) trivial (fun w hw => hoS w (List.mem_cons_of_mem _ (List.mem_cons_of_mem _ hw)))) H ls locs hw hS hl)
  · rename_i y x st
    cases hs
    intro hoL hoS H ls locs hw hS hl
    exact lv_ddiv hx hb hd hP (hk hoL (okc (v := vD _) trivial (fun w hw => hoS w (List.mem_cons_of_mem _ (List.mem_cons_of_mem _ hw)))) H ls locs hw hS hl)
  · rename_i op y x st
    cases hs
    intro hoL hoS H ls locs hw hS hl
    have k9 := hk hoL (okc (v := vI (Op.cmpValue (FP.dcmp x y) op).toInt) (inR_toInt _) (fun w hw => hoS w (List.mem_cons_of_mem _ (List.mem_cons_of_mem _ hw)))) H ls locs hw hS hl
    refine lv_dcmp hx hb hd ?_
    simp only [List.map_cons, tv, oi_toInt] at k9
    exact k9
  · rename_i y x st
    cases hs
    intro hoL hoS H ls locs hw hS hl
    have k9 := hk hoL (okc (v := vI (andv x y)) (inR_toInt _) (fun w hw => hoS w (List.mem_cons_of_mem _ (List.mem_cons_of_mem _ hw)))) H ls locs hw hS hl
    refine lv_iand hx hb hd ?_
    simp only [List.map_cons, tv, andv, oi_toInt] at k9
    exact k9
  · rename_i y x st
    cases hs
    intro hoL hoS H ls locs hw hS hl
    have k9 := hk hoL (okc (v := vI (shrv x y)) (inR_toInt _) (fun w hw => hoS w (List.mem_cons_of_mem _ (List.mem_cons_of_mem _ hw)))) H ls locs hw hS hl
    refine lv_ishr hx hb hd ?_
    simp only [List.map_cons, tv, shrv, oi_toInt] at k9
    exact k9
  · rename_i y x st
    cases hs
    intro hoL hoS H ls locs hw hS hl
    have hy0 : inR y := hoS (vI y) List.mem_cons_self
    have k9 := hk hoL (okc (v := vI (remv x y)) (inR_toInt _) (fun w hw => hoS w (List.mem_cons_of_mem _ (List.mem_cons_of_mem _ hw)))) H ls locs hw hS hl
    refine lv_irem hx hb hd (fun z => hP ((oi_eq hy0 (by unfold inR; omega)).mp z)) ?_
    simp only [List.map_cons, tv, remv, oi_toInt] at k9
    exact k9
  · cases hs
theorem run_ok (hX : CX own cc nL ret p s m args meth c D cI cS ad A) (hf : flok own fl) : ∀ (is : List Instr) (pc : Nat) (L L' : ML) (st st' : List MV) (h h' : MH) (P : Prop), sits cc pc is = true → mrun fl nL is L st h = some ((L', st', h'), P) → P →
    WM p l e R s m args below meth c cells slots Q D cI cS ad A nL (pc + plen is) L' st' h' → WM p l e R s m args below meth c cells slots Q D cI cS ad A nL pc L st h := by
  intro is
  induction is with
  | nil =>
    intro pc L L' st st' h h' P hs hr hP hk
    cases hr
    exact hk
  | cons I is ih =>
    intro pc L L' st st' h h' P hs hr hP hk
    simp only [sits, Bool.and_eq_true, decide_eq_true_eq] at hs
    unfold mrun at hr
    split at hr
    · cases hr
    · rename_i L1 st1 h1 P1 he
      split at hr
      · cases hr
      · rename_i c9 P2 he2
        cases hr
        refine step_ok hX hf hs.1 he hP.1 ?_
        refine ih _ _ _ _ _ _ _ _ hs.2 he2 hP.2 ?_
        rw [show pc + ilen I + plen is = pc + plen (I :: is) by simp only [plen]; omega]
        exact hk
end STEP
end
section
/-! ===== contracts over the mini machine, and calls ===== -/
def rmd (d : Nat) : Room := { frames := d, cells := 0, slots := 0, locals := 40 * d }
def inA (ad : Nat → Nat) : Nat → Prop := fun q => ∃ i, i < NC ∧ q = ad i
def PM (D : va_G) (cI cS : ClassId) (ad : Nat → Nat) (h : MH) (U : State) : Prop := wld D cI cS ad (inA ad) h U.heap ∧ va_K D vwCl (tysOf cI cS) U ∧ EXT ad (inA ad) U U.heap
def QM (D : va_G) (cI cS : ClassId) (ad : Nat → Nat) (r : Option MV) (h' : MH) : Array Value → State → Outcome → State → Prop := fun _ st oc t => oc = .returned (r.map (tv ad)) ∧ (∀ v, r = some v → okV v) ∧ wld D cI cS ad (inA ad) h' t.heap ∧ va_F (inA ad) st t
/-- a method's contract: from the cells h with the arguments vs it answers r, the cells are h' then -/
def CON (d : Nat) (y : MethodName) (bytes : ByteArray) (maxL : Nat) (ret : Option FieldType) (vs : List MV) (h : MH) (r : Option MV) (h' : MH) : Prop :=
  ∀ (l : Launch) (D : va_G) (cI cS : ClassId) (ad : Nat → Nat), (∀ v ∈ vs, okV v) → Met l y (Cond.code y bytes maxL ret :: TB) (rmd d) (va_Pc (vs.map (tv ad)) (PM D cI cS ad h)) (QM D cI cS ad r h') 0 0 (inA ad)
def MY (y : MethodName) (bytes : ByteArray) (maxL : Nat) (ret : Option FieldType) (n : Nat) : Prop :=
  Cond.code y bytes maxL ret ∈ TB ∧ Cond.initialized y.cls ∈ TB ∧ (y.cls ≠ "java/lang/invoke/MethodHandle" ∧ y.cls ≠ "java/lang/invoke/VarHandle" ∧ (parseMethodDescriptor y.desc).map (fun d => d.parameters.length) = some n) ∧ maxL ≤ 21
def VW (own : String) (idx : Nat) (y : MethodName) : Prop := Cond.methodLink own idx y ∈ TB ∧ Cond.instanceMethod y ∈ TB ∧ Cond.selects y.cls y y ∈ TB
def SW (own : String) (idx : Nat) (y : MethodName) : Prop := Cond.methodLink own idx y ∈ TB ∧ Cond.static y ∈ TB
def RMX (d : Nat) (R : Room) (cells slots : Nat) : Prop := d ≤ R.frames ∧ 40 * d ≤ R.locals ∧ cells ≤ R.cells ∧ slots ≤ R.slots
theorem good_all {ws : List Cond} (h : ∀ w ∈ ws, w ∈ TB) : GoodIn TB ws := fun w hw => TB_good w (h w hw)
theorem EXT_down {ad : Nat → Nat} {A B : Nat → Prop} {s U : State} {H : Heap} {locs : List Loc} (hE : EXT ad A s s.heap) (hS : va_S A s.heap H locs) (hW : s.WarmedH U.vm) (hAB : ∀ q, B q → A q) : EXT ad B U H :=
  ⟨hE.1.warm hW, ((hE.2.1.moved hW.alike).kept hS.2.1).narrow hAB, ((hE.2.2.moved hW.alike).kept hS.2.1).narrow hAB⟩
theorem PM_blind {D : va_G} {cI cS : ClassId} {ad : Nat → Nat} {vs : List Value} {h : MH} : FrameBlind (va_Pc vs (PM D cI cS ad h)) := fun a U g mk q =>
  ⟨q.1, q.2.1, va_K.moved (u := U) (U := U.calling g mk a) (Vm.Alike.refl U.vm) q.2.2.1, q.2.2.2.1.same rfl, vk_S.moved (u := U) (U := U.calling g mk a) (Vm.Alike.refl U.vm) q.2.2.2.2.1, va_Z.moved (u := U) (U := U.calling g mk a) (Vm.Alike.refl U.vm) q.2.2.2.2.2⟩
section CALLS
variable {p : Program} {l : Launch} {e : Env} {R : Room} {s : State} {m : MethodId} {args : Array Value} {below : List Frame} {meth : Method} {c : Code} {cells slots : Nat} {Q : State → Prop} {D : va_G} {cI cS : ClassId} {ad : Nat → Nat} {A : Nat → Prop} {nL : Nat}
variable {own : String} {cc : ByteArray} {ret : Option FieldType} {fl : Nat → Option (Nat × Nat)} {pc : Nat}
theorem inA_sub {h : MH} {H : Heap} (hw : wld D cI cS ad A h H) : ∀ q, inA ad q → A q := by
  rintro q ⟨i, hi, rfl⟩
  exact hw.2.1.2 i _ (wsOf_at hi)
theorem wld_in {h : MH} {H : Heap} (hw : wld D cI cS ad A h H) : wld D cI cS ad (inA ad) h H := by
  refine ⟨hw.1, ⟨hw.2.1.1, ?_⟩, hw.2.2⟩
  intro k q hq
  have hk : k < NC := by
    have := (List.getElem?_eq_some_iff.mp hq).1
    simpa [wsOf] using this
  rw [wsOf_at hk] at hq
  cases hq
  exact ⟨k, hk, rfl⟩
/-- behind a call -/
theorem wm_back {idx : Nat} {r : Option MV} {L : ML} {rest : List MV} {h h' : MH} {g0 : List Value} {H : Heap} {ls : Array Slot} {locs : List Loc} {Qa : Array Value} (hw : wld D cI cS ad A h H) (hS : va_S A s.heap H locs) (hl : lv_has ls nL (L.map (tl ad))) (hoL : ∀ q ∈ L, okV q.2) (hoS : ∀ v ∈ rest, okV v)
    (hr : va_Run p l e R s m args below meth c H locs cells slots 0 0 (F0 m pc ls g0) (rest.map (tv ad)) (QM D cI cS ad r h' Qa) (inA ad))
    (hk : WM p l e R s m args below meth c cells slots Q D cI cS ad A nL (pc + 3) L (r.toList ++ rest) h') : W p l e R s m args below meth c H locs cells slots Q (F0 m pc ls g0) := by
  intro T hT X
  obtain ⟨v, st₀, t, T', LL, h0, X', hL, e1, e2, ⟨hv, hvr, hw', hF⟩, st⟩ := hr T hT X
  have hv2 : v = r.map (tv ad) := by
    have := hv
    simpa using this
  subst hv2
  have hsub := inA_sub hw
  obtain ⟨hz, hkp⟩ := hF
  rw [h0] at hz hkp
  have hw2 : wld D cI cS ad A h' T'.heap := by
    rw [e1]
    exact ⟨hw'.1, hw'.2.1.weaken (fun k q _ hq => hsub _ hq), hw'.2.2⟩
  have hS2 : va_S A s.heap T'.heap (locs ++ LL) := by
    refine ⟨Nat.le_trans hS.1 (by rw [e1]; exact hz), fun q h1 h2 => ?_, fun q hq => ?_⟩
    · rw [e1, hkp q (Nat.lt_of_lt_of_le h1 hS.1) (fun z => h2 (hsub q z))]
      exact hS.2.1 q h1 h2
    · rcases List.mem_append.mp hq with h | h
      · exact hS.2.2 q h
      · exact hsub _ (hL q h)
  have hoS2 : ∀ v ∈ r.toList ++ rest, okV v := by
    intro v hv
    rcases List.mem_append.mp hv with h | h
    · cases r with
      | none => cases h
      | some r0 =>
        have : v = r0 := by simpa using h
        subst this
        exact hvr _ rfl
    · exact hoS v h
  obtain ⟨t2, a1, b1⟩ := hk hoL hoS2 T'.heap ls (locs ++ LL) hw2 hS2 hl T' rfl X'
  refine ⟨t2, st t2 ?_, b1⟩
  have hst : (r.map (tv ad)).toList ++ rest.map (tv ad) = (r.toList ++ rest).map (tv ad) := by
    cases r <;> simp
  show Steps p.tables e below (T'.setTop { F0 m pc ls g0 with pc := pc + 3, stack := (r.map (tv ad)).toList ++ rest.map (tv ad) }) t2
  rw [hst]
  exact a1
theorem cat_sum {st : List MV} (h : st.length ≤ 4) : ((st.map (tv ad)).map fun v => v.category).sum ≤ 8 := by
  have key : ∀ st : List MV, ((st.map (tv ad)).map fun v => v.category).sum ≤ 2 * st.length := by
    intro st
    induction st with
    | nil => simp
    | cons v l ih =>
      have hc : (tv ad v).category ≤ 2 := by
        rcases v with z | (_ | i) | d
        · exact (show 1 ≤ 2 by omega)
        · exact (show 1 ≤ 2 by omega)
        · exact (show 1 ≤ 2 by omega)
        · exact Nat.le_refl 2
      simp only [List.map_cons, List.sum_cons, List.length_cons]
      omega
  have := key st
  omega
theorem wm_callV (hX : CX own cc nL ret p s m args meth c D cI cS ad A) {d : Nat} (hM : RMX d R cells slots) {idx d' ci i maxL : Nat} {y : MethodName} {bytes : ByteArray} {ret' : Option FieldType} {vs rest : List MV} {L : ML} {h h' : MH} {r : Option MV} (hmy : MY y bytes maxL ret' vs.length) (hvw : VW own idx y) (hdd : d' < d)
    (hc : CON d' y bytes maxL ret' (vR i :: vs) h r h') (hki : kd i = ci + 2) (hci : (vwCl[ci]?).map (fun q => q.1) = some y.cls) (hrest : rest.length ≤ 4) (hd : decode cc pc = .ok (.invokevirtual idx, 3))
    (hk : WM p l e R s m args below meth c cells slots Q D cI cS ad A nL (pc + 3) L (r.toList ++ rest) h') : WM p l e R s m args below meth c cells slots Q D cI cS ad A nL pc L (vs.reverse ++ vR i :: rest) h := by
  obtain ⟨hx, hb, hml, hr, hown, hts, hK, hlocks, hE⟩ := hX
  intro hoL hoS H ls locs hw hS hl
  obtain ⟨q, hq, hqn⟩ : ∃ q, vwCl[ci]? = some q ∧ q.1 = y.cls := by
    cases hq : vwCl[ci]? with
    | none => rw [hq] at hci; cases hci
    | some q => rw [hq] at hci; exact ⟨q, rfl, by simpa using hci⟩
  have hi : i < NC := kd_lt hki (by
    have : ci < 7 := (List.getElem?_eq_some_iff.mp hq).1
    omega)
  have hoV : ∀ v ∈ vR i :: vs, okV v := okc (v := vR i) trivial (fun v hv => hoS v (List.mem_append_left _ (List.mem_reverse.mpr hv)))
  have hoR : ∀ v ∈ rest, okV v := fun v hv => hoS v (List.mem_append_right _ (List.mem_cons_of_mem _ hv))
  have hwin := wld_in hw
  have hsub := inA_sub hw
  have cw : CallW R s args own y.cls idx y bytes maxL ret' (Cond.code y bytes maxL ret' :: TB) (rmd d') 0 0 vs.length := by
    refine cwV (Ts := TB) vs.length hts (good_all ?_) rfl rfl rfl ⟨rfl, hmy.2.2.1⟩ ⟨?_, ?_⟩
    · intro w hw
      unfold wsV at hw
      simp only [List.cons_append, List.nil_append, List.mem_cons] at hw
      rcases hw with rfl | rfl | rfl | rfl | rfl | hw
      · exact hvw.1
      · exact hvw.2.1
      · exact hvw.2.2
      · exact hmy.2.1
      · exact hmy.1
      · exact hw
    · show d' + 1 ≤ R.frames
      have := hM.1
      omega
    · show 8 + (maxL + 11) + 40 * d' ≤ R.locals
      have := hM.2.1
      have := hmy.2.2.2
      omega
  have hrun := va_runV (As := vs.map (tv ad)) (rest := rest.map (tv ad)) (b := ad i) (C := y.cls) (g := F0 m pc ls ((vs.reverse ++ vR i :: rest).map (tv ad))) (H := H) (locs := locs) (cells := cells) (slots := slots) (e := e) (below := below) (meth := meth)
    ⟨hx, hb, hml, hown, hts⟩ (hc l D cI cS ad hoV) cw ⟨PM_blind, ?_, fun U hU hW => ⟨by simp [tv], by rw [hU]; exact hwin, va_K.moved hW.alike hK, by rw [hU]; exact EXT_down hE hS hW hsub⟩⟩ rfl (by simp) hl.1 (by simp [tv]) (lv_room (cat_sum hrest)) hd ⟨hM.2.2.1, hM.2.2.2⟩
  · exact wm_back (idx := idx) hw hS hl hoL hoR hrun hk
  · have he : (wsOf cI cS ad h)[i]? = some (ad i, .inr (ci, (List.range (fn ci)).map (fun k => if fc ci k = 2 then Value.ref (ad (rf i k)) else .int (Int32.ofInt (h i k))))) := by rw [wsOf_at hi, cellE_o hki]
    have hrec := va_recv (D := D) hK hw.1 hq he
    rw [hqn] at hrec
    exact hrec
theorem wm_callS (hX : CX own cc nL ret p s m args meth c D cI cS ad A) {d : Nat} (hM : RMX d R cells slots) {idx d' maxL : Nat} {y : MethodName} {bytes : ByteArray} {ret' : Option FieldType} {vs rest : List MV} {L : ML} {h h' : MH} {r : Option MV} (hmy : MY y bytes maxL ret' vs.length) (hsw : SW own idx y) (hdd : d' < d)
    (hc : CON d' y bytes maxL ret' vs h r h') (hrest : rest.length ≤ 4) (hd : decode cc pc = .ok (.invokestatic idx, 3))
    (hk : WM p l e R s m args below meth c cells slots Q D cI cS ad A nL (pc + 3) L (r.toList ++ rest) h') : WM p l e R s m args below meth c cells slots Q D cI cS ad A nL pc L (vs.reverse ++ rest) h := by
  obtain ⟨hx, hb, hml, hr, hown, hts, hK, hlocks, hE⟩ := hX
  intro hoL hoS H ls locs hw hS hl
  have hoV : ∀ v ∈ vs, okV v := fun v hv => hoS v (List.mem_append_left _ (List.mem_reverse.mpr hv))
  have hoR : ∀ v ∈ rest, okV v := fun v hv => hoS v (List.mem_append_right _ hv)
  have hwin := wld_in hw
  have hsub := inA_sub hw
  have cw0 := callB_of (R := R) (s := s) (args := args) (own := own) (index := idx) (y := y) (bytes := bytes) (maxL := maxL) (ret := ret') (ws := Cond.code y bytes maxL ret' :: TB) (rm := rmd d') (mc := 0) (ms := 0) (Ts := TB) vs.length hts (good_all (by
      intro w hw
      rcases List.mem_cons.mp hw with rfl | hw
      · exact hmy.1
      · exact hw)) rfl rfl rfl (hts _ hmy.2.1) (hts _ hsw.1) hmy.2.2.1 ⟨by
      show d' + 1 ≤ R.frames
      have := hM.1
      omega, by
      show 8 + (maxL + 11) + 40 * d' ≤ R.locals
      have := hM.2.1
      have := hmy.2.2.2
      omega⟩
  have cw := And.intro cw0 (hts _ hsw.2)
  have hrun := va_runS (As := vs.map (tv ad)) (rest := rest.map (tv ad)) (g := F0 m pc ls ((vs.reverse ++ rest).map (tv ad))) (H := H) (locs := locs) (cells := cells) (slots := slots) (e := e) (below := below) (meth := meth)
    ⟨hx, hb, hml, hown, hts⟩ (hc l D cI cS ad hoV) cw ⟨PM_blind, fun U hU hW => ⟨by simp, by rw [hU]; exact hwin, va_K.moved hW.alike hK, by rw [hU]; exact EXT_down hE hS hW hsub⟩⟩ rfl (by simp) hl.1 (by simp) (lv_room (cat_sum hrest)) hd ⟨hM.2.2.1, hM.2.2.2⟩
  exact wm_back (idx := idx) hw hS hl hoL hoR hrun hk
end CALLS
end
section
/-! ===== the rules: what a judgement K over the mini machine obeys; a method's walk speaks of any such K ===== -/
def dk (cc : ByteArray) (pc : Nat) (I : Instr) (n : Nat) : Bool := decide (decode cc pc = .ok (I, n))
def cmpB : ClassFile.Cond → Int → Int → Prop
  | .eq, x, y | .ne, x, y => x = y
  | .lt, x, y | .ge, x, y => x < y
  | .le, x, y | .gt, x, y => x ≤ y
def jt : ClassFile.Cond → Nat → Nat → Nat
  | .eq, a, _ | .lt, a, _ | .le, a, _ => a
  | .ne, _, b | .ge, _, b | .gt, _, b => b
def swT (pc : Nat) (dflt lo hi : Int) (offs : List Int) (x : Int) : Nat :=
  if x < lo ∨ hi < x then ((pc : Int) + dflt).toNat else ((pc : Int) + offs.getD (x - lo).toNat 0).toNat
abbrev KT : Type := Nat → ML → List MV → MH → Prop
def R_seg (cc : ByteArray) (nL : Nat) (fl : Nat → Option (Nat × Nat)) (K : KT) : Prop := ∀ (is : List Instr) (pc : Nat) (L L' : ML) (st st' : List MV) (h h' : MH) (P : Prop), sits cc pc is = true → mrun fl nL is L st h = some ((L', st', h'), P) → P → K (pc + plen is) L' st' h' → K pc L st h
def R_sub (K : KT) : Prop := ∀ (pc : Nat) (L L' : ML) (st : List MV) (h : MH), (∀ q ∈ L', q ∈ L) → K pc L' st h → K pc L st h
def R_goto (cc : ByteArray) (K : KT) : Prop := ∀ (pc : Nat) (off : Int) (tgt : Nat) (L : ML) (st : List MV) (h : MH), dk cc pc (.goto off) 3 = true → (pc : Int) + off = (tgt : Int) → K tgt L st h → K pc L st h
def R_icmp (cc : ByteArray) (K : KT) : Prop := ∀ (pc : Nat) (cd : ClassFile.Cond) (off : Int) (tgt : Nat) (L : ML) (st : List MV) (h : MH) (x y : Int), dk cc pc (.if_icmp cd off) 3 = true → (pc : Int) + off = (tgt : Int) → (cmpB cd x y → K (jt cd tgt (pc + 3)) L st h) → (¬ cmpB cd x y → K (jt cd (pc + 3) tgt) L st h) → K pc L (vI y :: vI x :: st) h
def R_ifz (cc : ByteArray) (K : KT) : Prop := ∀ (pc : Nat) (cd : ClassFile.Cond) (off : Int) (tgt : Nat) (L : ML) (st : List MV) (h : MH) (x : Int), dk cc pc (.ifCond cd off) 3 = true → (pc : Int) + off = (tgt : Int) → (cmpB cd x 0 → K (jt cd tgt (pc + 3)) L st h) → (¬ cmpB cd x 0 → K (jt cd (pc + 3) tgt) L st h) → K pc L (vI x :: st) h
def R_null (cc : ByteArray) (K : KT) : Prop := ∀ (pc : Nat) (off : Int) (tgt : Nat) (L : ML) (st : List MV) (h : MH) (o : Option Nat), dk cc pc (.ifnull off) 3 = true → (pc : Int) + off = (tgt : Int) → (o = none → K tgt L st h) → (∀ i, o = some i → K (pc + 3) L st h) → K pc L (vO o :: st) h
def R_sw (cc : ByteArray) (K : KT) : Prop := ∀ (pc : Nat) (dflt lo hi : Int) (offs : Array Int) (len : Nat) (L : ML) (st : List MV) (h : MH) (x : Int), dk cc pc (.tableswitch dflt lo hi offs) len = true → ((0 ≤ (pc : Int) + dflt) ∧ (∀ o ∈ offs.toList, 0 ≤ (pc : Int) + o) ∧ hi - lo < offs.toList.length) → K (swT pc dflt lo hi offs.toList x) L st h → K pc L (vI x :: st) h
def R_ldc (own : String) (cc : ByteArray) (K : KT) : Prop := ∀ (pc : Nat) (L : ML) (st : List MV) (h : MH), own = "HunkSlides" → dk cc pc (.ldc sgIdx) 2 = true → K (pc + 2) L (vR 101 :: st) h → K pc L st h
def R_callV (own : String) (cc : ByteArray) (d : Nat) (K : KT) : Prop := ∀ (pc idx d' ci i maxL : Nat) (y : MethodName) (bytes : ByteArray) (ret' : Option FieldType) (vs rest : List MV) (L : ML) (h h' : MH) (r : Option MV), MY y bytes maxL ret' vs.length → VW own idx y → d' < d →
    CON d' y bytes maxL ret' (vR i :: vs) h r h' → kd i = ci + 2 → (vwCl[ci]?).map (fun q => q.1) = some y.cls → rest.length ≤ 4 → dk cc pc (.invokevirtual idx) 3 = true → K (pc + 3) L (r.toList ++ rest) h' → K pc L (vs.reverse ++ vR i :: rest) h
def R_callS (own : String) (cc : ByteArray) (d : Nat) (K : KT) : Prop := ∀ (pc idx d' maxL : Nat) (y : MethodName) (bytes : ByteArray) (ret' : Option FieldType) (vs rest : List MV) (L : ML) (h h' : MH) (r : Option MV), MY y bytes maxL ret' vs.length → SW own idx y → d' < d →
    CON d' y bytes maxL ret' vs h r h' → rest.length ≤ 4 → dk cc pc (.invokestatic idx) 3 = true → K (pc + 3) L (r.toList ++ rest) h' → K pc L (vs.reverse ++ rest) h
def R_callG (own : String) (cc : ByteArray) (d : Nat) (K : KT) : Prop := ∀ (pc idx d' maxL : Nat) (y : MethodName) (bytes : ByteArray) (ret' : Option FieldType) (vs rest : List MV) (L : ML) (h h' : MH) (r : Option MV), y.cls = "java/lang/String" → MY y bytes maxL ret' vs.length → VW own idx y → d' < d →
    CON d' y bytes maxL ret' (vR 101 :: vs) h r h' → rest.length ≤ 4 → dk cc pc (.invokevirtual idx) 3 = true → K (pc + 3) L (r.toList ++ rest) h' → K pc L (vs.reverse ++ vR 101 :: rest) h
def imax (x y : Int) : Int := if x < y then y else x
def imin (x y : Int) : Int := if y < x then y else x
def MW (own : String) (idx : Nat) (y : MethodName) (b : ByteArray) : Prop := Cond.methodLink own idx y ∈ TB ∧ Cond.static y ∈ TB ∧ Cond.initialized "java/lang/Math" ∈ TB ∧ Cond.code y b 2 (some .int) ∈ TB
set_option maxRecDepth 100000 in
theorem ldc_TB : Cond.constant RL 7 2147483647 ∈ TB := List.mem_filter.mpr ⟨List.mem_of_getElem? (i := 530) (by decide +kernel), by decide +kernel⟩
def R_math (own : String) (cc : ByteArray) (d : Nat) (K : KT) : Prop :=
  (∀ (pc idx : Nat) (L : ML) (st : List MV) (h : MH) (x y : Int), 1 ≤ d → MW own idx Lib.Math.max.name Lib.Math.max.code → st.length ≤ 4 → dk cc pc (.invokestatic idx) 3 = true → K (pc + 3) L (vI (imax x y) :: st) h → K pc L (vI y :: vI x :: st) h) ∧
  (∀ (pc idx : Nat) (L : ML) (st : List MV) (h : MH) (x y : Int), 1 ≤ d → MW own idx Lib.Math.min.name Lib.Math.min.code → st.length ≤ 4 → dk cc pc (.invokestatic idx) 3 = true → K (pc + 3) L (vI (imin x y) :: st) h → K pc L (vI y :: vI x :: st) h) ∧
  (∀ (pc : Nat) (L : ML) (st : List MV) (h : MH), own = RL → dk cc pc (.ldc 7) 2 = true → K (pc + 2) L (vI 2147483647 :: st) h → K pc L st h)
def R_ret (cc : ByteArray) (ret : Option FieldType) (Post : Option MV → MH → Prop) (K : KT) : Prop :=
  (∀ (pc : Nat) (L : ML) (h : MH) (z : Int), dk cc pc .ireturn 1 = true → ret = some .int → Post (some (vI z)) h → K pc L [vI z] h) ∧
  (∀ (pc : Nat) (L : ML) (h : MH) (z : Int), dk cc pc .ireturn 1 = true → ret = some .boolean → (z = 0 ∨ z = 1) → Post (some (vI z)) h → K pc L [vI z] h) ∧
  (∀ (pc : Nat) (L : ML) (h : MH) (o : Option Nat), dk cc pc .areturn 1 = true → (∃ n, ret = some (.object n)) → Post (some (vO o)) h → K pc L [vO o] h) ∧
  (∀ (pc : Nat) (L : ML) (h : MH) (z : UInt64), dk cc pc .dreturn 1 = true → ret = some .double → Post (some (vD z)) h → K pc L [vD z] h) ∧
  (∀ (pc : Nat) (L : ML) (h : MH), dk cc pc .return_ 1 = true → ret = none → Post none h → K pc L [] h)
def Rules (own : String) (cc : ByteArray) (nL : Nat) (ret : Option FieldType) (fl : Nat → Option (Nat × Nat)) (d : Nat) (K : KT) : Prop :=
  R_seg cc nL fl K ∧ R_sub K ∧ R_goto cc K ∧ R_icmp cc K ∧ R_ifz cc K ∧ R_null cc K ∧ R_sw cc K ∧ R_ldc own cc K ∧ R_callV own cc d K ∧ R_callS own cc d K ∧ R_callG own cc d K ∧ R_math own cc d K
section RULES
variable {p : Program} {l : Launch} {e : Env} {R : Room} {s : State} {m : MethodId} {args : Array Value} {below : List Frame} {meth : Method} {c : Code} {cells slots : Nat} {Q : State → Prop} {D : va_G} {cI cS : ClassId} {ad : Nat → Nat} {A : Nat → Prop} {nL : Nat}
variable {own : String} {cc : ByteArray} {ret : Option FieldType} {fl : Nat → Option (Nat × Nat)} {pc : Nat}
theorem dk_eq {I : Instr} {n : Nat} (h : dk cc pc I n = true) : decode cc pc = .ok (I, n) := of_decide_eq_true h
theorem wm_callG (hX : CX own cc nL ret p s m args meth c D cI cS ad A) {d : Nat} (hM : RMX d R cells slots) {idx d' maxL : Nat} {y : MethodName} {bytes : ByteArray} {ret' : Option FieldType} {vs rest : List MV} {L : ML} {h h' : MH} {r : Option MV} (hyc : y.cls = "java/lang/String") (hmy : MY y bytes maxL ret' vs.length) (hvw : VW own idx y) (hdd : d' < d)
    (hc : CON d' y bytes maxL ret' (vR 101 :: vs) h r h') (hrest : rest.length ≤ 4) (hd : decode cc pc = .ok (.invokevirtual idx, 3))
    (hk : WM p l e R s m args below meth c cells slots Q D cI cS ad A nL (pc + 3) L (r.toList ++ rest) h') : WM p l e R s m args below meth c cells slots Q D cI cS ad A nL pc L (vs.reverse ++ vR 101 :: rest) h := by
  obtain ⟨hx, hb, hml, hr, hown, hts, hK, hlocks, hE⟩ := hX
  intro hoL hoS H ls locs hw hS hl
  have hoV : ∀ v ∈ vR 101 :: vs, okV v := okc (v := vR 101) trivial (fun v hv => hoS v (List.mem_append_left _ (List.mem_reverse.mpr hv)))
  have hoR : ∀ v ∈ rest, okV v := fun v hv => hoS v (List.mem_append_right _ (List.mem_cons_of_mem _ hv))
  have hwin := wld_in hw
  have hsub := inA_sub hw
  have cw : CallW R s args own y.cls idx y bytes maxL ret' (Cond.code y bytes maxL ret' :: TB) (rmd d') 0 0 vs.length := by
    refine cwV (Ts := TB) vs.length hts (good_all ?_) rfl rfl rfl ⟨rfl, hmy.2.2.1⟩ ⟨?_, ?_⟩
    · intro w hw
      unfold wsV at hw
      simp only [List.cons_append, List.nil_append, List.mem_cons] at hw
      rcases hw with rfl | rfl | rfl | rfl | rfl | hw
      · exact hvw.1
      · exact hvw.2.1
      · exact hvw.2.2
      · exact hmy.2.1
      · exact hmy.1
      · exact hw
    · show d' + 1 ≤ R.frames
      have := hM.1
      omega
    · show 8 + (maxL + 11) + 40 * d' ≤ R.locals
      have := hM.2.1
      have := hmy.2.2.2
      omega
  have hrec := vk_recv (i := 0) hE.2.1 (by omega) hS
  have hrun := va_runV (As := vs.map (tv ad)) (rest := rest.map (tv ad)) (b := ad 101) (C := y.cls) (g := F0 m pc ls ((vs.reverse ++ vR 101 :: rest).map (tv ad))) (H := H) (locs := locs) (cells := cells) (slots := slots) (e := e) (below := below) (meth := meth)
    ⟨hx, hb, hml, hown, hts⟩ (hc l D cI cS ad hoV) cw ⟨PM_blind, by rw [hyc]; exact hrec, fun U hU hW => ⟨by simp [tv], by rw [hU]; exact hwin, va_K.moved hW.alike hK, by rw [hU]; exact EXT_down hE hS hW hsub⟩⟩ rfl (by simp) hl.1 (by simp [tv]) (lv_room (cat_sum hrest)) hd ⟨hM.2.2.1, hM.2.2.2⟩
  exact wm_back (idx := idx) hw hS hl hoL hoR hrun hk
theorem rules_ok (hX : CX own cc nL ret p s m args meth c D cI cS ad A) {d : Nat} (hM : RMX d R cells slots) (hf : flok own fl) : Rules own cc nL ret fl d (WM p l e R s m args below meth c cells slots Q D cI cS ad A nL) := by
  have hX0 := hX
  obtain ⟨hx, hb, hml, hr, hown, hts, hK, hlocks, hE⟩ := hX
  refine ⟨fun is pc L L' st st' h h' P => run_ok hX0 hf is pc L L' st st' h h' P, ?_, ?_, ?_, ?_, ?_, ?_, ?_, ?_, ?_, ?_, ?_, ?_, ?_⟩
  · intro pc L L' st h hs hk hoL hoS H ls locs hw hS hl
    refine hk (fun q hq => hoL q (hs q hq)) hoS H ls locs hw hS ⟨hl.1, hl.2.1, fun q hq => ?_⟩
    obtain ⟨q0, h1, rfl⟩ := List.mem_map.mp hq
    exact hl.2.2 _ (List.mem_map_of_mem (hs q0 h1))
  · intro pc off tgt L st h hd ht hk hoL hoS H ls locs hw hS hl
    exact lv_goto hx hb (dk_eq hd) ht (hk hoL hoS H ls locs hw hS hl)
  · intro pc cd off tgt L st h x y hd ht kt kf hoL hoS H ls locs hw hS hl
    have hy0 : inR y := hoS (vI y) List.mem_cons_self
    have hx0 : inR x := hoS (vI x) (List.mem_cons_of_mem _ List.mem_cons_self)
    have hoR : ∀ v ∈ st, okV v := fun v hv => hoS v (List.mem_cons_of_mem _ (List.mem_cons_of_mem _ hv))
    have d0 := dk_eq hd
    cases cd with
    | eq => exact lv_icmp_eq hx hb d0 ht (fun q => kt ((oi_eq hx0 hy0).mp q) hoL hoR H ls locs hw hS hl) (fun q => kf (fun z => q ((oi_eq hx0 hy0).mpr z)) hoL hoR H ls locs hw hS hl)
    | ne => exact lv_icmp_ne hx hb d0 ht (fun q => kf (fun z => q ((oi_eq hx0 hy0).mpr z)) hoL hoR H ls locs hw hS hl) (fun q => kt ((oi_eq hx0 hy0).mp q) hoL hoR H ls locs hw hS hl)
    | lt => exact lv_icmp_lt hx hb d0 ht (fun q => kt ((oi_lt hx0 hy0).mp q) hoL hoR H ls locs hw hS hl) (fun q => kf (fun z => q ((oi_lt hx0 hy0).mpr z)) hoL hoR H ls locs hw hS hl)
    | ge => exact lv_icmp_ge hx hb d0 ht (fun q => kf (fun z => by have := (oi_le hy0 hx0).mp q; unfold cmpB at z; omega) hoL hoR H ls locs hw hS hl) (fun q => kt (by unfold cmpB; have := mt (oi_le hy0 hx0).mpr q; omega) hoL hoR H ls locs hw hS hl)
    | gt => exact lv_icmp_gt hx hb d0 ht (fun q => kf (fun z => by have := (oi_lt hy0 hx0).mp q; unfold cmpB at z; omega) hoL hoR H ls locs hw hS hl) (fun q => kt (by unfold cmpB; have := mt (oi_lt hy0 hx0).mpr q; omega) hoL hoR H ls locs hw hS hl)
    | le => exact lv_icmp_le hx hb d0 ht (fun q => kt ((oi_le hx0 hy0).mp q) hoL hoR H ls locs hw hS hl) (fun q => kf (fun z => q ((oi_le hx0 hy0).mpr z)) hoL hoR H ls locs hw hS hl)
  · intro pc cd off tgt L st h x hd ht kt kf hoL hoS H ls locs hw hS hl
    have hy0 : inR (0 : Int) := by unfold inR; omega
    have hx0 : inR x := hoS (vI x) List.mem_cons_self
    have hoR : ∀ v ∈ st, okV v := fun v hv => hoS v (List.mem_cons_of_mem _ hv)
    have d0 := dk_eq hd
    cases cd with
    | eq => exact lv_if_eq hx hb d0 ht (fun q => kt ((oi_eq hx0 hy0).mp q) hoL hoR H ls locs hw hS hl) (fun q => kf (fun z => q ((oi_eq hx0 hy0).mpr z)) hoL hoR H ls locs hw hS hl)
    | ne => exact lv_if_ne hx hb d0 ht (fun q => kf (fun z => q ((oi_eq hx0 hy0).mpr z)) hoL hoR H ls locs hw hS hl) (fun q => kt ((oi_eq hx0 hy0).mp q) hoL hoR H ls locs hw hS hl)
    | lt => exact lv_if_lt hx hb d0 ht (fun q => kt ((oi_lt hx0 hy0).mp q) hoL hoR H ls locs hw hS hl) (fun q => kf (fun z => q ((oi_lt hx0 hy0).mpr z)) hoL hoR H ls locs hw hS hl)
    | ge => exact lv_if_ge hx hb d0 ht (fun q => kf (fun z => by have := (oi_le hy0 hx0).mp q; unfold cmpB at z; omega) hoL hoR H ls locs hw hS hl) (fun q => kt (by unfold cmpB; have := mt (oi_le hy0 hx0).mpr q; omega) hoL hoR H ls locs hw hS hl)
    | gt => exact lv_if_gt hx hb d0 ht (fun q => kf (fun z => by have := (oi_lt hy0 hx0).mp q; unfold cmpB at z; omega) hoL hoR H ls locs hw hS hl) (fun q => kt (by unfold cmpB; have := mt (oi_lt hy0 hx0).mpr q; omega) hoL hoR H ls locs hw hS hl)
    | le => exact lv_if_le hx hb d0 ht (fun q => kt ((oi_le hx0 hy0).mp q) hoL hoR H ls locs hw hS hl) (fun q => kf (fun z => q ((oi_le hx0 hy0).mpr z)) hoL hoR H ls locs hw hS hl)
  · intro pc off tgt L st h o hd ht kt kf hoL hoS H ls locs hw hS hl
    have hoR : ∀ v ∈ st, okV v := fun v hv => hoS v (List.mem_cons_of_mem _ hv)
    cases o with
    | none => exact lv_ifnullN hx hb (dk_eq hd) ht (kt rfl hoL hoR H ls locs hw hS hl)
    | some i => exact lv_ifnull hx hb (dk_eq hd) (kf i rfl hoL hoR H ls locs hw hS hl)
  · intro pc dflt lo hi offs len L st h x hd hq hk hoL hoS H ls locs hw hS hl
    have hx0 : inR x := hoS (vI x) List.mem_cons_self
    have hoR : ∀ v ∈ st, okV v := fun v hv => hoS v (List.mem_cons_of_mem _ hv)
    have k9 := hk hoL hoR H ls locs hw hS hl
    unfold swT at k9
    by_cases hc : x < lo ∨ hi < x
    · rw [if_pos hc] at k9
      exact lv_tableOut hx hb (dk_eq hd) (by rw [ti hx0]; exact hc) (tgt := ((pc : Int) + dflt).toNat) (by have := hq.1; omega) k9
    · rw [if_neg hc] at k9
      have hlen : (x - lo).toNat < offs.toList.length := by have := hq.2.2; omega
      have hget : offs[(x - lo).toNat]? = some (offs.toList.getD (x - lo).toNat 0) := by
        rw [← Array.getElem?_toList, List.getD_eq_getElem?_getD, List.getElem?_eq_getElem hlen]
        rfl
      have hmem : offs.toList.getD (x - lo).toNat 0 ∈ offs.toList := by
        rw [List.getD_eq_getElem?_getD, List.getElem?_eq_getElem hlen]
        exact List.getElem_mem hlen
      have hpos := hq.2.1 _ hmem
      exact lv_tableIn hx hb (dk_eq hd) (by rw [ti hx0]; omega) (by rw [ti hx0]; omega) (off := offs.toList.getD (x - lo).toNat 0) (by rw [ti hx0]; exact hget) (tgt := ((pc : Int) + offs.toList.getD (x - lo).toNat 0).toNat) (by omega) k9
  · intro pc L st h ho hd hk hoL hoS H ls locs hw hS hl
    subst ho
    exact va_ldcS hx hb hown hE.1 (dk_eq hd) (hk hoL (okc (v := vR 101) trivial hoS) H ls locs hw hS hl)
  · intro pc idx d' ci i maxL y bytes ret' vs rest L h h' r h1 h2 h3 h4 h5 h6 h7 h8 hk
    exact wm_callV hX0 hM h1 h2 h3 h4 h5 h6 h7 (dk_eq h8) hk
  · intro pc idx d' maxL y bytes ret' vs rest L h h' r h1 h2 h3 h4 h7 h8 hk
    exact wm_callS hX0 hM h1 h2 h3 h4 h7 (dk_eq h8) hk
  · intro pc idx d' maxL y bytes ret' vs rest L h h' r h0 h1 h2 h3 h4 h7 h8 hk
    exact wm_callG hX0 hM h0 h1 h2 h3 h4 h7 (dk_eq h8) hk
  · intro pc idx L st h x y h1 hm hlen hd hk hoL hoS H ls locs hw hS hl
    have hy0 : inR y := hoS (vI y) List.mem_cons_self
    have hx0 : inR x := hoS (vI x) (List.mem_cons_of_mem _ List.mem_cons_self)
    have hoR : ∀ v ∈ st, okV v := fun v hv => hoS v (List.mem_cons_of_mem _ (List.mem_cons_of_mem _ hv))
    have hv : okV (vI (imax x y)) := by show inR _; unfold imax; split <;> assumption
    have k9 := hk hoL (okc hv hoR) H ls locs hw hS hl
    have hs := cat_sum (ad := ad) hlen
    refine va_mmax hx hb (hml.trans hl.1.symm) hown (hts _ hm.1) (hts _ hm.2.1) (hts _ hm.2.2.1) (hts _ hm.2.2.2) (by have := hM.1; omega) (by have := hM.2.1; omega) hM.2.2.1 hM.2.2.2 (dk_eq hd) ?_
    have e9 : (if Int32.ofInt x < Int32.ofInt y then Int32.ofInt y else Int32.ofInt x) = Int32.ofInt (imax x y) := by
      unfold imax
      by_cases hc : x < y
      · rw [if_pos hc, if_pos ((oi_lt hx0 hy0).mpr hc)]
      · rw [if_neg hc, if_neg (fun z => hc ((oi_lt hx0 hy0).mp z))]
    rw [e9]
    exact k9
  · intro pc idx L st h x y h1 hm hlen hd hk hoL hoS H ls locs hw hS hl
    have hy0 : inR y := hoS (vI y) List.mem_cons_self
    have hx0 : inR x := hoS (vI x) (List.mem_cons_of_mem _ List.mem_cons_self)
    have hoR : ∀ v ∈ st, okV v := fun v hv => hoS v (List.mem_cons_of_mem _ (List.mem_cons_of_mem _ hv))
    have hv : okV (vI (imin x y)) := by show inR _; unfold imin; split <;> assumption
    have k9 := hk hoL (okc hv hoR) H ls locs hw hS hl
    have hs := cat_sum (ad := ad) hlen
    refine va_mmin hx hb (hml.trans hl.1.symm) hown (hts _ hm.1) (hts _ hm.2.1) (hts _ hm.2.2.1) (hts _ hm.2.2.2) (by have := hM.1; omega) (by have := hM.2.1; omega) hM.2.2.1 hM.2.2.2 (dk_eq hd) ?_
    have e9 : (if Int32.ofInt y < Int32.ofInt x then Int32.ofInt y else Int32.ofInt x) = Int32.ofInt (imin x y) := by
      unfold imin
      by_cases hc : y < x
      · rw [if_pos hc, if_pos ((oi_lt hy0 hx0).mpr hc)]
      · rw [if_neg hc, if_neg (fun z => hc ((oi_lt hy0 hx0).mp z))]
    rw [e9]
    exact k9
  · intro pc L st h ho hd hk hoL hoS H ls locs hw hS hl
    subst ho
    exact lv_ldc hx hb hown (hts _ ldc_TB) (dk_eq hd) (hk hoL (okc (v := vI 2147483647) (by show inR _; unfold inR; omega) hoS) H ls locs hw hS hl)
end RULES
def entL : Nat → List MV → ML
  | _, [] => []
  | i, v :: vs => (i, v) :: entL (i + 1) vs
theorem entL_args (ad : Nat → Nat) : ∀ (vs : List MV) (i : Nat), vs.all (fun v => !c2 v) = true → lv_args i (vs.map (tv ad)) = (entL i vs).map (tl ad) := by
  intro vs
  induction vs with
  | nil => intro i _; rfl
  | cons v vs ih =>
    intro i h
    simp only [List.all_cons, Bool.and_eq_true] at h
    have hc : (tv ad v).category = 1 := tv_cat1 (by simpa using h.1)
    simp only [List.map_cons, lv_args, entL, hc]
    rw [← ih (i + 1) h.2]
    rfl
theorem entL_len (ad : Nat → Nat) : ∀ (vs : List MV), vs.all (fun v => !c2 v) = true → (lg_sl (vs.map (tv ad))).length = vs.length := by
  intro vs
  induction vs with
  | nil => intro _; rfl
  | cons v vs ih =>
    intro h
    simp only [List.all_cons, Bool.and_eq_true] at h
    have hc : (tv ad v).category = 1 := tv_cat1 (by simpa using h.1)
    have := ih h.2
    unfold lg_sl at this ⊢
    simp only [List.map_cons, List.flatMap_cons, hc, List.length_append, List.length_cons]
    rw [this]
    simp
    omega
theorem entL_ok : ∀ (vs : List MV) (i : Nat), (∀ v ∈ vs, okV v) → ∀ q ∈ entL i vs, okV q.2 := by
  intro vs
  induction vs with
  | nil => intro i _ q hq; cases hq
  | cons v vs ih =>
    intro i h q hq
    rcases List.mem_cons.mp hq with rfl | hq
    · exact h v List.mem_cons_self
    · exact ih (i + 1) (fun v hv => h v (List.mem_cons_of_mem _ hv)) q hq
/-- a method's contract out of its walk -/
theorem con_of {own : String} {cc : ByteArray} {nL : Nat} {ret : Option FieldType} {fl : Nat → Option (Nat × Nat)} {d : Nat} {y : MethodName} {vs : List MV} {h : MH} {r : Option MV} {h' : MH} (hy : plainName y.cls = true) (hyo : y.cls = own) (hf : flok own fl) (hc : vs.all (fun v => !c2 v) = true) (hn : vs.length ≤ nL)
    (hK : ∀ K : KT, Rules own cc nL ret fl d K → R_ret cc ret (fun r' h2 => r' = r ∧ h2 = h') K → K 0 (entL 0 vs) [] h) : CON d y cc nL ret vs h r h' := by
  intro l D cI cS ad hov
  refine Met.ofW hy rfl ?_
  intro p e s m args below meth c s₁ B hml hv
  obtain ⟨rfl, hw, hKK, hE⟩ := hv
  have hx := B.exec
  have hb := B.bytes
  have hr := B.returns
  have hts := atoms_spec (ws := Cond.code y cc nL ret :: TB) B.pre
  have hown : s.vm.findClass own = some m.cls := by rw [← hyo]; exact findClass_of_methodNamed B.named
  have hlocks := B.notSynchronized
  have hX : CX own cc nL ret p s m (vs.map (tv ad)).toArray meth c D cI cS ad (inA ad) := ⟨hx, hb, hml, hr, hown, fun w hw => hts w (List.mem_cons_of_mem _ hw), hKK, hlocks, hE⟩
  have hM : RMX d (headSpec (Cond.code y cc nL ret :: TB) (rmd d)).room 0 0 := ⟨Nat.le_refl _, Nat.le_refl _, Nat.le_refl _, Nat.le_refl _⟩
  have hRu := rules_ok (l := l) (e := e) (below := below) (Q := MQ below (QM D cI cS ad r h') (vs.map (tv ad)).toArray s 0 0 (inA ad)) hX hM hf
  rw [lg_entry_eq]
  have hl := lv_entry (vs.map (tv ad)) (n := nL) (by rw [entL_len ad vs hc]; exact hn)
  generalize (lg_sl (vs.map (tv ad)) ++ List.replicate (nL - (lg_sl (vs.map (tv ad))).length) Slot.unset).toArray = ls at hl ⊢
  rw [entL_args ad vs 0 hc] at hl
  refine hK _ hRu ?_ (entL_ok vs 0 hov) (fun v hv => by cases hv) s.heap ls [] hw va_S.rf hl
  refine ⟨?_, ?_, ?_, ?_, ?_⟩
  · intro pc L h z hd hr2 ⟨e1, e2⟩ hoL hoS H ls locs hw hS hl
    subst e1; subst e2
    exact W.iret hx hb (by rw [hr, hr2]) (fun t ht hW => ⟨rfl, fun v hv => by cases hv; exact hoS _ List.mem_cons_self, by rw [ht]; exact hw, hS.F ht⟩) hS.2.2 (dk_eq hd)
  · intro pc L h z hd hr2 hz ⟨e1, e2⟩ hoL hoS H ls locs hw hS hl
    subst e1; subst e2
    exact W.zret (ty := .boolean) hx hb (by rw [hr, hr2]) (by rcases hz with rfl | rfl <;> decide) (fun t ht hW => ⟨rfl, fun v hv => by cases hv; exact hoS _ List.mem_cons_self, by rw [ht]; exact hw, hS.F ht⟩) hS.2.2 (dk_eq hd)
  · intro pc L h o hd hr2 ⟨e1, e2⟩ hoL hoS H ls locs hw hS hl
    subst e1; subst e2
    obtain ⟨n, hr2⟩ := hr2
    refine W.aret (v := tv ad (vO o)) (rt := .object n) hx hb (by rw [hr, hr2]) (Or.inl ⟨n, rfl⟩) ?_ (fun t ht hW => ⟨rfl, fun v hv => by cases hv; exact trivial, by rw [ht]; exact hw, hS.F ht⟩) hS.2.2 (dk_eq hd)
    cases o with
    | none => exact Or.inl rfl
    | some i => exact Or.inr ⟨_, rfl⟩
  · intro pc L h z hd hr2 ⟨e1, e2⟩ hoL hoS H ls locs hw hS hl
    subst e1; subst e2
    exact W.dret hx hb (by rw [hr, hr2]) (fun t ht hW => ⟨rfl, fun v hv => by cases hv; exact trivial, by rw [ht]; exact hw, hS.F ht⟩) hS.2.2 (dk_eq hd)
  · intro pc L h hd hr2 ⟨e1, e2⟩ hoL hoS H ls locs hw hS hl
    subst e1; subst e2
    exact W.vret hx hb (by rw [hr, hr2]) (fun t ht hW => ⟨rfl, fun v hv => (by cases hv), by rw [ht]; exact hw, hS.F ht⟩) hS.2.2 (dk_eq hd)
end
section
/-! ===== what the functions F_.. are made of, and the rules as the walks use them ===== -/
def FUEL : Nat := 1000
def gd {α : Type} (c : Prop) [Decidable c] (x : Option α) : Option α := if c then x else none
def om {α : Type} (o : Option Nat) (a : α) (f : Nat → α) : α := match o with
  | none => a
  | some i => f i
def os {α β γ : Type} (x : Option (Sum α β)) (f : α → Option γ) (g : β → Option γ) : Option γ := match x with
  | none => none
  | some (.inl a) => f a
  | some (.inr b) => g b
theorem ite_t {α : Type} {c : Prop} [Decidable c] {a b r : α} (hc : c) (h : (if c then a else b) = r) : a = r := by rwa [if_pos hc] at h
theorem ite_f {α : Type} {c : Prop} [Decidable c] {a b r : α} (hc : ¬ c) (h : (if c then a else b) = r) : b = r := by rwa [if_neg hc] at h
theorem gd_elim {α : Type} {c : Prop} [Decidable c] {x : Option α} {r : α} (h : gd c x = some r) : c ∧ x = some r := by
  unfold gd at h
  by_cases hc : c
  · rw [if_pos hc] at h; exact ⟨hc, h⟩
  · rw [if_neg hc] at h; cases h
theorem om_n {α : Type} {o : Option Nat} {a r : α} {f : Nat → α} (ho : o = none) (h : om o a f = r) : a = r := by subst ho; exact h
theorem om_s {α : Type} {o : Option Nat} {i : Nat} {a r : α} {f : Nat → α} (ho : o = some i) (h : om o a f = r) : f i = r := by subst ho; exact h
theorem os_elim {α β γ : Type} {x : Option (Sum α β)} {f : α → Option γ} {g : β → Option γ} {r : γ} (h : os x f g = some r) : ∃ out, x = some out ∧ (∀ a, out = Sum.inl a → f a = some r) ∧ (∀ b, out = Sum.inr b → g b = some r) := by
  cases x with
  | none => cases h
  | some out =>
    refine ⟨out, rfl, fun a ha => ?_, fun b hb => ?_⟩
    · subst ha; exact h
    · subst hb; exact h
theorem sub_of {L L' : ML} (ks : List Nat) (h : ks.filterMap (fun k => L[k]?) = L') : ∀ q ∈ L', q ∈ L := by
  intro q hq
  rw [← h] at hq
  obtain ⟨k, -, hk⟩ := List.mem_filterMap.mp hq
  exact List.mem_of_getElem? hk
section GRULES
variable {own : String} {cc : ByteArray} {nL : Nat} {ret : Option FieldType} {fl : Nat → Option (Nat × Nat)} {d : Nat} {K : KT} {L : ML} {st : List MV} {h : MH}
theorem g_seg (hK : Rules own cc nL ret fl d K) (is : List Instr) (pc pc' : Nat) {L1 : ML} {st1 : List MV} {h1 : MH} {P : Prop} (hs : sits cc pc is = true) (hr : mrun fl nL is L st h = some ((L1, st1, h1), P)) (hp : pc + plen is = pc') (hP : P) (k : K pc' L1 st1 h1) : K pc L st h := by
  subst hp
  exact hK.1 is pc L L1 st st1 h h1 P hs hr hP k
theorem g_goto (hK : Rules own cc nL ret fl d K) (pc : Nat) (off : Int) (tgt : Nat) (hd : dk cc pc (.goto off) 3 = true) (ht : (pc : Int) + off = (tgt : Int)) (k : K tgt L st h) : K pc L st h := hK.2.2.1 pc off tgt L st h hd ht k
theorem g_icmp (hK : Rules own cc nL ret fl d K) (pc : Nat) (cd : ClassFile.Cond) (off : Int) (tgt : Nat) {t1 t2 : Nat} {x y : Int} (hd : dk cc pc (.if_icmp cd off) 3 = true) (ht : (pc : Int) + off = (tgt : Int)) (h1 : jt cd tgt (pc + 3) = t1) (h2 : jt cd (pc + 3) tgt = t2) (kt : cmpB cd x y → K t1 L st h) (kf : ¬ cmpB cd x y → K t2 L st h) : K pc L (vI y :: vI x :: st) h := by
  subst h1; subst h2
  exact hK.2.2.2.1 pc cd off tgt L st h x y hd ht kt kf
theorem g_ifz (hK : Rules own cc nL ret fl d K) (pc : Nat) (cd : ClassFile.Cond) (off : Int) (tgt : Nat) {t1 t2 : Nat} {x : Int} (hd : dk cc pc (.ifCond cd off) 3 = true) (ht : (pc : Int) + off = (tgt : Int)) (h1 : jt cd tgt (pc + 3) = t1) (h2 : jt cd (pc + 3) tgt = t2) (kt : cmpB cd x 0 → K t1 L st h) (kf : ¬ cmpB cd x 0 → K t2 L st h) : K pc L (vI x :: st) h := by
  subst h1; subst h2
  exact hK.2.2.2.2.1 pc cd off tgt L st h x hd ht kt kf
theorem g_null (hK : Rules own cc nL ret fl d K) (pc : Nat) (off : Int) (tgt : Nat) {o : Option Nat} (hd : dk cc pc (.ifnull off) 3 = true) (ht : (pc : Int) + off = (tgt : Int)) (kt : o = none → K tgt L st h) (kf : ∀ i, o = some i → K (pc + 3) L st h) : K pc L (vO o :: st) h := hK.2.2.2.2.2.1 pc off tgt L st h o hd ht kt kf
theorem g_sw (hK : Rules own cc nL ret fl d K) (pc : Nat) (dflt lo hi : Int) (offs : Array Int) (len : Nat) {x : Int} (hd : dk cc pc (.tableswitch dflt lo hi offs) len = true) (hq : (0 ≤ (pc : Int) + dflt) ∧ (∀ o ∈ offs.toList, 0 ≤ (pc : Int) + o) ∧ hi - lo < offs.toList.length) (k : K (swT pc dflt lo hi offs.toList x) L st h) : K pc L (vI x :: st) h := hK.2.2.2.2.2.2.1 pc dflt lo hi offs len L st h x hd hq k
theorem g_ldc (hK : Rules own cc nL ret fl d K) (pc pc' : Nat) (ho : own = "HunkSlides") (hd : dk cc pc (.ldc sgIdx) 2 = true) (hp : pc + 2 = pc') (k : K pc' L (vR 101 :: st) h) : K pc L st h := by
  subst hp
  exact hK.2.2.2.2.2.2.2.1 pc L st h ho hd k
theorem g_callV1 (hK : Rules own cc nL ret fl d K) (pc idx : Nat) {d1 ci i maxL : Nat} {y : MethodName} {bytes : ByteArray} {ret' : Option FieldType} {vs rest : List MV} {h1 : MH} {r : MV} (hmy : MY y bytes maxL ret' vs.length) (hvw : VW own idx y) (hdd : d1 < d) (hc : CON d1 y bytes maxL ret' (vR i :: vs) h (some r) h1) (hki : kd i = ci + 2) (hci : (vwCl[ci]?).map (fun q => q.1) = some y.cls) (hst : st = vs.reverse ++ vR i :: rest) (hrest : rest.length ≤ 4) (hd : dk cc pc (.invokevirtual idx) 3 = true) (k : K (pc + 3) L (r :: rest) h1) : K pc L st h := by
  subst hst
  exact hK.2.2.2.2.2.2.2.2.1 pc idx d1 ci i maxL y bytes ret' vs rest L h h1 (some r) hmy hvw hdd hc hki hci hrest hd k
theorem g_callV0 (hK : Rules own cc nL ret fl d K) (pc idx : Nat) {d1 ci i maxL : Nat} {y : MethodName} {bytes : ByteArray} {ret' : Option FieldType} {vs rest : List MV} {h1 : MH} (hmy : MY y bytes maxL ret' vs.length) (hvw : VW own idx y) (hdd : d1 < d) (hc : CON d1 y bytes maxL ret' (vR i :: vs) h none h1) (hki : kd i = ci + 2) (hci : (vwCl[ci]?).map (fun q => q.1) = some y.cls) (hst : st = vs.reverse ++ vR i :: rest) (hrest : rest.length ≤ 4) (hd : dk cc pc (.invokevirtual idx) 3 = true) (k : K (pc + 3) L rest h1) : K pc L st h := by
  subst hst
  exact hK.2.2.2.2.2.2.2.2.1 pc idx d1 ci i maxL y bytes ret' vs rest L h h1 none hmy hvw hdd hc hki hci hrest hd k
theorem g_callS1 (hK : Rules own cc nL ret fl d K) (pc idx : Nat) {d1 maxL : Nat} {y : MethodName} {bytes : ByteArray} {ret' : Option FieldType} {vs rest : List MV} {h1 : MH} {r : MV} (hmy : MY y bytes maxL ret' vs.length) (hsw : SW own idx y) (hdd : d1 < d) (hc : CON d1 y bytes maxL ret' vs h (some r) h1) (hst : st = vs.reverse ++ rest) (hrest : rest.length ≤ 4) (hd : dk cc pc (.invokestatic idx) 3 = true) (k : K (pc + 3) L (r :: rest) h1) : K pc L st h := by
  subst hst
  exact hK.2.2.2.2.2.2.2.2.2.1 pc idx d1 maxL y bytes ret' vs rest L h h1 (some r) hmy hsw hdd hc hrest hd k
theorem g_callS0 (hK : Rules own cc nL ret fl d K) (pc idx : Nat) {d1 maxL : Nat} {y : MethodName} {bytes : ByteArray} {ret' : Option FieldType} {vs rest : List MV} {h1 : MH} (hmy : MY y bytes maxL ret' vs.length) (hsw : SW own idx y) (hdd : d1 < d) (hc : CON d1 y bytes maxL ret' vs h none h1) (hst : st = vs.reverse ++ rest) (hrest : rest.length ≤ 4) (hd : dk cc pc (.invokestatic idx) 3 = true) (k : K (pc + 3) L rest h1) : K pc L st h := by
  subst hst
  exact hK.2.2.2.2.2.2.2.2.2.1 pc idx d1 maxL y bytes ret' vs rest L h h1 none hmy hsw hdd hc hrest hd k
theorem g_callG1 (hK : Rules own cc nL ret fl d K) (pc idx : Nat) {d1 maxL : Nat} {y : MethodName} {bytes : ByteArray} {ret' : Option FieldType} {vs rest : List MV} {r : MV} (hyc : y.cls = "java/lang/String") (hmy : MY y bytes maxL ret' vs.length) (hvw : VW own idx y) (hdd : d1 < d) (hc : CON d1 y bytes maxL ret' (vR 101 :: vs) h (some r) h) (hst : st = vs.reverse ++ vR 101 :: rest) (hrest : rest.length ≤ 4) (hd : dk cc pc (.invokevirtual idx) 3 = true) (k : K (pc + 3) L (r :: rest) h) : K pc L st h := by
  subst hst
  exact hK.2.2.2.2.2.2.2.2.2.2.1 pc idx d1 maxL y bytes ret' vs rest L h h (some r) hyc hmy hvw hdd hc hrest hd k
theorem g_mmax (hK : Rules own cc nL ret fl d K) (pc idx : Nat) {x y : Int} (h1 : 1 ≤ d) (hm : MW own idx Lib.Math.max.name Lib.Math.max.code) (hlen : st.length ≤ 4) (hd : dk cc pc (.invokestatic idx) 3 = true) (k : K (pc + 3) L (vI (imax x y) :: st) h) : K pc L (vI y :: vI x :: st) h := hK.2.2.2.2.2.2.2.2.2.2.2.1 pc idx L st h x y h1 hm hlen hd k
theorem g_mmin (hK : Rules own cc nL ret fl d K) (pc idx : Nat) {x y : Int} (h1 : 1 ≤ d) (hm : MW own idx Lib.Math.min.name Lib.Math.min.code) (hlen : st.length ≤ 4) (hd : dk cc pc (.invokestatic idx) 3 = true) (k : K (pc + 3) L (vI (imin x y) :: st) h) : K pc L (vI y :: vI x :: st) h := hK.2.2.2.2.2.2.2.2.2.2.2.2.1 pc idx L st h x y h1 hm hlen hd k
theorem g_ldi (hK : Rules own cc nL ret fl d K) (pc pc' : Nat) (ho : own = RL) (hd : dk cc pc (.ldc 7) 2 = true) (hp : pc + 2 = pc') (k : K pc' L (vI 2147483647 :: st) h) : K pc L st h := by
  subst hp
  exact hK.2.2.2.2.2.2.2.2.2.2.2.2.2 pc L st h ho hd k
end GRULES
theorem tb_in {w : Cond} (i : Nat) (h : lw_tbl[i]? = some w) (hg : goodWord w = true) : w ∈ TB := List.mem_filter.mpr ⟨List.mem_of_getElem? h, hg⟩
theorem tb_all {ws : List Cond} (h : ∀ w ∈ ws, w ∈ lw_tbl) (hg : ws.all goodWord = true) : ∀ w ∈ ws, w ∈ TB := fun w hw => List.mem_filter.mpr ⟨h w hw, List.all_eq_true.mp hg w hw⟩
theorem flok_of {own : String} {l : List (Nat × (Nat × Nat))} (h : ∀ q ∈ l, FLD own q.1 q.2.1 q.2.2) : flok own (fun i => l.lookup i) := by
  intro idx ci k
  induction l with
  | nil => intro hq; cases hq
  | cons q l ih =>
    intro hq
    obtain ⟨a, b⟩ := q
    have hq : ((a, b) :: l).lookup idx = some (ci, k) := hq
    rw [List.lookup_cons] at hq
    by_cases hc : idx = a
    · subst hc
      simp at hq
      have := h (idx, b) List.mem_cons_self
      rw [hq] at this
      exact this
    · have hne : (idx == a) = false := by simpa using hc
      rw [hne] at hq
      exact ih (fun q hq => h q (List.mem_cons_of_mem _ hq)) hq
theorem kt_all {a b k : Nat} (ha : a < 1000) (h : ((List.range NC).all (fun i => !(kd i == a) || (kd (rf i k) == b))) = true) {i : Nat} (hi : kd i = a) : kd (rf i k) = b := by
  have h1 := List.all_eq_true.mp h i (List.mem_range.mpr (kd_lt hi ha))
  simp [hi] at h1
  exact h1
def sg_length : Int := 9
def sg_indexOf (c : Int) : Int := if c = 97 then 0 else if c = 98 then 1 else if c = 99 then 2 else if c = 100 then 3 else if c = 101 then 4 else if c = 102 then 5 else if c = 46 then 6 else if c = 123 then 7 else if c = 125 then 8 else -1
def ob1 {α0 : Type} {β : Type} (x : Option (α0)) (f : α0 → Option β) : Option β := match x with
  | none => none
  | some x0 => f x0
theorem ob1_elim {α0 : Type} {β : Type} {x : Option (α0)} {f : α0 → Option β} {r : β} (h : ob1 x f = some r) : ∃ x0, x = some x0 ∧ f x0 = some r := by
  cases x with
  | none => cases h
  | some q => exact ⟨q, rfl, h⟩
def jn1 {α0 : Type} {β : Type} (x : α0) (f : α0 → β) : β := match x with
  | x0 => f x0
theorem jn1_elim {α0 : Type} {β : Type} {x : α0} {f : α0 → β} {r : β} (h : jn1 x f = r) : ∃ x0, x = x0 ∧ f x0 = r := ⟨x, rfl, h⟩
def jk1 {α0 : Type} {γ β : Type} (f : α0 → γ) (g : (α0 → γ) → β) : β := g f
theorem jk1_elim {α0 : Type} {γ β : Type} {f : α0 → γ} {g : (α0 → γ) → β} {r : β} (h : jk1 f g = r) : ∃ k, (∀ x0, k x0 = f x0) ∧ g k = r := ⟨f, fun x0 => rfl, h⟩
def ob2 {α0 α1 : Type} {β : Type} (x : Option (α0 × α1)) (f : α0 → α1 → Option β) : Option β := match x with
  | none => none
  | some (x0, x1) => f x0 x1
theorem ob2_elim {α0 α1 : Type} {β : Type} {x : Option (α0 × α1)} {f : α0 → α1 → Option β} {r : β} (h : ob2 x f = some r) : ∃ x0, ∃ x1, x = some (x0, x1) ∧ f x0 x1 = some r := by
  cases x with
  | none => cases h
  | some q => exact ⟨q.1, q.2, rfl, h⟩
def jn2 {α0 α1 : Type} {β : Type} (x : α0 × α1) (f : α0 → α1 → β) : β := match x with
  | (x0, x1) => f x0 x1
theorem jn2_elim {α0 α1 : Type} {β : Type} {x : α0 × α1} {f : α0 → α1 → β} {r : β} (h : jn2 x f = r) : ∃ x0, ∃ x1, x = (x0, x1) ∧ f x0 x1 = r := ⟨x.1, x.2, rfl, h⟩
def jk2 {α0 α1 : Type} {γ β : Type} (f : α0 → α1 → γ) (g : (α0 → α1 → γ) → β) : β := g f
theorem jk2_elim {α0 α1 : Type} {γ β : Type} {f : α0 → α1 → γ} {g : (α0 → α1 → γ) → β} {r : β} (h : jk2 f g = r) : ∃ k, (∀ x0 x1, k x0 x1 = f x0 x1) ∧ g k = r := ⟨f, fun x0 x1 => rfl, h⟩
def ob3 {α0 α1 α2 : Type} {β : Type} (x : Option (α0 × α1 × α2)) (f : α0 → α1 → α2 → Option β) : Option β := match x with
  | none => none
  | some (x0, x1, x2) => f x0 x1 x2
theorem ob3_elim {α0 α1 α2 : Type} {β : Type} {x : Option (α0 × α1 × α2)} {f : α0 → α1 → α2 → Option β} {r : β} (h : ob3 x f = some r) : ∃ x0, ∃ x1, ∃ x2, x = some (x0, x1, x2) ∧ f x0 x1 x2 = some r := by
  cases x with
  | none => cases h
  | some q => exact ⟨q.1, q.2.1, q.2.2, rfl, h⟩
def jn3 {α0 α1 α2 : Type} {β : Type} (x : α0 × α1 × α2) (f : α0 → α1 → α2 → β) : β := match x with
  | (x0, x1, x2) => f x0 x1 x2
theorem jn3_elim {α0 α1 α2 : Type} {β : Type} {x : α0 × α1 × α2} {f : α0 → α1 → α2 → β} {r : β} (h : jn3 x f = r) : ∃ x0, ∃ x1, ∃ x2, x = (x0, x1, x2) ∧ f x0 x1 x2 = r := ⟨x.1, x.2.1, x.2.2, rfl, h⟩
def jk3 {α0 α1 α2 : Type} {γ β : Type} (f : α0 → α1 → α2 → γ) (g : (α0 → α1 → α2 → γ) → β) : β := g f
theorem jk3_elim {α0 α1 α2 : Type} {γ β : Type} {f : α0 → α1 → α2 → γ} {g : (α0 → α1 → α2 → γ) → β} {r : β} (h : jk3 f g = r) : ∃ k, (∀ x0 x1 x2, k x0 x1 x2 = f x0 x1 x2) ∧ g k = r := ⟨f, fun x0 x1 x2 => rfl, h⟩
def ob4 {α0 α1 α2 α3 : Type} {β : Type} (x : Option (α0 × α1 × α2 × α3)) (f : α0 → α1 → α2 → α3 → Option β) : Option β := match x with
  | none => none
  | some (x0, x1, x2, x3) => f x0 x1 x2 x3
theorem ob4_elim {α0 α1 α2 α3 : Type} {β : Type} {x : Option (α0 × α1 × α2 × α3)} {f : α0 → α1 → α2 → α3 → Option β} {r : β} (h : ob4 x f = some r) : ∃ x0, ∃ x1, ∃ x2, ∃ x3, x = some (x0, x1, x2, x3) ∧ f x0 x1 x2 x3 = some r := by
  cases x with
  | none => cases h
  | some q => exact ⟨q.1, q.2.1, q.2.2.1, q.2.2.2, rfl, h⟩
def jn4 {α0 α1 α2 α3 : Type} {β : Type} (x : α0 × α1 × α2 × α3) (f : α0 → α1 → α2 → α3 → β) : β := match x with
  | (x0, x1, x2, x3) => f x0 x1 x2 x3
theorem jn4_elim {α0 α1 α2 α3 : Type} {β : Type} {x : α0 × α1 × α2 × α3} {f : α0 → α1 → α2 → α3 → β} {r : β} (h : jn4 x f = r) : ∃ x0, ∃ x1, ∃ x2, ∃ x3, x = (x0, x1, x2, x3) ∧ f x0 x1 x2 x3 = r := ⟨x.1, x.2.1, x.2.2.1, x.2.2.2, rfl, h⟩
def jk4 {α0 α1 α2 α3 : Type} {γ β : Type} (f : α0 → α1 → α2 → α3 → γ) (g : (α0 → α1 → α2 → α3 → γ) → β) : β := g f
theorem jk4_elim {α0 α1 α2 α3 : Type} {γ β : Type} {f : α0 → α1 → α2 → α3 → γ} {g : (α0 → α1 → α2 → α3 → γ) → β} {r : β} (h : jk4 f g = r) : ∃ k, (∀ x0 x1 x2 x3, k x0 x1 x2 x3 = f x0 x1 x2 x3) ∧ g k = r := ⟨f, fun x0 x1 x2 x3 => rfl, h⟩
def ob5 {α0 α1 α2 α3 α4 : Type} {β : Type} (x : Option (α0 × α1 × α2 × α3 × α4)) (f : α0 → α1 → α2 → α3 → α4 → Option β) : Option β := match x with
  | none => none
  | some (x0, x1, x2, x3, x4) => f x0 x1 x2 x3 x4
theorem ob5_elim {α0 α1 α2 α3 α4 : Type} {β : Type} {x : Option (α0 × α1 × α2 × α3 × α4)} {f : α0 → α1 → α2 → α3 → α4 → Option β} {r : β} (h : ob5 x f = some r) : ∃ x0, ∃ x1, ∃ x2, ∃ x3, ∃ x4, x = some (x0, x1, x2, x3, x4) ∧ f x0 x1 x2 x3 x4 = some r := by
  cases x with
  | none => cases h
  | some q => exact ⟨q.1, q.2.1, q.2.2.1, q.2.2.2.1, q.2.2.2.2, rfl, h⟩
def jn5 {α0 α1 α2 α3 α4 : Type} {β : Type} (x : α0 × α1 × α2 × α3 × α4) (f : α0 → α1 → α2 → α3 → α4 → β) : β := match x with
  | (x0, x1, x2, x3, x4) => f x0 x1 x2 x3 x4
theorem jn5_elim {α0 α1 α2 α3 α4 : Type} {β : Type} {x : α0 × α1 × α2 × α3 × α4} {f : α0 → α1 → α2 → α3 → α4 → β} {r : β} (h : jn5 x f = r) : ∃ x0, ∃ x1, ∃ x2, ∃ x3, ∃ x4, x = (x0, x1, x2, x3, x4) ∧ f x0 x1 x2 x3 x4 = r := ⟨x.1, x.2.1, x.2.2.1, x.2.2.2.1, x.2.2.2.2, rfl, h⟩
def jk5 {α0 α1 α2 α3 α4 : Type} {γ β : Type} (f : α0 → α1 → α2 → α3 → α4 → γ) (g : (α0 → α1 → α2 → α3 → α4 → γ) → β) : β := g f
theorem jk5_elim {α0 α1 α2 α3 α4 : Type} {γ β : Type} {f : α0 → α1 → α2 → α3 → α4 → γ} {g : (α0 → α1 → α2 → α3 → α4 → γ) → β} {r : β} (h : jk5 f g = r) : ∃ k, (∀ x0 x1 x2 x3 x4, k x0 x1 x2 x3 x4 = f x0 x1 x2 x3 x4) ∧ g k = r := ⟨f, fun x0 x1 x2 x3 x4 => rfl, h⟩
def ob6 {α0 α1 α2 α3 α4 α5 : Type} {β : Type} (x : Option (α0 × α1 × α2 × α3 × α4 × α5)) (f : α0 → α1 → α2 → α3 → α4 → α5 → Option β) : Option β := match x with
  | none => none
  | some (x0, x1, x2, x3, x4, x5) => f x0 x1 x2 x3 x4 x5
theorem ob6_elim {α0 α1 α2 α3 α4 α5 : Type} {β : Type} {x : Option (α0 × α1 × α2 × α3 × α4 × α5)} {f : α0 → α1 → α2 → α3 → α4 → α5 → Option β} {r : β} (h : ob6 x f = some r) : ∃ x0, ∃ x1, ∃ x2, ∃ x3, ∃ x4, ∃ x5, x = some (x0, x1, x2, x3, x4, x5) ∧ f x0 x1 x2 x3 x4 x5 = some r := by
  cases x with
  | none => cases h
  | some q => exact ⟨q.1, q.2.1, q.2.2.1, q.2.2.2.1, q.2.2.2.2.1, q.2.2.2.2.2, rfl, h⟩
def jn6 {α0 α1 α2 α3 α4 α5 : Type} {β : Type} (x : α0 × α1 × α2 × α3 × α4 × α5) (f : α0 → α1 → α2 → α3 → α4 → α5 → β) : β := match x with
  | (x0, x1, x2, x3, x4, x5) => f x0 x1 x2 x3 x4 x5
theorem jn6_elim {α0 α1 α2 α3 α4 α5 : Type} {β : Type} {x : α0 × α1 × α2 × α3 × α4 × α5} {f : α0 → α1 → α2 → α3 → α4 → α5 → β} {r : β} (h : jn6 x f = r) : ∃ x0, ∃ x1, ∃ x2, ∃ x3, ∃ x4, ∃ x5, x = (x0, x1, x2, x3, x4, x5) ∧ f x0 x1 x2 x3 x4 x5 = r := ⟨x.1, x.2.1, x.2.2.1, x.2.2.2.1, x.2.2.2.2.1, x.2.2.2.2.2, rfl, h⟩
def jk6 {α0 α1 α2 α3 α4 α5 : Type} {γ β : Type} (f : α0 → α1 → α2 → α3 → α4 → α5 → γ) (g : (α0 → α1 → α2 → α3 → α4 → α5 → γ) → β) : β := g f
theorem jk6_elim {α0 α1 α2 α3 α4 α5 : Type} {γ β : Type} {f : α0 → α1 → α2 → α3 → α4 → α5 → γ} {g : (α0 → α1 → α2 → α3 → α4 → α5 → γ) → β} {r : β} (h : jk6 f g = r) : ∃ k, (∀ x0 x1 x2 x3 x4 x5, k x0 x1 x2 x3 x4 x5 = f x0 x1 x2 x3 x4 x5) ∧ g k = r := ⟨f, fun x0 x1 x2 x3 x4 x5 => rfl, h⟩
def ob7 {α0 α1 α2 α3 α4 α5 α6 : Type} {β : Type} (x : Option (α0 × α1 × α2 × α3 × α4 × α5 × α6)) (f : α0 → α1 → α2 → α3 → α4 → α5 → α6 → Option β) : Option β := match x with
  | none => none
  | some (x0, x1, x2, x3, x4, x5, x6) => f x0 x1 x2 x3 x4 x5 x6
theorem ob7_elim {α0 α1 α2 α3 α4 α5 α6 : Type} {β : Type} {x : Option (α0 × α1 × α2 × α3 × α4 × α5 × α6)} {f : α0 → α1 → α2 → α3 → α4 → α5 → α6 → Option β} {r : β} (h : ob7 x f = some r) : ∃ x0, ∃ x1, ∃ x2, ∃ x3, ∃ x4, ∃ x5, ∃ x6, x = some (x0, x1, x2, x3, x4, x5, x6) ∧ f x0 x1 x2 x3 x4 x5 x6 = some r := by
  cases x with
  | none => cases h
  | some q => exact ⟨q.1, q.2.1, q.2.2.1, q.2.2.2.1, q.2.2.2.2.1, q.2.2.2.2.2.1, q.2.2.2.2.2.2, rfl, h⟩
def jn7 {α0 α1 α2 α3 α4 α5 α6 : Type} {β : Type} (x : α0 × α1 × α2 × α3 × α4 × α5 × α6) (f : α0 → α1 → α2 → α3 → α4 → α5 → α6 → β) : β := match x with
  | (x0, x1, x2, x3, x4, x5, x6) => f x0 x1 x2 x3 x4 x5 x6
theorem jn7_elim {α0 α1 α2 α3 α4 α5 α6 : Type} {β : Type} {x : α0 × α1 × α2 × α3 × α4 × α5 × α6} {f : α0 → α1 → α2 → α3 → α4 → α5 → α6 → β} {r : β} (h : jn7 x f = r) : ∃ x0, ∃ x1, ∃ x2, ∃ x3, ∃ x4, ∃ x5, ∃ x6, x = (x0, x1, x2, x3, x4, x5, x6) ∧ f x0 x1 x2 x3 x4 x5 x6 = r := ⟨x.1, x.2.1, x.2.2.1, x.2.2.2.1, x.2.2.2.2.1, x.2.2.2.2.2.1, x.2.2.2.2.2.2, rfl, h⟩
def jk7 {α0 α1 α2 α3 α4 α5 α6 : Type} {γ β : Type} (f : α0 → α1 → α2 → α3 → α4 → α5 → α6 → γ) (g : (α0 → α1 → α2 → α3 → α4 → α5 → α6 → γ) → β) : β := g f
theorem jk7_elim {α0 α1 α2 α3 α4 α5 α6 : Type} {γ β : Type} {f : α0 → α1 → α2 → α3 → α4 → α5 → α6 → γ} {g : (α0 → α1 → α2 → α3 → α4 → α5 → α6 → γ) → β} {r : β} (h : jk7 f g = r) : ∃ k, (∀ x0 x1 x2 x3 x4 x5 x6, k x0 x1 x2 x3 x4 x5 x6 = f x0 x1 x2 x3 x4 x5 x6) ∧ g k = r := ⟨f, fun x0 x1 x2 x3 x4 x5 x6 => rfl, h⟩
end
section
set_option maxRecDepth 100000 in
theorem in_X0 : ∀ w ∈ u_ws RX0 TX0 2, w ∈ TB := tb_all (by decide +kernel) (by decide +kernel)
set_option maxRecDepth 100000 in
theorem in_X1 : ∀ w ∈ u_ws RX1 TX1 2, w ∈ TB := tb_all (by decide +kernel) (by decide +kernel)
set_option maxRecDepth 100000 in
theorem in_X2 : ∀ w ∈ u_ws RX2 TX2 10, w ∈ TB := tb_all (by decide +kernel) (by decide +kernel)
set_option maxRecDepth 100000 in
theorem in_X3 : ∀ w ∈ u_ws RX3 TX3 2, w ∈ TB := tb_all (by decide +kernel) (by decide +kernel)
set_option maxRecDepth 100000 in
theorem in_X4 : ∀ w ∈ u_ws RX4 TX4 7, w ∈ TB := tb_all (by decide +kernel) (by decide +kernel)
set_option maxRecDepth 100000 in
theorem in_X5 : ∀ w ∈ u_ws RX5 TX5 5, w ∈ TB := tb_all (by decide +kernel) (by decide +kernel)
set_option maxRecDepth 100000 in
theorem in_X6 : ∀ w ∈ u_ws RX6 TX6 9, w ∈ TB := tb_all (by decide +kernel) (by decide +kernel)
def fl0 : Nat → Option (Nat × Nat) := fun i => ([] : List (Nat × (Nat × Nat))).lookup i
abbrev RX9 : String := RL
abbrev flX9 : Nat → Option (Nat × Nat) := fl0
theorem flok_X9 : flok RX9 flX9 := flok_of (fun q hq => by cases hq)
theorem flok_0 : flok "java/lang/Math" fl0 := flok_of (fun q hq => by cases hq)
set_option maxRecDepth 100000 in
theorem fld_X0_16 : FLD RX0 16 0 0 := ⟨RX0, TX0, 2, tyX0, rfl, by decide, by decide, rfl, (tb_in 106 (by decide +kernel) (by decide +kernel)), in_X0, tyX0_ok, nmX0, fun h => absurd h (by decide), fun h => absurd h (by decide), fun h => absurd (show fc 0 0 = 2 by decide) h⟩
set_option maxRecDepth 100000 in
theorem fld_X0_20 : FLD RX0 20 0 1 := ⟨RX0, TX0, 2, tyX0, rfl, by decide, by decide, rfl, (tb_in 107 (by decide +kernel) (by decide +kernel)), in_X0, tyX0_ok, nmX0, fun h => absurd h (by decide), fun h => absurd h (by decide), fun h => absurd (show fc 0 1 = 2 by decide) h⟩
def flX0 : Nat → Option (Nat × Nat) := fun i => ([(16, (0, 0)), (20, (0, 1))] : List (Nat × (Nat × Nat))).lookup i
theorem flok_X0 : flok RX0 flX0 := flok_of (List.forall_mem_cons.mpr ⟨fld_X0_16, List.forall_mem_cons.mpr ⟨fld_X0_20, List.forall_mem_nil _⟩⟩)
set_option maxRecDepth 100000 in
theorem fld_X1_11 : FLD RX1 11 1 0 := ⟨RX1, TX1, 2, tyX1, rfl, by decide, by decide, rfl, (tb_in 91 (by decide +kernel) (by decide +kernel)), in_X1, tyX1_ok, nmX1, fun h => absurd h (by decide), fun h => absurd h (by decide), fun h => absurd (show fc 1 0 = 2 by decide) h⟩
set_option maxRecDepth 100000 in
theorem fld_X1_17 : FLD RX1 17 1 1 := ⟨RX1, TX1, 2, tyX1, rfl, by decide, by decide, rfl, (tb_in 92 (by decide +kernel) (by decide +kernel)), in_X1, tyX1_ok, nmX1, fun _ => rfl, fun h => absurd h (by decide), fun _ => rfl⟩
def flX1 : Nat → Option (Nat × Nat) := fun i => ([(11, (1, 0)), (17, (1, 1))] : List (Nat × (Nat × Nat))).lookup i
theorem flok_X1 : flok RX1 flX1 := flok_of (List.forall_mem_cons.mpr ⟨fld_X1_11, List.forall_mem_cons.mpr ⟨fld_X1_17, List.forall_mem_nil _⟩⟩)
set_option maxRecDepth 100000 in
theorem fld_X2_14 : FLD RX2 14 2 0 := ⟨RX2, TX2, 10, tyX2, rfl, by decide, by decide, rfl, (tb_in 145 (by decide +kernel) (by decide +kernel)), in_X2, tyX2_ok, nmX2, fun h => absurd h (by decide), fun h => absurd h (by decide), fun h => absurd (show fc 2 0 = 2 by decide) h⟩
set_option maxRecDepth 100000 in
theorem fld_X2_20 : FLD RX2 20 2 1 := ⟨RX2, TX2, 10, tyX2, rfl, by decide, by decide, rfl, (tb_in 146 (by decide +kernel) (by decide +kernel)), in_X2, tyX2_ok, nmX2, fun h => absurd h (by decide), fun h => absurd h (by decide), fun h => absurd (show fc 2 1 = 2 by decide) h⟩
set_option maxRecDepth 100000 in
theorem fld_X2_23 : FLD RX2 23 2 2 := ⟨RX2, TX2, 10, tyX2, rfl, by decide, by decide, rfl, (tb_in 147 (by decide +kernel) (by decide +kernel)), in_X2, tyX2_ok, nmX2, fun h => absurd h (by decide), fun h => absurd h (by decide), fun h => absurd (show fc 2 2 = 2 by decide) h⟩
set_option maxRecDepth 100000 in
theorem fld_X2_26 : FLD RX2 26 2 3 := ⟨RX2, TX2, 10, tyX2, rfl, by decide, by decide, rfl, (tb_in 148 (by decide +kernel) (by decide +kernel)), in_X2, tyX2_ok, nmX2, fun h => absurd h (by decide), fun h => absurd h (by decide), fun h => absurd (show fc 2 3 = 2 by decide) h⟩
set_option maxRecDepth 100000 in
theorem fld_X2_29 : FLD RX2 29 2 4 := ⟨RX2, TX2, 10, tyX2, rfl, by decide, by decide, rfl, (tb_in 149 (by decide +kernel) (by decide +kernel)), in_X2, tyX2_ok, nmX2, fun h => absurd h (by decide), fun h => absurd h (by decide), fun h => absurd (show fc 2 4 = 2 by decide) h⟩
set_option maxRecDepth 100000 in
theorem fld_X2_32 : FLD RX2 32 2 5 := ⟨RX2, TX2, 10, tyX2, rfl, by decide, by decide, rfl, (tb_in 150 (by decide +kernel) (by decide +kernel)), in_X2, tyX2_ok, nmX2, fun _ => rfl, fun h => absurd h (by decide), fun _ => rfl⟩
set_option maxRecDepth 100000 in
theorem fld_X2_36 : FLD RX2 36 2 6 := ⟨RX2, TX2, 10, tyX2, rfl, by decide, by decide, rfl, (tb_in 151 (by decide +kernel) (by decide +kernel)), in_X2, tyX2_ok, nmX2, fun _ => rfl, fun h => absurd h (by decide), fun _ => rfl⟩
set_option maxRecDepth 100000 in
theorem fld_X2_39 : FLD RX2 39 2 7 := ⟨RX2, TX2, 10, tyX2, rfl, by decide, by decide, rfl, (tb_in 152 (by decide +kernel) (by decide +kernel)), in_X2, tyX2_ok, nmX2, fun _ => rfl, fun h => absurd h (by decide), fun _ => rfl⟩
set_option maxRecDepth 100000 in
theorem fld_X2_42 : FLD RX2 42 2 8 := ⟨RX2, TX2, 10, tyX2, rfl, by decide, by decide, rfl, (tb_in 153 (by decide +kernel) (by decide +kernel)), in_X2, tyX2_ok, nmX2, fun _ => rfl, fun h => absurd h (by decide), fun _ => rfl⟩
set_option maxRecDepth 100000 in
theorem fld_X2_45 : FLD RX2 45 2 9 := ⟨RX2, TX2, 10, tyX2, rfl, by decide, by decide, rfl, (tb_in 154 (by decide +kernel) (by decide +kernel)), in_X2, tyX2_ok, nmX2, fun _ => rfl, fun h => absurd h (by decide), fun _ => rfl⟩
def flX2 : Nat → Option (Nat × Nat) := fun i => ([(14, (2, 0)), (20, (2, 1)), (23, (2, 2)), (26, (2, 3)), (29, (2, 4)), (32, (2, 5)), (36, (2, 6)), (39, (2, 7)), (42, (2, 8)), (45, (2, 9))] : List (Nat × (Nat × Nat))).lookup i
theorem flok_X2 : flok RX2 flX2 := flok_of (List.forall_mem_cons.mpr ⟨fld_X2_14, List.forall_mem_cons.mpr ⟨fld_X2_20, List.forall_mem_cons.mpr ⟨fld_X2_23, List.forall_mem_cons.mpr ⟨fld_X2_26, List.forall_mem_cons.mpr ⟨fld_X2_29, List.forall_mem_cons.mpr ⟨fld_X2_32, List.forall_mem_cons.mpr ⟨fld_X2_36, List.forall_mem_cons.mpr ⟨fld_X2_39, List.forall_mem_cons.mpr ⟨fld_X2_42, List.forall_mem_cons.mpr ⟨fld_X2_45, List.forall_mem_nil _⟩⟩⟩⟩⟩⟩⟩⟩⟩⟩)
set_option maxRecDepth 100000 in
theorem fld_X3_7 : FLD RX3 7 3 1 := ⟨RX3, TX3, 2, tyX3, rfl, by decide, by decide, rfl, (tb_in 45 (by decide +kernel) (by decide +kernel)), in_X3, tyX3_ok, nmX3, fun _ => rfl, fun h => absurd h (by decide), fun _ => rfl⟩
set_option maxRecDepth 100000 in
theorem fld_X3_13 : FLD RX3 13 3 0 := ⟨RX3, TX3, 2, tyX3, rfl, by decide, by decide, rfl, (tb_in 44 (by decide +kernel) (by decide +kernel)), in_X3, tyX3_ok, nmX3, fun h => absurd h (by decide), fun h => absurd h (by decide), fun h => absurd (show fc 3 0 = 2 by decide) h⟩
def flX3 : Nat → Option (Nat × Nat) := fun i => ([(7, (3, 1)), (13, (3, 0))] : List (Nat × (Nat × Nat))).lookup i
theorem flok_X3 : flok RX3 flX3 := flok_of (List.forall_mem_cons.mpr ⟨fld_X3_7, List.forall_mem_cons.mpr ⟨fld_X3_13, List.forall_mem_nil _⟩⟩)
set_option maxRecDepth 100000 in
theorem fld_X4_14 : FLD RX4 14 4 0 := ⟨RX4, TX4, 7, tyX4, rfl, by decide, by decide, rfl, (tb_in 60 (by decide +kernel) (by decide +kernel)), in_X4, tyX4_ok, nmX4, fun h => absurd h (by decide), fun h => absurd h (by decide), fun h => absurd (show fc 4 0 = 2 by decide) h⟩
set_option maxRecDepth 100000 in
theorem fld_X4_20 : FLD RX4 20 4 1 := ⟨RX4, TX4, 7, tyX4, rfl, by decide, by decide, rfl, (tb_in 61 (by decide +kernel) (by decide +kernel)), in_X4, tyX4_ok, nmX4, fun h => absurd h (by decide), fun h => absurd h (by decide), fun h => absurd (show fc 4 1 = 2 by decide) h⟩
set_option maxRecDepth 100000 in
theorem fld_X4_23 : FLD RX4 23 4 2 := ⟨RX4, TX4, 7, tyX4, rfl, by decide, by decide, rfl, (tb_in 62 (by decide +kernel) (by decide +kernel)), in_X4, tyX4_ok, nmX4, fun h => absurd h (by decide), fun h => absurd h (by decide), fun h => absurd (show fc 4 2 = 2 by decide) h⟩
set_option maxRecDepth 100000 in
theorem fld_X4_26 : FLD RX4 26 4 3 := ⟨RX4, TX4, 7, tyX4, rfl, by decide, by decide, rfl, (tb_in 63 (by decide +kernel) (by decide +kernel)), in_X4, tyX4_ok, nmX4, fun _ => rfl, fun h => absurd h (by decide), fun _ => rfl⟩
set_option maxRecDepth 100000 in
theorem fld_X4_30 : FLD RX4 30 4 4 := ⟨RX4, TX4, 7, tyX4, rfl, by decide, by decide, rfl, (tb_in 64 (by decide +kernel) (by decide +kernel)), in_X4, tyX4_ok, nmX4, fun _ => rfl, fun h => absurd h (by decide), fun _ => rfl⟩
set_option maxRecDepth 100000 in
theorem fld_X4_33 : FLD RX4 33 4 5 := ⟨RX4, TX4, 7, tyX4, rfl, by decide, by decide, rfl, (tb_in 65 (by decide +kernel) (by decide +kernel)), in_X4, tyX4_ok, nmX4, fun _ => rfl, fun h => absurd h (by decide), fun _ => rfl⟩
set_option maxRecDepth 100000 in
theorem fld_X4_36 : FLD RX4 36 4 6 := ⟨RX4, TX4, 7, tyX4, rfl, by decide, by decide, rfl, (tb_in 66 (by decide +kernel) (by decide +kernel)), in_X4, tyX4_ok, nmX4, fun _ => rfl, fun h => absurd h (by decide), fun _ => rfl⟩
def flX4 : Nat → Option (Nat × Nat) := fun i => ([(14, (4, 0)), (20, (4, 1)), (23, (4, 2)), (26, (4, 3)), (30, (4, 4)), (33, (4, 5)), (36, (4, 6))] : List (Nat × (Nat × Nat))).lookup i
theorem flok_X4 : flok RX4 flX4 := flok_of (List.forall_mem_cons.mpr ⟨fld_X4_14, List.forall_mem_cons.mpr ⟨fld_X4_20, List.forall_mem_cons.mpr ⟨fld_X4_23, List.forall_mem_cons.mpr ⟨fld_X4_26, List.forall_mem_cons.mpr ⟨fld_X4_30, List.forall_mem_cons.mpr ⟨fld_X4_33, List.forall_mem_cons.mpr ⟨fld_X4_36, List.forall_mem_nil _⟩⟩⟩⟩⟩⟩⟩)
set_option maxRecDepth 100000 in
theorem fld_X5_14 : FLD RX5 14 5 0 := ⟨RX5, TX5, 5, tyX5, rfl, by decide, by decide, rfl, (tb_in 121 (by decide +kernel) (by decide +kernel)), in_X5, tyX5_ok, nmX5, fun h => absurd h (by decide), fun h => absurd h (by decide), fun h => absurd (show fc 5 0 = 2 by decide) h⟩
set_option maxRecDepth 100000 in
theorem fld_X5_20 : FLD RX5 20 5 1 := ⟨RX5, TX5, 5, tyX5, rfl, by decide, by decide, rfl, (tb_in 122 (by decide +kernel) (by decide +kernel)), in_X5, tyX5_ok, nmX5, fun h => absurd h (by decide), fun h => absurd h (by decide), fun h => absurd (show fc 5 1 = 2 by decide) h⟩
set_option maxRecDepth 100000 in
theorem fld_X5_23 : FLD RX5 23 5 2 := ⟨RX5, TX5, 5, tyX5, rfl, by decide, by decide, rfl, (tb_in 123 (by decide +kernel) (by decide +kernel)), in_X5, tyX5_ok, nmX5, fun h => absurd h (by decide), fun h => absurd h (by decide), fun h => absurd (show fc 5 2 = 2 by decide) h⟩
set_option maxRecDepth 100000 in
theorem fld_X5_26 : FLD RX5 26 5 3 := ⟨RX5, TX5, 5, tyX5, rfl, by decide, by decide, rfl, (tb_in 124 (by decide +kernel) (by decide +kernel)), in_X5, tyX5_ok, nmX5, fun h => absurd h (by decide), fun h => absurd h (by decide), fun h => absurd (show fc 5 3 = 2 by decide) h⟩
set_option maxRecDepth 100000 in
theorem fld_X5_29 : FLD RX5 29 5 4 := ⟨RX5, TX5, 5, tyX5, rfl, by decide, by decide, rfl, (tb_in 125 (by decide +kernel) (by decide +kernel)), in_X5, tyX5_ok, nmX5, fun h => absurd h (by decide), fun h => absurd h (by decide), fun h => absurd (show fc 5 4 = 2 by decide) h⟩
def flX5 : Nat → Option (Nat × Nat) := fun i => ([(14, (5, 0)), (20, (5, 1)), (23, (5, 2)), (26, (5, 3)), (29, (5, 4))] : List (Nat × (Nat × Nat))).lookup i
theorem flok_X5 : flok RX5 flX5 := flok_of (List.forall_mem_cons.mpr ⟨fld_X5_14, List.forall_mem_cons.mpr ⟨fld_X5_20, List.forall_mem_cons.mpr ⟨fld_X5_23, List.forall_mem_cons.mpr ⟨fld_X5_26, List.forall_mem_cons.mpr ⟨fld_X5_29, List.forall_mem_nil _⟩⟩⟩⟩⟩)
set_option maxRecDepth 100000 in
theorem fld_X6_14 : FLD RX6 14 6 0 := ⟨RX6, TX6, 9, tyX6, rfl, by decide, by decide, rfl, (tb_in 176 (by decide +kernel) (by decide +kernel)), in_X6, tyX6_ok, nmX6, fun h => absurd h (by decide), fun h => absurd h (by decide), fun h => absurd (show fc 6 0 = 2 by decide) h⟩
set_option maxRecDepth 100000 in
theorem fld_X6_21 : FLD RX6 21 6 1 := ⟨RX6, TX6, 9, tyX6, rfl, by decide, by decide, rfl, (tb_in 177 (by decide +kernel) (by decide +kernel)), in_X6, tyX6_ok, nmX6, fun h => absurd h (by decide), fun h => absurd h (by decide), fun h => absurd (show fc 6 1 = 2 by decide) h⟩
set_option maxRecDepth 100000 in
theorem fld_X6_25 : FLD RX6 25 6 2 := ⟨RX6, TX6, 9, tyX6, rfl, by decide, by decide, rfl, (tb_in 178 (by decide +kernel) (by decide +kernel)), in_X6, tyX6_ok, nmX6, fun h => absurd h (by decide), fun h => absurd h (by decide), fun h => absurd (show fc 6 2 = 2 by decide) h⟩
set_option maxRecDepth 100000 in
theorem fld_X6_28 : FLD RX6 28 6 3 := ⟨RX6, TX6, 9, tyX6, rfl, by decide, by decide, rfl, (tb_in 179 (by decide +kernel) (by decide +kernel)), in_X6, tyX6_ok, nmX6, fun h => absurd h (by decide), fun _ => rfl, fun _ => rfl⟩
set_option maxRecDepth 100000 in
theorem fld_X6_35 : FLD RX6 35 6 4 := ⟨RX6, TX6, 9, tyX6, rfl, by decide, by decide, rfl, (tb_in 180 (by decide +kernel) (by decide +kernel)), in_X6, tyX6_ok, nmX6, fun h => absurd h (by decide), fun h => absurd h (by decide), fun h => absurd (show fc 6 4 = 2 by decide) h⟩
set_option maxRecDepth 100000 in
theorem fld_X6_39 : FLD RX6 39 6 5 := ⟨RX6, TX6, 9, tyX6, rfl, by decide, by decide, rfl, (tb_in 181 (by decide +kernel) (by decide +kernel)), in_X6, tyX6_ok, nmX6, fun h => absurd h (by decide), fun h => absurd h (by decide), fun h => absurd (show fc 6 5 = 2 by decide) h⟩
set_option maxRecDepth 100000 in
theorem fld_X6_45 : FLD RX6 45 6 6 := ⟨RX6, TX6, 9, tyX6, rfl, by decide, by decide, rfl, (tb_in 182 (by decide +kernel) (by decide +kernel)), in_X6, tyX6_ok, nmX6, fun h => absurd h (by decide), fun h => absurd h (by decide), fun h => absurd (show fc 6 6 = 2 by decide) h⟩
set_option maxRecDepth 100000 in
theorem fld_X6_52 : FLD RX6 52 6 7 := ⟨RX6, TX6, 9, tyX6, rfl, by decide, by decide, rfl, (tb_in 183 (by decide +kernel) (by decide +kernel)), in_X6, tyX6_ok, nmX6, fun h => absurd h (by decide), fun h => absurd h (by decide), fun h => absurd (show fc 6 7 = 2 by decide) h⟩
set_option maxRecDepth 100000 in
theorem fld_X6_59 : FLD RX6 59 6 8 := ⟨RX6, TX6, 9, tyX6, rfl, by decide, by decide, rfl, (tb_in 184 (by decide +kernel) (by decide +kernel)), in_X6, tyX6_ok, nmX6, fun h => absurd h (by decide), fun h => absurd h (by decide), fun h => absurd (show fc 6 8 = 2 by decide) h⟩
def flX6 : Nat → Option (Nat × Nat) := fun i => ([(14, (6, 0)), (21, (6, 1)), (25, (6, 2)), (28, (6, 3)), (35, (6, 4)), (39, (6, 5)), (45, (6, 6)), (52, (6, 7)), (59, (6, 8))] : List (Nat × (Nat × Nat))).lookup i
theorem flok_X6 : flok RX6 flX6 := flok_of (List.forall_mem_cons.mpr ⟨fld_X6_14, List.forall_mem_cons.mpr ⟨fld_X6_21, List.forall_mem_cons.mpr ⟨fld_X6_25, List.forall_mem_cons.mpr ⟨fld_X6_28, List.forall_mem_cons.mpr ⟨fld_X6_35, List.forall_mem_cons.mpr ⟨fld_X6_39, List.forall_mem_cons.mpr ⟨fld_X6_45, List.forall_mem_cons.mpr ⟨fld_X6_52, List.forall_mem_cons.mpr ⟨fld_X6_59, List.forall_mem_nil _⟩⟩⟩⟩⟩⟩⟩⟩⟩)
set_option maxRecDepth 100000 in
theorem my_yX3_becomeZeros : MY yX3_becomeZeros cX3_becomeZeros 3 none 1 := ⟨(tb_in 227 (by decide +kernel) (by decide +kernel)), (tb_in 22 (by decide +kernel) (by decide +kernel)), ⟨by decide +kernel, by decide +kernel, by decide +kernel⟩, by decide⟩
set_option maxRecDepth 100000 in
theorem vw_X0_23 : VW RX0 23 yX3_becomeZeros := ⟨(tb_in 224 (by decide +kernel) (by decide +kernel)), (tb_in 225 (by decide +kernel) (by decide +kernel)), (tb_in 226 (by decide +kernel) (by decide +kernel))⟩
set_option maxRecDepth 100000 in
theorem my_yX3_size : MY yX3_size cX3_size 1 (Option.some Jvm.ClassFile.FieldType.int) 0 := ⟨(tb_in 239 (by decide +kernel) (by decide +kernel)), (tb_in 22 (by decide +kernel) (by decide +kernel)), ⟨by decide +kernel, by decide +kernel, by decide +kernel⟩, by decide⟩
set_option maxRecDepth 100000 in
theorem vw_X0_26 : VW RX0 26 yX3_size := ⟨(tb_in 236 (by decide +kernel) (by decide +kernel)), (tb_in 237 (by decide +kernel) (by decide +kernel)), (tb_in 238 (by decide +kernel) (by decide +kernel))⟩
set_option maxRecDepth 100000 in
theorem my_yX3_at : MY yX3_at cX3_at 2 (Option.some Jvm.ClassFile.FieldType.int) 1 := ⟨(tb_in 243 (by decide +kernel) (by decide +kernel)), (tb_in 22 (by decide +kernel) (by decide +kernel)), ⟨by decide +kernel, by decide +kernel, by decide +kernel⟩, by decide⟩
set_option maxRecDepth 100000 in
theorem vw_X0_30 : VW RX0 30 yX3_at := ⟨(tb_in 240 (by decide +kernel) (by decide +kernel)), (tb_in 241 (by decide +kernel) (by decide +kernel)), (tb_in 242 (by decide +kernel) (by decide +kernel))⟩
set_option maxRecDepth 100000 in
theorem my_yX0_keptFrom : MY yX0_keptFrom cX0_keptFrom 3 (Option.some Jvm.ClassFile.FieldType.int) 2 := ⟨(tb_in 247 (by decide +kernel) (by decide +kernel)), (tb_in 25 (by decide +kernel) (by decide +kernel)), ⟨by decide +kernel, by decide +kernel, by decide +kernel⟩, by decide⟩
set_option maxRecDepth 100000 in
theorem vw_X0_34 : VW RX0 34 yX0_keptFrom := ⟨(tb_in 244 (by decide +kernel) (by decide +kernel)), (tb_in 246 (by decide +kernel) (by decide +kernel)), (tb_in 1 (by decide +kernel) (by decide +kernel))⟩
set_option maxRecDepth 100000 in
theorem mw_X0_38 : MW RX0 38 Lib.Math.max.name Lib.Math.max.code := ⟨(tb_in 248 (by decide +kernel) (by decide +kernel)), (tb_in 249 (by decide +kernel) (by decide +kernel)), (tb_in 28 (by decide +kernel) (by decide +kernel)), (tb_in 250 (by decide +kernel) (by decide +kernel))⟩
set_option maxRecDepth 100000 in
theorem my_yX3_change : MY yX3_change cX3_change 3 none 2 := ⟨(tb_in 254 (by decide +kernel) (by decide +kernel)), (tb_in 22 (by decide +kernel) (by decide +kernel)), ⟨by decide +kernel, by decide +kernel, by decide +kernel⟩, by decide⟩
set_option maxRecDepth 100000 in
theorem vw_X0_43 : VW RX0 43 yX3_change := ⟨(tb_in 251 (by decide +kernel) (by decide +kernel)), (tb_in 252 (by decide +kernel) (by decide +kernel)), (tb_in 253 (by decide +kernel) (by decide +kernel))⟩
set_option maxRecDepth 100000 in
theorem my_yX0_compare : MY yX0_compare cX0_compare 6 none 2 := ⟨(tb_in 223 (by decide +kernel) (by decide +kernel)), (tb_in 25 (by decide +kernel) (by decide +kernel)), ⟨by decide +kernel, by decide +kernel, by decide +kernel⟩, by decide⟩
set_option maxRecDepth 100000 in
theorem vw_X0_49 : VW RX0 49 yX0_compare := ⟨(tb_in 523 (by decide +kernel) (by decide +kernel)), (tb_in 221 (by decide +kernel) (by decide +kernel)), (tb_in 222 (by decide +kernel) (by decide +kernel))⟩
set_option maxRecDepth 100000 in
theorem my_yX0_keptOf : MY yX0_keptOf cX0_keptOf 3 (Option.some Jvm.ClassFile.FieldType.int) 2 := ⟨(tb_in 522 (by decide +kernel) (by decide +kernel)), (tb_in 25 (by decide +kernel) (by decide +kernel)), ⟨by decide +kernel, by decide +kernel, by decide +kernel⟩, by decide⟩
set_option maxRecDepth 100000 in
theorem vw_X0_53 : VW RX0 53 yX0_keptOf := ⟨(tb_in 519 (by decide +kernel) (by decide +kernel)), (tb_in 520 (by decide +kernel) (by decide +kernel)), (tb_in 521 (by decide +kernel) (by decide +kernel))⟩
set_option maxRecDepth 100000 in
theorem my_yX0_entry : MY yX0_entry cX0_entry 5 (Option.some Jvm.ClassFile.FieldType.int) 2 := ⟨(tb_in 577 (by decide +kernel) (by decide +kernel)), (tb_in 25 (by decide +kernel) (by decide +kernel)), ⟨by decide +kernel, by decide +kernel, by decide +kernel⟩, by decide⟩
set_option maxRecDepth 100000 in
theorem vw_X0_57 : VW RX0 57 yX0_entry := ⟨(tb_in 574 (by decide +kernel) (by decide +kernel)), (tb_in 576 (by decide +kernel) (by decide +kernel)), (tb_in 19 (by decide +kernel) (by decide +kernel))⟩
set_option maxRecDepth 100000 in
theorem my_yX0_followKept : MY yX0_followKept cX0_followKept 5 (Option.some Jvm.ClassFile.FieldType.int) 4 := ⟨(tb_in 580 (by decide +kernel) (by decide +kernel)), (tb_in 25 (by decide +kernel) (by decide +kernel)), ⟨by decide +kernel, by decide +kernel, by decide +kernel⟩, by decide⟩
set_option maxRecDepth 100000 in
theorem sw_X0_60 : SW RX0 60 yX0_followKept := ⟨(tb_in 578 (by decide +kernel) (by decide +kernel)), (tb_in 579 (by decide +kernel) (by decide +kernel))⟩
set_option maxRecDepth 100000 in
theorem my_yX1_dropOldest : MY yX1_dropOldest cX1_dropOldest 2 none 0 := ⟨(tb_in 413 (by decide +kernel) (by decide +kernel)), (tb_in 24 (by decide +kernel) (by decide +kernel)), ⟨by decide +kernel, by decide +kernel, by decide +kernel⟩, by decide⟩
set_option maxRecDepth 100000 in
theorem vw_X1_22 : VW RX1 22 yX1_dropOldest := ⟨(tb_in 410 (by decide +kernel) (by decide +kernel)), (tb_in 412 (by decide +kernel) (by decide +kernel)), (tb_in 14 (by decide +kernel) (by decide +kernel))⟩
set_option maxRecDepth 100000 in
theorem my_yX1_slot : MY yX1_slot cX1_slot 2 (Option.some (Jvm.ClassFile.FieldType.object "HunkSlides$State")) 1 := ⟨(tb_in 417 (by decide +kernel) (by decide +kernel)), (tb_in 24 (by decide +kernel) (by decide +kernel)), ⟨by decide +kernel, by decide +kernel, by decide +kernel⟩, by decide⟩
set_option maxRecDepth 100000 in
theorem vw_X1_25 : VW RX1 25 yX1_slot := ⟨(tb_in 414 (by decide +kernel) (by decide +kernel)), (tb_in 416 (by decide +kernel) (by decide +kernel)), (tb_in 15 (by decide +kernel) (by decide +kernel))⟩
set_option maxRecDepth 100000 in
theorem my_yX1_copy : MY yX1_copy cX1_copy 2 none 2 := ⟨(tb_in 420 (by decide +kernel) (by decide +kernel)), (tb_in 24 (by decide +kernel) (by decide +kernel)), ⟨by decide +kernel, by decide +kernel, by decide +kernel⟩, by decide⟩
set_option maxRecDepth 100000 in
theorem sw_X1_29 : SW RX1 29 yX1_copy := ⟨(tb_in 418 (by decide +kernel) (by decide +kernel)), (tb_in 419 (by decide +kernel) (by decide +kernel))⟩
set_option maxRecDepth 100000 in
theorem my_yX4_become : MY yX4_become cX4_become 2 none 1 := ⟨(tb_in 424 (by decide +kernel) (by decide +kernel)), (tb_in 23 (by decide +kernel) (by decide +kernel)), ⟨by decide +kernel, by decide +kernel, by decide +kernel⟩, by decide⟩
set_option maxRecDepth 100000 in
theorem vw_X1_33 : VW RX1 33 yX4_become := ⟨(tb_in 421 (by decide +kernel) (by decide +kernel)), (tb_in 422 (by decide +kernel) (by decide +kernel)), (tb_in 423 (by decide +kernel) (by decide +kernel))⟩
set_option maxRecDepth 100000 in
theorem mw_X2_100 : MW RX2 100 Lib.Math.max.name Lib.Math.max.code := ⟨(tb_in 401 (by decide +kernel) (by decide +kernel)), (tb_in 249 (by decide +kernel) (by decide +kernel)), (tb_in 28 (by decide +kernel) (by decide +kernel)), (tb_in 250 (by decide +kernel) (by decide +kernel))⟩
set_option maxRecDepth 100000 in
theorem my_yX5_kind : MY yX5_kind cX5_kind 2 (Option.some Jvm.ClassFile.FieldType.int) 1 := ⟨(tb_in 364 (by decide +kernel) (by decide +kernel)), (tb_in 26 (by decide +kernel) (by decide +kernel)), ⟨by decide +kernel, by decide +kernel, by decide +kernel⟩, by decide⟩
set_option maxRecDepth 100000 in
theorem vw_X2_106 : VW RX2 106 yX5_kind := ⟨(tb_in 361 (by decide +kernel) (by decide +kernel)), (tb_in 362 (by decide +kernel) (by decide +kernel)), (tb_in 363 (by decide +kernel) (by decide +kernel))⟩
set_option maxRecDepth 100000 in
theorem my_yX5_sign : MY yX5_sign cX5_sign 2 (Option.some Jvm.ClassFile.FieldType.int) 1 := ⟨(tb_in 368 (by decide +kernel) (by decide +kernel)), (tb_in 26 (by decide +kernel) (by decide +kernel)), ⟨by decide +kernel, by decide +kernel, by decide +kernel⟩, by decide⟩
set_option maxRecDepth 100000 in
theorem vw_X2_109 : VW RX2 109 yX5_sign := ⟨(tb_in 365 (by decide +kernel) (by decide +kernel)), (tb_in 366 (by decide +kernel) (by decide +kernel)), (tb_in 367 (by decide +kernel) (by decide +kernel))⟩
set_option maxRecDepth 100000 in
theorem my_yX2_fitsAt : MY yX2_fitsAt cX2_fitsAt 3 (Option.some Jvm.ClassFile.FieldType.boolean) 1 := ⟨(tb_in 385 (by decide +kernel) (by decide +kernel)), (tb_in 27 (by decide +kernel) (by decide +kernel)), ⟨by decide +kernel, by decide +kernel, by decide +kernel⟩, by decide⟩
set_option maxRecDepth 100000 in
theorem vw_X2_112 : VW RX2 112 yX2_fitsAt := ⟨(tb_in 382 (by decide +kernel) (by decide +kernel)), (tb_in 384 (by decide +kernel) (by decide +kernel)), (tb_in 12 (by decide +kernel) (by decide +kernel))⟩
set_option maxRecDepth 100000 in
theorem my_yX3_putOut : MY yX3_putOut cX3_putOut 3 none 1 := ⟨(tb_in 395 (by decide +kernel) (by decide +kernel)), (tb_in 22 (by decide +kernel) (by decide +kernel)), ⟨by decide +kernel, by decide +kernel, by decide +kernel⟩, by decide⟩
set_option maxRecDepth 100000 in
theorem vw_X2_116 : VW RX2 116 yX3_putOut := ⟨(tb_in 392 (by decide +kernel) (by decide +kernel)), (tb_in 393 (by decide +kernel) (by decide +kernel)), (tb_in 394 (by decide +kernel) (by decide +kernel))⟩
set_option maxRecDepth 100000 in
theorem my_yX3_putIn : MY yX3_putIn cX3_putIn 4 none 2 := ⟨(tb_in 400 (by decide +kernel) (by decide +kernel)), (tb_in 22 (by decide +kernel) (by decide +kernel)), ⟨by decide +kernel, by decide +kernel, by decide +kernel⟩, by decide⟩
set_option maxRecDepth 100000 in
theorem vw_X2_118 : VW RX2 118 yX3_putIn := ⟨(tb_in 397 (by decide +kernel) (by decide +kernel)), (tb_in 398 (by decide +kernel) (by decide +kernel)), (tb_in 399 (by decide +kernel) (by decide +kernel))⟩
set_option maxRecDepth 100000 in
theorem my_yX3_become : MY yX3_become cX3_become 3 none 1 := ⟨(tb_in 335 (by decide +kernel) (by decide +kernel)), (tb_in 22 (by decide +kernel) (by decide +kernel)), ⟨by decide +kernel, by decide +kernel, by decide +kernel⟩, by decide⟩
set_option maxRecDepth 100000 in
theorem vw_X2_48 : VW RX2 48 yX3_become := ⟨(tb_in 332 (by decide +kernel) (by decide +kernel)), (tb_in 333 (by decide +kernel) (by decide +kernel)), (tb_in 334 (by decide +kernel) (by decide +kernel))⟩
set_option maxRecDepth 100000 in
theorem my_yX3_emptyOut : MY yX3_emptyOut cX3_emptyOut 1 none 0 := ⟨(tb_in 231 (by decide +kernel) (by decide +kernel)), (tb_in 22 (by decide +kernel) (by decide +kernel)), ⟨by decide +kernel, by decide +kernel, by decide +kernel⟩, by decide⟩
set_option maxRecDepth 100000 in
theorem vw_X2_52 : VW RX2 52 yX3_emptyOut := ⟨(tb_in 338 (by decide +kernel) (by decide +kernel)), (tb_in 229 (by decide +kernel) (by decide +kernel)), (tb_in 230 (by decide +kernel) (by decide +kernel))⟩
set_option maxRecDepth 100000 in
theorem my_yX5_hunks : MY yX5_hunks cX5_hunks 1 (Option.some Jvm.ClassFile.FieldType.int) 0 := ⟨(tb_in 278 (by decide +kernel) (by decide +kernel)), (tb_in 26 (by decide +kernel) (by decide +kernel)), ⟨by decide +kernel, by decide +kernel, by decide +kernel⟩, by decide⟩
set_option maxRecDepth 100000 in
theorem vw_X2_55 : VW RX2 55 yX5_hunks := ⟨(tb_in 339 (by decide +kernel) (by decide +kernel)), (tb_in 276 (by decide +kernel) (by decide +kernel)), (tb_in 277 (by decide +kernel) (by decide +kernel))⟩
set_option maxRecDepth 100000 in
theorem my_yX2_layOne : MY yX2_layOne cX2_layOne 10 none 4 := ⟨(tb_in 343 (by decide +kernel) (by decide +kernel)), (tb_in 27 (by decide +kernel) (by decide +kernel)), ⟨by decide +kernel, by decide +kernel, by decide +kernel⟩, by decide⟩
set_option maxRecDepth 100000 in
theorem vw_X2_61 : VW RX2 61 yX2_layOne := ⟨(tb_in 340 (by decide +kernel) (by decide +kernel)), (tb_in 342 (by decide +kernel) (by decide +kernel)), (tb_in 9 (by decide +kernel) (by decide +kernel))⟩
set_option maxRecDepth 100000 in
theorem vw_X2_65 : VW RX2 65 yX3_at := ⟨(tb_in 387 (by decide +kernel) (by decide +kernel)), (tb_in 241 (by decide +kernel) (by decide +kernel)), (tb_in 242 (by decide +kernel) (by decide +kernel))⟩
set_option maxRecDepth 100000 in
theorem my_yX5_around : MY yX5_around cX5_around 5 (Option.some Jvm.ClassFile.FieldType.int) 3 := ⟨(tb_in 347 (by decide +kernel) (by decide +kernel)), (tb_in 26 (by decide +kernel) (by decide +kernel)), ⟨by decide +kernel, by decide +kernel, by decide +kernel⟩, by decide⟩
set_option maxRecDepth 100000 in
theorem vw_X2_69 : VW RX2 69 yX5_around := ⟨(tb_in 344 (by decide +kernel) (by decide +kernel)), (tb_in 345 (by decide +kernel) (by decide +kernel)), (tb_in 346 (by decide +kernel) (by decide +kernel))⟩
set_option maxRecDepth 100000 in
theorem my_yX5_top : MY yX5_top cX5_top 2 (Option.some Jvm.ClassFile.FieldType.int) 1 := ⟨(tb_in 286 (by decide +kernel) (by decide +kernel)), (tb_in 26 (by decide +kernel) (by decide +kernel)), ⟨by decide +kernel, by decide +kernel, by decide +kernel⟩, by decide⟩
set_option maxRecDepth 100000 in
theorem vw_X2_73 : VW RX2 73 yX5_top := ⟨(tb_in 355 (by decide +kernel) (by decide +kernel)), (tb_in 284 (by decide +kernel) (by decide +kernel)), (tb_in 285 (by decide +kernel) (by decide +kernel))⟩
set_option maxRecDepth 100000 in
theorem my_yX5_end : MY yX5_end cX5_end 2 (Option.some Jvm.ClassFile.FieldType.int) 1 := ⟨(tb_in 290 (by decide +kernel) (by decide +kernel)), (tb_in 26 (by decide +kernel) (by decide +kernel)), ⟨by decide +kernel, by decide +kernel, by decide +kernel⟩, by decide⟩
set_option maxRecDepth 100000 in
theorem vw_X2_76 : VW RX2 76 yX5_end := ⟨(tb_in 356 (by decide +kernel) (by decide +kernel)), (tb_in 288 (by decide +kernel) (by decide +kernel)), (tb_in 289 (by decide +kernel) (by decide +kernel))⟩
set_option maxRecDepth 100000 in
theorem my_yX2_takeParts : MY yX2_takeParts cX2_takeParts 8 none 4 := ⟨(tb_in 360 (by decide +kernel) (by decide +kernel)), (tb_in 27 (by decide +kernel) (by decide +kernel)), ⟨by decide +kernel, by decide +kernel, by decide +kernel⟩, by decide⟩
set_option maxRecDepth 100000 in
theorem vw_X2_79 : VW RX2 79 yX2_takeParts := ⟨(tb_in 357 (by decide +kernel) (by decide +kernel)), (tb_in 359 (by decide +kernel) (by decide +kernel)), (tb_in 10 (by decide +kernel) (by decide +kernel))⟩
set_option maxRecDepth 100000 in
theorem my_yX5_newAhead : MY yX5_newAhead cX5_newAhead 2 (Option.some Jvm.ClassFile.FieldType.int) 1 := ⟨(tb_in 373 (by decide +kernel) (by decide +kernel)), (tb_in 26 (by decide +kernel) (by decide +kernel)), ⟨by decide +kernel, by decide +kernel, by decide +kernel⟩, by decide⟩
set_option maxRecDepth 100000 in
theorem vw_X2_82 : VW RX2 82 yX5_newAhead := ⟨(tb_in 370 (by decide +kernel) (by decide +kernel)), (tb_in 371 (by decide +kernel) (by decide +kernel)), (tb_in 372 (by decide +kernel) (by decide +kernel))⟩
set_option maxRecDepth 100000 in
theorem my_yX5_oldAhead : MY yX5_oldAhead cX5_oldAhead 2 (Option.some Jvm.ClassFile.FieldType.int) 1 := ⟨(tb_in 377 (by decide +kernel) (by decide +kernel)), (tb_in 26 (by decide +kernel) (by decide +kernel)), ⟨by decide +kernel, by decide +kernel, by decide +kernel⟩, by decide⟩
set_option maxRecDepth 100000 in
theorem vw_X2_85 : VW RX2 85 yX5_oldAhead := ⟨(tb_in 374 (by decide +kernel) (by decide +kernel)), (tb_in 375 (by decide +kernel) (by decide +kernel)), (tb_in 376 (by decide +kernel) (by decide +kernel))⟩
set_option maxRecDepth 100000 in
theorem my_yX2_search : MY yX2_search cX2_search 3 (Option.some Jvm.ClassFile.FieldType.int) 1 := ⟨(tb_in 381 (by decide +kernel) (by decide +kernel)), (tb_in 27 (by decide +kernel) (by decide +kernel)), ⟨by decide +kernel, by decide +kernel, by decide +kernel⟩, by decide⟩
set_option maxRecDepth 100000 in
theorem vw_X2_88 : VW RX2 88 yX2_search := ⟨(tb_in 378 (by decide +kernel) (by decide +kernel)), (tb_in 380 (by decide +kernel) (by decide +kernel)), (tb_in 11 (by decide +kernel) (by decide +kernel))⟩
set_option maxRecDepth 100000 in
theorem my_yX3_add : MY yX3_add cX3_add 2 none 1 := ⟨(tb_in 235 (by decide +kernel) (by decide +kernel)), (tb_in 22 (by decide +kernel) (by decide +kernel)), ⟨by decide +kernel, by decide +kernel, by decide +kernel⟩, by decide⟩
set_option maxRecDepth 100000 in
theorem vw_X2_91 : VW RX2 91 yX3_add := ⟨(tb_in 369 (by decide +kernel) (by decide +kernel)), (tb_in 233 (by decide +kernel) (by decide +kernel)), (tb_in 234 (by decide +kernel) (by decide +kernel))⟩
set_option maxRecDepth 100000 in
theorem my_yX2_replaceAt : MY yX2_replaceAt cX2_replaceAt 3 none 1 := ⟨(tb_in 391 (by decide +kernel) (by decide +kernel)), (tb_in 27 (by decide +kernel) (by decide +kernel)), ⟨by decide +kernel, by decide +kernel, by decide +kernel⟩, by decide⟩
set_option maxRecDepth 100000 in
theorem vw_X2_94 : VW RX2 94 yX2_replaceAt := ⟨(tb_in 388 (by decide +kernel) (by decide +kernel)), (tb_in 390 (by decide +kernel) (by decide +kernel)), (tb_in 13 (by decide +kernel) (by decide +kernel))⟩
set_option maxRecDepth 100000 in
theorem vw_X2_97 : VW RX2 97 yX3_size := ⟨(tb_in 386 (by decide +kernel) (by decide +kernel)), (tb_in 237 (by decide +kernel) (by decide +kernel)), (tb_in 238 (by decide +kernel) (by decide +kernel))⟩
set_option maxRecDepth 100000 in
theorem vw_X3_17 : VW RX3 17 yX3_at := ⟨(tb_in 337 (by decide +kernel) (by decide +kernel)), (tb_in 241 (by decide +kernel) (by decide +kernel)), (tb_in 242 (by decide +kernel) (by decide +kernel))⟩
set_option maxRecDepth 100000 in
theorem vw_X3_21 : VW RX3 21 yX3_change := ⟨(tb_in 396 (by decide +kernel) (by decide +kernel)), (tb_in 252 (by decide +kernel) (by decide +kernel)), (tb_in 253 (by decide +kernel) (by decide +kernel))⟩
set_option maxRecDepth 100000 in
theorem vw_X3_25 : VW RX3 25 yX3_emptyOut := ⟨(tb_in 228 (by decide +kernel) (by decide +kernel)), (tb_in 229 (by decide +kernel) (by decide +kernel)), (tb_in 230 (by decide +kernel) (by decide +kernel))⟩
set_option maxRecDepth 100000 in
theorem vw_X3_28 : VW RX3 28 yX3_size := ⟨(tb_in 336 (by decide +kernel) (by decide +kernel)), (tb_in 237 (by decide +kernel) (by decide +kernel)), (tb_in 238 (by decide +kernel) (by decide +kernel))⟩
set_option maxRecDepth 100000 in
theorem vw_X3_31 : VW RX3 31 yX3_add := ⟨(tb_in 232 (by decide +kernel) (by decide +kernel)), (tb_in 233 (by decide +kernel) (by decide +kernel)), (tb_in 234 (by decide +kernel) (by decide +kernel))⟩
set_option maxRecDepth 100000 in
theorem vw_X4_39 : VW RX4 39 yX3_become := ⟨(tb_in 425 (by decide +kernel) (by decide +kernel)), (tb_in 333 (by decide +kernel) (by decide +kernel)), (tb_in 334 (by decide +kernel) (by decide +kernel))⟩
set_option maxRecDepth 100000 in
theorem mw_X5_101 : MW RX5 101 Lib.Math.max.name Lib.Math.max.code := ⟨(tb_in 493 (by decide +kernel) (by decide +kernel)), (tb_in 249 (by decide +kernel) (by decide +kernel)), (tb_in 28 (by decide +kernel) (by decide +kernel)), (tb_in 250 (by decide +kernel) (by decide +kernel))⟩
set_option maxRecDepth 100000 in
theorem my_yX5_worth : MY yX5_worth cX5_worth 2 (Option.some Jvm.ClassFile.FieldType.int) 1 := ⟨(tb_in 488 (by decide +kernel) (by decide +kernel)), (tb_in 26 (by decide +kernel) (by decide +kernel)), ⟨by decide +kernel, by decide +kernel, by decide +kernel⟩, by decide⟩
set_option maxRecDepth 100000 in
theorem vw_X5_106 : VW RX5 106 yX5_worth := ⟨(tb_in 485 (by decide +kernel) (by decide +kernel)), (tb_in 486 (by decide +kernel) (by decide +kernel)), (tb_in 487 (by decide +kernel) (by decide +kernel))⟩
set_option maxRecDepth 100000 in
theorem my_yX5_barAt : MY yX5_barAt cX5_barAt 6 (Option.some Jvm.ClassFile.FieldType.int) 3 := ⟨(tb_in 318 (by decide +kernel) (by decide +kernel)), (tb_in 26 (by decide +kernel) (by decide +kernel)), ⟨by decide +kernel, by decide +kernel, by decide +kernel⟩, by decide⟩
set_option maxRecDepth 100000 in
theorem vw_X5_109 : VW RX5 109 yX5_barAt := ⟨(tb_in 315 (by decide +kernel) (by decide +kernel)), (tb_in 317 (by decide +kernel) (by decide +kernel)), (tb_in 6 (by decide +kernel) (by decide +kernel))⟩
set_option maxRecDepth 100000 in
theorem my_yX5_has : MY yX5_has cX5_has 2 (Option.some Jvm.ClassFile.FieldType.boolean) 1 := ⟨(tb_in 351 (by decide +kernel) (by decide +kernel)), (tb_in 26 (by decide +kernel) (by decide +kernel)), ⟨by decide +kernel, by decide +kernel, by decide +kernel⟩, by decide⟩
set_option maxRecDepth 100000 in
theorem vw_X5_113 : VW RX5 113 yX5_has := ⟨(tb_in 348 (by decide +kernel) (by decide +kernel)), (tb_in 349 (by decide +kernel) (by decide +kernel)), (tb_in 350 (by decide +kernel) (by decide +kernel))⟩
set_option maxRecDepth 100000 in
theorem mw_X5_116 : MW RX5 116 Lib.Math.min.name Lib.Math.min.code := ⟨(tb_in 352 (by decide +kernel) (by decide +kernel)), (tb_in 353 (by decide +kernel) (by decide +kernel)), (tb_in 28 (by decide +kernel) (by decide +kernel)), (tb_in 354 (by decide +kernel) (by decide +kernel))⟩
set_option maxRecDepth 100000 in
theorem vw_X5_32 : VW RX5 32 yX0_compare := ⟨(tb_in 220 (by decide +kernel) (by decide +kernel)), (tb_in 221 (by decide +kernel) (by decide +kernel)), (tb_in 222 (by decide +kernel) (by decide +kernel))⟩
set_option maxRecDepth 100000 in
theorem vw_X5_38 : VW RX5 38 yX3_emptyOut := ⟨(tb_in 255 (by decide +kernel) (by decide +kernel)), (tb_in 229 (by decide +kernel) (by decide +kernel)), (tb_in 230 (by decide +kernel) (by decide +kernel))⟩
set_option maxRecDepth 100000 in
theorem vw_X5_41 : VW RX5 41 yX3_size := ⟨(tb_in 256 (by decide +kernel) (by decide +kernel)), (tb_in 237 (by decide +kernel) (by decide +kernel)), (tb_in 238 (by decide +kernel) (by decide +kernel))⟩
set_option maxRecDepth 100000 in
theorem my_yX0_step : MY yX0_step cX0_step 7 (Option.some Jvm.ClassFile.FieldType.int) 4 := ⟨(tb_in 260 (by decide +kernel) (by decide +kernel)), (tb_in 25 (by decide +kernel) (by decide +kernel)), ⟨by decide +kernel, by decide +kernel, by decide +kernel⟩, by decide⟩
set_option maxRecDepth 100000 in
theorem vw_X5_45 : VW RX5 45 yX0_step := ⟨(tb_in 257 (by decide +kernel) (by decide +kernel)), (tb_in 258 (by decide +kernel) (by decide +kernel)), (tb_in 259 (by decide +kernel) (by decide +kernel))⟩
set_option maxRecDepth 100000 in
theorem vw_X5_49 : VW RX5 49 yX3_add := ⟨(tb_in 261 (by decide +kernel) (by decide +kernel)), (tb_in 233 (by decide +kernel) (by decide +kernel)), (tb_in 234 (by decide +kernel) (by decide +kernel))⟩
set_option maxRecDepth 100000 in
theorem vw_X5_52 : VW RX5 52 yX3_at := ⟨(tb_in 262 (by decide +kernel) (by decide +kernel)), (tb_in 241 (by decide +kernel) (by decide +kernel)), (tb_in 242 (by decide +kernel) (by decide +kernel))⟩
set_option maxRecDepth 100000 in
theorem my_yX5_findHunks : MY yX5_findHunks cX5_findHunks 3 none 0 := ⟨(tb_in 266 (by decide +kernel) (by decide +kernel)), (tb_in 26 (by decide +kernel) (by decide +kernel)), ⟨by decide +kernel, by decide +kernel, by decide +kernel⟩, by decide⟩
set_option maxRecDepth 100000 in
theorem vw_X5_56 : VW RX5 56 yX5_findHunks := ⟨(tb_in 263 (by decide +kernel) (by decide +kernel)), (tb_in 265 (by decide +kernel) (by decide +kernel)), (tb_in 2 (by decide +kernel) (by decide +kernel))⟩
set_option maxRecDepth 100000 in
theorem my_yX5_size : MY yX5_size cX5_size 1 (Option.some Jvm.ClassFile.FieldType.int) 0 := ⟨(tb_in 270 (by decide +kernel) (by decide +kernel)), (tb_in 26 (by decide +kernel) (by decide +kernel)), ⟨by decide +kernel, by decide +kernel, by decide +kernel⟩, by decide⟩
set_option maxRecDepth 100000 in
theorem vw_X5_59 : VW RX5 59 yX5_size := ⟨(tb_in 267 (by decide +kernel) (by decide +kernel)), (tb_in 268 (by decide +kernel) (by decide +kernel)), (tb_in 269 (by decide +kernel) (by decide +kernel))⟩
set_option maxRecDepth 100000 in
theorem my_yX5_inHunk : MY yX5_inHunk cX5_inHunk 2 (Option.some Jvm.ClassFile.FieldType.boolean) 1 := ⟨(tb_in 274 (by decide +kernel) (by decide +kernel)), (tb_in 26 (by decide +kernel) (by decide +kernel)), ⟨by decide +kernel, by decide +kernel, by decide +kernel⟩, by decide⟩
set_option maxRecDepth 100000 in
theorem vw_X5_60 : VW RX5 60 yX5_inHunk := ⟨(tb_in 271 (by decide +kernel) (by decide +kernel)), (tb_in 273 (by decide +kernel) (by decide +kernel)), (tb_in 3 (by decide +kernel) (by decide +kernel))⟩
set_option maxRecDepth 100000 in
theorem vw_X5_64 : VW RX5 64 yX5_hunks := ⟨(tb_in 275 (by decide +kernel) (by decide +kernel)), (tb_in 276 (by decide +kernel) (by decide +kernel)), (tb_in 277 (by decide +kernel) (by decide +kernel))⟩
set_option maxRecDepth 100000 in
theorem my_yX5_linesOf : MY yX5_linesOf cX5_linesOf 3 (Option.some Jvm.ClassFile.FieldType.int) 2 := ⟨(tb_in 282 (by decide +kernel) (by decide +kernel)), (tb_in 26 (by decide +kernel) (by decide +kernel)), ⟨by decide +kernel, by decide +kernel, by decide +kernel⟩, by decide⟩
set_option maxRecDepth 100000 in
theorem vw_X5_67 : VW RX5 67 yX5_linesOf := ⟨(tb_in 279 (by decide +kernel) (by decide +kernel)), (tb_in 280 (by decide +kernel) (by decide +kernel)), (tb_in 281 (by decide +kernel) (by decide +kernel))⟩
set_option maxRecDepth 100000 in
theorem my_yX5_isPlain : MY yX5_isPlain cX5_isPlain 2 (Option.some Jvm.ClassFile.FieldType.boolean) 1 := ⟨(tb_in 306 (by decide +kernel) (by decide +kernel)), (tb_in 26 (by decide +kernel) (by decide +kernel)), ⟨by decide +kernel, by decide +kernel, by decide +kernel⟩, by decide⟩
set_option maxRecDepth 100000 in
theorem vw_X5_71 : VW RX5 71 yX5_isPlain := ⟨(tb_in 303 (by decide +kernel) (by decide +kernel)), (tb_in 304 (by decide +kernel) (by decide +kernel)), (tb_in 305 (by decide +kernel) (by decide +kernel))⟩
set_option maxRecDepth 100000 in
theorem my_yX5_bestTop : MY yX5_bestTop cX5_bestTop 6 (Option.some Jvm.ClassFile.FieldType.int) 1 := ⟨(tb_in 310 (by decide +kernel) (by decide +kernel)), (tb_in 26 (by decide +kernel) (by decide +kernel)), ⟨by decide +kernel, by decide +kernel, by decide +kernel⟩, by decide⟩
set_option maxRecDepth 100000 in
theorem vw_X5_74 : VW RX5 74 yX5_bestTop := ⟨(tb_in 307 (by decide +kernel) (by decide +kernel)), (tb_in 309 (by decide +kernel) (by decide +kernel)), (tb_in 5 (by decide +kernel) (by decide +kernel))⟩
set_option maxRecDepth 100000 in
theorem my_yX5_moveTo : MY yX5_moveTo cX5_moveTo 6 none 2 := ⟨(tb_in 326 (by decide +kernel) (by decide +kernel)), (tb_in 26 (by decide +kernel) (by decide +kernel)), ⟨by decide +kernel, by decide +kernel, by decide +kernel⟩, by decide⟩
set_option maxRecDepth 100000 in
theorem vw_X5_77 : VW RX5 77 yX5_moveTo := ⟨(tb_in 323 (by decide +kernel) (by decide +kernel)), (tb_in 325 (by decide +kernel) (by decide +kernel)), (tb_in 8 (by decide +kernel) (by decide +kernel))⟩
set_option maxRecDepth 100000 in
theorem vw_X5_81 : VW RX5 81 yX5_top := ⟨(tb_in 283 (by decide +kernel) (by decide +kernel)), (tb_in 284 (by decide +kernel) (by decide +kernel)), (tb_in 285 (by decide +kernel) (by decide +kernel))⟩
set_option maxRecDepth 100000 in
theorem vw_X5_84 : VW RX5 84 yX5_end := ⟨(tb_in 287 (by decide +kernel) (by decide +kernel)), (tb_in 288 (by decide +kernel) (by decide +kernel)), (tb_in 289 (by decide +kernel) (by decide +kernel))⟩
set_option maxRecDepth 100000 in
theorem vw_X5_87 : VW RX5 87 yX3_change := ⟨(tb_in 327 (by decide +kernel) (by decide +kernel)), (tb_in 252 (by decide +kernel) (by decide +kernel)), (tb_in 253 (by decide +kernel) (by decide +kernel))⟩
set_option maxRecDepth 100000 in
theorem my_yX5_reach : MY yX5_reach cX5_reach 5 (Option.some Jvm.ClassFile.FieldType.int) 2 := ⟨(tb_in 314 (by decide +kernel) (by decide +kernel)), (tb_in 26 (by decide +kernel) (by decide +kernel)), ⟨by decide +kernel, by decide +kernel, by decide +kernel⟩, by decide⟩
set_option maxRecDepth 100000 in
theorem vw_X5_90 : VW RX5 90 yX5_reach := ⟨(tb_in 311 (by decide +kernel) (by decide +kernel)), (tb_in 312 (by decide +kernel) (by decide +kernel)), (tb_in 313 (by decide +kernel) (by decide +kernel))⟩
set_option maxRecDepth 100000 in
theorem my_yX5_worthAt : MY yX5_worthAt cX5_worthAt 6 (Option.some Jvm.ClassFile.FieldType.int) 2 := ⟨(tb_in 322 (by decide +kernel) (by decide +kernel)), (tb_in 26 (by decide +kernel) (by decide +kernel)), ⟨by decide +kernel, by decide +kernel, by decide +kernel⟩, by decide⟩
set_option maxRecDepth 100000 in
theorem vw_X5_94 : VW RX5 94 yX5_worthAt := ⟨(tb_in 319 (by decide +kernel) (by decide +kernel)), (tb_in 321 (by decide +kernel) (by decide +kernel)), (tb_in 7 (by decide +kernel) (by decide +kernel))⟩
set_option maxRecDepth 100000 in
theorem my_yX5_linesWithin : MY yX5_linesWithin cX5_linesWithin 6 (Option.some Jvm.ClassFile.FieldType.int) 3 := ⟨(tb_in 294 (by decide +kernel) (by decide +kernel)), (tb_in 26 (by decide +kernel) (by decide +kernel)), ⟨by decide +kernel, by decide +kernel, by decide +kernel⟩, by decide⟩
set_option maxRecDepth 100000 in
theorem vw_X5_97 : VW RX5 97 yX5_linesWithin := ⟨(tb_in 291 (by decide +kernel) (by decide +kernel)), (tb_in 293 (by decide +kernel) (by decide +kernel)), (tb_in 4 (by decide +kernel) (by decide +kernel))⟩
set_option maxRecDepth 100000 in
theorem vw_X6_102 : VW RX6 102 yX3_putOut := ⟨(tb_in 624 (by decide +kernel) (by decide +kernel)), (tb_in 393 (by decide +kernel) (by decide +kernel)), (tb_in 394 (by decide +kernel) (by decide +kernel))⟩
set_option maxRecDepth 100000 in
theorem vw_X6_105 : VW RX6 105 yX3_become := ⟨(tb_in 430 (by decide +kernel) (by decide +kernel)), (tb_in 333 (by decide +kernel) (by decide +kernel)), (tb_in 334 (by decide +kernel) (by decide +kernel))⟩
set_option maxRecDepth 100000 in
theorem my_yX6_distanceNow : MY yX6_distanceNow cX6_distanceNow 1 (Option.some Jvm.ClassFile.FieldType.int) 0 := ⟨(tb_in 514 (by decide +kernel) (by decide +kernel)), (tb_in 21 (by decide +kernel) (by decide +kernel)), ⟨by decide +kernel, by decide +kernel, by decide +kernel⟩, by decide⟩
set_option maxRecDepth 100000 in
theorem vw_X6_109 : VW RX6 109 yX6_distanceNow := ⟨(tb_in 511 (by decide +kernel) (by decide +kernel)), (tb_in 513 (by decide +kernel) (by decide +kernel)), (tb_in 18 (by decide +kernel) (by decide +kernel))⟩
set_option maxRecDepth 100000 in
theorem my_yX4_setting : MY yX4_setting cX4_setting 2 (Option.some Jvm.ClassFile.FieldType.int) 1 := ⟨(tb_in 298 (by decide +kernel) (by decide +kernel)), (tb_in 23 (by decide +kernel) (by decide +kernel)), ⟨by decide +kernel, by decide +kernel, by decide +kernel⟩, by decide⟩
set_option maxRecDepth 100000 in
theorem vw_X6_112 : VW RX6 112 yX4_setting := ⟨(tb_in 295 (by decide +kernel) (by decide +kernel)), (tb_in 296 (by decide +kernel) (by decide +kernel)), (tb_in 297 (by decide +kernel) (by decide +kernel))⟩
set_option maxRecDepth 100000 in
theorem my_yX4_changeSetting : MY yX4_changeSetting cX4_changeSetting 3 none 2 := ⟨(tb_in 659 (by decide +kernel) (by decide +kernel)), (tb_in 23 (by decide +kernel) (by decide +kernel)), ⟨by decide +kernel, by decide +kernel, by decide +kernel⟩, by decide⟩
set_option maxRecDepth 100000 in
theorem vw_X6_115 : VW RX6 115 yX4_changeSetting := ⟨(tb_in 656 (by decide +kernel) (by decide +kernel)), (tb_in 657 (by decide +kernel) (by decide +kernel)), (tb_in 658 (by decide +kernel) (by decide +kernel))⟩
set_option maxRecDepth 100000 in
theorem my_yX6_show : MY yX6_show cX6_show 1 none 0 := ⟨(tb_in 211 (by decide +kernel) (by decide +kernel)), (tb_in 21 (by decide +kernel) (by decide +kernel)), ⟨by decide +kernel, by decide +kernel, by decide +kernel⟩, by decide⟩
set_option maxRecDepth 100000 in
theorem vw_X6_118 : VW RX6 118 yX6_show := ⟨(tb_in 208 (by decide +kernel) (by decide +kernel)), (tb_in 210 (by decide +kernel) (by decide +kernel)), (tb_in 0 (by decide +kernel) (by decide +kernel))⟩
set_option maxRecDepth 100000 in
theorem my_yX2_layAll : MY yX2_layAll cX2_layAll 6 none 4 := ⟨(tb_in 331 (by decide +kernel) (by decide +kernel)), (tb_in 27 (by decide +kernel) (by decide +kernel)), ⟨by decide +kernel, by decide +kernel, by decide +kernel⟩, by decide⟩
set_option maxRecDepth 100000 in
theorem vw_X6_121 : VW RX6 121 yX2_layAll := ⟨(tb_in 328 (by decide +kernel) (by decide +kernel)), (tb_in 329 (by decide +kernel) (by decide +kernel)), (tb_in 330 (by decide +kernel) (by decide +kernel))⟩
set_option maxRecDepth 100000 in
theorem my_yX2_longest : MY yX2_longest cX2_longest 1 (Option.some Jvm.ClassFile.FieldType.int) 0 := ⟨(tb_in 405 (by decide +kernel) (by decide +kernel)), (tb_in 27 (by decide +kernel) (by decide +kernel)), ⟨by decide +kernel, by decide +kernel, by decide +kernel⟩, by decide⟩
set_option maxRecDepth 100000 in
theorem vw_X6_125 : VW RX6 125 yX2_longest := ⟨(tb_in 402 (by decide +kernel) (by decide +kernel)), (tb_in 403 (by decide +kernel) (by decide +kernel)), (tb_in 404 (by decide +kernel) (by decide +kernel))⟩
set_option maxRecDepth 100000 in
theorem my_yX2_result : MY yX2_result cX2_result 1 (Option.some (Jvm.ClassFile.FieldType.object "HunkSlides$Row")) 0 := ⟨(tb_in 429 (by decide +kernel) (by decide +kernel)), (tb_in 27 (by decide +kernel) (by decide +kernel)), ⟨by decide +kernel, by decide +kernel, by decide +kernel⟩, by decide⟩
set_option maxRecDepth 100000 in
theorem vw_X6_128 : VW RX6 128 yX2_result := ⟨(tb_in 426 (by decide +kernel) (by decide +kernel)), (tb_in 427 (by decide +kernel) (by decide +kernel)), (tb_in 428 (by decide +kernel) (by decide +kernel))⟩
set_option maxRecDepth 100000 in
theorem my_yX2_laid : MY yX2_laid cX2_laid 1 (Option.some Jvm.ClassFile.FieldType.int) 0 := ⟨(tb_in 434 (by decide +kernel) (by decide +kernel)), (tb_in 27 (by decide +kernel) (by decide +kernel)), ⟨by decide +kernel, by decide +kernel, by decide +kernel⟩, by decide⟩
set_option maxRecDepth 100000 in
theorem vw_X6_132 : VW RX6 132 yX2_laid := ⟨(tb_in 431 (by decide +kernel) (by decide +kernel)), (tb_in 432 (by decide +kernel) (by decide +kernel)), (tb_in 433 (by decide +kernel) (by decide +kernel))⟩
set_option maxRecDepth 100000 in
theorem vw_X6_135 : VW RX6 135 yX5_hunks := ⟨(tb_in 435 (by decide +kernel) (by decide +kernel)), (tb_in 276 (by decide +kernel) (by decide +kernel)), (tb_in 277 (by decide +kernel) (by decide +kernel))⟩
set_option maxRecDepth 100000 in
theorem my_yX4_addPatches : MY yX4_addPatches cX4_addPatches 3 none 2 := ⟨(tb_in 439 (by decide +kernel) (by decide +kernel)), (tb_in 23 (by decide +kernel) (by decide +kernel)), ⟨by decide +kernel, by decide +kernel, by decide +kernel⟩, by decide⟩
set_option maxRecDepth 100000 in
theorem vw_X6_138 : VW RX6 138 yX4_addPatches := ⟨(tb_in 436 (by decide +kernel) (by decide +kernel)), (tb_in 437 (by decide +kernel) (by decide +kernel)), (tb_in 438 (by decide +kernel) (by decide +kernel))⟩
set_option maxRecDepth 100000 in
theorem vw_X6_141 : VW RX6 141 yX3_at := ⟨(tb_in 550 (by decide +kernel) (by decide +kernel)), (tb_in 241 (by decide +kernel) (by decide +kernel)), (tb_in 242 (by decide +kernel) (by decide +kernel))⟩
set_option maxRecDepth 100000 in
theorem my_yX0_apartBySteps : MY yX0_apartBySteps cX0_apartBySteps 7 (Option.some Jvm.ClassFile.FieldType.int) 2 := ⟨(tb_in 573 (by decide +kernel) (by decide +kernel)), (tb_in 25 (by decide +kernel) (by decide +kernel)), ⟨by decide +kernel, by decide +kernel, by decide +kernel⟩, by decide⟩
set_option maxRecDepth 100000 in
theorem vw_X6_144 : VW RX6 144 yX0_apartBySteps := ⟨(tb_in 570 (by decide +kernel) (by decide +kernel)), (tb_in 571 (by decide +kernel) (by decide +kernel)), (tb_in 572 (by decide +kernel) (by decide +kernel))⟩
set_option maxRecDepth 100000 in
theorem vw_X6_148 : VW RX6 148 yX5_size := ⟨(tb_in 468 (by decide +kernel) (by decide +kernel)), (tb_in 268 (by decide +kernel) (by decide +kernel)), (tb_in 269 (by decide +kernel) (by decide +kernel))⟩
set_option maxRecDepth 100000 in
theorem vw_X6_149 : VW RX6 149 yX5_kind := ⟨(tb_in 538 (by decide +kernel) (by decide +kernel)), (tb_in 362 (by decide +kernel) (by decide +kernel)), (tb_in 363 (by decide +kernel) (by decide +kernel))⟩
set_option maxRecDepth 100000 in
theorem vw_X6_152 : VW RX6 152 yX5_sign := ⟨(tb_in 539 (by decide +kernel) (by decide +kernel)), (tb_in 366 (by decide +kernel) (by decide +kernel)), (tb_in 367 (by decide +kernel) (by decide +kernel))⟩
set_option maxRecDepth 100000 in
theorem vw_X6_155 : VW RX6 155 yX5_oldAhead := ⟨(tb_in 540 (by decide +kernel) (by decide +kernel)), (tb_in 375 (by decide +kernel) (by decide +kernel)), (tb_in 376 (by decide +kernel) (by decide +kernel))⟩
set_option maxRecDepth 100000 in
theorem vw_X6_158 : VW RX6 158 yX5_newAhead := ⟨(tb_in 541 (by decide +kernel) (by decide +kernel)), (tb_in 371 (by decide +kernel) (by decide +kernel)), (tb_in 372 (by decide +kernel) (by decide +kernel))⟩
set_option maxRecDepth 100000 in
theorem my_yX5_hunkOf : MY yX5_hunkOf cX5_hunkOf 3 (Option.some Jvm.ClassFile.FieldType.int) 1 := ⟨(tb_in 545 (by decide +kernel) (by decide +kernel)), (tb_in 26 (by decide +kernel) (by decide +kernel)), ⟨by decide +kernel, by decide +kernel, by decide +kernel⟩, by decide⟩
set_option maxRecDepth 100000 in
theorem vw_X6_161 : VW RX6 161 yX5_hunkOf := ⟨(tb_in 542 (by decide +kernel) (by decide +kernel)), (tb_in 543 (by decide +kernel) (by decide +kernel)), (tb_in 544 (by decide +kernel) (by decide +kernel))⟩
set_option maxRecDepth 100000 in
theorem vw_X6_164 : VW RX6 164 yX5_has := ⟨(tb_in 555 (by decide +kernel) (by decide +kernel)), (tb_in 349 (by decide +kernel) (by decide +kernel)), (tb_in 350 (by decide +kernel) (by decide +kernel))⟩
set_option maxRecDepth 100000 in
theorem vw_X6_167 : VW RX6 167 yX5_top := ⟨(tb_in 556 (by decide +kernel) (by decide +kernel)), (tb_in 284 (by decide +kernel) (by decide +kernel)), (tb_in 285 (by decide +kernel) (by decide +kernel))⟩
set_option maxRecDepth 100000 in
theorem vw_X6_170 : VW RX6 170 yX5_linesOf := ⟨(tb_in 557 (by decide +kernel) (by decide +kernel)), (tb_in 280 (by decide +kernel) (by decide +kernel)), (tb_in 281 (by decide +kernel) (by decide +kernel))⟩
set_option maxRecDepth 100000 in
theorem vw_X6_174 : VW RX6 174 yX5_isPlain := ⟨(tb_in 558 (by decide +kernel) (by decide +kernel)), (tb_in 304 (by decide +kernel) (by decide +kernel)), (tb_in 305 (by decide +kernel) (by decide +kernel))⟩
set_option maxRecDepth 100000 in
theorem vw_X6_177 : VW RX6 177 yX5_reach := ⟨(tb_in 559 (by decide +kernel) (by decide +kernel)), (tb_in 312 (by decide +kernel) (by decide +kernel)), (tb_in 313 (by decide +kernel) (by decide +kernel))⟩
set_option maxRecDepth 100000 in
theorem vw_X6_181 : VW RX6 181 yX5_worth := ⟨(tb_in 560 (by decide +kernel) (by decide +kernel)), (tb_in 486 (by decide +kernel) (by decide +kernel)), (tb_in 487 (by decide +kernel) (by decide +kernel))⟩
set_option maxRecDepth 100000 in
theorem my_yX5_greatestWorth : MY yX5_greatestWorth cX5_greatestWorth 3 (Option.some Jvm.ClassFile.FieldType.int) 1 := ⟨(tb_in 564 (by decide +kernel) (by decide +kernel)), (tb_in 26 (by decide +kernel) (by decide +kernel)), ⟨by decide +kernel, by decide +kernel, by decide +kernel⟩, by decide⟩
set_option maxRecDepth 100000 in
theorem vw_X6_184 : VW RX6 184 yX5_greatestWorth := ⟨(tb_in 561 (by decide +kernel) (by decide +kernel)), (tb_in 562 (by decide +kernel) (by decide +kernel)), (tb_in 563 (by decide +kernel) (by decide +kernel))⟩
set_option maxRecDepth 100000 in
theorem vw_X6_187 : VW RX6 187 yX5_around := ⟨(tb_in 565 (by decide +kernel) (by decide +kernel)), (tb_in 345 (by decide +kernel) (by decide +kernel)), (tb_in 346 (by decide +kernel) (by decide +kernel))⟩
set_option maxRecDepth 100000 in
theorem my_yX5_hindrance : MY yX5_hindrance cX5_hindrance 3 (Option.some Jvm.ClassFile.FieldType.int) 2 := ⟨(tb_in 596 (by decide +kernel) (by decide +kernel)), (tb_in 26 (by decide +kernel) (by decide +kernel)), ⟨by decide +kernel, by decide +kernel, by decide +kernel⟩, by decide⟩
set_option maxRecDepth 100000 in
theorem vw_X6_191 : VW RX6 191 yX5_hindrance := ⟨(tb_in 593 (by decide +kernel) (by decide +kernel)), (tb_in 594 (by decide +kernel) (by decide +kernel)), (tb_in 595 (by decide +kernel) (by decide +kernel))⟩
set_option maxRecDepth 100000 in
theorem my_yX6_heldNumber : MY yX6_heldNumber cX6_heldNumber 2 (Option.some Jvm.ClassFile.FieldType.int) 1 := ⟨(tb_in 451 (by decide +kernel) (by decide +kernel)), (tb_in 21 (by decide +kernel) (by decide +kernel)), ⟨by decide +kernel, by decide +kernel, by decide +kernel⟩, by decide⟩
set_option maxRecDepth 100000 in
theorem vw_X6_194 : VW RX6 194 yX6_heldNumber := ⟨(tb_in 448 (by decide +kernel) (by decide +kernel)), (tb_in 450 (by decide +kernel) (by decide +kernel)), (tb_in 16 (by decide +kernel) (by decide +kernel))⟩
set_option maxRecDepth 100000 in
theorem my_yX6_shownNumber : MY yX6_shownNumber cX6_shownNumber 2 (Option.some Jvm.ClassFile.FieldType.int) 1 := ⟨(tb_in 467 (by decide +kernel) (by decide +kernel)), (tb_in 21 (by decide +kernel) (by decide +kernel)), ⟨by decide +kernel, by decide +kernel, by decide +kernel⟩, by decide⟩
set_option maxRecDepth 100000 in
theorem vw_X6_197 : VW RX6 197 yX6_shownNumber := ⟨(tb_in 464 (by decide +kernel) (by decide +kernel)), (tb_in 466 (by decide +kernel) (by decide +kernel)), (tb_in 17 (by decide +kernel) (by decide +kernel))⟩
set_option maxRecDepth 100000 in
theorem vw_X6_200 : VW RX6 200 yX0_keptOf := ⟨(tb_in 585 (by decide +kernel) (by decide +kernel)), (tb_in 520 (by decide +kernel) (by decide +kernel)), (tb_in 521 (by decide +kernel) (by decide +kernel))⟩
set_option maxRecDepth 100000 in
theorem my_yX2_placeOf : MY yX2_placeOf cX2_placeOf 2 (Option.some Jvm.ClassFile.FieldType.int) 1 := ⟨(tb_in 632 (by decide +kernel) (by decide +kernel)), (tb_in 27 (by decide +kernel) (by decide +kernel)), ⟨by decide +kernel, by decide +kernel, by decide +kernel⟩, by decide⟩
set_option maxRecDepth 100000 in
theorem vw_X6_203 : VW RX6 203 yX2_placeOf := ⟨(tb_in 629 (by decide +kernel) (by decide +kernel)), (tb_in 630 (by decide +kernel) (by decide +kernel)), (tb_in 631 (by decide +kernel) (by decide +kernel))⟩
set_option maxRecDepth 100000 in
theorem my_yX2_lowerOf : MY yX2_lowerOf cX2_lowerOf 2 (Option.some Jvm.ClassFile.FieldType.int) 1 := ⟨(tb_in 636 (by decide +kernel) (by decide +kernel)), (tb_in 27 (by decide +kernel) (by decide +kernel)), ⟨by decide +kernel, by decide +kernel, by decide +kernel⟩, by decide⟩
set_option maxRecDepth 100000 in
theorem vw_X6_206 : VW RX6 206 yX2_lowerOf := ⟨(tb_in 633 (by decide +kernel) (by decide +kernel)), (tb_in 634 (by decide +kernel) (by decide +kernel)), (tb_in 635 (by decide +kernel) (by decide +kernel))⟩
set_option maxRecDepth 100000 in
theorem my_yX3_isEmpty : MY yX3_isEmpty cX3_isEmpty 1 (Option.some Jvm.ClassFile.FieldType.boolean) 0 := ⟨(tb_in 648 (by decide +kernel) (by decide +kernel)), (tb_in 22 (by decide +kernel) (by decide +kernel)), ⟨by decide +kernel, by decide +kernel, by decide +kernel⟩, by decide⟩
set_option maxRecDepth 100000 in
theorem vw_X6_209 : VW RX6 209 yX3_isEmpty := ⟨(tb_in 645 (by decide +kernel) (by decide +kernel)), (tb_in 646 (by decide +kernel) (by decide +kernel)), (tb_in 647 (by decide +kernel) (by decide +kernel))⟩
set_option maxRecDepth 100000 in
theorem my_yX0_apart : MY yX0_apart cX0_apart 3 (Option.some Jvm.ClassFile.FieldType.int) 2 := ⟨(tb_in 518 (by decide +kernel) (by decide +kernel)), (tb_in 25 (by decide +kernel) (by decide +kernel)), ⟨by decide +kernel, by decide +kernel, by decide +kernel⟩, by decide⟩
set_option maxRecDepth 100000 in
theorem vw_X6_213 : VW RX6 213 yX0_apart := ⟨(tb_in 515 (by decide +kernel) (by decide +kernel)), (tb_in 516 (by decide +kernel) (by decide +kernel)), (tb_in 517 (by decide +kernel) (by decide +kernel))⟩
set_option maxRecDepth 100000 in
theorem my_yX1_isEmpty : MY yX1_isEmpty cX1_isEmpty 1 (Option.some Jvm.ClassFile.FieldType.boolean) 0 := ⟨(tb_in 501 (by decide +kernel) (by decide +kernel)), (tb_in 24 (by decide +kernel) (by decide +kernel)), ⟨by decide +kernel, by decide +kernel, by decide +kernel⟩, by decide⟩
set_option maxRecDepth 100000 in
theorem vw_X6_216 : VW RX6 216 yX1_isEmpty := ⟨(tb_in 498 (by decide +kernel) (by decide +kernel)), (tb_in 499 (by decide +kernel) (by decide +kernel)), (tb_in 500 (by decide +kernel) (by decide +kernel))⟩
set_option maxRecDepth 100000 in
theorem my_yX1_takeBack : MY yX1_takeBack cX1_takeBack 2 none 1 := ⟨(tb_in 505 (by decide +kernel) (by decide +kernel)), (tb_in 24 (by decide +kernel) (by decide +kernel)), ⟨by decide +kernel, by decide +kernel, by decide +kernel⟩, by decide⟩
set_option maxRecDepth 100000 in
theorem vw_X6_217 : VW RX6 217 yX1_takeBack := ⟨(tb_in 502 (by decide +kernel) (by decide +kernel)), (tb_in 503 (by decide +kernel) (by decide +kernel)), (tb_in 504 (by decide +kernel) (by decide +kernel))⟩
set_option maxRecDepth 100000 in
theorem my_yX1_size : MY yX1_size cX1_size 1 (Option.some Jvm.ClassFile.FieldType.int) 0 := ⟨(tb_in 463 (by decide +kernel) (by decide +kernel)), (tb_in 24 (by decide +kernel) (by decide +kernel)), ⟨by decide +kernel, by decide +kernel, by decide +kernel⟩, by decide⟩
set_option maxRecDepth 100000 in
theorem vw_X6_220 : VW RX6 220 yX1_size := ⟨(tb_in 460 (by decide +kernel) (by decide +kernel)), (tb_in 461 (by decide +kernel) (by decide +kernel)), (tb_in 462 (by decide +kernel) (by decide +kernel))⟩
set_option maxRecDepth 100000 in
theorem vw_X6_221 : VW RX6 221 yX4_become := ⟨(tb_in 510 (by decide +kernel) (by decide +kernel)), (tb_in 422 (by decide +kernel) (by decide +kernel)), (tb_in 423 (by decide +kernel) (by decide +kernel))⟩
set_option maxRecDepth 100000 in
theorem my_yJ0_length_8abf5 : MY yJ0_length_8abf5 cJ0_length_8abf5 1 (Option.some Jvm.ClassFile.FieldType.int) 0 := ⟨(tb_in 615 (by decide +kernel) (by decide +kernel)), (tb_in 29 (by decide +kernel) (by decide +kernel)), ⟨by decide +kernel, by decide +kernel, by decide +kernel⟩, by decide⟩
set_option maxRecDepth 100000 in
theorem vw_X6_225 : VW RX6 225 yJ0_length_8abf5 := ⟨(tb_in 612 (by decide +kernel) (by decide +kernel)), (tb_in 613 (by decide +kernel) (by decide +kernel)), (tb_in 614 (by decide +kernel) (by decide +kernel))⟩
set_option maxRecDepth 100000 in
theorem my_yX5_gather : MY yX5_gather cX5_gather 9 none 3 := ⟨(tb_in 219 (by decide +kernel) (by decide +kernel)), (tb_in 26 (by decide +kernel) (by decide +kernel)), ⟨by decide +kernel, by decide +kernel, by decide +kernel⟩, by decide⟩
set_option maxRecDepth 100000 in
theorem vw_X6_233 : VW RX6 233 yX5_gather := ⟨(tb_in 216 (by decide +kernel) (by decide +kernel)), (tb_in 217 (by decide +kernel) (by decide +kernel)), (tb_in 218 (by decide +kernel) (by decide +kernel))⟩
set_option maxRecDepth 100000 in
theorem my_yX5_settle : MY yX5_settle cX5_settle 2 none 0 := ⟨(tb_in 302 (by decide +kernel) (by decide +kernel)), (tb_in 26 (by decide +kernel) (by decide +kernel)), ⟨by decide +kernel, by decide +kernel, by decide +kernel⟩, by decide⟩
set_option maxRecDepth 100000 in
theorem vw_X6_237 : VW RX6 237 yX5_settle := ⟨(tb_in 299 (by decide +kernel) (by decide +kernel)), (tb_in 300 (by decide +kernel) (by decide +kernel)), (tb_in 301 (by decide +kernel) (by decide +kernel))⟩
set_option maxRecDepth 100000 in
theorem my_yX5_linesOfKind : MY yX5_linesOfKind cX5_linesOfKind 2 (Option.some Jvm.ClassFile.FieldType.int) 1 := ⟨(tb_in 472 (by decide +kernel) (by decide +kernel)), (tb_in 26 (by decide +kernel) (by decide +kernel)), ⟨by decide +kernel, by decide +kernel, by decide +kernel⟩, by decide⟩
set_option maxRecDepth 100000 in
theorem vw_X6_240 : VW RX6 240 yX5_linesOfKind := ⟨(tb_in 469 (by decide +kernel) (by decide +kernel)), (tb_in 470 (by decide +kernel) (by decide +kernel)), (tb_in 471 (by decide +kernel) (by decide +kernel))⟩
set_option maxRecDepth 100000 in
theorem my_yX5_plainHunks : MY yX5_plainHunks cX5_plainHunks 3 (Option.some Jvm.ClassFile.FieldType.int) 0 := ⟨(tb_in 476 (by decide +kernel) (by decide +kernel)), (tb_in 26 (by decide +kernel) (by decide +kernel)), ⟨by decide +kernel, by decide +kernel, by decide +kernel⟩, by decide⟩
set_option maxRecDepth 100000 in
theorem vw_X6_243 : VW RX6 243 yX5_plainHunks := ⟨(tb_in 473 (by decide +kernel) (by decide +kernel)), (tb_in 474 (by decide +kernel) (by decide +kernel)), (tb_in 475 (by decide +kernel) (by decide +kernel))⟩
set_option maxRecDepth 100000 in
theorem my_yX5_slidingHunks : MY yX5_slidingHunks cX5_slidingHunks 3 (Option.some Jvm.ClassFile.FieldType.int) 0 := ⟨(tb_in 480 (by decide +kernel) (by decide +kernel)), (tb_in 26 (by decide +kernel) (by decide +kernel)), ⟨by decide +kernel, by decide +kernel, by decide +kernel⟩, by decide⟩
set_option maxRecDepth 100000 in
theorem vw_X6_246 : VW RX6 246 yX5_slidingHunks := ⟨(tb_in 477 (by decide +kernel) (by decide +kernel)), (tb_in 478 (by decide +kernel) (by decide +kernel)), (tb_in 479 (by decide +kernel) (by decide +kernel))⟩
set_option maxRecDepth 100000 in
theorem my_yX5_worthOfAll : MY yX5_worthOfAll cX5_worthOfAll 3 (Option.some Jvm.ClassFile.FieldType.int) 0 := ⟨(tb_in 484 (by decide +kernel) (by decide +kernel)), (tb_in 26 (by decide +kernel) (by decide +kernel)), ⟨by decide +kernel, by decide +kernel, by decide +kernel⟩, by decide⟩
set_option maxRecDepth 100000 in
theorem vw_X6_249 : VW RX6 249 yX5_worthOfAll := ⟨(tb_in 481 (by decide +kernel) (by decide +kernel)), (tb_in 482 (by decide +kernel) (by decide +kernel)), (tb_in 483 (by decide +kernel) (by decide +kernel))⟩
set_option maxRecDepth 100000 in
theorem my_yX5_longestKept : MY yX5_longestKept cX5_longestKept 4 (Option.some Jvm.ClassFile.FieldType.int) 0 := ⟨(tb_in 492 (by decide +kernel) (by decide +kernel)), (tb_in 26 (by decide +kernel) (by decide +kernel)), ⟨by decide +kernel, by decide +kernel, by decide +kernel⟩, by decide⟩
set_option maxRecDepth 100000 in
theorem vw_X6_252 : VW RX6 252 yX5_longestKept := ⟨(tb_in 489 (by decide +kernel) (by decide +kernel)), (tb_in 490 (by decide +kernel) (by decide +kernel)), (tb_in 491 (by decide +kernel) (by decide +kernel))⟩
set_option maxRecDepth 100000 in
theorem my_yX4_laid : MY yX4_laid cX4_laid 1 (Option.some Jvm.ClassFile.FieldType.int) 0 := ⟨(tb_in 455 (by decide +kernel) (by decide +kernel)), (tb_in 23 (by decide +kernel) (by decide +kernel)), ⟨by decide +kernel, by decide +kernel, by decide +kernel⟩, by decide⟩
set_option maxRecDepth 100000 in
theorem vw_X6_255 : VW RX6 255 yX4_laid := ⟨(tb_in 452 (by decide +kernel) (by decide +kernel)), (tb_in 453 (by decide +kernel) (by decide +kernel)), (tb_in 454 (by decide +kernel) (by decide +kernel))⟩
set_option maxRecDepth 100000 in
theorem my_yX4_leftOut : MY yX4_leftOut cX4_leftOut 1 (Option.some Jvm.ClassFile.FieldType.int) 0 := ⟨(tb_in 459 (by decide +kernel) (by decide +kernel)), (tb_in 23 (by decide +kernel) (by decide +kernel)), ⟨by decide +kernel, by decide +kernel, by decide +kernel⟩, by decide⟩
set_option maxRecDepth 100000 in
theorem vw_X6_256 : VW RX6 256 yX4_leftOut := ⟨(tb_in 456 (by decide +kernel) (by decide +kernel)), (tb_in 457 (by decide +kernel) (by decide +kernel)), (tb_in 458 (by decide +kernel) (by decide +kernel))⟩
set_option maxRecDepth 100000 in
theorem vw_X6_63 : VW RX6 63 yX3_size := ⟨(tb_in 447 (by decide +kernel) (by decide +kernel)), (tb_in 237 (by decide +kernel) (by decide +kernel)), (tb_in 238 (by decide +kernel) (by decide +kernel))⟩
set_option maxRecDepth 100000 in
theorem my_yX6_isText : MY yX6_isText cX6_isText 1 (Option.some Jvm.ClassFile.FieldType.boolean) 1 := ⟨(tb_in 446 (by decide +kernel) (by decide +kernel)), (tb_in 21 (by decide +kernel) (by decide +kernel)), ⟨by decide +kernel, by decide +kernel, by decide +kernel⟩, by decide⟩
set_option maxRecDepth 100000 in
theorem sw_X6_77 : SW RX6 77 yX6_isText := ⟨(tb_in 444 (by decide +kernel) (by decide +kernel)), (tb_in 445 (by decide +kernel) (by decide +kernel))⟩
set_option maxRecDepth 100000 in
theorem my_yX1_record : MY yX1_record cX1_record 2 none 1 := ⟨(tb_in 409 (by decide +kernel) (by decide +kernel)), (tb_in 24 (by decide +kernel) (by decide +kernel)), ⟨by decide +kernel, by decide +kernel, by decide +kernel⟩, by decide⟩
set_option maxRecDepth 100000 in
theorem vw_X6_84 : VW RX6 84 yX1_record := ⟨(tb_in 406 (by decide +kernel) (by decide +kernel)), (tb_in 407 (by decide +kernel) (by decide +kernel)), (tb_in 408 (by decide +kernel) (by decide +kernel))⟩
set_option maxRecDepth 100000 in
theorem my_yX4_text : MY yX4_text cX4_text 2 (Option.some (Jvm.ClassFile.FieldType.object "HunkSlides$Row")) 1 := ⟨(tb_in 215 (by decide +kernel) (by decide +kernel)), (tb_in 23 (by decide +kernel) (by decide +kernel)), ⟨by decide +kernel, by decide +kernel, by decide +kernel⟩, by decide⟩
set_option maxRecDepth 100000 in
theorem vw_X6_88 : VW RX6 88 yX4_text := ⟨(tb_in 212 (by decide +kernel) (by decide +kernel)), (tb_in 213 (by decide +kernel) (by decide +kernel)), (tb_in 214 (by decide +kernel) (by decide +kernel))⟩
set_option maxRecDepth 100000 in
theorem my_yX6_isSign : MY yX6_isSign cX6_isSign 1 (Option.some Jvm.ClassFile.FieldType.boolean) 1 := ⟨(tb_in 610 (by decide +kernel) (by decide +kernel)), (tb_in 21 (by decide +kernel) (by decide +kernel)), ⟨by decide +kernel, by decide +kernel, by decide +kernel⟩, by decide⟩
set_option maxRecDepth 100000 in
theorem sw_X6_92 : SW RX6 92 yX6_isSign := ⟨(tb_in 608 (by decide +kernel) (by decide +kernel)), (tb_in 609 (by decide +kernel) (by decide +kernel))⟩
set_option maxRecDepth 100000 in
theorem vw_X6_95 : VW RX6 95 yX3_putIn := ⟨(tb_in 622 (by decide +kernel) (by decide +kernel)), (tb_in 398 (by decide +kernel) (by decide +kernel)), (tb_in 399 (by decide +kernel) (by decide +kernel))⟩
set_option maxRecDepth 100000 in
theorem vw_X6_99 : VW RX6 99 yX3_change := ⟨(tb_in 623 (by decide +kernel) (by decide +kernel)), (tb_in 252 (by decide +kernel) (by decide +kernel)), (tb_in 253 (by decide +kernel) (by decide +kernel))⟩
set_option maxRecDepth 100000 in
theorem my_yX6_view : MY yX6_view cX6_view 3 (Option.some Jvm.ClassFile.FieldType.int) 2 := ⟨(tb_in 537 (by decide +kernel) (by decide +kernel)), (tb_in 21 (by decide +kernel) (by decide +kernel)), ⟨by decide +kernel, by decide +kernel, by decide +kernel⟩, by decide⟩
set_option maxRecDepth 100000 in
theorem vw_X9_14 : VW RX9 14 yX6_view := ⟨(tb_in 534 (by decide +kernel) (by decide +kernel)), (tb_in 535 (by decide +kernel) (by decide +kernel)), (tb_in 536 (by decide +kernel) (by decide +kernel))⟩
set_option maxRecDepth 100000 in
theorem my_yX6_line : MY yX6_line cX6_line 4 (Option.some Jvm.ClassFile.FieldType.int) 2 := ⟨(tb_in 549 (by decide +kernel) (by decide +kernel)), (tb_in 21 (by decide +kernel) (by decide +kernel)), ⟨by decide +kernel, by decide +kernel, by decide +kernel⟩, by decide⟩
set_option maxRecDepth 100000 in
theorem vw_X9_18 : VW RX9 18 yX6_line := ⟨(tb_in 546 (by decide +kernel) (by decide +kernel)), (tb_in 547 (by decide +kernel) (by decide +kernel)), (tb_in 548 (by decide +kernel) (by decide +kernel))⟩
set_option maxRecDepth 100000 in
theorem my_yX6_hunk : MY yX6_hunk cX6_hunk 3 (Option.some Jvm.ClassFile.FieldType.int) 2 := ⟨(tb_in 554 (by decide +kernel) (by decide +kernel)), (tb_in 21 (by decide +kernel) (by decide +kernel)), ⟨by decide +kernel, by decide +kernel, by decide +kernel⟩, by decide⟩
set_option maxRecDepth 100000 in
theorem vw_X9_21 : VW RX9 21 yX6_hunk := ⟨(tb_in 551 (by decide +kernel) (by decide +kernel)), (tb_in 552 (by decide +kernel) (by decide +kernel)), (tb_in 553 (by decide +kernel) (by decide +kernel))⟩
set_option maxRecDepth 100000 in
theorem my_yX6_distance : MY yX6_distance cX6_distance 2 (Option.some Jvm.ClassFile.FieldType.int) 1 := ⟨(tb_in 569 (by decide +kernel) (by decide +kernel)), (tb_in 21 (by decide +kernel) (by decide +kernel)), ⟨by decide +kernel, by decide +kernel, by decide +kernel⟩, by decide⟩
set_option maxRecDepth 100000 in
theorem vw_X9_24 : VW RX9 24 yX6_distance := ⟨(tb_in 566 (by decide +kernel) (by decide +kernel)), (tb_in 567 (by decide +kernel) (by decide +kernel)), (tb_in 568 (by decide +kernel) (by decide +kernel))⟩
set_option maxRecDepth 100000 in
theorem my_yX6_alike : MY yX6_alike cX6_alike 3 (Option.some Jvm.ClassFile.FieldType.double) 0 := ⟨(tb_in 584 (by decide +kernel) (by decide +kernel)), (tb_in 21 (by decide +kernel) (by decide +kernel)), ⟨by decide +kernel, by decide +kernel, by decide +kernel⟩, by decide⟩
set_option maxRecDepth 100000 in
theorem vw_X9_27 : VW RX9 27 yX6_alike := ⟨(tb_in 581 (by decide +kernel) (by decide +kernel)), (tb_in 582 (by decide +kernel) (by decide +kernel)), (tb_in 583 (by decide +kernel) (by decide +kernel))⟩
set_option maxRecDepth 100000 in
theorem my_yX6_whyNot : MY yX6_whyNot cX6_whyNot 3 (Option.some Jvm.ClassFile.FieldType.int) 2 := ⟨(tb_in 592 (by decide +kernel) (by decide +kernel)), (tb_in 21 (by decide +kernel) (by decide +kernel)), ⟨by decide +kernel, by decide +kernel, by decide +kernel⟩, by decide⟩
set_option maxRecDepth 100000 in
theorem vw_X9_31 : VW RX9 31 yX6_whyNot := ⟨(tb_in 589 (by decide +kernel) (by decide +kernel)), (tb_in 590 (by decide +kernel) (by decide +kernel)), (tb_in 591 (by decide +kernel) (by decide +kernel))⟩
set_option maxRecDepth 100000 in
theorem my_yX6_save : MY yX6_save cX6_save 1 (Option.some Jvm.ClassFile.FieldType.int) 0 := ⟨(tb_in 603 (by decide +kernel) (by decide +kernel)), (tb_in 21 (by decide +kernel) (by decide +kernel)), ⟨by decide +kernel, by decide +kernel, by decide +kernel⟩, by decide⟩
set_option maxRecDepth 100000 in
theorem vw_X9_35 : VW RX9 35 yX6_save := ⟨(tb_in 600 (by decide +kernel) (by decide +kernel)), (tb_in 601 (by decide +kernel) (by decide +kernel)), (tb_in 602 (by decide +kernel) (by decide +kernel))⟩
set_option maxRecDepth 100000 in
theorem my_yX6_edit : MY yX6_edit cX6_edit 7 (Option.some Jvm.ClassFile.FieldType.int) 3 := ⟨(tb_in 607 (by decide +kernel) (by decide +kernel)), (tb_in 21 (by decide +kernel) (by decide +kernel)), ⟨by decide +kernel, by decide +kernel, by decide +kernel⟩, by decide⟩
set_option maxRecDepth 100000 in
theorem vw_X9_39 : VW RX9 39 yX6_edit := ⟨(tb_in 604 (by decide +kernel) (by decide +kernel)), (tb_in 605 (by decide +kernel) (by decide +kernel)), (tb_in 606 (by decide +kernel) (by decide +kernel))⟩
set_option maxRecDepth 100000 in
theorem my_yX6_ifLaid : MY yX6_ifLaid cX6_ifLaid 5 (Option.some Jvm.ClassFile.FieldType.int) 3 := ⟨(tb_in 628 (by decide +kernel) (by decide +kernel)), (tb_in 21 (by decide +kernel) (by decide +kernel)), ⟨by decide +kernel, by decide +kernel, by decide +kernel⟩, by decide⟩
set_option maxRecDepth 100000 in
theorem vw_X9_43 : VW RX9 43 yX6_ifLaid := ⟨(tb_in 625 (by decide +kernel) (by decide +kernel)), (tb_in 626 (by decide +kernel) (by decide +kernel)), (tb_in 627 (by decide +kernel) (by decide +kernel))⟩
set_option maxRecDepth 100000 in
theorem my_yX6_lay : MY yX6_lay cX6_lay 2 (Option.some Jvm.ClassFile.FieldType.int) 1 := ⟨(tb_in 207 (by decide +kernel) (by decide +kernel)), (tb_in 21 (by decide +kernel) (by decide +kernel)), ⟨by decide +kernel, by decide +kernel, by decide +kernel⟩, by decide⟩
set_option maxRecDepth 100000 in
theorem vw_X9_47 : VW RX9 47 yX6_lay := ⟨(tb_in 204 (by decide +kernel) (by decide +kernel)), (tb_in 205 (by decide +kernel) (by decide +kernel)), (tb_in 206 (by decide +kernel) (by decide +kernel))⟩
set_option maxRecDepth 100000 in
theorem my_yX6_restore : MY yX6_restore cX6_restore 1 (Option.some Jvm.ClassFile.FieldType.int) 0 := ⟨(tb_in 509 (by decide +kernel) (by decide +kernel)), (tb_in 21 (by decide +kernel) (by decide +kernel)), ⟨by decide +kernel, by decide +kernel, by decide +kernel⟩, by decide⟩
set_option maxRecDepth 100000 in
theorem vw_X9_51 : VW RX9 51 yX6_restore := ⟨(tb_in 506 (by decide +kernel) (by decide +kernel)), (tb_in 507 (by decide +kernel) (by decide +kernel)), (tb_in 508 (by decide +kernel) (by decide +kernel))⟩
set_option maxRecDepth 100000 in
theorem my_yX6_least : MY yX6_least cX6_least 6 (Option.some Jvm.ClassFile.FieldType.int) 0 := ⟨(tb_in 644 (by decide +kernel) (by decide +kernel)), (tb_in 21 (by decide +kernel) (by decide +kernel)), ⟨by decide +kernel, by decide +kernel, by decide +kernel⟩, by decide⟩
set_option maxRecDepth 100000 in
theorem vw_X9_54 : VW RX9 54 yX6_least := ⟨(tb_in 641 (by decide +kernel) (by decide +kernel)), (tb_in 642 (by decide +kernel) (by decide +kernel)), (tb_in 643 (by decide +kernel) (by decide +kernel))⟩
set_option maxRecDepth 100000 in
theorem my_yX6_undo : MY yX6_undo cX6_undo 1 (Option.some Jvm.ClassFile.FieldType.int) 0 := ⟨(tb_in 497 (by decide +kernel) (by decide +kernel)), (tb_in 21 (by decide +kernel) (by decide +kernel)), ⟨by decide +kernel, by decide +kernel, by decide +kernel⟩, by decide⟩
set_option maxRecDepth 100000 in
theorem vw_X9_57 : VW RX9 57 yX6_undo := ⟨(tb_in 494 (by decide +kernel) (by decide +kernel)), (tb_in 495 (by decide +kernel) (by decide +kernel)), (tb_in 496 (by decide +kernel) (by decide +kernel))⟩
set_option maxRecDepth 100000 in
theorem my_yL_low : MY yL_low cL_low 2 (Option.some Jvm.ClassFile.FieldType.int) 2 := ⟨(tb_in 529 (by decide +kernel) (by decide +kernel)), (tb_in 20 (by decide +kernel) (by decide +kernel)), ⟨by decide +kernel, by decide +kernel, by decide +kernel⟩, by decide⟩
set_option maxRecDepth 100000 in
theorem sw_X9_60 : SW RX9 60 yL_low := ⟨(tb_in 527 (by decide +kernel) (by decide +kernel)), (tb_in 528 (by decide +kernel) (by decide +kernel))⟩
set_option maxRecDepth 100000 in
theorem my_yX6_set : MY yX6_set cX6_set 4 (Option.some Jvm.ClassFile.FieldType.int) 2 := ⟨(tb_in 655 (by decide +kernel) (by decide +kernel)), (tb_in 21 (by decide +kernel) (by decide +kernel)), ⟨by decide +kernel, by decide +kernel, by decide +kernel⟩, by decide⟩
set_option maxRecDepth 100000 in
theorem vw_X9_65 : VW RX9 65 yX6_set := ⟨(tb_in 652 (by decide +kernel) (by decide +kernel)), (tb_in 653 (by decide +kernel) (by decide +kernel)), (tb_in 654 (by decide +kernel) (by decide +kernel))⟩
set_option maxRecDepth 100000 in
theorem my_yX6_swap : MY yX6_swap cX6_swap 3 (Option.some Jvm.ClassFile.FieldType.int) 2 := ⟨(tb_in 663 (by decide +kernel) (by decide +kernel)), (tb_in 21 (by decide +kernel) (by decide +kernel)), ⟨by decide +kernel, by decide +kernel, by decide +kernel⟩, by decide⟩
set_option maxRecDepth 100000 in
theorem vw_X9_68 : VW RX9 68 yX6_swap := ⟨(tb_in 660 (by decide +kernel) (by decide +kernel)), (tb_in 661 (by decide +kernel) (by decide +kernel)), (tb_in 662 (by decide +kernel) (by decide +kernel))⟩
set_option maxRecDepth 100000 in
theorem my_yX6_count : MY yX6_count cX6_count 2 (Option.some Jvm.ClassFile.FieldType.int) 1 := ⟨(tb_in 443 (by decide +kernel) (by decide +kernel)), (tb_in 21 (by decide +kernel) (by decide +kernel)), ⟨by decide +kernel, by decide +kernel, by decide +kernel⟩, by decide⟩
set_option maxRecDepth 100000 in
theorem vw_X9_8 : VW RX9 8 yX6_count := ⟨(tb_in 440 (by decide +kernel) (by decide +kernel)), (tb_in 441 (by decide +kernel) (by decide +kernel)), (tb_in 442 (by decide +kernel) (by decide +kernel))⟩
theorem kt_5_0 {i : Nat} (hi : kd i = 5) : kd (rf i 0) = 0 := kt_all (by decide) (by decide +kernel) hi
theorem kt_6_0 {i : Nat} (hi : kd i = 6) : kd (rf i 0) = 5 := kt_all (by decide) (by decide +kernel) hi
theorem kt_6_1 {i : Nat} (hi : kd i = 6) : kd (rf i 1) = 5 := kt_all (by decide) (by decide +kernel) hi
theorem kt_6_2 {i : Nat} (hi : kd i = 6) : kd (rf i 2) = 5 := kt_all (by decide) (by decide +kernel) hi
end
section
def F_X_isText (p1 : Int) : Int :=
  if p1 < 0 then (0) else (if p1 ≤ 2 then (1) else (0))
def F_St_text (o : Nat) (p1 : Int) : Nat :=
  if p1 = 0 then (rf o 0) else (if p1 = 1 then (rf o 1) else (rf o 2))
def F_X_isSign (p1 : Int) : Int :=
  if p1 < 0 then (0) else (if p1 < sg_length then (1) else (0))
def F_Ro_size (o : Nat) (h : MH) : Int :=
  h o 1
def F_Hi_slot (p1 : Int) : Option Nat :=
  if p1 < 0 then (none) else (if p1 < 4 then (some (rf 18 p1.toNat)) else (none))
def F_Ro_emptyOut (o : Nat) (h : MH) : MH :=
  (up h o 1 0)
def F_Ro_at (o : Nat) (p1 : Int) (h : MH) : Int :=
  if p1 < 0 then ((-1)) else (if p1 < h o 1 then (if p1 < (al (rf o 0) : Int) then (h (rf o 0) p1.toNat) else ((-1))) else ((-1)))
def F_Ro_add (o : Nat) (p1 : Int) (h : MH) : MH :=
  if h o 1 < 0 then (h) else (if h o 1 < (al (rf o 0) : Int) then ((up (up h (rf o 0) (h o 1).toNat p1) o 1 (wr (((up h (rf o 0) (h o 1).toNat p1) o 1) + 1)))) else (h))
def F_Ro_become_L6 (x0 : Nat) (x1 : Nat) : Nat → Int → MH → Option (Int × MH)
  | 0, _, _ => none
  | n + 1, x2, h => if x2 < F_Ro_size x1 h then (F_Ro_become_L6 x0 x1 n (wr (x2 + 1)) (F_Ro_add x0 (F_Ro_at x1 x2 h) h)) else (some (x2, h))
def F_Ro_become (o : Nat) (p1 : Nat) (h : MH) : Option MH :=
  ob2 (F_Ro_become_L6 o p1 FUEL 0 (F_Ro_emptyOut o h)) (fun (x2_1 : Int) (h2 : MH) => some h2)
def F_St_become (o : Nat) (p1 : Nat) (h : MH) : Option MH :=
  ob1 (F_Ro_become (rf o 0) (rf p1 0) h) (fun (h1 : MH) => ob1 (F_Ro_become (rf o 1) (rf p1 1) h1) (fun (h3 : MH) => ob1 (F_Ro_become (rf o 2) (rf p1 2) h3) (fun (h5 : MH) => some (up (up (up (up h5 o 3 (h5 p1 3)) o 4 ((up h5 o 3 (h5 p1 3)) p1 4)) o 5 ((up (up h5 o 3 (h5 p1 3)) o 4 ((up h5 o 3 (h5 p1 3)) p1 4)) p1 5)) o 6 ((up (up (up h5 o 3 (h5 p1 3)) o 4 ((up h5 o 3 (h5 p1 3)) p1 4)) o 5 ((up (up h5 o 3 (h5 p1 3)) o 4 ((up h5 o 3 (h5 p1 3)) p1 4)) p1 5)) p1 6)))))
def F_Hi_copy (p1 : Option Nat) (p2 : Option Nat) (h : MH) : Option MH :=
  om p1 (some h) (fun (i1 : Nat) => om p2 (some h) (fun (i2 : Nat) => ob1 (F_St_become i2 i1 h) (fun (h3 : MH) => some h3)))
def F_Hi_dropOldest_L2  : Nat → Int → MH → Option (Int × MH)
  | 0, _, _ => none
  | n + 1, x1, h => if x1 < h 17 1 then (ob1 (F_Hi_copy (F_Hi_slot x1) (F_Hi_slot (wr (x1 - 1))) h) (fun (h2 : MH) => F_Hi_dropOldest_L2  n (wr (x1 + 1)) h2)) else (some (x1, h))
def F_Hi_dropOldest (h : MH) : Option MH :=
  ob2 (F_Hi_dropOldest_L2 FUEL 1 h) (fun (x1_1 : Int) (h2 : MH) => some (up h2 17 1 (wr ((h2 17 1) - 1))))
def F_Hi_record (p1 : Nat) (h : MH) : Option MH :=
  jk1 (fun (h1 : MH) => ob1 (F_Hi_copy (some p1) (F_Hi_slot (h1 17 1)) h1) (fun (h3 : MH) => some (up h3 17 1 (wr ((h3 17 1) + 1))))) (fun kj2 => if h 17 1 < 4 then (kj2 h) else (ob1 (F_Hi_dropOldest h) (fun (h7 : MH) => kj2 h7)))
def F_Ro_change (o : Nat) (p1 : Int) (p2 : Int) (h : MH) : MH :=
  if p1 < 0 then (h) else (if p1 < h o 1 then (if p1 < (al (rf o 0) : Int) then ((up h (rf o 0) p1.toNat p2)) else (h)) else (h))
def F_Ro_putIn_L42 (x0 : Nat) (x1 : Int) (x2 : Int) : Nat → Int → MH → Option (Int × MH)
  | 0, _, _ => none
  | n + 1, x3, h => if x3 ≤ x1 then (some (x3, h)) else (F_Ro_putIn_L42 x0 x1 x2 n (wr (x3 + (-1))) (F_Ro_change x0 x3 (F_Ro_at x0 (wr (x3 - 1)) h) h))
def F_Ro_putIn (o : Nat) (p1 : Int) (p2 : Int) (h : MH) : Option MH :=
  if p1 < 0 then (some h) else (if p1 ≤ h o 1 then (if h o 1 < (al (rf o 0) : Int) then (ob2 (F_Ro_putIn_L42 o p1 p2 FUEL (wr (((up h o 1 (wr ((h o 1) + 1))) o 1) - 1)) (up h o 1 (wr ((h o 1) + 1)))) (fun (x3_4 : Int) (h5 : MH) => some (F_Ro_change o p1 p2 h5))) else (some h)) else (some h))
def F_Ro_putOut_L15 (x0 : Nat) : Nat → Int → MH → Option (Int × MH)
  | 0, _, _ => none
  | n + 1, x2, h => if x2 < wr ((h x0 1) - 1) then (F_Ro_putOut_L15 x0 n (wr (x2 + 1)) (F_Ro_change x0 x2 (F_Ro_at x0 (wr (x2 + 1)) h) h)) else (some (x2, h))
def F_Ro_putOut (o : Nat) (p1 : Int) (h : MH) : Option MH :=
  if p1 < 0 then (some h) else (if p1 < h o 1 then (ob2 (F_Ro_putOut_L15 o FUEL p1 h) (fun (x2_3 : Int) (h4 : MH) => some (up h4 o 1 (wr ((h4 o 1) - 1))))) else (some h))
def F_X_edit (p1 : Int) (p2 : Int) (p3 : Int) (h : MH) : Option (Int × MH) :=
  if F_X_isText p1 = 0 then (some ((-1), h)) else (jk1 (fun (u2 : Unit) => if p2 < 0 then (some ((-1), h)) else (if p2 ≤ F_Ro_size (F_St_text 3 p1) h then (jk1 (fun (u6 : Unit) => jk1 (fun (u8 : Unit) => ob1 (F_Hi_record 3 h) (fun (h10 : MH) => jk1 (fun (h12 : MH) => some (F_Ro_size (F_St_text 3 p1) h12, h12)) (fun kj13 => if F_X_isSign p3 = 0 then (if F_X_isSign (wr (p3 - 10)) = 0 then (ob1 (F_Ro_putOut (F_St_text 3 p1) p2 h10) (fun (h17 : MH) => kj13 h17)) else (kj13 (F_Ro_change (F_St_text 3 p1) p2 (wr (p3 - 10)) h10))) else (ob1 (F_Ro_putIn (F_St_text 3 p1) p2 p3 h10) (fun (h19 : MH) => kj13 h19))))) (fun kj9 => if F_X_isSign p3 = 0 then (kj9 ()) else (if F_Ro_size (F_St_text 3 p1) h < 14 then (kj9 ()) else (some ((-3), h))))) (fun kj7 => if p2 = F_Ro_size (F_St_text 3 p1) h then (if F_X_isSign p3 = 0 then (some ((-1), h)) else (kj7 ())) else (kj7 ()))) else (some ((-1), h)))) (fun kj3 => if F_X_isSign p3 = 0 then (if F_X_isSign (wr (p3 - 10)) = 0 then (if p3 = 20 then (kj3 ()) else (some ((-1), h))) else (kj3 ())) else (kj3 ())))
def F_Ro_becomeZeros_L6 (x0 : Nat) (x1 : Int) : Nat → Int → MH → Option (Int × MH)
  | 0, _, _ => none
  | n + 1, x2, h => if x2 < x1 then (F_Ro_becomeZeros_L6 x0 x1 n (wr (x2 + 1)) (F_Ro_add x0 0 h)) else (some (x2, h))
def F_Ro_becomeZeros (o : Nat) (p1 : Int) (h : MH) : Option MH :=
  ob2 (F_Ro_becomeZeros_L6 o p1 FUEL 0 (F_Ro_emptyOut o h)) (fun (x2_1 : Int) (h2 : MH) => some h2)
def F_C_keptFrom (p1 : Int) (p2 : Int) (h : MH) : Int :=
  F_Ro_at 50 (wr ((wr (p1 * 15)) + p2)) h
def F_C_compare_L29 (x1 : Nat) (x2 : Nat) (x3 : Int) : Nat → Int → MH → Option (Int × MH)
  | 0, _, _ => none
  | n + 1, x4, h => if x4 < 0 then (some (x4, h)) else (jn1 (if F_Ro_at x1 x3 h = F_Ro_at x2 x4 h then ((wr ((F_C_keptFrom (wr (x3 + 1)) (wr (x4 + 1)) h) + 1))) else ((imax (F_C_keptFrom (wr (x3 + 1)) x4 h) (F_C_keptFrom x3 (wr (x4 + 1)) h)))) (fun (s2 : Int) => F_C_compare_L29 x1 x2 x3 n (wr (x4 + (-1))) (F_Ro_change 50 (wr ((wr (x3 * 15)) + x4)) s2 h)))
def F_C_compare_L17 (x1 : Nat) (x2 : Nat) : Nat → Int → MH → Option (Int × MH)
  | 0, _, _ => none
  | n + 1, x3, h => if x3 < 0 then (some (x3, h)) else (ob2 (F_C_compare_L29 x1 x2 x3 FUEL (wr ((F_Ro_size x2 h) - 1)) h) (fun (x4_2 : Int) (h3 : MH) => F_C_compare_L17 x1 x2 n (wr (x3 + (-1))) h3))
def F_C_compare (p1 : Nat) (p2 : Nat) (h : MH) : Option MH :=
  ob1 (F_Ro_becomeZeros 50 225 h) (fun (h1 : MH) => ob2 (F_C_compare_L17 p1 p2 FUEL (wr ((F_Ro_size p1 h1) - 1)) h1) (fun (x3_3 : Int) (h4 : MH) => some h4))
def F_C_keptOf (p1 : Nat) (p2 : Nat) (h : MH) : Option (Int × MH) :=
  ob1 (F_C_compare p1 p2 h) (fun (h1 : MH) => some (F_C_keptFrom 0 0 h1, h1))
def F_C_apart (p1 : Nat) (p2 : Nat) (h : MH) : Option (Int × MH) :=
  ob2 (F_C_keptOf p1 p2 h) (fun (r1 : Int) (h2 : MH) => some (wr ((wr ((F_Ro_size p1 h) + (F_Ro_size p2 h))) - (wr (2 * r1))), h2))
def F_X_distanceNow (h : MH) : Option (Int × MH) :=
  ob2 (F_C_apart (F_St_text 3 0) (F_St_text 3 1) h) (fun (r1 : Int) (h2 : MH) => some (r1, h2))
def F_X_swap (p1 : Int) (p2 : Int) (h : MH) : Option (Int × MH) :=
  if F_X_isText p1 = 0 then (some ((-1), h)) else (if F_X_isText p2 = 0 then (some ((-1), h)) else (if p1 = p2 then (some ((-1), h)) else (ob1 (F_Hi_record 3 h) (fun (h4 : MH) => ob1 (F_Ro_become 47 (F_St_text 3 p1) h4) (fun (h6 : MH) => ob1 (F_Ro_become (F_St_text 3 p1) (F_St_text 3 p2) h6) (fun (h8 : MH) => ob1 (F_Ro_become (F_St_text 3 p2) 47 h8) (fun (h10 : MH) => ob2 (F_X_distanceNow h10) (fun (r12 : Int) (h13 : MH) => some (r12, h13)))))))))
def F_St_setting (o : Nat) (p1 : Int) (h : MH) : Int :=
  if p1 = 0 then (h o 3) else (h o 4)
def F_St_changeSetting (o : Nat) (p1 : Int) (p2 : Int) (h : MH) : MH :=
  if p1 = 0 then ((up h o 3 p2)) else ((up h o 4 p2))
def F_X_set (p1 : Int) (p2 : Int) (h : MH) : Option (Int × MH) :=
  jk1 (fun (u1 : Unit) => if p2 < 0 then (some ((-1), h)) else (jn1 (if p1 = 0 then (3) else (1)) (fun (s4 : Int) => if p2 ≤ s4 then (ob1 (F_Hi_record 3 h) (fun (h8 : MH) => some (F_St_setting 3 p1 h8, (F_St_changeSetting 3 p1 p2 h8)))) else (some ((-1), h))))) (fun kj2 => if p1 = 0 then (kj2 ()) else (if p1 = 1 then (kj2 ()) else (some ((-1), h))))
def F_C_step (p1 : Nat) (p2 : Nat) (p3 : Int) (p4 : Int) (h : MH) : Int :=
  jn1 (if p3 < F_Ro_size p1 h then (1) else (0)) (fun (s1 : Int) => jn1 (if p4 < F_Ro_size p2 h then (1) else (0)) (fun (s4 : Int) => jk1 (fun (u7 : Unit) => if s1 = 0 then (2) else (if s4 = 0 then (1) else (if F_C_keptFrom (wr (p3 + 1)) p4 h < F_C_keptFrom p3 (wr (p4 + 1)) h then (2) else (1)))) (fun kj8 => if s1 = 0 then (kj8 ()) else (if s4 = 0 then (kj8 ()) else (if F_Ro_at p1 p3 h = F_Ro_at p2 p4 h then (0) else (kj8 ()))))))
def F_V_size (h : MH) : Int :=
  F_Ro_size 55 h
def F_V_inHunk (p1 : Int) (h : MH) : Int :=
  if F_Ro_at 55 p1 h ≤ 0 then (0) else (1)
def F_V_hunks (h : MH) : Int :=
  F_Ro_size 59 h
def F_V_top (p1 : Int) (h : MH) : Int :=
  F_Ro_at 59 p1 h
def F_V_end (p1 : Int) (h : MH) : Int :=
  F_Ro_at 61 p1 h
def F_V_linesWithin_L6 (x2 : Int) (x3 : Int) (h : MH) : Nat → Int → Int → Option (Int × Int)
  | 0, _, _ => none
  | n + 1, x4, x5 => if x5 < x2 then (jn1 (if F_Ro_at 55 x5 h = x3 then (1) else (0)) (fun (s2 : Int) => F_V_linesWithin_L6 x2 x3 h n (wr (x4 + s2)) (wr (x5 + 1)))) else (some (x4, x5))
def F_V_linesWithin (p1 : Int) (p2 : Int) (p3 : Int) (h : MH) : Option Int :=
  ob2 (F_V_linesWithin_L6 p2 p3 h FUEL 0 p1) (fun (x4_1 : Int) (x5_2 : Int) => some x4_1)
def F_V_linesOf (p1 : Int) (p2 : Int) (h : MH) : Option Int :=
  ob1 (F_V_linesWithin (F_V_top p1 h) (F_V_end p1 h) p2 h) (fun (r1 : Int) => some r1)
def F_V_findHunks_L23  : Nat → Int → MH → Option (Int × MH)
  | 0, _, _ => none
  | n + 1, x1, h => if x1 < F_V_size h then (jn1 (if F_V_inHunk x1 h = 0 then (h) else (if F_V_inHunk (wr (x1 - 1)) h = 0 then ((F_Ro_add 59 x1 h)) else (h))) (fun (h2 : MH) => jn1 (if F_V_inHunk x1 h2 = 0 then (h2) else (if F_V_inHunk (wr (x1 + 1)) h2 = 0 then ((F_Ro_add 61 (wr (x1 + 1)) h2)) else (h2))) (fun (h6 : MH) => F_V_findHunks_L23  n (wr (x1 + 1)) h6))) else (some (x1, h))
def F_V_findHunks_L93  : Nat → Int → MH → Option (Int × MH)
  | 0, _, _ => none
  | n + 1, x1, h => if x1 < F_V_hunks h then (ob1 (F_V_linesOf x1 1 h) (fun (r2 : Int) => jk1 (fun (s6 : Int) => jn1 (if s6 = 0 then (1) else (0)) (fun (s8 : Int) => F_V_findHunks_L93  n (wr (x1 + 1)) (F_Ro_add 63 s8 h))) (fun kj7 => jk1 (fun (u4 : Unit) => kj7 0) (fun kj5 => if r2 ≤ 0 then (kj5 ()) else (ob1 (F_V_linesOf x1 2 h) (fun (r15 : Int) => if r15 ≤ 0 then (kj5 ()) else (kj7 1))))))) else (some (x1, h))
def F_V_findHunks (h : MH) : Option MH :=
  ob2 (F_V_findHunks_L23 FUEL 0 (F_Ro_emptyOut 63 (F_Ro_emptyOut 61 (F_Ro_emptyOut 59 h)))) (fun (x1_1 : Int) (h2 : MH) => ob2 (F_V_findHunks_L93 FUEL 0 h2) (fun (x1_4 : Int) (h5 : MH) => some h5))
def F_V_gather_L40 (x1 : Nat) (x2 : Nat) (x4 : Int) : Nat → Int → Int → Int → MH → Option (Int × Int × Int × MH)
  | 0, _, _, _, _ => none
  | n + 1, x5, x6, x7, h => if x7 < x4 then (if wr (x5 + x6) < x4 then (jn1 (if F_C_step x1 x2 x5 x6 h = 2 then ((F_Ro_at x2 x6 (F_Ro_add 55 (F_C_step x1 x2 x5 x6 h) h))) else ((F_Ro_at x1 x5 (F_Ro_add 55 (F_C_step x1 x2 x5 x6 h) h)))) (fun (s3 : Int) => jn1 (if F_C_step x1 x2 x5 x6 h = 2 then (0) else (1)) (fun (s6 : Int) => jn1 (if F_C_step x1 x2 x5 x6 h = 1 then (0) else (1)) (fun (s9 : Int) => F_V_gather_L40 x1 x2 x4 n (wr (x5 + s6)) (wr (x6 + s9)) (wr (x7 + 1)) (F_Ro_add 57 s3 (F_Ro_add 55 (F_C_step x1 x2 x5 x6 h) h)))))) else (some (x5, x6, x7, h))) else (some (x5, x6, x7, h))
def F_V_gather (p1 : Nat) (p2 : Nat) (h : MH) : Option MH :=
  ob1 (F_C_compare p1 p2 h) (fun (h1 : MH) => ob4 (F_V_gather_L40 p1 p2 (wr ((F_Ro_size p1 (F_Ro_emptyOut 57 (F_Ro_emptyOut 55 h1))) + (F_Ro_size p2 (F_Ro_emptyOut 57 (F_Ro_emptyOut 55 h1))))) FUEL 0 0 0 (F_Ro_emptyOut 57 (F_Ro_emptyOut 55 h1))) (fun (x5_3 : Int) (x6_4 : Int) (x7_5 : Int) (h6 : MH) => ob1 (F_V_findHunks h6) (fun (h8 : MH) => some h8)))
def F_V_isPlain (p1 : Int) (h : MH) : Int :=
  if F_Ro_at 63 p1 h = 1 then (1) else (0)
def F_V_barAt (p1 : Int) (p2 : Int) (p3 : Int) (h : MH) : Int :=
  jn1 (if p3 = 0 then ((wr (p1 - 1))) else (p2)) (fun (s1 : Int) => jn1 (if p3 = 0 then ((wr (p2 - 1))) else (p1)) (fun (s4 : Int) => if F_Ro_at 57 s1 h = (-1) then (2) else (if F_Ro_at 57 s1 h = F_Ro_at 57 s4 h then (jn1 (if p3 = 0 then ((wr (p1 - 2))) else ((wr (p2 + 1)))) (fun (s9 : Int) => if F_Ro_at 55 s9 h ≤ 0 then (0) else (4))) else (3))))
def F_V_reach_L23 (x1 : Int) (x2 : Int) (x3 : Int) (h : MH) : Nat → Int → Option (Int)
  | 0, _ => none
  | n + 1, x4 => if x4 < F_V_size h then (if F_V_barAt (wr ((F_V_top x1 h) + (wr (x3 * x4)))) (wr ((F_V_end x1 h) + (wr (x3 * x4)))) x2 h = 0 then (F_V_reach_L23 x1 x2 x3 h n (wr (x4 + 1))) else (some x4)) else (some x4)
def F_V_reach (p1 : Int) (p2 : Int) (h : MH) : Option Int :=
  if F_V_isPlain p1 h = 0 then (some 0) else (jn1 (if p2 = 0 then ((-1)) else (1)) (fun (s2 : Int) => ob1 (F_V_reach_L23 p1 p2 s2 h FUEL 0) (fun (x4_5 : Int) => some x4_5)))
def F_V_worthAt (p1 : Int) (p2 : Int) (h : MH) : Int :=
  jk1 (fun (s3 : Int) => jn1 (if F_Ro_at 57 (wr (p2 - 1)) h = 6 then (2) else (0)) (fun (s5 : Int) => jn1 (if F_Ro_at 57 p1 h = 7 then (1) else (0)) (fun (s8 : Int) => if F_Ro_at 57 (wr (p2 - 1)) h = 8 then (wr ((wr ((wr (s3 + s5)) + s8)) + 3)) else (wr ((wr ((wr (s3 + s5)) + s8)) + 0))))) (fun kj4 => jk1 (fun (u1 : Unit) => kj4 4) (fun kj2 => if F_Ro_at 57 (wr (p1 - 1)) h = 6 then (kj2 ()) else (if F_Ro_at 57 (wr (p1 - 1)) h = (-1) then (kj2 ()) else (kj4 0))))
def F_V_bestTop_L45 (x2 : Int) (x3 : Int) (h : MH) : Nat → Int → Int → Option (Int × Int)
  | 0, _, _ => none
  | n + 1, x4, x5 => if x5 ≤ x3 then (jn1 (if F_V_worthAt x5 (wr (x5 + x2)) h < F_V_worthAt x4 (wr (x4 + x2)) h then (x4) else (x5)) (fun (x4_2 : Int) => F_V_bestTop_L45 x2 x3 h n x4_2 (wr (x5 + 1)))) else (some (x4, x5))
def F_V_bestTop (p1 : Int) (h : MH) : Option Int :=
  ob1 (F_V_reach p1 1 h) (fun (r1 : Int) => ob1 (F_V_reach p1 0 h) (fun (r3 : Int) => ob2 (F_V_bestTop_L45 (wr ((F_V_end p1 h) - (F_V_top p1 h))) (wr ((F_V_top p1 h) + r1)) h FUEL (wr ((F_V_top p1 h) - r3)) (wr ((wr ((F_V_top p1 h) - r3)) + 1))) (fun (x4_5 : Int) (x5_6 : Int) => some x4_5)))
def F_V_moveTo_L35 (x1 : Int) (x2 : Int) (x3 : Int) (x4 : Int) : Nat → Int → MH → Option (Int × MH)
  | 0, _, _ => none
  | n + 1, x5, h => if x5 < F_V_end x1 h then (F_V_moveTo_L35 x1 x2 x3 x4 n (wr (x5 + 1)) (F_Ro_change 55 x5 0 h)) else (some (x5, h))
def F_V_moveTo_L64 (x1 : Int) (x2 : Int) (x3 : Int) (x4 : Int) : Nat → Int → MH → Option (Int × MH)
  | 0, _, _ => none
  | n + 1, x5, h => if x5 < x4 then (F_V_moveTo_L64 x1 x2 x3 x4 n (wr (x5 + 1)) (F_Ro_change 55 x5 x3 h)) else (some (x5, h))
def F_V_moveTo (p1 : Int) (p2 : Int) (h : MH) : Option MH :=
  ob2 (F_V_moveTo_L35 p1 p2 (F_Ro_at 55 (F_V_top p1 h) h) (wr ((wr (p2 + (F_V_end p1 h))) - (F_V_top p1 h))) FUEL (F_V_top p1 h) h) (fun (x5_1 : Int) (h2 : MH) => ob2 (F_V_moveTo_L64 p1 p2 (F_Ro_at 55 (F_V_top p1 h) h) (wr ((wr (p2 + (F_V_end p1 h))) - (F_V_top p1 h))) FUEL p2 h2) (fun (x5_4 : Int) (h5 : MH) => some (F_Ro_change 61 p1 (wr ((wr (p2 + (F_V_end p1 h))) - (F_V_top p1 h))) (F_Ro_change 59 p1 p2 h5))))
def F_V_settle_L2  : Nat → Int → MH → Option (Int × MH)
  | 0, _, _ => none
  | n + 1, x1, h => if x1 < F_V_hunks h then (jk1 (fun (h2 : MH) => F_V_settle_L2  n (wr (x1 + 1)) h2) (fun kj3 => if F_V_isPlain x1 h = 0 then (kj3 h) else (ob1 (F_V_bestTop x1 h) (fun (r6 : Int) => ob1 (F_V_moveTo x1 r6 h) (fun (h8 : MH) => kj3 h8))))) else (some (x1, h))
def F_V_settle (h : MH) : Option MH :=
  ob2 (F_V_settle_L2 FUEL 0 h) (fun (x1_1 : Int) (h2 : MH) => some h2)
def F_X_show (h : MH) : Option MH :=
  ob1 (F_V_gather (F_St_text 3 0) (F_St_text 3 1) h) (fun (h1 : MH) => if F_St_setting 3 1 h1 = 1 then (ob1 (F_V_settle h1) (fun (h4 : MH) => some h4)) else (some h1))
def F_V_has (p1 : Int) (h : MH) : Int :=
  if p1 < 0 then (0) else (if p1 < F_V_hunks h then (1) else (0))
def F_V_around (p1 : Int) (p2 : Int) (p3 : Int) (h : MH) : Int :=
  jn1 (if p3 = 0 then (jn1 (if F_V_has (wr (p1 - 1)) h = 0 then (0) else ((F_V_end (wr (p1 - 1)) h))) (fun (s4 : Int) => (wr ((F_V_top p1 h) - s4)))) else (jn1 (if F_V_has (wr (p1 + 1)) h = 0 then ((F_V_size h)) else ((F_V_top (wr (p1 + 1)) h))) (fun (s8 : Int) => (wr (s8 - (F_V_end p1 h)))))) (fun (x4_1 : Int) => imin p2 x4_1)
def F_V_kind (p1 : Int) (h : MH) : Int :=
  F_Ro_at 55 p1 h
def F_V_sign (p1 : Int) (h : MH) : Int :=
  F_Ro_at 57 p1 h
def F_La_takeParts_L41 (x3 : Int) (x5 : Int) (x6 : Int) : Nat → Int → MH → Option (Int × MH)
  | 0, _, _ => none
  | n + 1, x7, h => if x7 < x3 then (jn1 (if F_V_kind x7 h = x6 then (h) else ((F_Ro_add 68 (F_V_sign x7 h) h))) (fun (h2 : MH) => jn1 (if F_V_kind x7 h2 = x5 then (h2) else ((F_Ro_add 70 (F_V_sign x7 h2) h2))) (fun (h5 : MH) => F_La_takeParts_L41 x3 x5 x6 n (wr (x7 + 1)) h5))) else (some (x7, h))
def F_La_takeParts (p2 : Int) (p3 : Int) (p4 : Int) (h : MH) : Option MH :=
  jn1 (if p4 = 0 then (1) else (2)) (fun (s1 : Int) => jn1 (if p4 = 0 then (2) else (1)) (fun (s4 : Int) => ob2 (F_La_takeParts_L41 p3 s1 s4 FUEL p2 (F_Ro_emptyOut 70 (F_Ro_emptyOut 68 h))) (fun (x7_7 : Int) (h8 : MH) => some h8)))
def F_V_newAhead (p1 : Int) (h : MH) : Option Int :=
  ob1 (F_V_linesWithin 0 p1 1 h) (fun (r1 : Int) => some (wr (p1 - r1)))
def F_V_oldAhead (p1 : Int) (h : MH) : Option Int :=
  ob1 (F_V_linesWithin 0 p1 2 h) (fun (r1 : Int) => some (wr (p1 - r1)))
def F_La_fitsAt_L31 (x1 : Int) (h : MH) : Nat → Int → Option (Sum (Int) (Int))
  | 0, _ => none
  | n + 1, x2 => if x2 < F_Ro_size 68 h then (if F_Ro_at 68 x2 h = F_Ro_at 66 (wr (x1 + x2)) h then (F_La_fitsAt_L31 x1 h n (wr (x2 + 1))) else (some (Sum.inl 0))) else (some (Sum.inr x2))
def F_La_fitsAt (p1 : Int) (h : MH) : Option Int :=
  if p1 < h 65 9 then (some 0) else (if wr (p1 + (F_Ro_size 68 h)) ≤ F_Ro_size 66 h then (os (F_La_fitsAt_L31 p1 h FUEL 0) (fun (a : Int) => some a) (fun (q5 : Int) => some 1)) else (some 0))
def F_La_search_L2 (x1 : Int) (h : MH) : Nat → Int → Option (Sum (Int) (Int))
  | 0, _ => none
  | n + 1, x2 => if x2 ≤ 112 then (ob1 (F_La_fitsAt (wr (x1 - x2)) h) (fun (r2 : Int) => if r2 = 0 then (ob1 (F_La_fitsAt (wr (x1 + x2)) h) (fun (r5 : Int) => if r5 = 0 then (F_La_search_L2 x1 h n (wr (x2 + 1))) else (some (Sum.inl (wr (x1 + x2)))))) else (some (Sum.inl (wr (x1 - x2)))))) else (some (Sum.inr x2))
def F_La_search (p1 : Int) (h : MH) : Option Int :=
  os (F_La_search_L2 p1 h FUEL 0) (fun (a : Int) => some a) (fun (q3 : Int) => some (-4))
def F_La_replaceAt_L2 (x1 : Int) : Nat → Int → MH → Option (Int × MH)
  | 0, _, _ => none
  | n + 1, x2, h => if x2 < F_Ro_size 68 h then (ob1 (F_Ro_putOut 66 x1 h) (fun (h2 : MH) => F_La_replaceAt_L2 x1 n (wr (x2 + 1)) h2)) else (some (x2, h))
def F_La_replaceAt_L29 (x1 : Int) : Nat → Int → MH → Option (Int × MH)
  | 0, _, _ => none
  | n + 1, x2, h => if x2 < F_Ro_size 70 h then (ob1 (F_Ro_putIn 66 (wr (x1 + x2)) (F_Ro_at 70 x2 h) h) (fun (h2 : MH) => F_La_replaceAt_L29 x1 n (wr (x2 + 1)) h2)) else (some (x2, h))
def F_La_replaceAt (p1 : Int) (h : MH) : Option MH :=
  ob2 (F_La_replaceAt_L2 p1 FUEL 0 h) (fun (x2_1 : Int) (h2 : MH) => ob2 (F_La_replaceAt_L29 p1 FUEL 0 h2) (fun (x2_4 : Int) (h5 : MH) => some h5))
def F_La_layOne (p2 : Int) (p3 : Int) (p4 : Int) (h : MH) : Option MH :=
  ob1 (F_La_takeParts (wr ((F_V_top p2 h) - (F_V_around p2 p3 0 h))) (wr ((F_V_end p2 h) + (F_V_around p2 p3 1 h))) p4 h) (fun (h1 : MH) => jk1 (fun (s3 : Int) => ob1 (F_La_search (wr ((wr (s3 + (h1 65 8))) + (h1 65 7))) h1) (fun (r5 : Int) => if r5 = (-4) then (some (F_Ro_add 74 (wr (r5 - (wr ((wr (s3 + (h1 65 8))) + (h1 65 7))))) (F_Ro_add 72 r5 h1))) else (ob1 (F_La_replaceAt r5 (F_Ro_add 74 (wr (r5 - (wr ((wr (s3 + (h1 65 8))) + (h1 65 7))))) (F_Ro_add 72 r5 h1))) (fun (h8 : MH) => jn1 (up h8 65 8 (wr ((h8 65 8) + (wr ((F_Ro_size 70 h8) - (F_Ro_size 68 h8)))))) (fun (h10 : MH) => jn1 (up h10 65 7 (wr ((h10 65 7) + (wr (r5 - (wr ((wr (s3 + (h1 65 8))) + (h1 65 7)))))))) (fun (h12 : MH) => jn1 (up h12 65 9 (wr ((wr (r5 + (F_Ro_size 70 h12))) - (F_V_around p2 p3 1 h)))) (fun (h14 : MH) => jn1 (up h14 65 6 (imax (h14 65 6) (F_Ro_size 66 h14))) (fun (h16 : MH) => jn1 (up h16 65 5 (wr ((h16 65 5) + 1))) (fun (h18 : MH) => some h18))))))))) (fun kj4 => if p4 = 0 then (ob1 (F_V_oldAhead (wr ((F_V_top p2 h) - (F_V_around p2 p3 0 h))) h1) (fun (r22 : Int) => kj4 r22)) else (ob1 (F_V_newAhead (wr ((F_V_top p2 h) - (F_V_around p2 p3 0 h))) h1) (fun (r24 : Int) => kj4 r24))))
def F_La_layAll_L50 (x3 : Int) (x4 : Int) : Nat → Int → MH → Option (Int × MH)
  | 0, _, _ => none
  | n + 1, x5, h => if x5 < F_V_hunks h then (ob1 (F_La_layOne x5 x3 x4 h) (fun (h2 : MH) => F_La_layAll_L50 x3 x4 n (wr (x5 + 1)) h2)) else (some (x5, h))
def F_La_layAll (p2 : Nat) (p3 : Int) (p4 : Int) (h : MH) : Option MH :=
  ob1 (F_Ro_become 66 p2 h) (fun (h1 : MH) => ob2 (F_La_layAll_L50 p3 p4 FUEL 0 (up (up (up (up (up (F_Ro_emptyOut 74 (F_Ro_emptyOut 72 h1)) 65 5 0) 65 6 0) 65 7 0) 65 8 0) 65 9 0)) (fun (x5_3 : Int) (h4 : MH) => some h4))
def F_La_longest (h : MH) : Int :=
  h 65 6
def F_La_result : Nat :=
  66
def F_La_laid (h : MH) : Int :=
  h 65 5
def F_St_addPatches (o : Nat) (p1 : Int) (p2 : Int) (h : MH) : MH :=
  (up (up h o 5 (wr ((h o 5) + p1))) o 6 (wr (((up h o 5 (wr ((h o 5) + p1))) o 6) + p2)))
def F_X_lay (p1 : Int) (h : MH) : Option (Int × MH) :=
  ob1 (F_X_show h) (fun (h1 : MH) => ob1 (F_La_layAll (F_St_text 3 2) (F_St_setting 3 0 h1) p1 h1) (fun (h3 : MH) => if F_La_longest h3 ≤ 14 then (ob1 (F_Hi_record 3 h3) (fun (h6 : MH) => ob1 (F_Ro_become (F_St_text 3 2) 66 h6) (fun (h8 : MH) => some (F_La_laid (F_St_addPatches 3 (F_La_laid h8) (wr ((F_V_hunks h8) - (F_La_laid h8))) h8), (F_St_addPatches 3 (F_La_laid h8) (wr ((F_V_hunks h8) - (F_La_laid h8))) h8))))) else (some ((-3), h3))))
def F_X_line (p1 : Int) (p2 : Int) (h : MH) : Int :=
  if F_X_isText p1 = 0 then ((-1)) else (if p2 < 0 then ((-1)) else (if p2 < F_Ro_size (F_St_text 3 p1) h then (F_Ro_at (F_St_text 3 p1) p2 h) else ((-4))))
def F_C_entry (p1 : Int) (p2 : Int) (h : MH) : Int :=
  if p2 = 0 then (0) else (if p1 = wr (-p2) then (F_Ro_at 52 (wr ((wr (29 + p1)) + 1)) h) else (if p1 = p2 then (wr ((F_Ro_at 52 (wr ((wr (29 + p1)) - 1)) h) + 1)) else (if wr ((F_Ro_at 52 (wr ((wr (29 + p1)) - 1)) h) + 1) ≤ F_Ro_at 52 (wr ((wr (29 + p1)) + 1)) h then (F_Ro_at 52 (wr ((wr (29 + p1)) + 1)) h) else (wr ((F_Ro_at 52 (wr ((wr (29 + p1)) - 1)) h) + 1)))))
def F_C_followKept_L3 (x0 : Nat) (x1 : Nat) (x3 : Int) (h : MH) : Nat → Int → Option (Int)
  | 0, _ => none
  | n + 1, x4 => if x4 < F_Ro_size x0 h then (if wr (x4 - x3) < F_Ro_size x1 h then (if F_Ro_at x0 x4 h = F_Ro_at x1 (wr (x4 - x3)) h then (F_C_followKept_L3 x0 x1 x3 h n (wr (x4 + 1))) else (some x4)) else (some x4)) else (some x4)
def F_C_followKept (p1 : Nat) (p2 : Nat) (p3 : Int) (p4 : Int) (h : MH) : Option Int :=
  ob1 (F_C_followKept_L3 p1 p2 p4 h FUEL p3) (fun (x4_1 : Int) => some x4_1)
def F_C_apartBySteps_L33 (x1 : Nat) (x2 : Nat) (x3 : Int) (x4 : Int) : Nat → Int → MH → Option (Sum (Int × MH) (Int × MH))
  | 0, _, _ => none
  | n + 1, x5, h => if x5 ≤ x4 then (ob1 (F_C_followKept x1 x2 (F_C_entry x5 x4 h) x5 h) (fun (r2 : Int) => jk1 (fun (u4 : Unit) => F_C_apartBySteps_L33 x1 x2 x3 x4 n (wr (x5 + 2)) (F_Ro_change 52 (wr (29 + x5)) r2 h)) (fun kj5 => if r2 < F_Ro_size x1 (F_Ro_change 52 (wr (29 + x5)) r2 h) then (kj5 ()) else (if wr (r2 - x5) < F_Ro_size x2 (F_Ro_change 52 (wr (29 + x5)) r2 h) then (kj5 ()) else (some (Sum.inl (x4, (F_Ro_change 52 (wr (29 + x5)) r2 h)))))))) else (some (Sum.inr (x5, h)))
def F_C_apartBySteps_L22 (x1 : Nat) (x2 : Nat) (x3 : Int) : Nat → Int → MH → Option (Sum (Int × MH) (Int × MH))
  | 0, _, _ => none
  | n + 1, x4, h => if x4 ≤ x3 then (os (F_C_apartBySteps_L33 x1 x2 x3 x4 FUEL (wr (-x4)) h) (fun (a : Int × MH) => some (Sum.inl a)) (fun (q5 : Int × MH) => F_C_apartBySteps_L22 x1 x2 x3 n (wr (x4 + 1)) q5.2)) else (some (Sum.inr (x4, h)))
def F_C_apartBySteps (p1 : Nat) (p2 : Nat) (h : MH) : Option (Int × MH) :=
  ob1 (F_Ro_becomeZeros 52 59 h) (fun (h1 : MH) => os (F_C_apartBySteps_L22 p1 p2 (wr ((F_Ro_size p1 h) + (F_Ro_size p2 h))) FUEL 0 h1) (fun (a : Int × MH) => some a) (fun (q6 : Int × MH) => some (wr ((F_Ro_size p1 h) + (F_Ro_size p2 h)), q6.2)))
def F_X_distance (p1 : Int) (h : MH) : Option (Int × MH) :=
  if p1 = 0 then (ob2 (F_X_distanceNow h) (fun (r2 : Int) (h3 : MH) => some (r2, h3))) else (if p1 = 1 then (ob2 (F_C_apartBySteps (F_St_text 3 0) (F_St_text 3 1) h) (fun (r6 : Int) (h7 : MH) => some (r6, h7))) else (some ((-1), h)))
def F_V_hunkOf_L2 (x1 : Int) (h : MH) : Nat → Int → Option (Sum (Int) (Int))
  | 0, _ => none
  | n + 1, x2 => if x2 < F_V_hunks h then (jk1 (fun (u2 : Unit) => F_V_hunkOf_L2 x1 h n (wr (x2 + 1))) (fun kj3 => if F_V_top x2 h ≤ x1 then (if x1 < F_V_end x2 h then (some (Sum.inl x2)) else (kj3 ())) else (kj3 ()))) else (some (Sum.inr x2))
def F_V_hunkOf (p1 : Int) (h : MH) : Option Int :=
  os (F_V_hunkOf_L2 p1 h FUEL 0) (fun (a : Int) => some a) (fun (q3 : Int) => some (-4))
def F_X_view (p1 : Int) (p2 : Int) (h : MH) : Option (Int × MH) :=
  if p1 < 0 then (some ((-1), h)) else (if p2 < 0 then (some ((-1), h)) else (if p2 ≤ 4 then (ob1 (F_X_show h) (fun (h4 : MH) => if p1 < F_V_size h4 then (if p2 = 0 then (some (F_V_kind p1 h4, h4)) else (if p2 = 1 then (some (F_V_sign p1 h4, h4)) else (if p2 = 2 then (if F_V_kind p1 h4 = 2 then (some ((-4), h4)) else (ob1 (F_V_oldAhead p1 h4) (fun (r11 : Int) => some (r11, h4)))) else (if p2 = 3 then (if F_V_kind p1 h4 = 1 then (some ((-4), h4)) else (ob1 (F_V_newAhead p1 h4) (fun (r15 : Int) => some (r15, h4)))) else (ob1 (F_V_hunkOf p1 h4) (fun (r17 : Int) => some (r17, h4))))))) else (some ((-4), h4)))) else (some ((-1), h))))
def F_V_worth (p1 : Int) (h : MH) : Int :=
  F_V_worthAt (F_V_top p1 h) (F_V_end p1 h) h
def F_V_greatestWorth (p1 : Int) (h : MH) : Option Int :=
  ob1 (F_V_bestTop p1 h) (fun (r1 : Int) => some (F_V_worthAt r1 (wr ((wr (r1 + (F_V_end p1 h))) - (F_V_top p1 h))) h))
def F_X_hunk (p1 : Int) (p2 : Int) (h : MH) : Option (Int × MH) :=
  if p2 < 0 then (some ((-1), h)) else (if p2 ≤ 9 then (ob1 (F_X_show h) (fun (h3 : MH) => if F_V_has p1 h3 = 0 then (some ((-1), h3)) else (if p2 = 0 then (some (F_V_top p1 h3, h3)) else (if p2 = 1 then (ob1 (F_V_linesOf p1 1 h3) (fun (r8 : Int) => some (r8, h3))) else (if p2 = 2 then (ob1 (F_V_linesOf p1 2 h3) (fun (r11 : Int) => some (r11, h3))) else (if p2 = 3 then (if F_V_isPlain p1 h3 = 0 then (some (0, h3)) else (some (1, h3))) else (if p2 = 4 then (ob1 (F_V_reach p1 0 h3) (fun (r16 : Int) => some (r16, h3))) else (if p2 = 5 then (ob1 (F_V_reach p1 1 h3) (fun (r19 : Int) => some (r19, h3))) else (if p2 = 6 then (some (F_V_worth p1 h3, h3)) else (if p2 = 7 then (ob1 (F_V_greatestWorth p1 h3) (fun (r23 : Int) => some (r23, h3))) else (if p2 = 8 then (some (F_V_around p1 (F_St_setting 3 0 h3) 0 h3, h3)) else (some (F_V_around p1 (F_St_setting 3 0 h3) 1 h3, h3))))))))))))) else (some ((-1), h)))
def F_V_hindrance (p1 : Int) (p2 : Int) (h : MH) : Int :=
  if F_V_isPlain p1 h = 0 then (1) else (F_V_barAt (F_V_top p1 h) (F_V_end p1 h) p2 h)
def F_X_whyNot (p1 : Int) (p2 : Int) (h : MH) : Option (Int × MH) :=
  ob1 (F_X_show h) (fun (h1 : MH) => if F_V_has p1 h1 = 0 then (some ((-1), h1)) else (some (F_V_hindrance p1 p2 h1, h1)))
def F_St_laid (o : Nat) (h : MH) : Int :=
  h o 5
def F_St_leftOut (o : Nat) (h : MH) : Int :=
  h o 6
def F_Hi_size (h : MH) : Int :=
  h 17 1
def F_X_heldNumber (p1 : Int) (h : MH) : Int :=
  if p1 = 12 then (F_St_laid 3 h) else (if p1 = 13 then (F_St_leftOut 3 h) else (if p1 = 14 then (F_St_setting 3 0 h) else (if p1 = 15 then (F_St_setting 3 1 h) else (if p1 = 16 then (F_Ro_size 1 h) else (F_Hi_size h)))))
def F_V_linesOfKind (p1 : Int) (h : MH) : Option Int :=
  ob1 (F_V_linesWithin 0 (F_V_size h) p1 h) (fun (r1 : Int) => some r1)
def F_V_plainHunks_L4 (h : MH) : Nat → Int → Int → Option (Int × Int)
  | 0, _, _ => none
  | n + 1, x1, x2 => if x2 < F_V_hunks h then (jn1 (if F_V_isPlain x2 h = 0 then (0) else (1)) (fun (s2 : Int) => F_V_plainHunks_L4 h n (wr (x1 + s2)) (wr (x2 + 1)))) else (some (x1, x2))
def F_V_plainHunks (h : MH) : Option Int :=
  ob2 (F_V_plainHunks_L4 h FUEL 0 0) (fun (x1_1 : Int) (x2_2 : Int) => some x1_1)
def F_V_slidingHunks_L4 (h : MH) : Nat → Int → Int → Option (Int × Int)
  | 0, _, _ => none
  | n + 1, x1, x2 => if x2 < F_V_hunks h then (ob1 (F_V_reach x2 0 h) (fun (r2 : Int) => ob1 (F_V_reach x2 1 h) (fun (r4 : Int) => jn1 (if wr (r2 + r4) ≤ 0 then (0) else (1)) (fun (s6 : Int) => F_V_slidingHunks_L4 h n (wr (x1 + s6)) (wr (x2 + 1)))))) else (some (x1, x2))
def F_V_slidingHunks (h : MH) : Option Int :=
  ob2 (F_V_slidingHunks_L4 h FUEL 0 0) (fun (x1_1 : Int) (x2_2 : Int) => some x1_1)
def F_V_worthOfAll_L4 (h : MH) : Nat → Int → Int → Option (Int × Int)
  | 0, _, _ => none
  | n + 1, x1, x2 => if x2 < F_V_hunks h then (F_V_worthOfAll_L4 h n (wr (x1 + (F_V_worth x2 h))) (wr (x2 + 1))) else (some (x1, x2))
def F_V_worthOfAll (h : MH) : Option Int :=
  ob2 (F_V_worthOfAll_L4 h FUEL 0 0) (fun (x1_1 : Int) (x2_2 : Int) => some x1_1)
def F_V_longestKept_L6 (h : MH) : Nat → Int → Int → Int → Option (Int × Int × Int)
  | 0, _, _, _ => none
  | n + 1, x1, x2, x3 => if x3 < F_V_size h then (jn1 (if F_V_inHunk x3 h = 0 then ((wr (x2 + 1))) else (0)) (fun (s2 : Int) => F_V_longestKept_L6 h n (imax x1 s2) s2 (wr (x3 + 1)))) else (some (x1, x2, x3))
def F_V_longestKept (h : MH) : Option Int :=
  ob3 (F_V_longestKept_L6 h FUEL 0 0 0) (fun (x1_1 : Int) (x2_2 : Int) (x3_3 : Int) => some x1_1)
def F_X_shownNumber (p1 : Int) (h : MH) : Option Int :=
  if p1 = 3 then (some (F_V_size h)) else (if p1 = 4 then (ob1 (F_V_linesOfKind 0 h) (fun (r3 : Int) => some r3)) else (if p1 = 5 then (ob1 (F_V_linesOfKind 1 h) (fun (r6 : Int) => some r6)) else (if p1 = 6 then (ob1 (F_V_linesOfKind 2 h) (fun (r9 : Int) => some r9)) else (if p1 = 7 then (some (F_V_hunks h)) else (if p1 = 8 then (ob1 (F_V_plainHunks h) (fun (r13 : Int) => some r13)) else (if p1 = 9 then (ob1 (F_V_slidingHunks h) (fun (r16 : Int) => some r16)) else (if p1 = 10 then (ob1 (F_V_worthOfAll h) (fun (r19 : Int) => some r19)) else (ob1 (F_V_longestKept h) (fun (r21 : Int) => some r21)))))))))
def F_X_count (p1 : Int) (h : MH) : Option (Int × MH) :=
  if p1 < 0 then (some ((-1), h)) else (if p1 ≤ 17 then (if F_X_isText p1 = 0 then (if p1 ≤ 11 then (ob1 (F_X_show h) (fun (h5 : MH) => ob1 (F_X_shownNumber p1 h5) (fun (r7 : Int) => some (r7, h5)))) else (some (F_X_heldNumber p1 h, h))) else (some (F_Ro_size (F_St_text 3 p1) h, h))) else (some ((-1), h)))
def F_X_alike (h : MH) : Option (UInt64 × MH) :=
  if wr ((F_Ro_size (F_St_text 3 0) h) + (F_Ro_size (F_St_text 3 1) h)) = 0 then (some (FP.dconst1, h)) else (ob2 (F_C_keptOf (F_St_text 3 0) (F_St_text 3 1) h) (fun (r2 : Int) (h3 : MH) => gd (FP.ddiv (FP.i2d (Int32.ofInt (wr (2 * r2)))) (FP.i2d (Int32.ofInt (wr ((F_Ro_size (F_St_text 3 0) h) + (F_Ro_size (F_St_text 3 1) h))))) &&& 0x7fffffffffffffff ≤ 0x7ff0000000000000) (some (FP.ddiv (FP.i2d (Int32.ofInt (wr (2 * r2)))) (FP.i2d (Int32.ofInt (wr ((F_Ro_size (F_St_text 3 0) h) + (F_Ro_size (F_St_text 3 1) h))))), h3))))
def F_La_placeOf (p1 : Int) (h : MH) : Int :=
  F_Ro_at 72 p1 h
def F_La_lowerOf (p1 : Int) (h : MH) : Int :=
  F_Ro_at 74 p1 h
def F_X_ifLaid (p1 : Int) (p2 : Int) (p3 : Int) (h : MH) : Option (Int × MH) :=
  jk1 (fun (u1 : Unit) => ob1 (F_X_show h) (fun (h3 : MH) => if F_V_has p1 h3 = 0 then (some ((-1), h3)) else (ob1 (F_La_layAll (F_St_text 3 2) (F_St_setting 3 0 h3) p2 h3) (fun (h6 : MH) => if F_La_placeOf p1 h6 = (-4) then (some ((-4), h6)) else (if p3 = 0 then (some (F_La_placeOf p1 h6, h6)) else (some (wr ((F_La_lowerOf p1 h6) + 100), h6))))))) (fun kj2 => if p3 = 0 then (kj2 ()) else (if p3 = 1 then (kj2 ()) else (some ((-1), h))))
def F_Ro_isEmpty (o : Nat) (h : MH) : Int :=
  if h o 1 = 0 then (1) else (0)
def F_X_least_L27 (x1 : Nat) : Nat → Int → Int → Int → MH → Option (Int × Int × Int × MH)
  | 0, _, _, _, _ => none
  | n + 1, x2, x3, x4, h => if x4 < F_Ro_size x1 h then (ob1 (F_Ro_become 47 x1 h) (fun (h2 : MH) => ob1 (F_Ro_putOut 47 x4 h2) (fun (h4 : MH) => ob2 (F_C_apart 47 (F_St_text 3 1) h4) (fun (r6 : Int) (h7 : MH) => jn2 (if r6 < x3 then ((x4, r6)) else ((x2, x3))) (fun (x2_9 : Int) (x3_10 : Int) => F_X_least_L27 x1 n x2_9 x3_10 (wr (x4 + 1)) h7))))) else (some (x2, x3, x4, h))
def F_X_least (h : MH) : Option (Int × MH) :=
  if F_Ro_isEmpty (F_St_text 3 0) h = 0 then (ob4 (F_X_least_L27 (F_St_text 3 0) FUEL 0 29 0 h) (fun (x2_2 : Int) (x3_3 : Int) (x4_4 : Int) (h5 : MH) => some (x2_2, h5))) else (some ((-2), h))
def F_Hi_isEmpty (h : MH) : Int :=
  if h 17 1 = 0 then (1) else (0)
def F_Hi_takeBack (p1 : Nat) (h : MH) : Option MH :=
  if h 17 1 ≤ 0 then (some h) else (ob1 (F_Hi_copy (F_Hi_slot ((up h 17 1 (wr ((h 17 1) - 1))) 17 1)) (some p1) (up h 17 1 (wr ((h 17 1) - 1)))) (fun (h2 : MH) => some h2))
def F_X_undo (h : MH) : Option (Int × MH) :=
  if F_Hi_isEmpty h = 0 then (ob1 (F_Hi_takeBack 3 h) (fun (h2 : MH) => some (F_Hi_size h2, h2))) else (some ((-2), h))
def F_X_save (h : MH) : Option (Int × MH) :=
  ob1 (F_St_become 10 3 h) (fun (h1 : MH) => ob2 (F_X_distanceNow (up h1 0 3 1)) (fun (r3 : Int) (h4 : MH) => some (r3, h4)))
def F_X_restore (h : MH) : Option (Int × MH) :=
  if h 0 3 = 0 then (some ((-2), h)) else (ob1 (F_Hi_record 3 h) (fun (h2 : MH) => ob1 (F_St_become 3 10 h2) (fun (h4 : MH) => ob2 (F_X_distanceNow h4) (fun (r6 : Int) (h7 : MH) => some (r6, h7)))))
def F_L_low (p1 : Int) (p2 : Int) : Option Int :=
  gd (¬ p2 = 0) (some (remv (andv p1 2147483647) p2))
def F_L_isView_L25 (x7 : Int) : Nat → Int → Int → Int → Int → Int → Int → Int → MH → Option (Sum (Int × MH) (Int × Int × Int × Int × Int × Int × Int × MH))
  | 0, _, _, _, _, _, _, _, _ => none
  | n + 1, x1, x2, x3, x4, x5, x6, x8, h => if x8 < x7 then (if x8 < 28 then (ob2 (F_X_view x8 0 h) (fun (r3 : Int) (h4 : MH) => ob2 (F_X_view x8 1 h4) (fun (r6 : Int) (h7 : MH) => jk2 (fun (s11 : Int) (h12 : MH) => jn1 (if s11 = 0 then (0) else (1)) (fun (s14 : Int) => jk2 (fun (s19 : Int) (h20 : MH) => if s19 = 0 then (some (Sum.inl (0, h20))) else (jk1 (fun (h23 : MH) => jn1 (if r3 = 2 then (0) else (1)) (fun (s25 : Int) => jn1 (if r3 = 1 then (0) else (1)) (fun (s28 : Int) => jn1 (if r3 = 0 then (1) else (0)) (fun (s31 : Int) => jn1 (if r3 = 0 then ((wr (x4 + 1))) else (0)) (fun (s34 : Int) => jn1 (if s34 ≤ x5 then (x5) else (s34)) (fun (s37 : Int) => F_L_isView_L25 x7 n (wr (x1 + s25)) (wr (x2 + s28)) (wr (x3 + s31)) s34 s37 (wr (x6 + s14)) (wr (x8 + 1)) h23)))))) (fun kj24 => if s11 = 0 then (kj24 h20) else (ob2 (F_X_hunk (wr (x6 + s14)) 0 h20) (fun (r47 : Int) (h48 : MH) => if r47 = x8 then (kj24 h48) else (some (Sum.inl (0, h48)))))))) (fun kj21 => jk1 (fun (h17 : MH) => kj21 0 h17) (fun kj18 => if r3 < 0 then (kj18 h12) else (if r3 < 3 then (ob2 (F_X_view x8 2 h12) (fun (r55 : Int) (h56 : MH) => jn1 (if r3 = 2 then ((-4)) else (x1)) (fun (s58 : Int) => if r55 = s58 then (ob2 (F_X_view x8 3 h56) (fun (r62 : Int) (h63 : MH) => jn1 (if r3 = 1 then ((-4)) else (x2)) (fun (s65 : Int) => if r62 = s65 then (ob2 (F_X_view x8 4 h63) (fun (r69 : Int) (h70 : MH) => jn1 (if r3 = 0 then ((-4)) else ((wr (x6 + s14)))) (fun (s72 : Int) => if r69 = s72 then (jk1 (fun (u76 : Unit) => jk1 (fun (u78 : Unit) => kj21 1 h70) (fun kj79 => if r3 = 1 then (kj79 ()) else (if F_X_line 1 x2 h70 = r6 then (kj79 ()) else (kj18 h70)))) (fun kj77 => if r3 = 2 then (kj77 ()) else (if F_X_line 0 x1 h70 = r6 then (kj77 ()) else (kj18 h70)))) else (kj18 h70)))) else (kj18 h63)))) else (kj18 h56)))) else (kj18 h12)))))) (fun kj13 => jk1 (fun (h9 : MH) => kj13 0 h9) (fun kj10 => if r3 ≤ 0 then (kj10 h7) else (jk1 (fun (h93 : MH) => kj13 1 h93) (fun kj94 => if x8 = 0 then (kj94 h7) else (ob2 (F_X_view (wr (x8 - 1)) 0 h7) (fun (r97 : Int) (h98 : MH) => if r97 = 0 then (kj94 h98) else (kj10 h98)))))))))) else (some (Sum.inr (x1, x2, x3, x4, x5, x6, x8, h)))) else (some (Sum.inr (x1, x2, x3, x4, x5, x6, x8, h)))
def F_L_isView (h : MH) : Option (Int × MH) :=
  ob2 (F_X_count 3 h) (fun (r1 : Int) (h2 : MH) => os (F_L_isView_L25 r1 FUEL 0 0 0 0 0 (-1) 0 h2) (fun (a : Int × MH) => some a) (fun (q13 : Int × Int × Int × Int × Int × Int × Int × MH) => ob2 (F_X_count 0 q13.2.2.2.2.2.2.2) (fun (r17 : Int) (h18 : MH) => jk2 (fun (s22 : Int) (h23 : MH) => if s22 = 0 then (some (0, h23)) else (ob2 (F_X_distance 0 h23) (fun (r26 : Int) (h27 : MH) => if r26 = wr (r1 - q13.2.2.1) then (ob2 (F_X_distance 1 h27) (fun (r30 : Int) (h31 : MH) => if r30 = wr (r1 - q13.2.2.1) then (ob2 (F_X_view r1 0 h31) (fun (r34 : Int) (h35 : MH) => if r34 = (-4) then (ob2 (F_X_alike h35) (fun (r38 : UInt64) (h39 : MH) => jk1 (fun (s41 : UInt64) => if (Op.cmpValue (FP.dcmp r38 s41) .l).toInt = 0 then (some (1, h39)) else (some (0, h39))) (fun kj42 => if wr (q13.1 + q13.2.1) = 0 then (kj42 FP.dconst1) else (gd (FP.dmul (FP.i2d (Int32.ofInt (wr (2 * q13.2.2.1)))) FP.dconst1 &&& 0x7fffffffffffffff ≤ 0x7ff0000000000000) (gd (FP.ddiv (FP.dmul (FP.i2d (Int32.ofInt (wr (2 * q13.2.2.1)))) FP.dconst1) (FP.i2d (Int32.ofInt (wr (q13.1 + q13.2.1)))) &&& 0x7fffffffffffffff ≤ 0x7ff0000000000000) (kj42 (FP.ddiv (FP.dmul (FP.i2d (Int32.ofInt (wr (2 * q13.2.2.1)))) FP.dconst1) (FP.i2d (Int32.ofInt (wr (q13.1 + q13.2.1))))))))))) else (some (0, h35)))) else (some (0, h31)))) else (some (0, h27))))) (fun kj24 => jk1 (fun (h20 : MH) => kj24 0 h20) (fun kj21 => if q13.1 = r17 then (ob2 (F_X_count 1 h18) (fun (r51 : Int) (h52 : MH) => if q13.2.1 = r51 then (ob2 (F_X_count 4 h52) (fun (r55 : Int) (h56 : MH) => if q13.2.2.1 = r55 then (ob2 (F_X_count 5 h56) (fun (r59 : Int) (h60 : MH) => if wr (r1 - q13.2.1) = r59 then (ob2 (F_X_count 6 h60) (fun (r63 : Int) (h64 : MH) => if wr (r1 - q13.1) = r63 then (ob2 (F_X_count 7 h64) (fun (r67 : Int) (h68 : MH) => if wr (q13.2.2.2.2.2.1 + 1) = r67 then (ob2 (F_X_count 11 h68) (fun (r71 : Int) (h72 : MH) => if q13.2.2.2.2.1 = r71 then (kj24 1 h72) else (kj21 h72))) else (kj21 h68))) else (kj21 h64))) else (kj21 h60))) else (kj21 h56))) else (kj21 h52))) else (kj21 h18))))))
def F_L_isHunk_L184 (x1 : Int) (x2 : Int) (x5 : Int) (x8 : Int) : Nat → Int → Int → MH → Option (Sum (Int × MH) (Int × Int × MH))
  | 0, _, _, _ => none
  | n + 1, x9, x10, h => if x10 ≤ wr (x2 + x8) then (if x10 < 28 then (jk2 (fun (s3 : Int) (h4 : MH) => ob2 (F_X_view (wr ((wr (x10 + x5)) - 1)) 1 h4) (fun (r6 : Int) (h7 : MH) => jk2 (fun (s11 : Int) (h12 : MH) => jn1 (if r6 = 6 then (2) else (0)) (fun (s14 : Int) => ob2 (F_X_view x10 1 h12) (fun (r17 : Int) (h18 : MH) => jn1 (if r17 = 7 then (1) else (0)) (fun (s20 : Int) => jn1 (if r6 = 8 then (3) else (0)) (fun (s23 : Int) => jn1 (if wr ((wr ((wr (s11 + s14)) + s20)) + s23) ≤ x9 then (x9) else ((wr ((wr ((wr (s11 + s14)) + s20)) + s23)))) (fun (s26 : Int) => if s3 = 0 then (some (Sum.inl (0, h18))) else (jk1 (fun (h30 : MH) => F_L_isHunk_L184 x1 x2 x5 x8 n s26 (wr (x10 + 1)) h30) (fun kj31 => if x10 = x2 then (ob2 (F_X_hunk x1 6 h18) (fun (r34 : Int) (h35 : MH) => if r34 = wr ((wr ((wr (s11 + s14)) + s20)) + s23) then (kj31 h35) else (some (Sum.inl (0, h35))))) else (kj31 h18))))))))) (fun kj13 => jk1 (fun (h9 : MH) => kj13 4 h9) (fun kj10 => if x10 = 0 then (kj10 h7) else (ob2 (F_X_view (wr (x10 - 1)) 1 h7) (fun (r45 : Int) (h46 : MH) => if r45 = 6 then (kj10 h46) else (kj13 0 h46))))))) (fun kj5 => if x10 < x2 then (ob2 (F_X_view x10 0 h) (fun (r51 : Int) (h52 : MH) => jk1 (fun (h54 : MH) => kj5 0 h54) (fun kj55 => if r51 = 0 then (ob2 (F_X_view x10 1 h52) (fun (r58 : Int) (h59 : MH) => ob2 (F_X_view (wr (x10 + x5)) 1 h59) (fun (r61 : Int) (h62 : MH) => if r58 = r61 then (kj5 1 h62) else (kj55 h62)))) else (kj55 h52)))) else (jk1 (fun (h65 : MH) => kj5 1 h65) (fun kj66 => if x10 = x2 then (kj66 h) else (ob2 (F_X_view (wr ((wr (x10 + x5)) - 1)) 0 h) (fun (r69 : Int) (h70 : MH) => jk1 (fun (h72 : MH) => kj5 0 h72) (fun kj73 => if r69 = 0 then (ob2 (F_X_view (wr ((wr (x10 + x5)) - 1)) 1 h70) (fun (r76 : Int) (h77 : MH) => ob2 (F_X_view (wr (x10 - 1)) 1 h77) (fun (r79 : Int) (h80 : MH) => if r76 = r79 then (kj66 h80) else (kj73 h80)))) else (kj73 h70)))))))) else (some (Sum.inr (x9, x10, h)))) else (some (Sum.inr (x9, x10, h)))
def F_L_isHunk_L495 (x2 : Int) (x10 : Int) : Nat → Int → Int → MH → Option (Int × Int × MH)
  | 0, _, _, _ => none
  | n + 1, x12, x13, h => if x13 ≤ 3 then (if x12 = 0 then (some (x12, x13, h)) else (jn1 (if x13 ≤ x10 then (1) else (0)) (fun (s3 : Int) => ob2 (F_X_count 14 h) (fun (r6 : Int) (h7 : MH) => jk2 (fun (s11 : Int) (h12 : MH) => jn1 (if s3 = s11 then (1) else (0)) (fun (s14 : Int) => F_L_isHunk_L495 x2 x10 n s14 (wr (x13 + 1)) h12)) (fun kj13 => jk1 (fun (h9 : MH) => kj13 0 h9) (fun kj10 => if x13 ≤ r6 then (if x13 ≤ x2 then (ob2 (F_X_view (wr (x2 - x13)) 0 h7) (fun (r22 : Int) (h23 : MH) => if r22 = 0 then (jk1 (fun (u26 : Unit) => kj13 1 h23) (fun kj27 => if x13 = 1 then (kj27 ()) else (if wr (x13 - 1) ≤ x10 then (kj27 ()) else (kj10 h23)))) else (kj10 h23))) else (kj10 h7)) else (kj10 h7))))))) else (some (x12, x13, h))
def F_L_isHunk (p2 : Int) (h : MH) : Option (Int × MH) :=
  ob2 (F_X_hunk p2 0 h) (fun (r1 : Int) (h2 : MH) => ob2 (F_X_hunk p2 1 h2) (fun (r4 : Int) (h5 : MH) => ob2 (F_X_hunk p2 2 h5) (fun (r7 : Int) (h8 : MH) => jk1 (fun (s12 : Int) => ob2 (F_X_hunk p2 4 h8) (fun (r14 : Int) (h15 : MH) => ob2 (F_X_hunk p2 5 h15) (fun (r17 : Int) (h18 : MH) => if wr (r4 + r7) < 1 then (some (0, h18)) else (ob2 (F_X_hunk p2 3 h18) (fun (r21 : Int) (h22 : MH) => jn1 (if r21 = 1 then (1) else (0)) (fun (s24 : Int) => if s24 = s12 then (if r14 < 0 then (some (0, h22)) else (if r17 < 0 then (some (0, h22)) else (ob2 (F_X_whyNot p2 0 h22) (fun (r30 : Int) (h31 : MH) => jn1 (if r30 = 0 then (1) else (0)) (fun (s33 : Int) => jn1 (if r14 ≤ 0 then (0) else (1)) (fun (s36 : Int) => if s33 = s36 then (ob2 (F_X_whyNot p2 1 h31) (fun (r40 : Int) (h41 : MH) => jn1 (if r40 = 0 then (1) else (0)) (fun (s43 : Int) => jn1 (if r17 ≤ 0 then (0) else (1)) (fun (s46 : Int) => if s43 = s46 then (jk1 (fun (h50 : MH) => os (F_L_isHunk_L184 p2 r1 (wr (r4 + r7)) r17 FUEL (-1) (wr (r1 - r14)) h50) (fun (a : Int × MH) => some a) (fun (q56 : Int × Int × MH) => ob2 (F_X_hunk p2 8 q56.2.2) (fun (r60 : Int) (h61 : MH) => ob2 (F_X_hunk p2 9 h61) (fun (r63 : Int) (h64 : MH) => ob2 (F_X_hunk p2 7 h64) (fun (r66 : Int) (h67 : MH) => jk2 (fun (s71 : Int) (h72 : MH) => ob3 (F_L_isHunk_L495 r1 r60 FUEL s71 1 h72) (fun (x12_74 : Int) (x13_75 : Int) (h76 : MH) => gd (x12_74 = 0 ∨ x12_74 = 1) (some (x12_74, h76)))) (fun kj73 => jk1 (fun (h69 : MH) => kj73 0 h69) (fun kj70 => if r66 = q56.1 then (ob2 (F_X_count 14 h67) (fun (r82 : Int) (h83 : MH) => if r60 ≤ r82 then (ob2 (F_X_count 14 h83) (fun (r86 : Int) (h87 : MH) => if r63 ≤ r86 then (if r60 ≤ r1 then (kj73 1 h87) else (kj70 h87)) else (kj70 h87))) else (kj70 h83))) else (kj70 h67)))))))) (fun kj51 => if s12 = 0 then (if wr (r14 + r17) ≤ 0 then (ob2 (F_X_whyNot p2 1 h41) (fun (r94 : Int) (h95 : MH) => if r94 = 1 then (kj51 h95) else (some (0, h95)))) else (some (0, h41))) else (kj51 h41))) else (some (0, h41)))))) else (some (0, h31)))))))) else (some (0, h22)))))))) (fun kj13 => jk1 (fun (u10 : Unit) => kj13 1) (fun kj11 => if r4 = 0 then (kj11 ()) else (if r7 = 0 then (kj11 ()) else (kj13 0)))))))
def F_L_isLaid_L58 (x1 : Int) (x2 : Int) (x3 : Int) (x4 : Int) (x5 : Int) (x6 : Int) (x7 : Int) (x8 : Int) : Nat → Int → MH → Option (Int × MH)
  | 0, _, _ => none
  | n + 1, x9, h => if x9 < 14 then (ob2 (F_X_count 2 h) (fun (r2 : Int) (h3 : MH) => if r2 ≤ 0 then (some (x9, h3)) else (ob2 (F_X_edit 2 0 20 h3) (fun (r6 : Int) (h7 : MH) => F_L_isLaid_L58 x1 x2 x3 x4 x5 x6 x7 x8 n (wr (x9 + 1)) h7)))) else (some (x9, h))
def F_L_isLaid_L92 (x1 : Int) (x2 : Int) (x3 : Int) (x4 : Int) (x5 : Int) (x6 : Int) (x7 : Int) (x8 : Int) : Nat → Int → MH → Option (Int × MH)
  | 0, _, _ => none
  | n + 1, x9, h => if x9 < x4 then (ob2 (F_X_edit 2 x9 (F_X_line x3 x9 h) h) (fun (r2 : Int) (h3 : MH) => F_L_isLaid_L92 x1 x2 x3 x4 x5 x6 x7 x8 n (wr (x9 + 1)) h3)) else (some (x9, h))
def F_L_isLaid_L141 (x1 : Int) (x2 : Int) (x3 : Int) (x5 : Int) (x6 : Int) (x7 : Int) (x8 : Int) : Nat → Int → Int → MH → Option (Int × Int × MH)
  | 0, _, _, _ => none
  | n + 1, x9, x10, h => if x10 < x2 then (if x10 < 28 then (jk2 (fun (s5 : Int) (h6 : MH) => F_L_isLaid_L141 x1 x2 x3 x5 x6 x7 x8 n s5 (wr (x10 + 1)) h6) (fun kj7 => jk1 (fun (h3 : MH) => kj7 0 h3) (fun kj4 => if x9 = 0 then (kj4 h) else (ob2 (F_X_ifLaid x10 x1 1 h) (fun (r11 : Int) (h12 : MH) => if r11 = 100 then (kj7 1 h12) else (kj4 h12)))))) else (some (x9, x10, h))) else (some (x9, x10, h))
def F_L_isLaid_L285 (x3 : Int) (x5 : Int) (x6 : Int) (x8 : Int) (h : MH) : Nat → Int → Int → Option (Int × Int)
  | 0, _, _ => none
  | n + 1, x9, x11 => if x11 < x5 then (if x9 = 0 then (some (x9, x11)) else (jn1 (if F_X_line 2 x11 h = F_X_line (wr (1 - x3)) x11 h then (1) else (0)) (fun (s3 : Int) => F_L_isLaid_L285 x3 x5 x6 x8 h n s3 (wr (x11 + 1))))) else (some (x9, x11))
def F_L_isLaid (p2 : Int) (h : MH) : Option (Int × MH) :=
  ob2 (F_X_count 7 h) (fun (r1 : Int) (h2 : MH) => jn1 (if p2 = 0 then (0) else (1)) (fun (s4 : Int) => ob2 (F_X_count s4 h2) (fun (r7 : Int) (h8 : MH) => ob2 (F_X_count (wr (1 - s4)) h8) (fun (r10 : Int) (h11 : MH) => ob2 (F_X_count 12 h11) (fun (r13 : Int) (h14 : MH) => ob2 (F_X_count 13 h14) (fun (r16 : Int) (h17 : MH) => ob2 (F_X_save h17) (fun (r19 : Int) (h20 : MH) => ob2 (F_L_isLaid_L58 p2 r1 s4 r7 r10 r13 r16 r19 FUEL 0 h20) (fun (x9_22 : Int) (h23 : MH) => ob2 (F_L_isLaid_L92 p2 r1 s4 r7 r10 r13 r16 r19 FUEL 0 h23) (fun (x9_25 : Int) (h26 : MH) => ob2 (F_X_count 2 h26) (fun (r28 : Int) (h29 : MH) => jn1 (if r28 = r7 then (1) else (0)) (fun (s31 : Int) => ob3 (F_L_isLaid_L141 p2 r1 s4 r10 r13 r16 r19 FUEL s31 0 h29) (fun (x9_34 : Int) (x10_35 : Int) (h36 : MH) => ob2 (F_X_lay p2 h36) (fun (r38 : Int) (h39 : MH) => if r38 = (-3) then (if x9_34 = 0 then (some (0, h39)) else (ob2 (F_X_restore h39) (fun (r43 : Int) (h44 : MH) => if r43 = r19 then (ob2 (F_X_count 12 h44) (fun (r47 : Int) (h48 : MH) => if r47 = r13 then (some (1, h48)) else (some (0, h48)))) else (some (0, h44))))) else (jk2 (fun (s53 : Int) (h54 : MH) => ob2 (F_L_isLaid_L285 s4 r10 r13 r19 h54 FUEL s53 0) (fun (x9_56 : Int) (x11_57 : Int) => if x9_56 = 0 then (some (0, h54)) else (ob2 (F_X_restore h54) (fun (r60 : Int) (h61 : MH) => if r60 = r19 then (ob2 (F_X_count 12 h61) (fun (r64 : Int) (h65 : MH) => if r64 = r13 then (some (1, h65)) else (some (0, h65)))) else (some (0, h61)))))) (fun kj55 => jk1 (fun (h51 : MH) => kj55 0 h51) (fun kj52 => if x9_34 = 0 then (kj52 h39) else (if r38 = r1 then (ob2 (F_X_count 12 h39) (fun (r72 : Int) (h73 : MH) => if r72 = wr (r13 + r1) then (ob2 (F_X_count 13 h73) (fun (r76 : Int) (h77 : MH) => if r76 = r16 then (ob2 (F_X_count 2 h77) (fun (r80 : Int) (h81 : MH) => if r80 = r10 then (kj55 1 h81) else (kj52 h81))) else (kj52 h77))) else (kj52 h73))) else (kj52 h39))))))))))))))))))
def F_L_isLeast_L36 (x1 : Int) (x2 : Int) : Nat → Int → Int → Int → MH → Option (Sum (Int × MH) (Int × Int × Int × MH))
  | 0, _, _, _, _ => none
  | n + 1, x3, x4, x5, h => if x5 < x1 then (if x5 < 14 then (ob2 (F_X_edit 0 x5 20 h) (fun (r3 : Int) (h4 : MH) => ob2 (F_X_distance 0 h4) (fun (r6 : Int) (h7 : MH) => jn1 (if r6 < x4 then (x5) else (x3)) (fun (s9 : Int) => jn1 (if r6 < x4 then (r6) else (x4)) (fun (s12 : Int) => if r3 = wr (x1 - 1) then (ob2 (F_X_undo h7) (fun (r16 : Int) (h17 : MH) => if r16 < 0 then (some (Sum.inl (0, h17))) else (F_L_isLeast_L36 x1 x2 n s9 s12 (wr (x5 + 1)) h17))) else (some (Sum.inl (0, h7)))))))) else (some (Sum.inr (x3, x4, x5, h)))) else (some (Sum.inr (x3, x4, x5, h)))
def F_L_isLeast (h : MH) : Option (Int × MH) :=
  ob2 (F_X_count 0 h) (fun (r1 : Int) (h2 : MH) => ob2 (F_X_least h2) (fun (r4 : Int) (h5 : MH) => if r1 = 0 then (if r4 = (-2) then (some (1, h5)) else (some (0, h5))) else (os (F_L_isLeast_L36 r1 r4 FUEL (-1) 99 0 h5) (fun (a : Int × MH) => some a) (fun (q14 : Int × Int × Int × MH) => if r4 = q14.1 then (ob2 (F_X_count 0 q14.2.2.2) (fun (r19 : Int) (h20 : MH) => if r19 = r1 then (some (1, h20)) else (some (0, h20)))) else (some (0, q14.2.2.2))))))
def F_L_does (p2 : Int) (h : MH) : Option (Int × MH) :=
  ob1 (F_L_low (shrv p2 4) 3) (fun (r1 : Int) => ob2 (F_X_count r1 h) (fun (r3 : Int) (h4 : MH) => ob1 (F_L_low p2 12) (fun (r6 : Int) => if r6 = 0 then (jn1 (if andv (shrv p2 4) 1 = 0 then ((andv (shrv p2 5) 3)) else ((andv (shrv p2 5) 1))) (fun (s9 : Int) => ob2 (F_X_count (wr (14 + (andv (shrv p2 4) 1))) h4) (fun (r12 : Int) (h13 : MH) => ob2 (F_X_set (andv (shrv p2 4) 1) s9 h13) (fun (r15 : Int) (h16 : MH) => if r15 = r12 then (ob2 (F_X_count (wr (14 + (andv (shrv p2 4) 1))) h16) (fun (r19 : Int) (h20 : MH) => if r19 = s9 then (some (1, h20)) else (some (0, h20)))) else (some (0, h16)))))) else (if r6 = 1 then (ob2 (F_X_count (remv (wr ((wr (r1 + 1)) + (andv (shrv p2 6) 1))) 3) h4) (fun (r25 : Int) (h26 : MH) => ob2 (F_X_swap r1 (remv (wr ((wr (r1 + 1)) + (andv (shrv p2 6) 1))) 3) h26) (fun (r28 : Int) (h29 : MH) => ob2 (F_X_distance 0 h29) (fun (r31 : Int) (h32 : MH) => if r28 = r31 then (ob2 (F_X_count r1 h32) (fun (r35 : Int) (h36 : MH) => if r35 = r25 then (ob2 (F_X_count (remv (wr ((wr (r1 + 1)) + (andv (shrv p2 6) 1))) 3) h36) (fun (r39 : Int) (h40 : MH) => if r39 = r3 then (some (1, h40)) else (some (0, h40)))) else (some (0, h36)))) else (some (0, h32)))))) else (if r6 = 2 then (ob1 (F_L_low (shrv p2 6) (wr (r3 + 1))) (fun (r44 : Int) => ob2 (F_X_edit r1 r44 20 h4) (fun (r46 : Int) (h47 : MH) => jn1 (if r44 = r3 then ((-1)) else ((wr (r3 - 1)))) (fun (s49 : Int) => if r46 = s49 then (some (1, h47)) else (some (0, h47)))))) else (if r6 = 3 then (ob1 (F_L_low (shrv p2 6) (wr (r3 + 1))) (fun (r55 : Int) => jn1 (if andv (shrv p2 14) 1 = 0 then (9) else (3)) (fun (s57 : Int) => ob1 (F_L_low (shrv p2 10) s57) (fun (r60 : Int) => ob2 (F_X_edit r1 r55 (wr (10 + r60)) h4) (fun (r62 : Int) (h63 : MH) => jn1 (if r55 = r3 then ((-1)) else (r3)) (fun (s65 : Int) => if r62 = s65 then (if r55 = r3 then (some (1, h63)) else (if F_X_line r1 r55 h63 = r60 then (some (1, h63)) else (some (0, h63)))) else (some (0, h63)))))))) else (if r6 = 4 then (ob1 (F_L_low (shrv p2 6) (wr (r3 + 1))) (fun (r74 : Int) => jn1 (if andv (shrv p2 14) 1 = 0 then (9) else (3)) (fun (s76 : Int) => ob1 (F_L_low (shrv p2 10) s76) (fun (r79 : Int) => ob2 (F_X_edit r1 r74 (wr (10 + r79)) h4) (fun (r81 : Int) (h82 : MH) => jn1 (if r74 = r3 then ((-1)) else (r3)) (fun (s84 : Int) => if r81 = s84 then (if r74 = r3 then (some (1, h82)) else (if F_X_line r1 r74 h82 = r79 then (some (1, h82)) else (some (0, h82)))) else (some (0, h82)))))))) else (if r6 = 5 then (ob2 (F_X_count 7 h4) (fun (r93 : Int) (h94 : MH) => ob2 (F_X_count 12 h94) (fun (r96 : Int) (h97 : MH) => ob2 (F_X_count 13 h97) (fun (r99 : Int) (h100 : MH) => jn1 (if andv (shrv p2 4) 1 = 1 then (1) else (0)) (fun (s102 : Int) => ob2 (F_X_lay s102 h100) (fun (r105 : Int) (h106 : MH) => if r105 = (-3) then (some (1, h106)) else (if r105 < 0 then (some (0, h106)) else (ob2 (F_X_count 12 h106) (fun (r110 : Int) (h111 : MH) => if r110 = wr (r96 + r105) then (ob2 (F_X_count 13 h111) (fun (r114 : Int) (h115 : MH) => if r114 = wr ((wr (r99 + r93)) - r105) then (ob2 (F_X_count 2 h115) (fun (r118 : Int) (h119 : MH) => if r118 < 15 then (some (1, h119)) else (some (0, h119)))) else (some (0, h115)))) else (some (0, h111))))))))))) else (ob1 (F_L_low (shrv p2 6) (wr (r3 + 1))) (fun (r123 : Int) => jn1 (if andv (shrv p2 14) 1 = 0 then (9) else (3)) (fun (s125 : Int) => ob1 (F_L_low (shrv p2 10) s125) (fun (r128 : Int) => jn1 (if andv (shrv p2 15) 3 = 0 then ((wr (6 + (remv r128 3)))) else (r128)) (fun (s130 : Int) => ob2 (F_X_edit r1 r123 s130 h4) (fun (r133 : Int) (h134 : MH) => jn1 (if r3 = 14 then ((-3)) else ((wr (r3 + 1)))) (fun (s136 : Int) => if r133 = s136 then (if r3 = 14 then (some (1, h134)) else (if F_X_line r1 r123 h134 = s130 then (some (1, h134)) else (some (0, h134)))) else (some (0, h134)))))))))))))))))
theorem kd_St_text {o : Nat} {p1 : Int} (ks : kd o = 6) : kd (F_St_text o p1) = 5 := by
  unfold F_St_text
  split
  · exact kt_6_0 ks
  · split
    · exact kt_6_1 ks
    · exact kt_6_2 ks
theorem kd_Hi_slot (p1 : Int) : ∀ i, F_Hi_slot p1 = some i → kd i = 6 := by
  intro i hi
  unfold F_Hi_slot at hi
  by_cases h0 : p1 < 0
  · rw [if_pos h0] at hi; cases hi
  · rw [if_neg h0] at hi
    by_cases h1 : p1 < 4
    · rw [if_pos h1] at hi
      cases hi
      have key : ∀ n, n < 4 → kd (rf 18 n) = 6 := by decide
      exact key _ (by omega)
    · rw [if_neg h1] at hi; cases hi
end
section
/-! ===== String.length, String.indexOf ===== -/
set_option maxRecDepth 100000 in
theorem my_yJ0_coder_7d493 : MY yJ0_coder_7d493 cJ0_coder_7d493 1 (Option.some Jvm.ClassFile.FieldType.byte) 0 := ⟨(tb_in 619 (by decide +kernel) (by decide +kernel)), (tb_in 29 (by decide +kernel) (by decide +kernel)), ⟨by decide +kernel, by decide +kernel, by decide +kernel⟩, by decide⟩
set_option maxRecDepth 100000 in
theorem vw_J0_335 : VW RJ0 335 yJ0_coder_7d493 := ⟨(tb_in 616 (by decide +kernel) (by decide +kernel)), (tb_in 617 (by decide +kernel) (by decide +kernel)), (tb_in 618 (by decide +kernel) (by decide +kernel))⟩
set_option maxRecDepth 100000 in
theorem fl_J0_9 : Cond.fieldLink RJ0 9 "java/lang/String" "value" "[B" ∈ TB := (tb_in 664 (by decide +kernel) (by decide +kernel))
set_option maxRecDepth 100000 in
theorem fl_J0_15 : Cond.fieldLink RJ0 15 "java/lang/String" "coder" "B" ∈ TB := (tb_in 665 (by decide +kernel) (by decide +kernel))
set_option maxRecDepth 100000 in
theorem fl_J0_38 : Cond.fieldLink RJ0 38 "java/lang/String" "COMPACT_STRINGS" "Z" ∈ TB := (tb_in 620 (by decide +kernel) (by decide +kernel))
theorem flok_J0 : flok RJ0 fl0 := flok_of (fun q hq => by cases hq)
theorem getD_out {α : Type} {l : List α} {i : Nat} {d : α} (h : l.length ≤ i) : l.getD i d = d := by
  rw [List.getD_eq_getElem?_getD, List.getElem?_eq_none h]
  rfl
/-- the bytes of the literal -/
def sgB (i : Nat) : Int := [97, 98, 99, 100, 101, 102, 46, 123, 125].getD i 0
theorem sgB_32 (i : Nat) : (([[97, 98, 99, 100, 101, 102, 46, 123, 125]] : List (List Int32)).getD 0 []).getD i 0 = Int32.ofInt (sgB i) := by
  unfold sgB
  by_cases h : i < 9
  · have key : (List.range 9).all (fun i => decide ((([[97, 98, 99, 100, 101, 102, 46, 123, 125]] : List (List Int32)).getD 0 []).getD i 0 = Int32.ofInt (([97, 98, 99, 100, 101, 102, 46, 123, 125] : List Int).getD i 0))) = true := by decide +kernel
    have k := List.all_eq_true.mp key i (List.mem_range.mpr h)
    rwa [decide_eq_true_eq] at k
  · have a : ([97, 98, 99, 100, 101, 102, 46, 123, 125] : List Int32).getD i 0 = 0 := getD_out (by show 9 ≤ i; omega)
    have b : ([97, 98, 99, 100, 101, 102, 46, 123, 125] : List Int).getD i 0 = 0 := getD_out (by show 9 ≤ i; omega)
    rw [b]
    exact a.trans (by decide)
theorem sgB_in (i : Nat) : inR (sgB i) := by
  unfold inR sgB
  by_cases h : i < 9
  · have key : (List.range 9).all (fun i => decide (-2147483648 ≤ ([97, 98, 99, 100, 101, 102, 46, 123, 125] : List Int).getD i 0 ∧ ([97, 98, 99, 100, 101, 102, 46, 123, 125] : List Int).getD i 0 ≤ 2147483647)) = true := by decide +kernel
    have k := List.all_eq_true.mp key i (List.mem_range.mpr h)
    rwa [decide_eq_true_eq] at k
  · rw [List.getD_eq_getElem?_getD, List.getElem?_eq_none (by show 9 ≤ i; omega)]
    decide
/-- what the literal answers to a judgement K -/
def SRules (own : String) (cc : ByteArray) (ret : Option FieldType) (Post : Option MV → MH → Prop) (K : KT) : Prop :=
  (∀ (pc idx : Nat) (L : ML) (st : List MV) (h : MH), Cond.fieldLink own idx "java/lang/String" "value" "[B" ∈ TB → dk cc pc (.getfield idx) 3 = true → K (pc + 3) L (vR 102 :: st) h → K pc L (vR 101 :: st) h) ∧
  (∀ (pc idx : Nat) (L : ML) (st : List MV) (h : MH), Cond.fieldLink own idx "java/lang/String" "coder" "B" ∈ TB → dk cc pc (.getfield idx) 3 = true → K (pc + 3) L (vI 0 :: st) h → K pc L (vR 101 :: st) h) ∧
  (∀ (pc idx : Nat) (L : ML) (st : List MV) (h : MH), Cond.fieldLink own idx "java/lang/String" "COMPACT_STRINGS" "Z" ∈ TB → dk cc pc (.getstatic idx) 3 = true → K (pc + 3) L (vI 1 :: st) h → K pc L st h) ∧
  (∀ (pc : Nat) (L : ML) (st : List MV) (h : MH), dk cc pc .arraylength 1 = true → K (pc + 1) L (vI 9 :: st) h → K pc L (vR 102 :: st) h) ∧
  (∀ (pc : Nat) (L : ML) (st : List MV) (h : MH) (j : Int), 0 ≤ j ∧ j < 9 → dk cc pc .baload 1 = true → K (pc + 1) L (vI (sgB j.toNat) :: st) h → K pc L (vI j :: vR 102 :: st) h) ∧
  (∀ (pc : Nat) (L : ML) (st : List MV) (h : MH) (x : Int), dk cc pc .ishr 1 = true → K (pc + 1) L (vI x :: st) h → K pc L (vI 0 :: vI x :: st) h) ∧
  (∀ (pc : Nat) (L : ML) (st : List MV) (h : MH) (x z : Int), (Int32.ofInt x).toInt8.toInt32 = Int32.ofInt z → inR z → dk cc pc .i2b 1 = true → K (pc + 1) L (vI z :: st) h → K pc L (vI x :: st) h) ∧
  (∀ (pc : Nat) (L : ML) (h : MH), dk cc pc .ireturn 1 = true → ret = some .byte → Post (some (vI 0)) h → K pc L [vI 0] h)
theorem con_ofS {own : String} {cc : ByteArray} {nL : Nat} {ret : Option FieldType} {fl : Nat → Option (Nat × Nat)} {d : Nat} {y : MethodName} {vs : List MV} {h : MH} {r : Option MV} {h' : MH} (hy : plainName y.cls = true) (hyo : y.cls = own) (hf : flok own fl) (hc : vs.all (fun v => !c2 v) = true) (hn : vs.length ≤ nL)
    (hK : ∀ K : KT, Rules own cc nL ret fl d K → R_ret cc ret (fun r' h2 => r' = r ∧ h2 = h') K → SRules own cc ret (fun r' h2 => r' = r ∧ h2 = h') K → K 0 (entL 0 vs) [] h) : CON d y cc nL ret vs h r h' := by
  intro l D cI cS ad hov
  refine Met.ofW hy rfl ?_
  intro p e s m args below meth c s₁ B hml hv
  obtain ⟨rfl, hw, hKK, hE⟩ := hv
  have hx := B.exec
  have hb := B.bytes
  have hr := B.returns
  have hts := atoms_spec (ws := Cond.code y cc nL ret :: TB) B.pre
  have hown : s.vm.findClass own = some m.cls := by rw [← hyo]; exact findClass_of_methodNamed B.named
  have hlocks := B.notSynchronized
  have hX : CX own cc nL ret p s m (vs.map (tv ad)).toArray meth c D cI cS ad (inA ad) := ⟨hx, hb, hml, hr, hown, fun w hw => hts w (List.mem_cons_of_mem _ hw), hKK, hlocks, hE⟩
  have hM : RMX d (headSpec (Cond.code y cc nL ret :: TB) (rmd d)).room 0 0 := ⟨Nat.le_refl _, Nat.le_refl _, Nat.le_refl _, Nat.le_refl _⟩
  have hRu := rules_ok (l := l) (e := e) (below := below) (Q := MQ below (QM D cI cS ad r h') (vs.map (tv ad)).toArray s 0 0 (inA ad)) hX hM hf
  rw [lg_entry_eq]
  have hl := lv_entry (vs.map (tv ad)) (n := nL) (by rw [entL_len ad vs hc]; exact hn)
  generalize (lg_sl (vs.map (tv ad)) ++ List.replicate (nL - (lg_sl (vs.map (tv ad))).length) Slot.unset).toArray = ls at hl ⊢
  rw [entL_args ad vs 0 hc] at hl
  have hS1 := hE.2.1.1 0 (by decide)
  refine hK _ hRu ?_ ?_ (entL_ok vs 0 hov) (fun v hv => by cases hv) s.heap ls [] hw va_S.rf hl
  · refine ⟨?_, ?_, ?_, ?_, ?_⟩
    · intro pc L h z hd hr2 ⟨e1, e2⟩ hoL hoS H ls locs hw hS hl
      subst e1; subst e2
      exact W.iret hx hb (by rw [hr, hr2]) (fun t ht hW => ⟨rfl, fun v hv => by cases hv; exact hoS _ List.mem_cons_self, by rw [ht]; exact hw, hS.F ht⟩) hS.2.2 (dk_eq hd)
    · intro pc L h z hd hr2 hz ⟨e1, e2⟩ hoL hoS H ls locs hw hS hl
      subst e1; subst e2
      exact W.zret (ty := .boolean) hx hb (by rw [hr, hr2]) (by rcases hz with rfl | rfl <;> decide) (fun t ht hW => ⟨rfl, fun v hv => by cases hv; exact hoS _ List.mem_cons_self, by rw [ht]; exact hw, hS.F ht⟩) hS.2.2 (dk_eq hd)
    · intro pc L h o hd hr2 ⟨e1, e2⟩ hoL hoS H ls locs hw hS hl
      subst e1; subst e2
      obtain ⟨n, hr2⟩ := hr2
      refine W.aret (v := tv ad (vO o)) (rt := .object n) hx hb (by rw [hr, hr2]) (Or.inl ⟨n, rfl⟩) ?_ (fun t ht hW => ⟨rfl, fun v hv => by cases hv; exact trivial, by rw [ht]; exact hw, hS.F ht⟩) hS.2.2 (dk_eq hd)
      cases o with
      | none => exact Or.inl rfl
      | some i => exact Or.inr ⟨_, rfl⟩
    · intro pc L h z hd hr2 ⟨e1, e2⟩ hoL hoS H ls locs hw hS hl
      subst e1; subst e2
      exact W.dret hx hb (by rw [hr, hr2]) (fun t ht hW => ⟨rfl, fun v hv => by cases hv; exact trivial, by rw [ht]; exact hw, hS.F ht⟩) hS.2.2 (dk_eq hd)
    · intro pc L h hd hr2 ⟨e1, e2⟩ hoL hoS H ls locs hw hS hl
      subst e1; subst e2
      exact W.vret hx hb (by rw [hr, hr2]) (fun t ht hW => ⟨rfl, fun v hv => (by cases hv), by rw [ht]; exact hw, hS.F ht⟩) hS.2.2 (dk_eq hd)
  · refine ⟨?_, ?_, ?_, ?_, ?_, ?_, ?_, ?_⟩
    · intro pc idx L st h hlk hd hk hoL hoS H ls locs hw hS hl
      have hoR : ∀ v ∈ st, okV v := fun v hv => hoS v (List.mem_cons_of_mem _ hv)
      exact vk_getf hx hb hS1.2.2.1 hS hown (hts _ (List.mem_cons_of_mem _ hlk)) (fun _ z => z) (dk_eq hd) (hk hoL (okc (v := vR 102) trivial hoR) H ls locs hw hS hl)
    · intro pc idx L st h hlk hd hk hoL hoS H ls locs hw hS hl
      have hoR : ∀ v ∈ st, okV v := fun v hv => hoS v (List.mem_cons_of_mem _ hv)
      exact vk_getf hx hb hS1.2.1 hS hown (hts _ (List.mem_cons_of_mem _ hlk)) (fun _ z => z) (dk_eq hd) (hk hoL (okc (v := vI 0) (by show inR 0; unfold inR; omega) hoR) H ls locs hw hS hl)
    · intro pc idx L st h hlk hd hk hoL hoS H ls locs hw hS hl
      exact va_gets hx hb hE.2.2 hS hown (hts _ (List.mem_cons_of_mem _ hlk)) (fun _ z => z) (dk_eq hd) (hk hoL (okc (v := vI 1) (by show inR 1; unfold inR; omega) hoS) H ls locs hw hS hl)
    · intro pc L st h hd hk hoL hoS H ls locs hw hS hl
      have hoR : ∀ v ∈ st, okV v := fun v hv => hoS v (List.mem_cons_of_mem _ hv)
      exact va_tlen hx hb hS1.2.2.2 hS (v := Int32.ofInt 9) rfl (dk_eq hd) (hk hoL (okc (v := vI 9) (by show inR 9; unfold inR; omega) hoR) H ls locs hw hS hl)
    · intro pc L st h j hj hd hk hoL hoS H ls locs hw hS hl
      have hjR : inR j := hoS (vI j) List.mem_cons_self
      have hoR : ∀ v ∈ st, okV v := fun v hv => hoS v (List.mem_cons_of_mem _ (List.mem_cons_of_mem _ hv))
      refine va_tb hx hb hS1.2.2.2 hS (i := Int32.ofInt j) (oi_in hjR hj) (v := .int (Int32.ofInt (sgB j.toNat))) ?_ (dk_eq hd) (hk hoL (okc (v := vI (sgB j.toNat)) (sgB_in _) hoR) H ls locs hw hS hl)
      rw [oi_clamp hj.1 hjR]
      exact congrArg Value.int (sgB_32 _)
    · intro pc L st h x hd hk hoL hoS H ls locs hw hS hl
      have hxR : inR x := hoS (vI x) (List.mem_cons_of_mem _ List.mem_cons_self)
      have hoR : ∀ v ∈ st, okV v := fun v hv => hoS v (List.mem_cons_of_mem _ (List.mem_cons_of_mem _ hv))
      have k9 := hk hoL (okc (v := vI x) hxR hoR) H ls locs hw hS hl
      refine lv_ishr hx hb (dk_eq hd) ?_
      have e9 : Int32.ofInt x >>> (Int32.ofInt 0 &&& 31) = Int32.ofInt x := by
        rw [show (Int32.ofInt 0 &&& 31) = 0 by decide]
        first
          | exact Int32.shiftRight_zero
          | simp
      rw [e9]
      exact k9
    · intro pc L st h x z hz hzR hd hk hoL hoS H ls locs hw hS hl
      have hoR : ∀ v ∈ st, okV v := fun v hv => hoS v (List.mem_cons_of_mem _ hv)
      exact lv_i2b hx hb (dk_eq hd) hz (hk hoL (okc (v := vI z) hzR hoR) H ls locs hw hS hl)
    · intro pc L h hd hr2 ⟨e1, e2⟩ hoL hoS H ls locs hw hS hl
      subst e1; subst e2
      exact W.zret (ty := .byte) hx hb (by rw [hr, hr2]) (by decide) (fun t ht hW => ⟨rfl, fun v hv => by cases hv; exact hoS _ List.mem_cons_self, by rw [ht]; exact hw, hS.F ht⟩) hS.2.2 (dk_eq hd)
set_option maxHeartbeats 4000000 in
set_option maxRecDepth 100000 in
theorem T_S_coder (h : MH) : CON 0 yJ0_coder_7d493 cJ0_coder_7d493 1 (Option.some Jvm.ClassFile.FieldType.byte) [vR 101] h (some (vI 0)) h := by
  refine con_ofS (own := RJ0) (fl := fl0) (by decide +kernel) rfl flok_J0 rfl (Nat.le_of_ble_eq_true rfl) ?_
  intro K hK hR hS
  show K 0 [(0, vR 101)] [] h
  refine hS.2.2.1 0 38 _ _ _ fl_J0_38 (by decide +kernel) ?_
  refine g_ifz hK 3 .eq (10) 13 (t1 := 13) (t2 := 6) (by decide +kernel) (by decide) rfl rfl (fun (hc : (1 : Int) = 0) => absurd hc (by decide)) (fun _ => ?_)
  refine g_seg hK [.aload_n 0] 6 7 (L1 := [(0, vR 101)]) (st1 := [vR 101]) (h1 := h) (P := True ∧ True) (by decide +kernel) rfl rfl ⟨trivial, trivial⟩ ?_
  refine hS.2.1 7 15 _ _ _ fl_J0_15 (by decide +kernel) ?_
  refine g_goto hK 10 4 14 (by decide +kernel) (by decide) ?_
  exact hS.2.2.2.2.2.2.2 14 _ _ (by decide +kernel) rfl ⟨rfl, rfl⟩
set_option maxHeartbeats 4000000 in
set_option maxRecDepth 100000 in
theorem T_S_length (h : MH) : CON 1 yJ0_length_8abf5 cJ0_length_8abf5 1 (Option.some Jvm.ClassFile.FieldType.int) [vR 101] h (some (vI sg_length)) h := by
  refine con_ofS (own := RJ0) (fl := fl0) (by decide +kernel) rfl flok_J0 rfl (Nat.le_of_ble_eq_true rfl) ?_
  intro K hK hR hS
  show K 0 [(0, vR 101)] [] h
  refine g_seg hK [.aload_n 0] 0 1 (L1 := [(0, vR 101)]) (st1 := [vR 101]) (h1 := h) (P := True ∧ True) (by decide +kernel) rfl rfl ⟨trivial, trivial⟩ ?_
  refine hS.1 1 9 _ _ _ fl_J0_9 (by decide +kernel) ?_
  refine hS.2.2.2.1 4 _ _ _ (by decide +kernel) ?_
  refine g_seg hK [.aload_n 0] 5 6 (L1 := [(0, vR 101)]) (st1 := [vR 101, vI 9]) (h1 := h) (P := True ∧ True) (by decide +kernel) rfl rfl ⟨trivial, trivial⟩ ?_
  refine g_callG1 hK 6 335 (d1 := 0) (vs := []) (rest := [vI 9]) (r := vI 0) rfl my_yJ0_coder_7d493 vw_J0_335 (by decide) (T_S_coder h) rfl (Nat.le_of_ble_eq_true rfl) (by decide +kernel) ?_
  refine hS.2.2.2.2.2.1 9 _ _ _ _ (by decide +kernel) ?_
  exact hR.1 10 _ _ _ (by decide +kernel) rfl ⟨rfl, rfl⟩
end
section
set_option maxHeartbeats 4000000 in
set_option maxRecDepth 100000 in
theorem T_X_isText {p1 : Int} {h : MH} {r : Int} (hF : F_X_isText p1 = r) : CON 0 yX6_isText cX6_isText 1 (Option.some Jvm.ClassFile.FieldType.boolean) [vI p1] h (some (vI r)) h := by
  refine con_of (own := RX6) (fl := flX6) (by decide +kernel) rfl flok_X6 rfl (Nat.le_of_ble_eq_true rfl) ?_
  intro K hK hR
  show K 0 [(0, vI p1)] [] h
  unfold F_X_isText at hF
  refine g_seg hK [.iload_n 0] 0 1 (L1 := [(0, vI p1)]) (st1 := [vI p1]) (h1 := h) (P := True ∧ True) (by decide +kernel) rfl rfl ⟨trivial, trivial⟩ ?_
  refine g_ifz hK 1 .lt (12) 13 (t1 := 13) (t2 := 4) (by decide +kernel) (by decide) rfl rfl (fun (hc1 : p1 < 0) => ?_) (fun (hc1 : ¬ (p1 < 0)) => ?_)
  · have hF := ite_t hc1 hF
    refine g_seg hK [.iconst 0] 13 14 (L1 := [(0, vI p1)]) (st1 := [vI 0]) (h1 := h) (P := True ∧ True) (by decide +kernel) rfl rfl ⟨trivial, trivial⟩ ?_
    cases hF
    exact hR.2.1 14 _ _ _ (by decide +kernel) rfl (by decide) ⟨rfl, rfl⟩
  · have hF := ite_f hc1 hF
    refine g_seg hK [.iload_n 0, .iconst 2] 4 6 (L1 := [(0, vI p1)]) (st1 := [vI 2, vI p1]) (h1 := h) (P := True ∧ True ∧ True) (by decide +kernel) rfl rfl ⟨trivial, trivial, trivial⟩ ?_
    refine g_icmp hK 6 .gt (7) 13 (t1 := 9) (t2 := 13) (by decide +kernel) (by decide) rfl rfl (fun (hc2 : p1 ≤ 2) => ?_) (fun (hc2 : ¬ (p1 ≤ 2)) => ?_)
    · have hF := ite_t hc2 hF
      refine g_seg hK [.iconst 1] 9 10 (L1 := [(0, vI p1)]) (st1 := [vI 1]) (h1 := h) (P := True ∧ True) (by decide +kernel) rfl rfl ⟨trivial, trivial⟩ ?_
      refine g_goto hK 10 (4) 14 (by decide +kernel) (by decide) ?_
      cases hF
      exact hR.2.1 14 _ _ _ (by decide +kernel) rfl (by decide) ⟨rfl, rfl⟩
    · have hF := ite_f hc2 hF
      refine g_seg hK [.iconst 0] 13 14 (L1 := [(0, vI p1)]) (st1 := [vI 0]) (h1 := h) (P := True ∧ True) (by decide +kernel) rfl rfl ⟨trivial, trivial⟩ ?_
      cases hF
      exact hR.2.1 14 _ _ _ (by decide +kernel) rfl (by decide) ⟨rfl, rfl⟩
set_option maxHeartbeats 4000000 in
set_option maxRecDepth 100000 in
theorem T_St_text {o : Nat} {p1 : Int} {h : MH} {r : Nat} (ks : kd o = 6) (hF : F_St_text o p1 = r) : CON 0 yX4_text cX4_text 2 (Option.some (Jvm.ClassFile.FieldType.object "HunkSlides$Row")) [vR o, vI p1] h (some (vR r)) h := by
  refine con_of (own := RX4) (fl := flX4) (by decide +kernel) rfl flok_X4 rfl (Nat.le_of_ble_eq_true rfl) ?_
  intro K hK hR
  show K 0 [(0, vR o), (1, vI p1)] [] h
  unfold F_St_text at hF
  refine g_seg hK [.iload_n 1] 0 1 (L1 := [(0, vR o), (1, vI p1)]) (st1 := [vI p1]) (h1 := h) (P := True ∧ True) (by decide +kernel) rfl rfl ⟨trivial, trivial⟩ ?_
  refine g_ifz hK 1 .ne (8) 9 (t1 := 4) (t2 := 9) (by decide +kernel) (by decide) rfl rfl (fun (hc1 : p1 = 0) => ?_) (fun (hc1 : ¬ (p1 = 0)) => ?_)
  · have hF := ite_t hc1 hF
    refine g_seg hK [.aload_n 0, .getfield 14] 4 8 (L1 := [(0, vR o), (1, vI p1)]) (st1 := [vR (rf o 0)]) (h1 := h) (P := True ∧ kd o = 6 ∧ True) (by decide +kernel) rfl rfl ⟨trivial, ks, trivial⟩ ?_
    cases hF
    exact hR.2.2.1 8 _ _ _ (by decide +kernel) ⟨_, rfl⟩ ⟨rfl, rfl⟩
  · have hF := ite_f hc1 hF
    refine g_seg hK [.iload_n 1, .iconst 1] 9 11 (L1 := [(0, vR o), (1, vI p1)]) (st1 := [vI 1, vI p1]) (h1 := h) (P := True ∧ True ∧ True) (by decide +kernel) rfl rfl ⟨trivial, trivial, trivial⟩ ?_
    refine g_icmp hK 11 .ne (10) 21 (t1 := 14) (t2 := 21) (by decide +kernel) (by decide) rfl rfl (fun (hc2 : p1 = 1) => ?_) (fun (hc2 : ¬ (p1 = 1)) => ?_)
    · have hF := ite_t hc2 hF
      refine g_seg hK [.aload_n 0, .getfield 20] 14 18 (L1 := [(0, vR o), (1, vI p1)]) (st1 := [vR (rf o 1)]) (h1 := h) (P := True ∧ kd o = 6 ∧ True) (by decide +kernel) rfl rfl ⟨trivial, ks, trivial⟩ ?_
      refine g_goto hK 18 (7) 25 (by decide +kernel) (by decide) ?_
      cases hF
      exact hR.2.2.1 25 _ _ _ (by decide +kernel) ⟨_, rfl⟩ ⟨rfl, rfl⟩
    · have hF := ite_f hc2 hF
      refine g_seg hK [.aload_n 0, .getfield 23] 21 25 (L1 := [(0, vR o), (1, vI p1)]) (st1 := [vR (rf o 2)]) (h1 := h) (P := True ∧ kd o = 6 ∧ True) (by decide +kernel) rfl rfl ⟨trivial, ks, trivial⟩ ?_
      cases hF
      exact hR.2.2.1 25 _ _ _ (by decide +kernel) ⟨_, rfl⟩ ⟨rfl, rfl⟩
set_option maxHeartbeats 4000000 in
set_option maxRecDepth 100000 in
theorem T_X_isSign {p1 : Int} {h : MH} {r : Int} (hF : F_X_isSign p1 = r) : CON 2 yX6_isSign cX6_isSign 1 (Option.some Jvm.ClassFile.FieldType.boolean) [vI p1] h (some (vI r)) h := by
  refine con_of (own := RX6) (fl := flX6) (by decide +kernel) rfl flok_X6 rfl (Nat.le_of_ble_eq_true rfl) ?_
  intro K hK hR
  show K 0 [(0, vI p1)] [] h
  unfold F_X_isSign at hF
  refine g_seg hK [.iload_n 0] 0 1 (L1 := [(0, vI p1)]) (st1 := [vI p1]) (h1 := h) (P := True ∧ True) (by decide +kernel) rfl rfl ⟨trivial, trivial⟩ ?_
  refine g_ifz hK 1 .lt (16) 17 (t1 := 17) (t2 := 4) (by decide +kernel) (by decide) rfl rfl (fun (hc1 : p1 < 0) => ?_) (fun (hc1 : ¬ (p1 < 0)) => ?_)
  · have hF := ite_t hc1 hF
    refine g_seg hK [.iconst 0] 17 18 (L1 := [(0, vI p1)]) (st1 := [vI 0]) (h1 := h) (P := True ∧ True) (by decide +kernel) rfl rfl ⟨trivial, trivial⟩ ?_
    cases hF
    exact hR.2.1 18 _ _ _ (by decide +kernel) rfl (by decide) ⟨rfl, rfl⟩
  · have hF := ite_f hc1 hF
    refine g_seg hK [.iload_n 0] 4 5 (L1 := [(0, vI p1)]) (st1 := [vI p1]) (h1 := h) (P := True ∧ True) (by decide +kernel) rfl rfl ⟨trivial, trivial⟩ ?_
    refine g_ldc hK 5 7 rfl (by decide +kernel) rfl ?_
    refine g_callG1 hK 7 225 (d1 := 1) (vs := []) (rest := [vI p1]) (r := vI (sg_length)) rfl my_yJ0_length_8abf5 (by exact vw_X6_225) (by decide) (T_S_length h) rfl (Nat.le_of_ble_eq_true rfl) (by decide +kernel) ?_
    refine g_icmp hK 10 .ge (7) 17 (t1 := 13) (t2 := 17) (by decide +kernel) (by decide) rfl rfl (fun (hc2 : p1 < sg_length) => ?_) (fun (hc2 : ¬ (p1 < sg_length)) => ?_)
    · have hF := ite_t hc2 hF
      refine g_seg hK [.iconst 1] 13 14 (L1 := [(0, vI p1)]) (st1 := [vI 1]) (h1 := h) (P := True ∧ True) (by decide +kernel) rfl rfl ⟨trivial, trivial⟩ ?_
      refine g_goto hK 14 (4) 18 (by decide +kernel) (by decide) ?_
      cases hF
      exact hR.2.1 18 _ _ _ (by decide +kernel) rfl (by decide) ⟨rfl, rfl⟩
    · have hF := ite_f hc2 hF
      refine g_seg hK [.iconst 0] 17 18 (L1 := [(0, vI p1)]) (st1 := [vI 0]) (h1 := h) (P := True ∧ True) (by decide +kernel) rfl rfl ⟨trivial, trivial⟩ ?_
      cases hF
      exact hR.2.1 18 _ _ _ (by decide +kernel) rfl (by decide) ⟨rfl, rfl⟩
set_option maxHeartbeats 4000000 in
set_option maxRecDepth 100000 in
theorem T_Ro_size {o : Nat} {h : MH} {r : Int} (ko : kd o = 5) (hF : F_Ro_size o h = r) : CON 0 yX3_size cX3_size 1 (Option.some Jvm.ClassFile.FieldType.int) [vR o] h (some (vI r)) h := by
  refine con_of (own := RX3) (fl := flX3) (by decide +kernel) rfl flok_X3 rfl (Nat.le_of_ble_eq_true rfl) ?_
  intro K hK hR
  show K 0 [(0, vR o)] [] h
  unfold F_Ro_size at hF
  refine g_seg hK [.aload_n 0, .getfield 7] 0 4 (L1 := [(0, vR o)]) (st1 := [vI (h o 1)]) (h1 := h) (P := True ∧ kd o = 5 ∧ True) (by decide +kernel) rfl rfl ⟨trivial, ko, trivial⟩ ?_
  cases hF
  exact hR.1 4 _ _ _ (by decide +kernel) rfl ⟨rfl, rfl⟩
set_option maxHeartbeats 4000000 in
set_option maxRecDepth 100000 in
theorem T_Hi_slot {p1 : Int} {h : MH} {r : Option Nat} (hF : F_Hi_slot p1 = r) : CON 0 yX1_slot cX1_slot 2 (Option.some (Jvm.ClassFile.FieldType.object "HunkSlides$State")) [vR 17, vI p1] h (some (vO r)) h := by
  refine con_of (own := RX1) (fl := flX1) (by decide +kernel) rfl flok_X1 rfl (Nat.le_of_ble_eq_true rfl) ?_
  intro K hK hR
  show K 0 [(0, vR 17), (1, vI p1)] [] h
  unfold F_Hi_slot at hF
  refine g_seg hK [.iload_n 1] 0 1 (L1 := [(0, vR 17), (1, vI p1)]) (st1 := [vI p1]) (h1 := h) (P := True ∧ True) (by decide +kernel) rfl rfl ⟨trivial, trivial⟩ ?_
  refine g_ifz hK 1 .lt (21) 22 (t1 := 22) (t2 := 4) (by decide +kernel) (by decide) rfl rfl (fun (hc1 : p1 < 0) => ?_) (fun (hc1 : ¬ (p1 < 0)) => ?_)
  · have hF := ite_t hc1 hF
    refine g_seg hK [.aconst_null] 22 23 (L1 := [(0, vR 17), (1, vI p1)]) (st1 := [vO none]) (h1 := h) (P := True ∧ True) (by decide +kernel) rfl rfl ⟨trivial, trivial⟩ ?_
    cases hF
    exact hR.2.2.1 23 _ _ _ (by decide +kernel) ⟨_, rfl⟩ ⟨rfl, rfl⟩
  · have hF := ite_f hc1 hF
    refine g_seg hK [.iload_n 1, .aload_n 0, .getfield 11, .arraylength] 4 10 (L1 := [(0, vR 17), (1, vI p1)]) (st1 := [vI 4, vI p1]) (h1 := h) (P := True ∧ True ∧ kd 17 = 3 ∧ kd 18 ≤ 1 ∧ True) (by decide +kernel) rfl rfl ⟨trivial, trivial, rfl, (by rw [show kd 18 = 1 from rfl]; decide), trivial⟩ ?_
    refine g_icmp hK 10 .ge (12) 22 (t1 := 13) (t2 := 22) (by decide +kernel) (by decide) rfl rfl (fun (hc2 : p1 < 4) => ?_) (fun (hc2 : ¬ (p1 < 4)) => ?_)
    · have hF := ite_t hc2 hF
      refine g_seg hK [.aload_n 0, .getfield 11, .iload_n 1, .aaload] 13 19 (L1 := [(0, vR 17), (1, vI p1)]) (st1 := [vR (rf 18 p1.toNat)]) (h1 := h) (P := True ∧ kd 17 = 3 ∧ True ∧ (kd 18 = 1 ∧ 0 ≤ p1 ∧ p1 < 4) ∧ True) (by decide +kernel) rfl rfl ⟨trivial, rfl, trivial, ⟨rfl, ⟨(by omega), hc2⟩⟩, trivial⟩ ?_
      refine g_goto hK 19 (4) 23 (by decide +kernel) (by decide) ?_
      cases hF
      exact hR.2.2.1 23 _ _ _ (by decide +kernel) ⟨_, rfl⟩ ⟨rfl, rfl⟩
    · have hF := ite_f hc2 hF
      refine g_seg hK [.aconst_null] 22 23 (L1 := [(0, vR 17), (1, vI p1)]) (st1 := [vO none]) (h1 := h) (P := True ∧ True) (by decide +kernel) rfl rfl ⟨trivial, trivial⟩ ?_
      cases hF
      exact hR.2.2.1 23 _ _ _ (by decide +kernel) ⟨_, rfl⟩ ⟨rfl, rfl⟩
set_option maxHeartbeats 4000000 in
set_option maxRecDepth 100000 in
theorem T_Ro_emptyOut {o : Nat} {h : MH} {h' : MH} (ko : kd o = 5) (hF : F_Ro_emptyOut o h = h') : CON 0 yX3_emptyOut cX3_emptyOut 1 none [vR o] h none h' := by
  refine con_of (own := RX3) (fl := flX3) (by decide +kernel) rfl flok_X3 rfl (Nat.le_of_ble_eq_true rfl) ?_
  intro K hK hR
  show K 0 [(0, vR o)] [] h
  unfold F_Ro_emptyOut at hF
  refine g_seg hK [.aload_n 0, .iconst 0, .putfield 7] 0 5 (L1 := [(0, vR o)]) (st1 := []) (h1 := (up h o 1 0)) (P := True ∧ True ∧ kd o = 5 ∧ True) (by decide +kernel) rfl rfl ⟨trivial, trivial, ko, trivial⟩ ?_
  cases hF
  exact hR.2.2.2.2 5 _ _ (by decide +kernel) rfl ⟨rfl, rfl⟩
set_option maxHeartbeats 4000000 in
set_option maxRecDepth 100000 in
theorem T_Ro_at {o : Nat} {p1 : Int} {h : MH} {r : Int} (ko : kd o = 5) (hF : F_Ro_at o p1 h = r) : CON 0 yX3_at cX3_at 2 (Option.some Jvm.ClassFile.FieldType.int) [vR o, vI p1] h (some (vI r)) h := by
  refine con_of (own := RX3) (fl := flX3) (by decide +kernel) rfl flok_X3 rfl (Nat.le_of_ble_eq_true rfl) ?_
  intro K hK hR
  show K 0 [(0, vR o), (1, vI p1)] [] h
  unfold F_Ro_at at hF
  refine g_seg hK [.iload_n 1] 0 1 (L1 := [(0, vR o), (1, vI p1)]) (st1 := [vI p1]) (h1 := h) (P := True ∧ True) (by decide +kernel) rfl rfl ⟨trivial, trivial⟩ ?_
  refine g_ifz hK 1 .lt (29) 30 (t1 := 30) (t2 := 4) (by decide +kernel) (by decide) rfl rfl (fun (hc1 : p1 < 0) => ?_) (fun (hc1 : ¬ (p1 < 0)) => ?_)
  · have hF := ite_t hc1 hF
    refine g_seg hK [.iconst (-1)] 30 31 (L1 := [(0, vR o), (1, vI p1)]) (st1 := [vI (-1)]) (h1 := h) (P := True ∧ True) (by decide +kernel) rfl rfl ⟨trivial, trivial⟩ ?_
    cases hF
    exact hR.1 31 _ _ _ (by decide +kernel) rfl ⟨rfl, rfl⟩
  · have hF := ite_f hc1 hF
    refine g_seg hK [.iload_n 1, .aload_n 0, .getfield 7] 4 9 (L1 := [(0, vR o), (1, vI p1)]) (st1 := [vI (h o 1), vI p1]) (h1 := h) (P := True ∧ True ∧ kd o = 5 ∧ True) (by decide +kernel) rfl rfl ⟨trivial, trivial, ko, trivial⟩ ?_
    refine g_icmp hK 9 .ge (21) 30 (t1 := 12) (t2 := 30) (by decide +kernel) (by decide) rfl rfl (fun (hc2 : p1 < h o 1) => ?_) (fun (hc2 : ¬ (p1 < h o 1)) => ?_)
    · have hF := ite_t hc2 hF
      refine g_seg hK [.iload_n 1, .aload_n 0, .getfield 13, .arraylength] 12 18 (L1 := [(0, vR o), (1, vI p1)]) (st1 := [vI (al (rf o 0) : Int), vI p1]) (h1 := h) (P := True ∧ True ∧ kd o = 5 ∧ kd (rf o 0) ≤ 1 ∧ True) (by decide +kernel) rfl rfl ⟨trivial, trivial, ko, (by rw [show kd (rf o 0) = 0 from (kt_5_0 ko)]; decide), trivial⟩ ?_
      refine g_icmp hK 18 .ge (12) 30 (t1 := 21) (t2 := 30) (by decide +kernel) (by decide) rfl rfl (fun (hc3 : p1 < (al (rf o 0) : Int)) => ?_) (fun (hc3 : ¬ (p1 < (al (rf o 0) : Int))) => ?_)
      · have hF := ite_t hc3 hF
        refine g_seg hK [.aload_n 0, .getfield 13, .iload_n 1, .iaload] 21 27 (L1 := [(0, vR o), (1, vI p1)]) (st1 := [vI (h (rf o 0) p1.toNat)]) (h1 := h) (P := True ∧ kd o = 5 ∧ True ∧ (kd (rf o 0) = 0 ∧ 0 ≤ p1 ∧ p1 < (al (rf o 0) : Int)) ∧ True) (by decide +kernel) rfl rfl ⟨trivial, ko, trivial, ⟨(kt_5_0 ko), ⟨(by omega), hc3⟩⟩, trivial⟩ ?_
        refine g_goto hK 27 (4) 31 (by decide +kernel) (by decide) ?_
        cases hF
        exact hR.1 31 _ _ _ (by decide +kernel) rfl ⟨rfl, rfl⟩
      · have hF := ite_f hc3 hF
        refine g_seg hK [.iconst (-1)] 30 31 (L1 := [(0, vR o), (1, vI p1)]) (st1 := [vI (-1)]) (h1 := h) (P := True ∧ True) (by decide +kernel) rfl rfl ⟨trivial, trivial⟩ ?_
        cases hF
        exact hR.1 31 _ _ _ (by decide +kernel) rfl ⟨rfl, rfl⟩
    · have hF := ite_f hc2 hF
      refine g_seg hK [.iconst (-1)] 30 31 (L1 := [(0, vR o), (1, vI p1)]) (st1 := [vI (-1)]) (h1 := h) (P := True ∧ True) (by decide +kernel) rfl rfl ⟨trivial, trivial⟩ ?_
      cases hF
      exact hR.1 31 _ _ _ (by decide +kernel) rfl ⟨rfl, rfl⟩
set_option maxHeartbeats 4000000 in
set_option maxRecDepth 100000 in
theorem T_Ro_add {o : Nat} {p1 : Int} {h : MH} {h' : MH} (ko : kd o = 5) (hF : F_Ro_add o p1 h = h') : CON 0 yX3_add cX3_add 2 none [vR o, vI p1] h none h' := by
  refine con_of (own := RX3) (fl := flX3) (by decide +kernel) rfl flok_X3 rfl (Nat.le_of_ble_eq_true rfl) ?_
  intro K hK hR
  show K 0 [(0, vR o), (1, vI p1)] [] h
  unfold F_Ro_add at hF
  refine g_seg hK [.aload_n 0, .getfield 7] 0 4 (L1 := [(0, vR o), (1, vI p1)]) (st1 := [vI (h o 1)]) (h1 := h) (P := True ∧ kd o = 5 ∧ True) (by decide +kernel) rfl rfl ⟨trivial, ko, trivial⟩ ?_
  refine g_ifz hK 4 .lt (35) 39 (t1 := 39) (t2 := 7) (by decide +kernel) (by decide) rfl rfl (fun (hc1 : h o 1 < 0) => ?_) (fun (hc1 : ¬ (h o 1 < 0)) => ?_)
  · have hF := ite_t hc1 hF
    cases hF
    exact hR.2.2.2.2 39 _ _ (by decide +kernel) rfl ⟨rfl, rfl⟩
  · have hF := ite_f hc1 hF
    refine g_seg hK [.aload_n 0, .getfield 7, .aload_n 0, .getfield 13, .arraylength] 7 16 (L1 := [(0, vR o), (1, vI p1)]) (st1 := [vI (al (rf o 0) : Int), vI (h o 1)]) (h1 := h) (P := True ∧ kd o = 5 ∧ True ∧ kd o = 5 ∧ kd (rf o 0) ≤ 1 ∧ True) (by decide +kernel) rfl rfl ⟨trivial, ko, trivial, ko, (by rw [show kd (rf o 0) = 0 from (kt_5_0 ko)]; decide), trivial⟩ ?_
    refine g_icmp hK 16 .ge (23) 39 (t1 := 19) (t2 := 39) (by decide +kernel) (by decide) rfl rfl (fun (hc2 : h o 1 < (al (rf o 0) : Int)) => ?_) (fun (hc2 : ¬ (h o 1 < (al (rf o 0) : Int))) => ?_)
    · have hF := ite_t hc2 hF
      refine g_seg hK [.aload_n 0, .getfield 13, .aload_n 0, .getfield 7, .iload_n 1, .iastore, .aload_n 0, .dup, .getfield 7, .iconst 1, .iadd, .putfield 7] 19 39 (L1 := [(0, vR o), (1, vI p1)]) (st1 := []) (h1 := (up (up h (rf o 0) (h o 1).toNat p1) o 1 (wr (((up h (rf o 0) (h o 1).toNat p1) o 1) + 1)))) (P := True ∧ kd o = 5 ∧ True ∧ kd o = 5 ∧ True ∧ (kd (rf o 0) = 0 ∧ 0 ≤ h o 1 ∧ h o 1 < (al (rf o 0) : Int)) ∧ True ∧ True ∧ kd o = 5 ∧ True ∧ True ∧ kd o = 5 ∧ True) (by decide +kernel) rfl rfl ⟨trivial, ko, trivial, ko, trivial, ⟨(kt_5_0 ko), ⟨(by omega), hc2⟩⟩, trivial, trivial, ko, trivial, trivial, ko, trivial⟩ ?_
      cases hF
      exact hR.2.2.2.2 39 _ _ (by decide +kernel) rfl ⟨rfl, rfl⟩
    · have hF := ite_f hc2 hF
      cases hF
      exact hR.2.2.2.2 39 _ _ (by decide +kernel) rfl ⟨rfl, rfl⟩
set_option maxHeartbeats 4000000 in
set_option maxRecDepth 100000 in
theorem LT_Ro_become_L6 {K : KT} (hK : Rules RX3 cX3_become 3 none flX3 1 K) {x0 : Nat} {x1 : Nat} (kx0 : kd x0 = 5) (kx1 : kd x1 = 5) : ∀ (n : Nat) (x2 : Int) (h : MH) (x2' : Int) (h' : MH), F_Ro_become_L6 x0 x1 n x2 h = some (x2', h') → K 29 [(0, vR x0), (1, vR x1), (2, vI x2')] [] h' → K 6 [(0, vR x0), (1, vR x1), (2, vI x2)] [] h := by
  intro n
  induction n with
  | zero =>
    intro x2 h x2' h' hF
    cases hF
  | succ n ih =>
    intro x2 h x2' h' hF hE
    unfold F_Ro_become_L6 at hF
    refine g_seg hK [.iload_n 2, .aload_n 1] 6 8 (L1 := [(0, vR x0), (1, vR x1), (2, vI x2)]) (st1 := [vR x1, vI x2]) (h1 := h) (P := True ∧ True ∧ True) (by decide +kernel) rfl rfl ⟨trivial, trivial, trivial⟩ ?_
    refine g_callV1 hK 8 28 (d1 := 0) (ci := 3) (i := x1) (vs := []) (rest := [vI x2]) (h1 := h) (r := vI (F_Ro_size x1 h)) my_yX3_size vw_X3_28 (by decide) (T_Ro_size (o := x1) (h := h) (ko := kx1) (hF := rfl)) kx1 rfl rfl (Nat.le_of_ble_eq_true rfl) (by decide +kernel) ?_
    refine g_icmp hK 11 .ge (18) 29 (t1 := 14) (t2 := 29) (by decide +kernel) (by decide) rfl rfl (fun (hc1 : x2 < F_Ro_size x1 h) => ?_) (fun (hc1 : ¬ (x2 < F_Ro_size x1 h)) => ?_)
    · have hF := ite_t hc1 hF
      refine g_seg hK [.aload_n 0, .aload_n 1, .iload_n 2] 14 17 (L1 := [(0, vR x0), (1, vR x1), (2, vI x2)]) (st1 := [vI x2, vR x1, vR x0]) (h1 := h) (P := True ∧ True ∧ True ∧ True) (by decide +kernel) rfl rfl ⟨trivial, trivial, trivial, trivial⟩ ?_
      refine g_callV1 hK 17 17 (d1 := 0) (ci := 3) (i := x1) (vs := [vI x2]) (rest := [vR x0]) (h1 := h) (r := vI (F_Ro_at x1 x2 h)) my_yX3_at vw_X3_17 (by decide) (T_Ro_at (o := x1) (p1 := x2) (h := h) (ko := kx1) (hF := rfl)) kx1 rfl rfl (Nat.le_of_ble_eq_true rfl) (by decide +kernel) ?_
      refine g_callV0 hK 20 31 (d1 := 0) (ci := 3) (i := x0) (vs := [vI (F_Ro_at x1 x2 h)]) (rest := []) (h1 := (F_Ro_add x0 (F_Ro_at x1 x2 h) h)) my_yX3_add vw_X3_31 (by decide) (T_Ro_add (o := x0) (p1 := (F_Ro_at x1 x2 h)) (h := h) (ko := kx0) (hF := rfl)) kx0 rfl rfl (Nat.le_of_ble_eq_true rfl) (by decide +kernel) ?_
      refine g_seg hK [.iinc 2 1] 23 26 (L1 := [(2, vI (wr (x2 + 1))), (0, vR x0), (1, vR x1)]) (st1 := []) (h1 := (F_Ro_add x0 (F_Ro_at x1 x2 h) h)) (P := True ∧ True) (by decide +kernel) rfl rfl ⟨trivial, trivial⟩ ?_
      refine g_goto hK 26 (-20) 6 (by decide +kernel) (by decide) ?_
      refine hK.2.1 _ _ ([(0, vR x0), (1, vR x1), (2, vI (wr (x2 + 1)))]) _ _ (sub_of [1, 2, 0] rfl) ?_
      exact ih _ _ _ _ hF hE
    · have hF := ite_f hc1 hF
      cases hF
      exact hE
set_option maxHeartbeats 4000000 in
set_option maxRecDepth 100000 in
theorem T_Ro_become {o : Nat} {p1 : Nat} {h : MH} {h' : MH} (ko : kd o = 5) (kp1 : kd p1 = 5) (hF : F_Ro_become o p1 h = some h') : CON 1 yX3_become cX3_become 3 none [vR o, vR p1] h none h' := by
  refine con_of (own := RX3) (fl := flX3) (by decide +kernel) rfl flok_X3 rfl (Nat.le_of_ble_eq_true rfl) ?_
  intro K hK hR
  show K 0 [(0, vR o), (1, vR p1)] [] h
  unfold F_Ro_become at hF
  refine g_seg hK [.aload_n 0] 0 1 (L1 := [(0, vR o), (1, vR p1)]) (st1 := [vR o]) (h1 := h) (P := True ∧ True) (by decide +kernel) rfl rfl ⟨trivial, trivial⟩ ?_
  refine g_callV0 hK 1 25 (d1 := 0) (ci := 3) (i := o) (vs := []) (rest := []) (h1 := (F_Ro_emptyOut o h)) my_yX3_emptyOut vw_X3_25 (by decide) (T_Ro_emptyOut (o := o) (h := h) (ko := ko) (hF := rfl)) ko rfl rfl (Nat.le_of_ble_eq_true rfl) (by decide +kernel) ?_
  refine g_seg hK [.iconst 0, .istore_n 2] 4 6 (L1 := [(2, vI 0), (0, vR o), (1, vR p1)]) (st1 := []) (h1 := (F_Ro_emptyOut o h)) (P := True ∧ True ∧ True) (by decide +kernel) rfl rfl ⟨trivial, trivial, trivial⟩ ?_
  refine hK.2.1 _ _ ([(0, vR o), (1, vR p1), (2, vI 0)]) _ _ (sub_of [1, 2, 0] rfl) ?_
  obtain ⟨x2_1, h2, e3, hF⟩ := ob2_elim hF
  refine LT_Ro_become_L6 hK (kx0 := ko) (kx1 := kp1) _ _ _ _ _ e3 ?_
  cases hF
  exact hR.2.2.2.2 29 _ _ (by decide +kernel) rfl ⟨rfl, rfl⟩
set_option maxHeartbeats 4000000 in
set_option maxRecDepth 100000 in
theorem T_St_become {o : Nat} {p1 : Nat} {h : MH} {h' : MH} (ks : kd o = 6) (kp1 : kd p1 = 6) (hF : F_St_become o p1 h = some h') : CON 2 yX4_become cX4_become 2 none [vR o, vR p1] h none h' := by
  refine con_of (own := RX4) (fl := flX4) (by decide +kernel) rfl flok_X4 rfl (Nat.le_of_ble_eq_true rfl) ?_
  intro K hK hR
  show K 0 [(0, vR o), (1, vR p1)] [] h
  unfold F_St_become at hF
  refine g_seg hK [.aload_n 0, .getfield 14, .aload_n 1, .getfield 14] 0 8 (L1 := [(0, vR o), (1, vR p1)]) (st1 := [vR (rf p1 0), vR (rf o 0)]) (h1 := h) (P := True ∧ kd o = 6 ∧ True ∧ kd p1 = 6 ∧ True) (by decide +kernel) rfl rfl ⟨trivial, ks, trivial, kp1, trivial⟩ ?_
  obtain ⟨h1, e2, hF⟩ := ob1_elim hF
  refine g_callV0 hK 8 39 (d1 := 1) (ci := 3) (i := rf o 0) (vs := [vR (rf p1 0)]) (rest := []) (h1 := h1) my_yX3_become vw_X4_39 (by decide) (T_Ro_become (o := (rf o 0)) (p1 := (rf p1 0)) (h := h) (ko := (kt_6_0 ks)) (kp1 := (kt_6_0 kp1)) (hF := e2)) (kt_6_0 ks) rfl rfl (Nat.le_of_ble_eq_true rfl) (by decide +kernel) ?_
  refine g_seg hK [.aload_n 0, .getfield 20, .aload_n 1, .getfield 20] 11 19 (L1 := [(0, vR o), (1, vR p1)]) (st1 := [vR (rf p1 1), vR (rf o 1)]) (h1 := h1) (P := True ∧ kd o = 6 ∧ True ∧ kd p1 = 6 ∧ True) (by decide +kernel) rfl rfl ⟨trivial, ks, trivial, kp1, trivial⟩ ?_
  obtain ⟨h3, e4, hF⟩ := ob1_elim hF
  refine g_callV0 hK 19 39 (d1 := 1) (ci := 3) (i := rf o 1) (vs := [vR (rf p1 1)]) (rest := []) (h1 := h3) my_yX3_become vw_X4_39 (by decide) (T_Ro_become (o := (rf o 1)) (p1 := (rf p1 1)) (h := h1) (ko := (kt_6_1 ks)) (kp1 := (kt_6_1 kp1)) (hF := e4)) (kt_6_1 ks) rfl rfl (Nat.le_of_ble_eq_true rfl) (by decide +kernel) ?_
  refine g_seg hK [.aload_n 0, .getfield 23, .aload_n 1, .getfield 23] 22 30 (L1 := [(0, vR o), (1, vR p1)]) (st1 := [vR (rf p1 2), vR (rf o 2)]) (h1 := h3) (P := True ∧ kd o = 6 ∧ True ∧ kd p1 = 6 ∧ True) (by decide +kernel) rfl rfl ⟨trivial, ks, trivial, kp1, trivial⟩ ?_
  obtain ⟨h5, e6, hF⟩ := ob1_elim hF
  refine g_callV0 hK 30 39 (d1 := 1) (ci := 3) (i := rf o 2) (vs := [vR (rf p1 2)]) (rest := []) (h1 := h5) my_yX3_become vw_X4_39 (by decide) (T_Ro_become (o := (rf o 2)) (p1 := (rf p1 2)) (h := h3) (ko := (kt_6_2 ks)) (kp1 := (kt_6_2 kp1)) (hF := e6)) (kt_6_2 ks) rfl rfl (Nat.le_of_ble_eq_true rfl) (by decide +kernel) ?_
  refine g_seg hK [.aload_n 0, .aload_n 1, .getfield 26, .putfield 26, .aload_n 0, .aload_n 1, .getfield 30, .putfield 30, .aload_n 0, .aload_n 1, .getfield 33, .putfield 33, .aload_n 0, .aload_n 1, .getfield 36, .putfield 36] 33 65 (L1 := [(0, vR o), (1, vR p1)]) (st1 := []) (h1 := (up (up (up (up h5 o 3 (h5 p1 3)) o 4 ((up h5 o 3 (h5 p1 3)) p1 4)) o 5 ((up (up h5 o 3 (h5 p1 3)) o 4 ((up h5 o 3 (h5 p1 3)) p1 4)) p1 5)) o 6 ((up (up (up h5 o 3 (h5 p1 3)) o 4 ((up h5 o 3 (h5 p1 3)) p1 4)) o 5 ((up (up h5 o 3 (h5 p1 3)) o 4 ((up h5 o 3 (h5 p1 3)) p1 4)) p1 5)) p1 6))) (P := True ∧ True ∧ kd p1 = 6 ∧ kd o = 6 ∧ True ∧ True ∧ kd p1 = 6 ∧ kd o = 6 ∧ True ∧ True ∧ kd p1 = 6 ∧ kd o = 6 ∧ True ∧ True ∧ kd p1 = 6 ∧ kd o = 6 ∧ True) (by decide +kernel) rfl rfl ⟨trivial, trivial, kp1, ks, trivial, trivial, kp1, ks, trivial, trivial, kp1, ks, trivial, trivial, kp1, ks, trivial⟩ ?_
  cases hF
  exact hR.2.2.2.2 65 _ _ (by decide +kernel) rfl ⟨rfl, rfl⟩
set_option maxHeartbeats 4000000 in
set_option maxRecDepth 100000 in
theorem T_Hi_copy {p1 : Option Nat} {p2 : Option Nat} {h : MH} {h' : MH} (kp1 : ∀ i, p1 = some i → kd i = 6) (kp2 : ∀ i, p2 = some i → kd i = 6) (hF : F_Hi_copy p1 p2 h = some h') : CON 3 yX1_copy cX1_copy 2 none [vO p1, vO p2] h none h' := by
  refine con_of (own := RX1) (fl := flX1) (by decide +kernel) rfl flok_X1 rfl (Nat.le_of_ble_eq_true rfl) ?_
  intro K hK hR
  show K 0 [(0, vO p1), (1, vO p2)] [] h
  unfold F_Hi_copy at hF
  refine g_seg hK [.aload_n 0] 0 1 (L1 := [(0, vO p1), (1, vO p2)]) (st1 := [vO p1]) (h1 := h) (P := True ∧ True) (by decide +kernel) rfl rfl ⟨trivial, trivial⟩ ?_
  refine g_null hK 1 12 13 (by decide +kernel) (by decide) (fun hc6 => ?_) (fun i1 hc6 => ?_)
  · have hF := om_n hc6 hF
    cases hF
    exact hR.2.2.2.2 13 _ _ (by decide +kernel) rfl ⟨rfl, rfl⟩
  · subst hc6
    have hF := om_s rfl hF
    refine g_seg hK [.aload_n 1] 4 5 (L1 := [(0, vR i1), (1, vO p2)]) (st1 := [vO p2]) (h1 := h) (P := True ∧ True) (by decide +kernel) rfl rfl ⟨trivial, trivial⟩ ?_
    refine g_null hK 5 8 13 (by decide +kernel) (by decide) (fun hc5 => ?_) (fun i2 hc5 => ?_)
    · have hF := om_n hc5 hF
      cases hF
      exact hR.2.2.2.2 13 _ _ (by decide +kernel) rfl ⟨rfl, rfl⟩
    · subst hc5
      have hF := om_s rfl hF
      refine g_seg hK [.aload_n 1, .aload_n 0] 8 10 (L1 := [(0, vR i1), (1, vR i2)]) (st1 := [vR i1, vR i2]) (h1 := h) (P := True ∧ True ∧ True) (by decide +kernel) rfl rfl ⟨trivial, trivial, trivial⟩ ?_
      obtain ⟨h3, e4, hF⟩ := ob1_elim hF
      refine g_callV0 hK 10 33 (d1 := 2) (ci := 4) (i := i2) (vs := [vR i1]) (rest := []) (h1 := h3) my_yX4_become vw_X1_33 (by decide) (T_St_become (o := i2) (p1 := i1) (h := h) (ks := (kp2 _ rfl)) (kp1 := (kp1 _ rfl)) (hF := e4)) (kp2 _ rfl) rfl rfl (Nat.le_of_ble_eq_true rfl) (by decide +kernel) ?_
      cases hF
      exact hR.2.2.2.2 13 _ _ (by decide +kernel) rfl ⟨rfl, rfl⟩
set_option maxHeartbeats 4000000 in
set_option maxRecDepth 100000 in
theorem LT_Hi_dropOldest_L2 {K : KT} (hK : Rules RX1 cX1_dropOldest 2 none flX1 4 K) : ∀ (n : Nat) (x1 : Int) (h : MH) (x1' : Int) (h' : MH), F_Hi_dropOldest_L2 n x1 h = some (x1', h') → K 31 [(0, vR 17), (1, vI x1')] [] h' → K 2 [(0, vR 17), (1, vI x1)] [] h := by
  intro n
  induction n with
  | zero =>
    intro x1 h x1' h' hF
    cases hF
  | succ n ih =>
    intro x1 h x1' h' hF hE
    unfold F_Hi_dropOldest_L2 at hF
    refine g_seg hK [.iload_n 1, .aload_n 0, .getfield 17] 2 7 (L1 := [(0, vR 17), (1, vI x1)]) (st1 := [vI (h 17 1), vI x1]) (h1 := h) (P := True ∧ True ∧ kd 17 = 3 ∧ True) (by decide +kernel) rfl rfl ⟨trivial, trivial, rfl, trivial⟩ ?_
    refine g_icmp hK 7 .ge (24) 31 (t1 := 10) (t2 := 31) (by decide +kernel) (by decide) rfl rfl (fun (hc1 : x1 < h 17 1) => ?_) (fun (hc1 : ¬ (x1 < h 17 1)) => ?_)
    · have hF := ite_t hc1 hF
      refine g_seg hK [.aload_n 0, .iload_n 1] 10 12 (L1 := [(0, vR 17), (1, vI x1)]) (st1 := [vI x1, vR 17]) (h1 := h) (P := True ∧ True ∧ True) (by decide +kernel) rfl rfl ⟨trivial, trivial, trivial⟩ ?_
      refine g_callV1 hK 12 25 (d1 := 0) (ci := 1) (i := 17) (vs := [vI x1]) (rest := []) (h1 := h) (r := vO (F_Hi_slot x1)) my_yX1_slot vw_X1_25 (by decide) (T_Hi_slot (p1 := x1) (h := h) (hF := rfl)) rfl rfl rfl (Nat.le_of_ble_eq_true rfl) (by decide +kernel) ?_
      refine g_seg hK [.aload_n 0, .iload_n 1, .iconst 1, .isub] 15 19 (L1 := [(0, vR 17), (1, vI x1)]) (st1 := [vI (wr (x1 - 1)), vR 17, vO (F_Hi_slot x1)]) (h1 := h) (P := True ∧ True ∧ True ∧ True ∧ True) (by decide +kernel) rfl rfl ⟨trivial, trivial, trivial, trivial, trivial⟩ ?_
      refine g_callV1 hK 19 25 (d1 := 0) (ci := 1) (i := 17) (vs := [vI (wr (x1 - 1))]) (rest := [vO (F_Hi_slot x1)]) (h1 := h) (r := vO (F_Hi_slot (wr (x1 - 1)))) my_yX1_slot vw_X1_25 (by decide) (T_Hi_slot (p1 := (wr (x1 - 1))) (h := h) (hF := rfl)) rfl rfl rfl (Nat.le_of_ble_eq_true rfl) (by decide +kernel) ?_
      obtain ⟨h2, e3, hF⟩ := ob1_elim hF
      refine g_callS0 hK 22 29 (d1 := 3) (vs := [vO (F_Hi_slot x1), vO (F_Hi_slot (wr (x1 - 1)))]) (rest := []) (h1 := h2) my_yX1_copy sw_X1_29 (by decide) (T_Hi_copy (p1 := (F_Hi_slot x1)) (p2 := (F_Hi_slot (wr (x1 - 1)))) (h := h) (kp1 := (kd_Hi_slot _)) (kp2 := (kd_Hi_slot _)) (hF := e3)) rfl (Nat.le_of_ble_eq_true rfl) (by decide +kernel) ?_
      refine g_seg hK [.iinc 1 1] 25 28 (L1 := [(1, vI (wr (x1 + 1))), (0, vR 17)]) (st1 := []) (h1 := h2) (P := True ∧ True) (by decide +kernel) rfl rfl ⟨trivial, trivial⟩ ?_
      refine g_goto hK 28 (-26) 2 (by decide +kernel) (by decide) ?_
      refine hK.2.1 _ _ ([(0, vR 17), (1, vI (wr (x1 + 1)))]) _ _ (sub_of [1, 0] rfl) ?_
      exact ih _ _ _ _ hF hE
    · have hF := ite_f hc1 hF
      cases hF
      exact hE
set_option maxHeartbeats 4000000 in
set_option maxRecDepth 100000 in
theorem T_Hi_dropOldest {h : MH} {h' : MH} (hF : F_Hi_dropOldest h = some h') : CON 4 yX1_dropOldest cX1_dropOldest 2 none [vR 17] h none h' := by
  refine con_of (own := RX1) (fl := flX1) (by decide +kernel) rfl flok_X1 rfl (Nat.le_of_ble_eq_true rfl) ?_
  intro K hK hR
  show K 0 [(0, vR 17)] [] h
  unfold F_Hi_dropOldest at hF
  refine g_seg hK [.iconst 1, .istore_n 1] 0 2 (L1 := [(1, vI 1), (0, vR 17)]) (st1 := []) (h1 := h) (P := True ∧ True ∧ True) (by decide +kernel) rfl rfl ⟨trivial, trivial, trivial⟩ ?_
  refine hK.2.1 _ _ ([(0, vR 17), (1, vI 1)]) _ _ (sub_of [1, 0] rfl) ?_
  obtain ⟨x1_1, h2, e3, hF⟩ := ob2_elim hF
  refine LT_Hi_dropOldest_L2 hK _ _ _ _ _ e3 ?_
  refine g_seg hK [.aload_n 0, .dup, .getfield 17, .iconst 1, .isub, .putfield 17] 31 41 (L1 := [(0, vR 17), (1, vI x1_1)]) (st1 := []) (h1 := (up h2 17 1 (wr ((h2 17 1) - 1)))) (P := True ∧ True ∧ kd 17 = 3 ∧ True ∧ True ∧ kd 17 = 3 ∧ True) (by decide +kernel) rfl rfl ⟨trivial, trivial, rfl, trivial, trivial, rfl, trivial⟩ ?_
  cases hF
  exact hR.2.2.2.2 41 _ _ (by decide +kernel) rfl ⟨rfl, rfl⟩
set_option maxHeartbeats 4000000 in
set_option maxRecDepth 100000 in
theorem T_Hi_record {p1 : Nat} {h : MH} {h' : MH} (kp1 : kd p1 = 6) (hF : F_Hi_record p1 h = some h') : CON 5 yX1_record cX1_record 2 none [vR 17, vR p1] h none h' := by
  refine con_of (own := RX1) (fl := flX1) (by decide +kernel) rfl flok_X1 rfl (Nat.le_of_ble_eq_true rfl) ?_
  intro K hK hR
  show K 0 [(0, vR 17), (1, vR p1)] [] h
  unfold F_Hi_record at hF
  refine g_seg hK [.aload_n 0, .getfield 17, .aload_n 0, .getfield 11, .arraylength] 0 9 (L1 := [(0, vR 17), (1, vR p1)]) (st1 := [vI 4, vI (h 17 1)]) (h1 := h) (P := True ∧ kd 17 = 3 ∧ True ∧ kd 17 = 3 ∧ kd 18 ≤ 1 ∧ True) (by decide +kernel) rfl rfl ⟨trivial, rfl, trivial, rfl, (by rw [show kd 18 = 1 from rfl]; decide), trivial⟩ ?_
  obtain ⟨kj2, e5, hF⟩ := jk1_elim hF
  have j2 : ∀ (h1 : MH), kj2 h1 = some h' → K 16 [(0, vR 17), (1, vR p1)] [] h1 := by
    intro h1 hF
    have hF := (e5 h1).symm.trans hF
    refine g_seg hK [.aload_n 1, .aload_n 0, .aload_n 0, .getfield 17] 16 22 (L1 := [(0, vR 17), (1, vR p1)]) (st1 := [vI (h1 17 1), vR 17, vR p1]) (h1 := h1) (P := True ∧ True ∧ True ∧ kd 17 = 3 ∧ True) (by decide +kernel) rfl rfl ⟨trivial, trivial, trivial, rfl, trivial⟩ ?_
    refine g_callV1 hK 22 25 (d1 := 0) (ci := 1) (i := 17) (vs := [vI (h1 17 1)]) (rest := [vR p1]) (h1 := h1) (r := vO (F_Hi_slot (h1 17 1))) my_yX1_slot vw_X1_25 (by decide) (T_Hi_slot (p1 := (h1 17 1)) (h := h1) (hF := rfl)) rfl rfl rfl (Nat.le_of_ble_eq_true rfl) (by decide +kernel) ?_
    obtain ⟨h3, e4, hF⟩ := ob1_elim hF
    refine g_callS0 hK 25 29 (d1 := 3) (vs := [vR p1, vO (F_Hi_slot (h1 17 1))]) (rest := []) (h1 := h3) my_yX1_copy sw_X1_29 (by decide) (T_Hi_copy (p1 := (some p1)) (p2 := (F_Hi_slot (h1 17 1))) (h := h1) (kp1 := (fun i e => by cases e; exact kp1)) (kp2 := (kd_Hi_slot _)) (hF := e4)) rfl (Nat.le_of_ble_eq_true rfl) (by decide +kernel) ?_
    refine g_seg hK [.aload_n 0, .dup, .getfield 17, .iconst 1, .iadd, .putfield 17] 28 38 (L1 := [(0, vR 17), (1, vR p1)]) (st1 := []) (h1 := (up h3 17 1 (wr ((h3 17 1) + 1)))) (P := True ∧ True ∧ kd 17 = 3 ∧ True ∧ True ∧ kd 17 = 3 ∧ True) (by decide +kernel) rfl rfl ⟨trivial, trivial, rfl, trivial, trivial, rfl, trivial⟩ ?_
    cases hF
    exact hR.2.2.2.2 38 _ _ (by decide +kernel) rfl ⟨rfl, rfl⟩
  refine g_icmp hK 9 .lt (7) 16 (t1 := 16) (t2 := 12) (by decide +kernel) (by decide) rfl rfl (fun (hc6 : h 17 1 < 4) => ?_) (fun (hc6 : ¬ (h 17 1 < 4)) => ?_)
  · have hF := ite_t hc6 hF
    exact j2 _ hF
  · have hF := ite_f hc6 hF
    refine g_seg hK [.aload_n 0] 12 13 (L1 := [(0, vR 17), (1, vR p1)]) (st1 := [vR 17]) (h1 := h) (P := True ∧ True) (by decide +kernel) rfl rfl ⟨trivial, trivial⟩ ?_
    obtain ⟨h7, e8, hF⟩ := ob1_elim hF
    refine g_callV0 hK 13 22 (d1 := 4) (ci := 1) (i := 17) (vs := []) (rest := []) (h1 := h7) my_yX1_dropOldest vw_X1_22 (by decide) (T_Hi_dropOldest (h := h) (hF := e8)) rfl rfl rfl (Nat.le_of_ble_eq_true rfl) (by decide +kernel) ?_
    exact j2 _ hF
set_option maxHeartbeats 4000000 in
set_option maxRecDepth 100000 in
theorem T_Ro_change {o : Nat} {p1 : Int} {p2 : Int} {h : MH} {h' : MH} (ko : kd o = 5) (hF : F_Ro_change o p1 p2 h = h') : CON 0 yX3_change cX3_change 3 none [vR o, vI p1, vI p2] h none h' := by
  refine con_of (own := RX3) (fl := flX3) (by decide +kernel) rfl flok_X3 rfl (Nat.le_of_ble_eq_true rfl) ?_
  intro K hK hR
  show K 0 [(0, vR o), (1, vI p1), (2, vI p2)] [] h
  unfold F_Ro_change at hF
  refine g_seg hK [.iload_n 1] 0 1 (L1 := [(0, vR o), (1, vI p1), (2, vI p2)]) (st1 := [vI p1]) (h1 := h) (P := True ∧ True) (by decide +kernel) rfl rfl ⟨trivial, trivial⟩ ?_
  refine g_ifz hK 1 .lt (27) 28 (t1 := 28) (t2 := 4) (by decide +kernel) (by decide) rfl rfl (fun (hc1 : p1 < 0) => ?_) (fun (hc1 : ¬ (p1 < 0)) => ?_)
  · have hF := ite_t hc1 hF
    cases hF
    exact hR.2.2.2.2 28 _ _ (by decide +kernel) rfl ⟨rfl, rfl⟩
  · have hF := ite_f hc1 hF
    refine g_seg hK [.iload_n 1, .aload_n 0, .getfield 7] 4 9 (L1 := [(0, vR o), (1, vI p1), (2, vI p2)]) (st1 := [vI (h o 1), vI p1]) (h1 := h) (P := True ∧ True ∧ kd o = 5 ∧ True) (by decide +kernel) rfl rfl ⟨trivial, trivial, ko, trivial⟩ ?_
    refine g_icmp hK 9 .ge (19) 28 (t1 := 12) (t2 := 28) (by decide +kernel) (by decide) rfl rfl (fun (hc2 : p1 < h o 1) => ?_) (fun (hc2 : ¬ (p1 < h o 1)) => ?_)
    · have hF := ite_t hc2 hF
      refine g_seg hK [.iload_n 1, .aload_n 0, .getfield 13, .arraylength] 12 18 (L1 := [(0, vR o), (1, vI p1), (2, vI p2)]) (st1 := [vI (al (rf o 0) : Int), vI p1]) (h1 := h) (P := True ∧ True ∧ kd o = 5 ∧ kd (rf o 0) ≤ 1 ∧ True) (by decide +kernel) rfl rfl ⟨trivial, trivial, ko, (by rw [show kd (rf o 0) = 0 from (kt_5_0 ko)]; decide), trivial⟩ ?_
      refine g_icmp hK 18 .ge (10) 28 (t1 := 21) (t2 := 28) (by decide +kernel) (by decide) rfl rfl (fun (hc3 : p1 < (al (rf o 0) : Int)) => ?_) (fun (hc3 : ¬ (p1 < (al (rf o 0) : Int))) => ?_)
      · have hF := ite_t hc3 hF
        refine g_seg hK [.aload_n 0, .getfield 13, .iload_n 1, .iload_n 2, .iastore] 21 28 (L1 := [(0, vR o), (1, vI p1), (2, vI p2)]) (st1 := []) (h1 := (up h (rf o 0) p1.toNat p2)) (P := True ∧ kd o = 5 ∧ True ∧ True ∧ (kd (rf o 0) = 0 ∧ 0 ≤ p1 ∧ p1 < (al (rf o 0) : Int)) ∧ True) (by decide +kernel) rfl rfl ⟨trivial, ko, trivial, trivial, ⟨(kt_5_0 ko), ⟨(by omega), hc3⟩⟩, trivial⟩ ?_
        cases hF
        exact hR.2.2.2.2 28 _ _ (by decide +kernel) rfl ⟨rfl, rfl⟩
      · have hF := ite_f hc3 hF
        cases hF
        exact hR.2.2.2.2 28 _ _ (by decide +kernel) rfl ⟨rfl, rfl⟩
    · have hF := ite_f hc2 hF
      cases hF
      exact hR.2.2.2.2 28 _ _ (by decide +kernel) rfl ⟨rfl, rfl⟩
set_option maxHeartbeats 4000000 in
set_option maxRecDepth 100000 in
theorem LT_Ro_putIn_L42 {K : KT} (hK : Rules RX3 cX3_putIn 4 none flX3 1 K) {x0 : Nat} {x1 : Int} {x2 : Int} (kx0 : kd x0 = 5) : ∀ (n : Nat) (x3 : Int) (h : MH) (x3' : Int) (h' : MH), F_Ro_putIn_L42 x0 x1 x2 n x3 h = some (x3', h') → K 65 [(0, vR x0), (1, vI x1), (2, vI x2), (3, vI x3')] [] h' → K 42 [(0, vR x0), (1, vI x1), (2, vI x2), (3, vI x3)] [] h := by
  intro n
  induction n with
  | zero =>
    intro x3 h x3' h' hF
    cases hF
  | succ n ih =>
    intro x3 h x3' h' hF hE
    unfold F_Ro_putIn_L42 at hF
    refine g_seg hK [.iload_n 3, .iload_n 1] 42 44 (L1 := [(0, vR x0), (1, vI x1), (2, vI x2), (3, vI x3)]) (st1 := [vI x1, vI x3]) (h1 := h) (P := True ∧ True ∧ True) (by decide +kernel) rfl rfl ⟨trivial, trivial, trivial⟩ ?_
    refine g_icmp hK 44 .le (21) 65 (t1 := 65) (t2 := 47) (by decide +kernel) (by decide) rfl rfl (fun (hc1 : x3 ≤ x1) => ?_) (fun (hc1 : ¬ (x3 ≤ x1)) => ?_)
    · have hF := ite_t hc1 hF
      cases hF
      exact hE
    · have hF := ite_f hc1 hF
      refine g_seg hK [.aload_n 0, .iload_n 3, .aload_n 0, .iload_n 3, .iconst 1, .isub] 47 53 (L1 := [(0, vR x0), (1, vI x1), (2, vI x2), (3, vI x3)]) (st1 := [vI (wr (x3 - 1)), vR x0, vI x3, vR x0]) (h1 := h) (P := True ∧ True ∧ True ∧ True ∧ True ∧ True ∧ True) (by decide +kernel) rfl rfl ⟨trivial, trivial, trivial, trivial, trivial, trivial, trivial⟩ ?_
      refine g_callV1 hK 53 17 (d1 := 0) (ci := 3) (i := x0) (vs := [vI (wr (x3 - 1))]) (rest := [vI x3, vR x0]) (h1 := h) (r := vI (F_Ro_at x0 (wr (x3 - 1)) h)) my_yX3_at vw_X3_17 (by decide) (T_Ro_at (o := x0) (p1 := (wr (x3 - 1))) (h := h) (ko := kx0) (hF := rfl)) kx0 rfl rfl (Nat.le_of_ble_eq_true rfl) (by decide +kernel) ?_
      refine g_callV0 hK 56 21 (d1 := 0) (ci := 3) (i := x0) (vs := [vI x3, vI (F_Ro_at x0 (wr (x3 - 1)) h)]) (rest := []) (h1 := (F_Ro_change x0 x3 (F_Ro_at x0 (wr (x3 - 1)) h) h)) my_yX3_change vw_X3_21 (by decide) (T_Ro_change (o := x0) (p1 := x3) (p2 := (F_Ro_at x0 (wr (x3 - 1)) h)) (h := h) (ko := kx0) (hF := rfl)) kx0 rfl rfl (Nat.le_of_ble_eq_true rfl) (by decide +kernel) ?_
      refine g_seg hK [.iinc 3 (-1)] 59 62 (L1 := [(3, vI (wr (x3 + (-1)))), (0, vR x0), (1, vI x1), (2, vI x2)]) (st1 := []) (h1 := (F_Ro_change x0 x3 (F_Ro_at x0 (wr (x3 - 1)) h) h)) (P := True ∧ True) (by decide +kernel) rfl rfl ⟨trivial, trivial⟩ ?_
      refine g_goto hK 62 (-20) 42 (by decide +kernel) (by decide) ?_
      refine hK.2.1 _ _ ([(0, vR x0), (1, vI x1), (2, vI x2), (3, vI (wr (x3 + (-1))))]) _ _ (sub_of [1, 2, 3, 0] rfl) ?_
      exact ih _ _ _ _ hF hE
set_option maxHeartbeats 4000000 in
set_option maxRecDepth 100000 in
theorem T_Ro_putIn {o : Nat} {p1 : Int} {p2 : Int} {h : MH} {h' : MH} (ko : kd o = 5) (hF : F_Ro_putIn o p1 p2 h = some h') : CON 1 yX3_putIn cX3_putIn 4 none [vR o, vI p1, vI p2] h none h' := by
  refine con_of (own := RX3) (fl := flX3) (by decide +kernel) rfl flok_X3 rfl (Nat.le_of_ble_eq_true rfl) ?_
  intro K hK hR
  show K 0 [(0, vR o), (1, vI p1), (2, vI p2)] [] h
  unfold F_Ro_putIn at hF
  refine g_seg hK [.iload_n 1] 0 1 (L1 := [(0, vR o), (1, vI p1), (2, vI p2)]) (st1 := [vI p1]) (h1 := h) (P := True ∧ True) (by decide +kernel) rfl rfl ⟨trivial, trivial⟩ ?_
  refine g_ifz hK 1 .lt (23) 24 (t1 := 24) (t2 := 4) (by decide +kernel) (by decide) rfl rfl (fun (hc1 : p1 < 0) => ?_) (fun (hc1 : ¬ (p1 < 0)) => ?_)
  · have hF := ite_t hc1 hF
    cases hF
    exact hR.2.2.2.2 24 _ _ (by decide +kernel) rfl ⟨rfl, rfl⟩
  · have hF := ite_f hc1 hF
    refine g_seg hK [.iload_n 1, .aload_n 0, .getfield 7] 4 9 (L1 := [(0, vR o), (1, vI p1), (2, vI p2)]) (st1 := [vI (h o 1), vI p1]) (h1 := h) (P := True ∧ True ∧ kd o = 5 ∧ True) (by decide +kernel) rfl rfl ⟨trivial, trivial, ko, trivial⟩ ?_
    refine g_icmp hK 9 .gt (15) 24 (t1 := 12) (t2 := 24) (by decide +kernel) (by decide) rfl rfl (fun (hc2 : p1 ≤ h o 1) => ?_) (fun (hc2 : ¬ (p1 ≤ h o 1)) => ?_)
    · have hF := ite_t hc2 hF
      refine g_seg hK [.aload_n 0, .getfield 7, .aload_n 0, .getfield 13, .arraylength] 12 21 (L1 := [(0, vR o), (1, vI p1), (2, vI p2)]) (st1 := [vI (al (rf o 0) : Int), vI (h o 1)]) (h1 := h) (P := True ∧ kd o = 5 ∧ True ∧ kd o = 5 ∧ kd (rf o 0) ≤ 1 ∧ True) (by decide +kernel) rfl rfl ⟨trivial, ko, trivial, ko, (by rw [show kd (rf o 0) = 0 from (kt_5_0 ko)]; decide), trivial⟩ ?_
      refine g_icmp hK 21 .lt (4) 25 (t1 := 25) (t2 := 24) (by decide +kernel) (by decide) rfl rfl (fun (hc3 : h o 1 < (al (rf o 0) : Int)) => ?_) (fun (hc3 : ¬ (h o 1 < (al (rf o 0) : Int))) => ?_)
      · have hF := ite_t hc3 hF
        refine g_seg hK [.aload_n 0, .dup, .getfield 7, .iconst 1, .iadd, .putfield 7, .aload_n 0, .getfield 7, .iconst 1, .isub, .istore_n 3] 25 42 (L1 := [(3, vI (wr (((up h o 1 (wr ((h o 1) + 1))) o 1) - 1))), (0, vR o), (1, vI p1), (2, vI p2)]) (st1 := []) (h1 := (up h o 1 (wr ((h o 1) + 1)))) (P := True ∧ True ∧ kd o = 5 ∧ True ∧ True ∧ kd o = 5 ∧ True ∧ kd o = 5 ∧ True ∧ True ∧ True ∧ True) (by decide +kernel) rfl rfl ⟨trivial, trivial, ko, trivial, trivial, ko, trivial, ko, trivial, trivial, trivial, trivial⟩ ?_
        refine hK.2.1 _ _ ([(0, vR o), (1, vI p1), (2, vI p2), (3, vI (wr (((up h o 1 (wr ((h o 1) + 1))) o 1) - 1)))]) _ _ (sub_of [1, 2, 3, 0] rfl) ?_
        obtain ⟨x3_4, h5, e6, hF⟩ := ob2_elim hF
        refine LT_Ro_putIn_L42 hK (kx0 := ko) _ _ _ _ _ e6 ?_
        refine g_seg hK [.aload_n 0, .iload_n 1, .iload_n 2] 65 68 (L1 := [(0, vR o), (1, vI p1), (2, vI p2), (3, vI x3_4)]) (st1 := [vI p2, vI p1, vR o]) (h1 := h5) (P := True ∧ True ∧ True ∧ True) (by decide +kernel) rfl rfl ⟨trivial, trivial, trivial, trivial⟩ ?_
        refine g_callV0 hK 68 21 (d1 := 0) (ci := 3) (i := o) (vs := [vI p1, vI p2]) (rest := []) (h1 := (F_Ro_change o p1 p2 h5)) my_yX3_change vw_X3_21 (by decide) (T_Ro_change (o := o) (p1 := p1) (p2 := p2) (h := h5) (ko := ko) (hF := rfl)) ko rfl rfl (Nat.le_of_ble_eq_true rfl) (by decide +kernel) ?_
        cases hF
        exact hR.2.2.2.2 71 _ _ (by decide +kernel) rfl ⟨rfl, rfl⟩
      · have hF := ite_f hc3 hF
        cases hF
        exact hR.2.2.2.2 24 _ _ (by decide +kernel) rfl ⟨rfl, rfl⟩
    · have hF := ite_f hc2 hF
      cases hF
      exact hR.2.2.2.2 24 _ _ (by decide +kernel) rfl ⟨rfl, rfl⟩
set_option maxHeartbeats 4000000 in
set_option maxRecDepth 100000 in
theorem LT_Ro_putOut_L15 {K : KT} (hK : Rules RX3 cX3_putOut 3 none flX3 1 K) {x0 : Nat} (kx0 : kd x0 = 5) : ∀ (n : Nat) (x2 : Int) (h : MH) (x2' : Int) (h' : MH), F_Ro_putOut_L15 x0 n x2 h = some (x2', h') → K 43 [(0, vR x0), (2, vI x2')] [] h' → K 15 [(0, vR x0), (2, vI x2)] [] h := by
  intro n
  induction n with
  | zero =>
    intro x2 h x2' h' hF
    cases hF
  | succ n ih =>
    intro x2 h x2' h' hF hE
    unfold F_Ro_putOut_L15 at hF
    refine g_seg hK [.iload_n 2, .aload_n 0, .getfield 7, .iconst 1, .isub] 15 22 (L1 := [(0, vR x0), (2, vI x2)]) (st1 := [vI (wr ((h x0 1) - 1)), vI x2]) (h1 := h) (P := True ∧ True ∧ kd x0 = 5 ∧ True ∧ True ∧ True) (by decide +kernel) rfl rfl ⟨trivial, trivial, kx0, trivial, trivial, trivial⟩ ?_
    refine g_icmp hK 22 .ge (21) 43 (t1 := 25) (t2 := 43) (by decide +kernel) (by decide) rfl rfl (fun (hc1 : x2 < wr ((h x0 1) - 1)) => ?_) (fun (hc1 : ¬ (x2 < wr ((h x0 1) - 1))) => ?_)
    · have hF := ite_t hc1 hF
      refine g_seg hK [.aload_n 0, .iload_n 2, .aload_n 0, .iload_n 2, .iconst 1, .iadd] 25 31 (L1 := [(0, vR x0), (2, vI x2)]) (st1 := [vI (wr (x2 + 1)), vR x0, vI x2, vR x0]) (h1 := h) (P := True ∧ True ∧ True ∧ True ∧ True ∧ True ∧ True) (by decide +kernel) rfl rfl ⟨trivial, trivial, trivial, trivial, trivial, trivial, trivial⟩ ?_
      refine g_callV1 hK 31 17 (d1 := 0) (ci := 3) (i := x0) (vs := [vI (wr (x2 + 1))]) (rest := [vI x2, vR x0]) (h1 := h) (r := vI (F_Ro_at x0 (wr (x2 + 1)) h)) my_yX3_at vw_X3_17 (by decide) (T_Ro_at (o := x0) (p1 := (wr (x2 + 1))) (h := h) (ko := kx0) (hF := rfl)) kx0 rfl rfl (Nat.le_of_ble_eq_true rfl) (by decide +kernel) ?_
      refine g_callV0 hK 34 21 (d1 := 0) (ci := 3) (i := x0) (vs := [vI x2, vI (F_Ro_at x0 (wr (x2 + 1)) h)]) (rest := []) (h1 := (F_Ro_change x0 x2 (F_Ro_at x0 (wr (x2 + 1)) h) h)) my_yX3_change vw_X3_21 (by decide) (T_Ro_change (o := x0) (p1 := x2) (p2 := (F_Ro_at x0 (wr (x2 + 1)) h)) (h := h) (ko := kx0) (hF := rfl)) kx0 rfl rfl (Nat.le_of_ble_eq_true rfl) (by decide +kernel) ?_
      refine g_seg hK [.iinc 2 1] 37 40 (L1 := [(2, vI (wr (x2 + 1))), (0, vR x0)]) (st1 := []) (h1 := (F_Ro_change x0 x2 (F_Ro_at x0 (wr (x2 + 1)) h) h)) (P := True ∧ True) (by decide +kernel) rfl rfl ⟨trivial, trivial⟩ ?_
      refine g_goto hK 40 (-25) 15 (by decide +kernel) (by decide) ?_
      refine hK.2.1 _ _ ([(0, vR x0), (2, vI (wr (x2 + 1)))]) _ _ (sub_of [1, 0] rfl) ?_
      exact ih _ _ _ _ hF hE
    · have hF := ite_f hc1 hF
      cases hF
      exact hE
set_option maxHeartbeats 4000000 in
set_option maxRecDepth 100000 in
theorem T_Ro_putOut {o : Nat} {p1 : Int} {h : MH} {h' : MH} (ko : kd o = 5) (hF : F_Ro_putOut o p1 h = some h') : CON 1 yX3_putOut cX3_putOut 3 none [vR o, vI p1] h none h' := by
  refine con_of (own := RX3) (fl := flX3) (by decide +kernel) rfl flok_X3 rfl (Nat.le_of_ble_eq_true rfl) ?_
  intro K hK hR
  show K 0 [(0, vR o), (1, vI p1)] [] h
  unfold F_Ro_putOut at hF
  refine g_seg hK [.iload_n 1] 0 1 (L1 := [(0, vR o), (1, vI p1)]) (st1 := [vI p1]) (h1 := h) (P := True ∧ True) (by decide +kernel) rfl rfl ⟨trivial, trivial⟩ ?_
  refine g_ifz hK 1 .lt (11) 12 (t1 := 12) (t2 := 4) (by decide +kernel) (by decide) rfl rfl (fun (hc1 : p1 < 0) => ?_) (fun (hc1 : ¬ (p1 < 0)) => ?_)
  · have hF := ite_t hc1 hF
    cases hF
    exact hR.2.2.2.2 12 _ _ (by decide +kernel) rfl ⟨rfl, rfl⟩
  · have hF := ite_f hc1 hF
    refine g_seg hK [.iload_n 1, .aload_n 0, .getfield 7] 4 9 (L1 := [(0, vR o), (1, vI p1)]) (st1 := [vI (h o 1), vI p1]) (h1 := h) (P := True ∧ True ∧ kd o = 5 ∧ True) (by decide +kernel) rfl rfl ⟨trivial, trivial, ko, trivial⟩ ?_
    refine g_icmp hK 9 .lt (4) 13 (t1 := 13) (t2 := 12) (by decide +kernel) (by decide) rfl rfl (fun (hc2 : p1 < h o 1) => ?_) (fun (hc2 : ¬ (p1 < h o 1)) => ?_)
    · have hF := ite_t hc2 hF
      refine g_seg hK [.iload_n 1, .istore_n 2] 13 15 (L1 := [(2, vI p1), (0, vR o), (1, vI p1)]) (st1 := []) (h1 := h) (P := True ∧ True ∧ True) (by decide +kernel) rfl rfl ⟨trivial, trivial, trivial⟩ ?_
      refine hK.2.1 _ _ ([(0, vR o), (2, vI p1)]) _ _ (sub_of [1, 0] rfl) ?_
      obtain ⟨x2_3, h4, e5, hF⟩ := ob2_elim hF
      refine LT_Ro_putOut_L15 hK (kx0 := ko) _ _ _ _ _ e5 ?_
      refine g_seg hK [.aload_n 0, .dup, .getfield 7, .iconst 1, .isub, .putfield 7] 43 53 (L1 := [(0, vR o), (2, vI x2_3)]) (st1 := []) (h1 := (up h4 o 1 (wr ((h4 o 1) - 1)))) (P := True ∧ True ∧ kd o = 5 ∧ True ∧ True ∧ kd o = 5 ∧ True) (by decide +kernel) rfl rfl ⟨trivial, trivial, ko, trivial, trivial, ko, trivial⟩ ?_
      cases hF
      exact hR.2.2.2.2 53 _ _ (by decide +kernel) rfl ⟨rfl, rfl⟩
    · have hF := ite_f hc2 hF
      cases hF
      exact hR.2.2.2.2 12 _ _ (by decide +kernel) rfl ⟨rfl, rfl⟩
set_option maxHeartbeats 4000000 in
set_option maxRecDepth 100000 in
theorem T_X_edit {p1 : Int} {p2 : Int} {p3 : Int} {h : MH} {r : Int} {h' : MH} (hF : F_X_edit p1 p2 p3 h = some (r, h')) : CON 6 yX6_edit cX6_edit 7 (Option.some Jvm.ClassFile.FieldType.int) [vR 0, vI p1, vI p2, vI p3] h (some (vI r)) h' := by
  refine con_of (own := RX6) (fl := flX6) (by decide +kernel) rfl flok_X6 rfl (Nat.le_of_ble_eq_true rfl) ?_
  intro K hK hR
  show K 0 [(0, vR 0), (1, vI p1), (2, vI p2), (3, vI p3)] [] h
  unfold F_X_edit at hF
  refine g_seg hK [.iload_n 1] 0 1 (L1 := [(0, vR 0), (1, vI p1), (2, vI p2), (3, vI p3)]) (st1 := [vI p1]) (h1 := h) (P := True ∧ True) (by decide +kernel) rfl rfl ⟨trivial, trivial⟩ ?_
  refine g_callS1 hK 1 77 (d1 := 0) (vs := [vI p1]) (rest := []) (h1 := h) (r := vI (F_X_isText p1)) my_yX6_isText sw_X6_77 (by decide) (T_X_isText (p1 := p1) (h := h) (hF := rfl)) rfl (Nat.le_of_ble_eq_true rfl) (by decide +kernel) ?_
  refine g_ifz hK 4 .ne (5) 9 (t1 := 7) (t2 := 9) (by decide +kernel) (by decide) rfl rfl (fun (hc1 : F_X_isText p1 = 0) => ?_) (fun (hc1 : ¬ (F_X_isText p1 = 0)) => ?_)
  · have hF := ite_t hc1 hF
    refine g_seg hK [.iconst (-1)] 7 8 (L1 := [(0, vR 0), (1, vI p1), (2, vI p2), (3, vI p3)]) (st1 := [vI (-1)]) (h1 := h) (P := True ∧ True) (by decide +kernel) rfl rfl ⟨trivial, trivial⟩ ?_
    cases hF
    exact hR.1 8 _ _ _ (by decide +kernel) rfl ⟨rfl, rfl⟩
  · have hF := ite_f hc1 hF
    refine g_seg hK [.aload_n 0, .getfield 21, .iload_n 1] 9 14 (L1 := [(0, vR 0), (1, vI p1), (2, vI p2), (3, vI p3)]) (st1 := [vI p1, vR 3]) (h1 := h) (P := True ∧ kd 0 = 8 ∧ True ∧ True) (by decide +kernel) rfl rfl ⟨trivial, rfl, trivial, trivial⟩ ?_
    refine g_callV1 hK 14 88 (d1 := 0) (ci := 4) (i := 3) (vs := [vI p1]) (rest := []) (h1 := h) (r := vR (F_St_text 3 p1)) my_yX4_text vw_X6_88 (by decide) (T_St_text (o := 3) (p1 := p1) (h := h) (ks := rfl) (hF := rfl)) rfl rfl rfl (Nat.le_of_ble_eq_true rfl) (by decide +kernel) ?_
    refine g_seg hK [.astore 4, .iload_n 3] 17 20 (L1 := [(4, vR (F_St_text 3 p1)), (0, vR 0), (1, vI p1), (2, vI p2), (3, vI p3)]) (st1 := [vI p3]) (h1 := h) (P := True ∧ True ∧ True) (by decide +kernel) rfl rfl ⟨trivial, trivial, trivial⟩ ?_
    refine g_callS1 hK 20 92 (d1 := 2) (vs := [vI p3]) (rest := []) (h1 := h) (r := vI (F_X_isSign p3)) my_yX6_isSign sw_X6_92 (by decide) (T_X_isSign (p1 := p3) (h := h) (hF := rfl)) rfl (Nat.le_of_ble_eq_true rfl) (by decide +kernel) ?_
    refine g_seg hK [.istore 5, .iload_n 3, .bipush 10, .isub] 23 29 (L1 := [(5, vI (F_X_isSign p3)), (4, vR (F_St_text 3 p1)), (0, vR 0), (1, vI p1), (2, vI p2), (3, vI p3)]) (st1 := [vI (wr (p3 - 10))]) (h1 := h) (P := True ∧ True ∧ True ∧ True ∧ True) (by decide +kernel) rfl rfl ⟨trivial, trivial, trivial, trivial, trivial⟩ ?_
    refine g_callS1 hK 29 92 (d1 := 2) (vs := [vI (wr (p3 - 10))]) (rest := []) (h1 := h) (r := vI (F_X_isSign (wr (p3 - 10)))) my_yX6_isSign sw_X6_92 (by decide) (T_X_isSign (p1 := (wr (p3 - 10))) (h := h) (hF := rfl)) rfl (Nat.le_of_ble_eq_true rfl) (by decide +kernel) ?_
    refine g_seg hK [.istore 6, .iload 5] 32 36 (L1 := [(6, vI (F_X_isSign (wr (p3 - 10)))), (5, vI (F_X_isSign p3)), (4, vR (F_St_text 3 p1)), (0, vR 0), (1, vI p1), (2, vI p2), (3, vI p3)]) (st1 := [vI (F_X_isSign p3)]) (h1 := h) (P := True ∧ True ∧ True) (by decide +kernel) rfl rfl ⟨trivial, trivial, trivial⟩ ?_
    obtain ⟨kj3, e27, hF⟩ := jk1_elim hF
    have j3 : ∀ (u2 : Unit), kj3 u2 = some (r, h') → K 52 [(0, vR 0), (2, vI p2), (3, vI p3), (4, vR (F_St_text 3 p1)), (5, vI (F_X_isSign p3)), (6, vI (F_X_isSign (wr (p3 - 10))))] [] h := by
      intro u2 hF
      have hF := (e27 u2).symm.trans hF
      refine g_seg hK [.iload_n 2] 52 53 (L1 := [(0, vR 0), (2, vI p2), (3, vI p3), (4, vR (F_St_text 3 p1)), (5, vI (F_X_isSign p3)), (6, vI (F_X_isSign (wr (p3 - 10))))]) (st1 := [vI p2]) (h1 := h) (P := True ∧ True) (by decide +kernel) rfl rfl ⟨trivial, trivial⟩ ?_
      refine g_ifz hK 53 .lt (26) 79 (t1 := 79) (t2 := 56) (by decide +kernel) (by decide) rfl rfl (fun (hc4 : p2 < 0) => ?_) (fun (hc4 : ¬ (p2 < 0)) => ?_)
      · have hF := ite_t hc4 hF
        refine g_seg hK [.iconst (-1)] 79 80 (L1 := [(0, vR 0), (2, vI p2), (3, vI p3), (4, vR (F_St_text 3 p1)), (5, vI (F_X_isSign p3)), (6, vI (F_X_isSign (wr (p3 - 10))))]) (st1 := [vI (-1)]) (h1 := h) (P := True ∧ True) (by decide +kernel) rfl rfl ⟨trivial, trivial⟩ ?_
        cases hF
        exact hR.1 80 _ _ _ (by decide +kernel) rfl ⟨rfl, rfl⟩
      · have hF := ite_f hc4 hF
        refine g_seg hK [.iload_n 2, .aload 4] 56 59 (L1 := [(0, vR 0), (2, vI p2), (3, vI p3), (4, vR (F_St_text 3 p1)), (5, vI (F_X_isSign p3)), (6, vI (F_X_isSign (wr (p3 - 10))))]) (st1 := [vR (F_St_text 3 p1), vI p2]) (h1 := h) (P := True ∧ True ∧ True) (by decide +kernel) rfl rfl ⟨trivial, trivial, trivial⟩ ?_
        refine g_callV1 hK 59 63 (d1 := 0) (ci := 3) (i := F_St_text 3 p1) (vs := []) (rest := [vI p2]) (h1 := h) (r := vI (F_Ro_size (F_St_text 3 p1) h)) my_yX3_size vw_X6_63 (by decide) (T_Ro_size (o := (F_St_text 3 p1)) (h := h) (ko := (kd_St_text rfl)) (hF := rfl)) (kd_St_text rfl) rfl rfl (Nat.le_of_ble_eq_true rfl) (by decide +kernel) ?_
        refine g_icmp hK 62 .gt (17) 79 (t1 := 65) (t2 := 79) (by decide +kernel) (by decide) rfl rfl (fun (hc5 : p2 ≤ F_Ro_size (F_St_text 3 p1) h) => ?_) (fun (hc5 : ¬ (p2 ≤ F_Ro_size (F_St_text 3 p1) h)) => ?_)
        · have hF := ite_t hc5 hF
          refine g_seg hK [.iload_n 2, .aload 4] 65 68 (L1 := [(0, vR 0), (2, vI p2), (3, vI p3), (4, vR (F_St_text 3 p1)), (5, vI (F_X_isSign p3)), (6, vI (F_X_isSign (wr (p3 - 10))))]) (st1 := [vR (F_St_text 3 p1), vI p2]) (h1 := h) (P := True ∧ True ∧ True) (by decide +kernel) rfl rfl ⟨trivial, trivial, trivial⟩ ?_
          refine g_callV1 hK 68 63 (d1 := 0) (ci := 3) (i := F_St_text 3 p1) (vs := []) (rest := [vI p2]) (h1 := h) (r := vI (F_Ro_size (F_St_text 3 p1) h)) my_yX3_size vw_X6_63 (by decide) (T_Ro_size (o := (F_St_text 3 p1)) (h := h) (ko := (kd_St_text rfl)) (hF := rfl)) (kd_St_text rfl) rfl rfl (Nat.le_of_ble_eq_true rfl) (by decide +kernel) ?_
          obtain ⟨kj7, e24, hF⟩ := jk1_elim hF
          have j7 : ∀ (u6 : Unit), kj7 u6 = some (r, h') → K 81 [(0, vR 0), (2, vI p2), (3, vI p3), (4, vR (F_St_text 3 p1)), (5, vI (F_X_isSign p3)), (6, vI (F_X_isSign (wr (p3 - 10))))] [] h := by
            intro u6 hF
            have hF := (e24 u6).symm.trans hF
            refine g_seg hK [.iload 5] 81 83 (L1 := [(0, vR 0), (2, vI p2), (3, vI p3), (4, vR (F_St_text 3 p1)), (5, vI (F_X_isSign p3)), (6, vI (F_X_isSign (wr (p3 - 10))))]) (st1 := [vI (F_X_isSign p3)]) (h1 := h) (P := True ∧ True) (by decide +kernel) rfl rfl ⟨trivial, trivial⟩ ?_
            obtain ⟨kj9, e21, hF⟩ := jk1_elim hF
            have j9 : ∀ (u8 : Unit), kj9 u8 = some (r, h') → K 99 [(0, vR 0), (2, vI p2), (3, vI p3), (4, vR (F_St_text 3 p1)), (5, vI (F_X_isSign p3)), (6, vI (F_X_isSign (wr (p3 - 10))))] [] h := by
              intro u8 hF
              have hF := (e21 u8).symm.trans hF
              refine g_seg hK [.aload_n 0, .getfield 35, .aload_n 0, .getfield 21] 99 107 (L1 := [(0, vR 0), (2, vI p2), (3, vI p3), (4, vR (F_St_text 3 p1)), (5, vI (F_X_isSign p3)), (6, vI (F_X_isSign (wr (p3 - 10))))]) (st1 := [vR 3, vR 17]) (h1 := h) (P := True ∧ kd 0 = 8 ∧ True ∧ kd 0 = 8 ∧ True) (by decide +kernel) rfl rfl ⟨trivial, rfl, trivial, rfl, trivial⟩ ?_
              obtain ⟨h10, e11, hF⟩ := ob1_elim hF
              refine g_callV0 hK 107 84 (d1 := 5) (ci := 1) (i := 17) (vs := [vR 3]) (rest := []) (h1 := h10) my_yX1_record vw_X6_84 (by decide) (T_Hi_record (p1 := 3) (h := h) (kp1 := rfl) (hF := e11)) rfl rfl rfl (Nat.le_of_ble_eq_true rfl) (by decide +kernel) ?_
              refine g_seg hK [.iload 5] 110 112 (L1 := [(0, vR 0), (2, vI p2), (3, vI p3), (4, vR (F_St_text 3 p1)), (5, vI (F_X_isSign p3)), (6, vI (F_X_isSign (wr (p3 - 10))))]) (st1 := [vI (F_X_isSign p3)]) (h1 := h10) (P := True ∧ True) (by decide +kernel) rfl rfl ⟨trivial, trivial⟩ ?_
              obtain ⟨kj13, e14, hF⟩ := jk1_elim hF
              have j13 : ∀ (h12 : MH), kj13 h12 = some (r, h') → K 149 [(4, vR (F_St_text 3 p1))] [] h12 := by
                intro h12 hF
                have hF := (e14 h12).symm.trans hF
                refine g_seg hK [.aload 4] 149 151 (L1 := [(4, vR (F_St_text 3 p1))]) (st1 := [vR (F_St_text 3 p1)]) (h1 := h12) (P := True ∧ True) (by decide +kernel) rfl rfl ⟨trivial, trivial⟩ ?_
                refine g_callV1 hK 151 63 (d1 := 0) (ci := 3) (i := F_St_text 3 p1) (vs := []) (rest := []) (h1 := h12) (r := vI (F_Ro_size (F_St_text 3 p1) h12)) my_yX3_size vw_X6_63 (by decide) (T_Ro_size (o := (F_St_text 3 p1)) (h := h12) (ko := (kd_St_text rfl)) (hF := rfl)) (kd_St_text rfl) rfl rfl (Nat.le_of_ble_eq_true rfl) (by decide +kernel) ?_
                cases hF
                exact hR.1 154 _ _ _ (by decide +kernel) rfl ⟨rfl, rfl⟩
              refine g_ifz hK 112 .eq (13) 125 (t1 := 125) (t2 := 115) (by decide +kernel) (by decide) rfl rfl (fun (hc15 : F_X_isSign p3 = 0) => ?_) (fun (hc15 : ¬ (F_X_isSign p3 = 0)) => ?_)
              · have hF := ite_t hc15 hF
                refine g_seg hK [.iload 6] 125 127 (L1 := [(0, vR 0), (2, vI p2), (3, vI p3), (4, vR (F_St_text 3 p1)), (5, vI (F_X_isSign p3)), (6, vI (F_X_isSign (wr (p3 - 10))))]) (st1 := [vI (F_X_isSign (wr (p3 - 10)))]) (h1 := h10) (P := True ∧ True) (by decide +kernel) rfl rfl ⟨trivial, trivial⟩ ?_
                refine g_ifz hK 127 .eq (16) 143 (t1 := 143) (t2 := 130) (by decide +kernel) (by decide) rfl rfl (fun (hc16 : F_X_isSign (wr (p3 - 10)) = 0) => ?_) (fun (hc16 : ¬ (F_X_isSign (wr (p3 - 10)) = 0)) => ?_)
                · have hF := ite_t hc16 hF
                  refine g_seg hK [.aload 4, .iload_n 2] 143 146 (L1 := [(0, vR 0), (2, vI p2), (3, vI p3), (4, vR (F_St_text 3 p1)), (5, vI (F_X_isSign p3)), (6, vI (F_X_isSign (wr (p3 - 10))))]) (st1 := [vI p2, vR (F_St_text 3 p1)]) (h1 := h10) (P := True ∧ True ∧ True) (by decide +kernel) rfl rfl ⟨trivial, trivial, trivial⟩ ?_
                  obtain ⟨h17, e18, hF⟩ := ob1_elim hF
                  refine g_callV0 hK 146 102 (d1 := 1) (ci := 3) (i := F_St_text 3 p1) (vs := [vI p2]) (rest := []) (h1 := h17) my_yX3_putOut vw_X6_102 (by decide) (T_Ro_putOut (o := (F_St_text 3 p1)) (p1 := p2) (h := h10) (ko := (kd_St_text rfl)) (hF := e18)) (kd_St_text rfl) rfl rfl (Nat.le_of_ble_eq_true rfl) (by decide +kernel) ?_
                  refine hK.2.1 _ _ ([(4, vR (F_St_text 3 p1))]) _ _ (sub_of [3] rfl) ?_
                  exact j13 _ hF
                · have hF := ite_f hc16 hF
                  refine g_seg hK [.aload 4, .iload_n 2, .iload_n 3, .bipush 10, .isub] 130 137 (L1 := [(0, vR 0), (2, vI p2), (3, vI p3), (4, vR (F_St_text 3 p1)), (5, vI (F_X_isSign p3)), (6, vI (F_X_isSign (wr (p3 - 10))))]) (st1 := [vI (wr (p3 - 10)), vI p2, vR (F_St_text 3 p1)]) (h1 := h10) (P := True ∧ True ∧ True ∧ True ∧ True ∧ True) (by decide +kernel) rfl rfl ⟨trivial, trivial, trivial, trivial, trivial, trivial⟩ ?_
                  refine g_callV0 hK 137 99 (d1 := 0) (ci := 3) (i := F_St_text 3 p1) (vs := [vI p2, vI (wr (p3 - 10))]) (rest := []) (h1 := (F_Ro_change (F_St_text 3 p1) p2 (wr (p3 - 10)) h10)) my_yX3_change vw_X6_99 (by decide) (T_Ro_change (o := (F_St_text 3 p1)) (p1 := p2) (p2 := (wr (p3 - 10))) (h := h10) (ko := (kd_St_text rfl)) (hF := rfl)) (kd_St_text rfl) rfl rfl (Nat.le_of_ble_eq_true rfl) (by decide +kernel) ?_
                  refine g_goto hK 140 (9) 149 (by decide +kernel) (by decide) ?_
                  refine hK.2.1 _ _ ([(4, vR (F_St_text 3 p1))]) _ _ (sub_of [3] rfl) ?_
                  exact j13 _ hF
              · have hF := ite_f hc15 hF
                refine g_seg hK [.aload 4, .iload_n 2, .iload_n 3] 115 119 (L1 := [(0, vR 0), (2, vI p2), (3, vI p3), (4, vR (F_St_text 3 p1)), (5, vI (F_X_isSign p3)), (6, vI (F_X_isSign (wr (p3 - 10))))]) (st1 := [vI p3, vI p2, vR (F_St_text 3 p1)]) (h1 := h10) (P := True ∧ True ∧ True ∧ True) (by decide +kernel) rfl rfl ⟨trivial, trivial, trivial, trivial⟩ ?_
                obtain ⟨h19, e20, hF⟩ := ob1_elim hF
                refine g_callV0 hK 119 95 (d1 := 1) (ci := 3) (i := F_St_text 3 p1) (vs := [vI p2, vI p3]) (rest := []) (h1 := h19) my_yX3_putIn vw_X6_95 (by decide) (T_Ro_putIn (o := (F_St_text 3 p1)) (p1 := p2) (p2 := p3) (h := h10) (ko := (kd_St_text rfl)) (hF := e20)) (kd_St_text rfl) rfl rfl (Nat.le_of_ble_eq_true rfl) (by decide +kernel) ?_
                refine g_goto hK 122 (27) 149 (by decide +kernel) (by decide) ?_
                refine hK.2.1 _ _ ([(4, vR (F_St_text 3 p1))]) _ _ (sub_of [3] rfl) ?_
                exact j13 _ hF
            refine g_ifz hK 83 .eq (16) 99 (t1 := 99) (t2 := 86) (by decide +kernel) (by decide) rfl rfl (fun (hc22 : F_X_isSign p3 = 0) => ?_) (fun (hc22 : ¬ (F_X_isSign p3 = 0)) => ?_)
            · have hF := ite_t hc22 hF
              exact j9 _ hF
            · have hF := ite_f hc22 hF
              refine g_seg hK [.aload 4] 86 88 (L1 := [(0, vR 0), (2, vI p2), (3, vI p3), (4, vR (F_St_text 3 p1)), (5, vI (F_X_isSign p3)), (6, vI (F_X_isSign (wr (p3 - 10))))]) (st1 := [vR (F_St_text 3 p1)]) (h1 := h) (P := True ∧ True) (by decide +kernel) rfl rfl ⟨trivial, trivial⟩ ?_
              refine g_callV1 hK 88 63 (d1 := 0) (ci := 3) (i := F_St_text 3 p1) (vs := []) (rest := []) (h1 := h) (r := vI (F_Ro_size (F_St_text 3 p1) h)) my_yX3_size vw_X6_63 (by decide) (T_Ro_size (o := (F_St_text 3 p1)) (h := h) (ko := (kd_St_text rfl)) (hF := rfl)) (kd_St_text rfl) rfl rfl (Nat.le_of_ble_eq_true rfl) (by decide +kernel) ?_
              refine g_seg hK [.bipush 14] 91 93 (L1 := [(0, vR 0), (2, vI p2), (3, vI p3), (4, vR (F_St_text 3 p1)), (5, vI (F_X_isSign p3)), (6, vI (F_X_isSign (wr (p3 - 10))))]) (st1 := [vI 14, vI (F_Ro_size (F_St_text 3 p1) h)]) (h1 := h) (P := True ∧ True) (by decide +kernel) rfl rfl ⟨trivial, trivial⟩ ?_
              refine g_icmp hK 93 .lt (6) 99 (t1 := 99) (t2 := 96) (by decide +kernel) (by decide) rfl rfl (fun (hc23 : F_Ro_size (F_St_text 3 p1) h < 14) => ?_) (fun (hc23 : ¬ (F_Ro_size (F_St_text 3 p1) h < 14)) => ?_)
              · have hF := ite_t hc23 hF
                exact j9 _ hF
              · have hF := ite_f hc23 hF
                refine g_seg hK [.bipush (-3)] 96 98 (L1 := [(0, vR 0), (2, vI p2), (3, vI p3), (4, vR (F_St_text 3 p1)), (5, vI (F_X_isSign p3)), (6, vI (F_X_isSign (wr (p3 - 10))))]) (st1 := [vI (-3)]) (h1 := h) (P := True ∧ True) (by decide +kernel) rfl rfl ⟨trivial, trivial⟩ ?_
                cases hF
                exact hR.1 98 _ _ _ (by decide +kernel) rfl ⟨rfl, rfl⟩
          refine g_icmp hK 71 .ne (10) 81 (t1 := 74) (t2 := 81) (by decide +kernel) (by decide) rfl rfl (fun (hc25 : p2 = F_Ro_size (F_St_text 3 p1) h) => ?_) (fun (hc25 : ¬ (p2 = F_Ro_size (F_St_text 3 p1) h)) => ?_)
          · have hF := ite_t hc25 hF
            refine g_seg hK [.iload 5] 74 76 (L1 := [(0, vR 0), (2, vI p2), (3, vI p3), (4, vR (F_St_text 3 p1)), (5, vI (F_X_isSign p3)), (6, vI (F_X_isSign (wr (p3 - 10))))]) (st1 := [vI (F_X_isSign p3)]) (h1 := h) (P := True ∧ True) (by decide +kernel) rfl rfl ⟨trivial, trivial⟩ ?_
            refine g_ifz hK 76 .ne (5) 81 (t1 := 79) (t2 := 81) (by decide +kernel) (by decide) rfl rfl (fun (hc26 : F_X_isSign p3 = 0) => ?_) (fun (hc26 : ¬ (F_X_isSign p3 = 0)) => ?_)
            · have hF := ite_t hc26 hF
              refine g_seg hK [.iconst (-1)] 79 80 (L1 := [(0, vR 0), (2, vI p2), (3, vI p3), (4, vR (F_St_text 3 p1)), (5, vI (F_X_isSign p3)), (6, vI (F_X_isSign (wr (p3 - 10))))]) (st1 := [vI (-1)]) (h1 := h) (P := True ∧ True) (by decide +kernel) rfl rfl ⟨trivial, trivial⟩ ?_
              cases hF
              exact hR.1 80 _ _ _ (by decide +kernel) rfl ⟨rfl, rfl⟩
            · have hF := ite_f hc26 hF
              exact j7 _ hF
          · have hF := ite_f hc25 hF
            exact j7 _ hF
        · have hF := ite_f hc5 hF
          refine g_seg hK [.iconst (-1)] 79 80 (L1 := [(0, vR 0), (2, vI p2), (3, vI p3), (4, vR (F_St_text 3 p1)), (5, vI (F_X_isSign p3)), (6, vI (F_X_isSign (wr (p3 - 10))))]) (st1 := [vI (-1)]) (h1 := h) (P := True ∧ True) (by decide +kernel) rfl rfl ⟨trivial, trivial⟩ ?_
          cases hF
          exact hR.1 80 _ _ _ (by decide +kernel) rfl ⟨rfl, rfl⟩
    refine g_ifz hK 36 .ne (16) 52 (t1 := 39) (t2 := 52) (by decide +kernel) (by decide) rfl rfl (fun (hc28 : F_X_isSign p3 = 0) => ?_) (fun (hc28 : ¬ (F_X_isSign p3 = 0)) => ?_)
    · have hF := ite_t hc28 hF
      refine g_seg hK [.iload 6] 39 41 (L1 := [(6, vI (F_X_isSign (wr (p3 - 10)))), (5, vI (F_X_isSign p3)), (4, vR (F_St_text 3 p1)), (0, vR 0), (1, vI p1), (2, vI p2), (3, vI p3)]) (st1 := [vI (F_X_isSign (wr (p3 - 10)))]) (h1 := h) (P := True ∧ True) (by decide +kernel) rfl rfl ⟨trivial, trivial⟩ ?_
      refine g_ifz hK 41 .ne (11) 52 (t1 := 44) (t2 := 52) (by decide +kernel) (by decide) rfl rfl (fun (hc29 : F_X_isSign (wr (p3 - 10)) = 0) => ?_) (fun (hc29 : ¬ (F_X_isSign (wr (p3 - 10)) = 0)) => ?_)
      · have hF := ite_t hc29 hF
        refine g_seg hK [.iload_n 3, .bipush 20] 44 47 (L1 := [(6, vI (F_X_isSign (wr (p3 - 10)))), (5, vI (F_X_isSign p3)), (4, vR (F_St_text 3 p1)), (0, vR 0), (1, vI p1), (2, vI p2), (3, vI p3)]) (st1 := [vI 20, vI p3]) (h1 := h) (P := True ∧ True ∧ True) (by decide +kernel) rfl rfl ⟨trivial, trivial, trivial⟩ ?_
        refine g_icmp hK 47 .eq (5) 52 (t1 := 52) (t2 := 50) (by decide +kernel) (by decide) rfl rfl (fun (hc30 : p3 = 20) => ?_) (fun (hc30 : ¬ (p3 = 20)) => ?_)
        · have hF := ite_t hc30 hF
          refine hK.2.1 _ _ ([(0, vR 0), (2, vI p2), (3, vI p3), (4, vR (F_St_text 3 p1)), (5, vI (F_X_isSign p3)), (6, vI (F_X_isSign (wr (p3 - 10))))]) _ _ (sub_of [3, 5, 6, 2, 1, 0] rfl) ?_
          exact j3 _ hF
        · have hF := ite_f hc30 hF
          refine g_seg hK [.iconst (-1)] 50 51 (L1 := [(6, vI (F_X_isSign (wr (p3 - 10)))), (5, vI (F_X_isSign p3)), (4, vR (F_St_text 3 p1)), (0, vR 0), (1, vI p1), (2, vI p2), (3, vI p3)]) (st1 := [vI (-1)]) (h1 := h) (P := True ∧ True) (by decide +kernel) rfl rfl ⟨trivial, trivial⟩ ?_
          cases hF
          exact hR.1 51 _ _ _ (by decide +kernel) rfl ⟨rfl, rfl⟩
      · have hF := ite_f hc29 hF
        refine hK.2.1 _ _ ([(0, vR 0), (2, vI p2), (3, vI p3), (4, vR (F_St_text 3 p1)), (5, vI (F_X_isSign p3)), (6, vI (F_X_isSign (wr (p3 - 10))))]) _ _ (sub_of [3, 5, 6, 2, 1, 0] rfl) ?_
        exact j3 _ hF
    · have hF := ite_f hc28 hF
      refine hK.2.1 _ _ ([(0, vR 0), (2, vI p2), (3, vI p3), (4, vR (F_St_text 3 p1)), (5, vI (F_X_isSign p3)), (6, vI (F_X_isSign (wr (p3 - 10))))]) _ _ (sub_of [3, 5, 6, 2, 1, 0] rfl) ?_
      exact j3 _ hF
set_option maxHeartbeats 4000000 in
set_option maxRecDepth 100000 in
theorem LT_Ro_becomeZeros_L6 {K : KT} (hK : Rules RX3 cX3_becomeZeros 3 none flX3 1 K) {x0 : Nat} {x1 : Int} (kx0 : kd x0 = 5) : ∀ (n : Nat) (x2 : Int) (h : MH) (x2' : Int) (h' : MH), F_Ro_becomeZeros_L6 x0 x1 n x2 h = some (x2', h') → K 22 [(0, vR x0), (1, vI x1), (2, vI x2')] [] h' → K 6 [(0, vR x0), (1, vI x1), (2, vI x2)] [] h := by
  intro n
  induction n with
  | zero =>
    intro x2 h x2' h' hF
    cases hF
  | succ n ih =>
    intro x2 h x2' h' hF hE
    unfold F_Ro_becomeZeros_L6 at hF
    refine g_seg hK [.iload_n 2, .iload_n 1] 6 8 (L1 := [(0, vR x0), (1, vI x1), (2, vI x2)]) (st1 := [vI x1, vI x2]) (h1 := h) (P := True ∧ True ∧ True) (by decide +kernel) rfl rfl ⟨trivial, trivial, trivial⟩ ?_
    refine g_icmp hK 8 .ge (14) 22 (t1 := 11) (t2 := 22) (by decide +kernel) (by decide) rfl rfl (fun (hc1 : x2 < x1) => ?_) (fun (hc1 : ¬ (x2 < x1)) => ?_)
    · have hF := ite_t hc1 hF
      refine g_seg hK [.aload_n 0, .iconst 0] 11 13 (L1 := [(0, vR x0), (1, vI x1), (2, vI x2)]) (st1 := [vI 0, vR x0]) (h1 := h) (P := True ∧ True ∧ True) (by decide +kernel) rfl rfl ⟨trivial, trivial, trivial⟩ ?_
      refine g_callV0 hK 13 31 (d1 := 0) (ci := 3) (i := x0) (vs := [vI 0]) (rest := []) (h1 := (F_Ro_add x0 0 h)) my_yX3_add vw_X3_31 (by decide) (T_Ro_add (o := x0) (p1 := 0) (h := h) (ko := kx0) (hF := rfl)) kx0 rfl rfl (Nat.le_of_ble_eq_true rfl) (by decide +kernel) ?_
      refine g_seg hK [.iinc 2 1] 16 19 (L1 := [(2, vI (wr (x2 + 1))), (0, vR x0), (1, vI x1)]) (st1 := []) (h1 := (F_Ro_add x0 0 h)) (P := True ∧ True) (by decide +kernel) rfl rfl ⟨trivial, trivial⟩ ?_
      refine g_goto hK 19 (-13) 6 (by decide +kernel) (by decide) ?_
      refine hK.2.1 _ _ ([(0, vR x0), (1, vI x1), (2, vI (wr (x2 + 1)))]) _ _ (sub_of [1, 2, 0] rfl) ?_
      exact ih _ _ _ _ hF hE
    · have hF := ite_f hc1 hF
      cases hF
      exact hE
set_option maxHeartbeats 4000000 in
set_option maxRecDepth 100000 in
theorem T_Ro_becomeZeros {o : Nat} {p1 : Int} {h : MH} {h' : MH} (ko : kd o = 5) (hF : F_Ro_becomeZeros o p1 h = some h') : CON 1 yX3_becomeZeros cX3_becomeZeros 3 none [vR o, vI p1] h none h' := by
  refine con_of (own := RX3) (fl := flX3) (by decide +kernel) rfl flok_X3 rfl (Nat.le_of_ble_eq_true rfl) ?_
  intro K hK hR
  show K 0 [(0, vR o), (1, vI p1)] [] h
  unfold F_Ro_becomeZeros at hF
  refine g_seg hK [.aload_n 0] 0 1 (L1 := [(0, vR o), (1, vI p1)]) (st1 := [vR o]) (h1 := h) (P := True ∧ True) (by decide +kernel) rfl rfl ⟨trivial, trivial⟩ ?_
  refine g_callV0 hK 1 25 (d1 := 0) (ci := 3) (i := o) (vs := []) (rest := []) (h1 := (F_Ro_emptyOut o h)) my_yX3_emptyOut vw_X3_25 (by decide) (T_Ro_emptyOut (o := o) (h := h) (ko := ko) (hF := rfl)) ko rfl rfl (Nat.le_of_ble_eq_true rfl) (by decide +kernel) ?_
  refine g_seg hK [.iconst 0, .istore_n 2] 4 6 (L1 := [(2, vI 0), (0, vR o), (1, vI p1)]) (st1 := []) (h1 := (F_Ro_emptyOut o h)) (P := True ∧ True ∧ True) (by decide +kernel) rfl rfl ⟨trivial, trivial, trivial⟩ ?_
  refine hK.2.1 _ _ ([(0, vR o), (1, vI p1), (2, vI 0)]) _ _ (sub_of [1, 2, 0] rfl) ?_
  obtain ⟨x2_1, h2, e3, hF⟩ := ob2_elim hF
  refine LT_Ro_becomeZeros_L6 hK (kx0 := ko) _ _ _ _ _ e3 ?_
  cases hF
  exact hR.2.2.2.2 22 _ _ (by decide +kernel) rfl ⟨rfl, rfl⟩
set_option maxHeartbeats 4000000 in
set_option maxRecDepth 100000 in
theorem T_C_keptFrom {p1 : Int} {p2 : Int} {h : MH} {r : Int} (hF : F_C_keptFrom p1 p2 h = r) : CON 1 yX0_keptFrom cX0_keptFrom 3 (Option.some Jvm.ClassFile.FieldType.int) [vR 49, vI p1, vI p2] h (some (vI r)) h := by
  refine con_of (own := RX0) (fl := flX0) (by decide +kernel) rfl flok_X0 rfl (Nat.le_of_ble_eq_true rfl) ?_
  intro K hK hR
  show K 0 [(0, vR 49), (1, vI p1), (2, vI p2)] [] h
  unfold F_C_keptFrom at hF
  refine g_seg hK [.aload_n 0, .getfield 16, .iload_n 1, .bipush 15, .imul, .iload_n 2, .iadd] 0 10 (L1 := [(0, vR 49), (1, vI p1), (2, vI p2)]) (st1 := [vI (wr ((wr (p1 * 15)) + p2)), vR 50]) (h1 := h) (P := True ∧ kd 49 = 2 ∧ True ∧ True ∧ True ∧ True ∧ True ∧ True) (by decide +kernel) rfl rfl ⟨trivial, rfl, trivial, trivial, trivial, trivial, trivial, trivial⟩ ?_
  refine g_callV1 hK 10 30 (d1 := 0) (ci := 3) (i := 50) (vs := [vI (wr ((wr (p1 * 15)) + p2))]) (rest := []) (h1 := h) (r := vI (F_Ro_at 50 (wr ((wr (p1 * 15)) + p2)) h)) my_yX3_at vw_X0_30 (by decide) (T_Ro_at (o := 50) (p1 := (wr ((wr (p1 * 15)) + p2))) (h := h) (ko := rfl) (hF := rfl)) rfl rfl rfl (Nat.le_of_ble_eq_true rfl) (by decide +kernel) ?_
  cases hF
  exact hR.1 13 _ _ _ (by decide +kernel) rfl ⟨rfl, rfl⟩
set_option maxHeartbeats 4000000 in
set_option maxRecDepth 100000 in
theorem LT_C_compare_L29 {K : KT} (hK : Rules RX0 cX0_compare 6 none flX0 2 K) {x1 : Nat} {x2 : Nat} {x3 : Int} (kx1 : kd x1 = 5) (kx2 : kd x2 = 5) : ∀ (n : Nat) (x4 : Int) (h : MH) (x4' : Int) (h' : MH), F_C_compare_L29 x1 x2 x3 n x4 h = some (x4', h') → K 109 [(0, vR 49), (1, vR x1), (2, vR x2), (3, vI x3), (4, vI x4')] [] h' → K 29 [(0, vR 49), (1, vR x1), (2, vR x2), (3, vI x3), (4, vI x4)] [] h := by
  intro n
  induction n with
  | zero =>
    intro x4 h x4' h' hF
    cases hF
  | succ n ih =>
    intro x4 h x4' h' hF hE
    unfold F_C_compare_L29 at hF
    refine g_seg hK [.iload 4] 29 31 (L1 := [(0, vR 49), (1, vR x1), (2, vR x2), (3, vI x3), (4, vI x4)]) (st1 := [vI x4]) (h1 := h) (P := True ∧ True) (by decide +kernel) rfl rfl ⟨trivial, trivial⟩ ?_
    refine g_ifz hK 31 .lt (78) 109 (t1 := 109) (t2 := 34) (by decide +kernel) (by decide) rfl rfl (fun (hc1 : x4 < 0) => ?_) (fun (hc1 : ¬ (x4 < 0)) => ?_)
    · have hF := ite_t hc1 hF
      cases hF
      exact hE
    · have hF := ite_f hc1 hF
      refine g_seg hK [.aload_n 1, .iload_n 3] 34 36 (L1 := [(0, vR 49), (1, vR x1), (2, vR x2), (3, vI x3), (4, vI x4)]) (st1 := [vI x3, vR x1]) (h1 := h) (P := True ∧ True ∧ True) (by decide +kernel) rfl rfl ⟨trivial, trivial, trivial⟩ ?_
      refine g_callV1 hK 36 30 (d1 := 0) (ci := 3) (i := x1) (vs := [vI x3]) (rest := []) (h1 := h) (r := vI (F_Ro_at x1 x3 h)) my_yX3_at vw_X0_30 (by decide) (T_Ro_at (o := x1) (p1 := x3) (h := h) (ko := kx1) (hF := rfl)) kx1 rfl rfl (Nat.le_of_ble_eq_true rfl) (by decide +kernel) ?_
      refine g_seg hK [.aload_n 2, .iload 4] 39 42 (L1 := [(0, vR 49), (1, vR x1), (2, vR x2), (3, vI x3), (4, vI x4)]) (st1 := [vI x4, vR x2, vI (F_Ro_at x1 x3 h)]) (h1 := h) (P := True ∧ True ∧ True) (by decide +kernel) rfl rfl ⟨trivial, trivial, trivial⟩ ?_
      refine g_callV1 hK 42 30 (d1 := 0) (ci := 3) (i := x2) (vs := [vI x4]) (rest := [vI (F_Ro_at x1 x3 h)]) (h1 := h) (r := vI (F_Ro_at x2 x4 h)) my_yX3_at vw_X0_30 (by decide) (T_Ro_at (o := x2) (p1 := x4) (h := h) (ko := kx2) (hF := rfl)) kx2 rfl rfl (Nat.le_of_ble_eq_true rfl) (by decide +kernel) ?_
      obtain ⟨s2, e5, hF⟩ := jn1_elim hF
      have j3 : K 85 [(0, vR 49), (1, vR x1), (2, vR x2), (3, vI x3), (4, vI x4)] [vI s2] h := by
        refine g_seg hK [.istore 5, .aload_n 0, .getfield 16, .iload_n 3, .bipush 15, .imul, .iload 4, .iadd, .iload 5] 85 100 (L1 := [(5, vI s2), (0, vR 49), (1, vR x1), (2, vR x2), (3, vI x3), (4, vI x4)]) (st1 := [vI s2, vI (wr ((wr (x3 * 15)) + x4)), vR 50]) (h1 := h) (P := True ∧ True ∧ kd 49 = 2 ∧ True ∧ True ∧ True ∧ True ∧ True ∧ True ∧ True) (by decide +kernel) rfl rfl ⟨trivial, trivial, rfl, trivial, trivial, trivial, trivial, trivial, trivial, trivial⟩ ?_
        refine g_callV0 hK 100 43 (d1 := 0) (ci := 3) (i := 50) (vs := [vI (wr ((wr (x3 * 15)) + x4)), vI s2]) (rest := []) (h1 := (F_Ro_change 50 (wr ((wr (x3 * 15)) + x4)) s2 h)) my_yX3_change vw_X0_43 (by decide) (T_Ro_change (o := 50) (p1 := (wr ((wr (x3 * 15)) + x4))) (p2 := s2) (h := h) (ko := rfl) (hF := rfl)) rfl rfl rfl (Nat.le_of_ble_eq_true rfl) (by decide +kernel) ?_
        refine g_seg hK [.iinc 4 (-1)] 103 106 (L1 := [(4, vI (wr (x4 + (-1)))), (5, vI s2), (0, vR 49), (1, vR x1), (2, vR x2), (3, vI x3)]) (st1 := []) (h1 := (F_Ro_change 50 (wr ((wr (x3 * 15)) + x4)) s2 h)) (P := True ∧ True) (by decide +kernel) rfl rfl ⟨trivial, trivial⟩ ?_
        refine g_goto hK 106 (-77) 29 (by decide +kernel) (by decide) ?_
        refine hK.2.1 _ _ ([(0, vR 49), (1, vR x1), (2, vR x2), (3, vI x3), (4, vI (wr (x4 + (-1))))]) _ _ (sub_of [2, 3, 4, 5, 0] rfl) ?_
        exact ih _ _ _ _ hF hE
      clear hF
      have hF := e5
      refine g_icmp hK 45 .ne (19) 64 (t1 := 48) (t2 := 64) (by decide +kernel) (by decide) rfl rfl (fun (hc4 : F_Ro_at x1 x3 h = F_Ro_at x2 x4 h) => ?_) (fun (hc4 : ¬ (F_Ro_at x1 x3 h = F_Ro_at x2 x4 h)) => ?_)
      · have hF := ite_t hc4 hF
        refine g_seg hK [.aload_n 0, .iload_n 3, .iconst 1, .iadd, .iload 4, .iconst 1, .iadd] 48 56 (L1 := [(0, vR 49), (1, vR x1), (2, vR x2), (3, vI x3), (4, vI x4)]) (st1 := [vI (wr (x4 + 1)), vI (wr (x3 + 1)), vR 49]) (h1 := h) (P := True ∧ True ∧ True ∧ True ∧ True ∧ True ∧ True ∧ True) (by decide +kernel) rfl rfl ⟨trivial, trivial, trivial, trivial, trivial, trivial, trivial, trivial⟩ ?_
        refine g_callV1 hK 56 34 (d1 := 1) (ci := 0) (i := 49) (vs := [vI (wr (x3 + 1)), vI (wr (x4 + 1))]) (rest := []) (h1 := h) (r := vI (F_C_keptFrom (wr (x3 + 1)) (wr (x4 + 1)) h)) my_yX0_keptFrom vw_X0_34 (by decide) (T_C_keptFrom (p1 := (wr (x3 + 1))) (p2 := (wr (x4 + 1))) (h := h) (hF := rfl)) rfl rfl rfl (Nat.le_of_ble_eq_true rfl) (by decide +kernel) ?_
        refine g_seg hK [.iconst 1, .iadd] 59 61 (L1 := [(0, vR 49), (1, vR x1), (2, vR x2), (3, vI x3), (4, vI x4)]) (st1 := [vI (wr ((F_C_keptFrom (wr (x3 + 1)) (wr (x4 + 1)) h) + 1))]) (h1 := h) (P := True ∧ True ∧ True) (by decide +kernel) rfl rfl ⟨trivial, trivial, trivial⟩ ?_
        refine g_goto hK 61 (24) 85 (by decide +kernel) (by decide) ?_
        cases hF
        exact j3
      · have hF := ite_f hc4 hF
        refine g_seg hK [.aload_n 0, .iload_n 3, .iconst 1, .iadd, .iload 4] 64 70 (L1 := [(0, vR 49), (1, vR x1), (2, vR x2), (3, vI x3), (4, vI x4)]) (st1 := [vI x4, vI (wr (x3 + 1)), vR 49]) (h1 := h) (P := True ∧ True ∧ True ∧ True ∧ True ∧ True) (by decide +kernel) rfl rfl ⟨trivial, trivial, trivial, trivial, trivial, trivial⟩ ?_
        refine g_callV1 hK 70 34 (d1 := 1) (ci := 0) (i := 49) (vs := [vI (wr (x3 + 1)), vI x4]) (rest := []) (h1 := h) (r := vI (F_C_keptFrom (wr (x3 + 1)) x4 h)) my_yX0_keptFrom vw_X0_34 (by decide) (T_C_keptFrom (p1 := (wr (x3 + 1))) (p2 := x4) (h := h) (hF := rfl)) rfl rfl rfl (Nat.le_of_ble_eq_true rfl) (by decide +kernel) ?_
        refine g_seg hK [.aload_n 0, .iload_n 3, .iload 4, .iconst 1, .iadd] 73 79 (L1 := [(0, vR 49), (1, vR x1), (2, vR x2), (3, vI x3), (4, vI x4)]) (st1 := [vI (wr (x4 + 1)), vI x3, vR 49, vI (F_C_keptFrom (wr (x3 + 1)) x4 h)]) (h1 := h) (P := True ∧ True ∧ True ∧ True ∧ True ∧ True) (by decide +kernel) rfl rfl ⟨trivial, trivial, trivial, trivial, trivial, trivial⟩ ?_
        refine g_callV1 hK 79 34 (d1 := 1) (ci := 0) (i := 49) (vs := [vI x3, vI (wr (x4 + 1))]) (rest := [vI (F_C_keptFrom (wr (x3 + 1)) x4 h)]) (h1 := h) (r := vI (F_C_keptFrom x3 (wr (x4 + 1)) h)) my_yX0_keptFrom vw_X0_34 (by decide) (T_C_keptFrom (p1 := x3) (p2 := (wr (x4 + 1))) (h := h) (hF := rfl)) rfl rfl rfl (Nat.le_of_ble_eq_true rfl) (by decide +kernel) ?_
        refine g_mmax hK 82 38 (by decide) mw_X0_38 (Nat.le_of_ble_eq_true rfl) (by decide +kernel) ?_
        cases hF
        exact j3
set_option maxHeartbeats 4000000 in
set_option maxRecDepth 100000 in
theorem LT_C_compare_L17 {K : KT} (hK : Rules RX0 cX0_compare 6 none flX0 2 K) {x1 : Nat} {x2 : Nat} (kx1 : kd x1 = 5) (kx2 : kd x2 = 5) : ∀ (n : Nat) (x3 : Int) (h : MH) (x3' : Int) (h' : MH), F_C_compare_L17 x1 x2 n x3 h = some (x3', h') → K 115 [(0, vR 49), (1, vR x1), (2, vR x2), (3, vI x3')] [] h' → K 17 [(0, vR 49), (1, vR x1), (2, vR x2), (3, vI x3)] [] h := by
  intro n
  induction n with
  | zero =>
    intro x3 h x3' h' hF
    cases hF
  | succ n ih =>
    intro x3 h x3' h' hF hE
    unfold F_C_compare_L17 at hF
    refine g_seg hK [.iload_n 3] 17 18 (L1 := [(0, vR 49), (1, vR x1), (2, vR x2), (3, vI x3)]) (st1 := [vI x3]) (h1 := h) (P := True ∧ True) (by decide +kernel) rfl rfl ⟨trivial, trivial⟩ ?_
    refine g_ifz hK 18 .lt (97) 115 (t1 := 115) (t2 := 21) (by decide +kernel) (by decide) rfl rfl (fun (hc1 : x3 < 0) => ?_) (fun (hc1 : ¬ (x3 < 0)) => ?_)
    · have hF := ite_t hc1 hF
      cases hF
      exact hE
    · have hF := ite_f hc1 hF
      refine g_seg hK [.aload_n 2] 21 22 (L1 := [(0, vR 49), (1, vR x1), (2, vR x2), (3, vI x3)]) (st1 := [vR x2]) (h1 := h) (P := True ∧ True) (by decide +kernel) rfl rfl ⟨trivial, trivial⟩ ?_
      refine g_callV1 hK 22 26 (d1 := 0) (ci := 3) (i := x2) (vs := []) (rest := []) (h1 := h) (r := vI (F_Ro_size x2 h)) my_yX3_size vw_X0_26 (by decide) (T_Ro_size (o := x2) (h := h) (ko := kx2) (hF := rfl)) kx2 rfl rfl (Nat.le_of_ble_eq_true rfl) (by decide +kernel) ?_
      refine g_seg hK [.iconst 1, .isub, .istore 4] 25 29 (L1 := [(4, vI (wr ((F_Ro_size x2 h) - 1))), (0, vR 49), (1, vR x1), (2, vR x2), (3, vI x3)]) (st1 := []) (h1 := h) (P := True ∧ True ∧ True ∧ True) (by decide +kernel) rfl rfl ⟨trivial, trivial, trivial, trivial⟩ ?_
      refine hK.2.1 _ _ ([(0, vR 49), (1, vR x1), (2, vR x2), (3, vI x3), (4, vI (wr ((F_Ro_size x2 h) - 1)))]) _ _ (sub_of [1, 2, 3, 4, 0] rfl) ?_
      obtain ⟨x4_2, h3, e4, hF⟩ := ob2_elim hF
      refine LT_C_compare_L29 hK (kx1 := kx1) (kx2 := kx2) _ _ _ _ _ e4 ?_
      refine g_seg hK [.iinc 3 (-1)] 109 112 (L1 := [(3, vI (wr (x3 + (-1)))), (0, vR 49), (1, vR x1), (2, vR x2), (4, vI x4_2)]) (st1 := []) (h1 := h3) (P := True ∧ True) (by decide +kernel) rfl rfl ⟨trivial, trivial⟩ ?_
      refine g_goto hK 112 (-95) 17 (by decide +kernel) (by decide) ?_
      refine hK.2.1 _ _ ([(0, vR 49), (1, vR x1), (2, vR x2), (3, vI (wr (x3 + (-1))))]) _ _ (sub_of [1, 2, 3, 0] rfl) ?_
      exact ih _ _ _ _ hF hE
set_option maxHeartbeats 4000000 in
set_option maxRecDepth 100000 in
theorem T_C_compare {p1 : Nat} {p2 : Nat} {h : MH} {h' : MH} (kp1 : kd p1 = 5) (kp2 : kd p2 = 5) (hF : F_C_compare p1 p2 h = some h') : CON 2 yX0_compare cX0_compare 6 none [vR 49, vR p1, vR p2] h none h' := by
  refine con_of (own := RX0) (fl := flX0) (by decide +kernel) rfl flok_X0 rfl (Nat.le_of_ble_eq_true rfl) ?_
  intro K hK hR
  show K 0 [(0, vR 49), (1, vR p1), (2, vR p2)] [] h
  unfold F_C_compare at hF
  refine g_seg hK [.aload_n 0, .getfield 16, .sipush 225] 0 7 (L1 := [(0, vR 49), (1, vR p1), (2, vR p2)]) (st1 := [vI 225, vR 50]) (h1 := h) (P := True ∧ kd 49 = 2 ∧ True ∧ True) (by decide +kernel) rfl rfl ⟨trivial, rfl, trivial, trivial⟩ ?_
  obtain ⟨h1, e2, hF⟩ := ob1_elim hF
  refine g_callV0 hK 7 23 (d1 := 1) (ci := 3) (i := 50) (vs := [vI 225]) (rest := []) (h1 := h1) my_yX3_becomeZeros vw_X0_23 (by decide) (T_Ro_becomeZeros (o := 50) (p1 := 225) (h := h) (ko := rfl) (hF := e2)) rfl rfl rfl (Nat.le_of_ble_eq_true rfl) (by decide +kernel) ?_
  refine g_seg hK [.aload_n 1] 10 11 (L1 := [(0, vR 49), (1, vR p1), (2, vR p2)]) (st1 := [vR p1]) (h1 := h1) (P := True ∧ True) (by decide +kernel) rfl rfl ⟨trivial, trivial⟩ ?_
  refine g_callV1 hK 11 26 (d1 := 0) (ci := 3) (i := p1) (vs := []) (rest := []) (h1 := h1) (r := vI (F_Ro_size p1 h1)) my_yX3_size vw_X0_26 (by decide) (T_Ro_size (o := p1) (h := h1) (ko := kp1) (hF := rfl)) kp1 rfl rfl (Nat.le_of_ble_eq_true rfl) (by decide +kernel) ?_
  refine g_seg hK [.iconst 1, .isub, .istore_n 3] 14 17 (L1 := [(3, vI (wr ((F_Ro_size p1 h1) - 1))), (0, vR 49), (1, vR p1), (2, vR p2)]) (st1 := []) (h1 := h1) (P := True ∧ True ∧ True ∧ True) (by decide +kernel) rfl rfl ⟨trivial, trivial, trivial, trivial⟩ ?_
  refine hK.2.1 _ _ ([(0, vR 49), (1, vR p1), (2, vR p2), (3, vI (wr ((F_Ro_size p1 h1) - 1)))]) _ _ (sub_of [1, 2, 3, 0] rfl) ?_
  obtain ⟨x3_3, h4, e5, hF⟩ := ob2_elim hF
  refine LT_C_compare_L17 hK (kx1 := kp1) (kx2 := kp2) _ _ _ _ _ e5 ?_
  cases hF
  exact hR.2.2.2.2 115 _ _ (by decide +kernel) rfl ⟨rfl, rfl⟩
set_option maxHeartbeats 4000000 in
set_option maxRecDepth 100000 in
theorem T_C_keptOf {p1 : Nat} {p2 : Nat} {h : MH} {r : Int} {h' : MH} (kp1 : kd p1 = 5) (kp2 : kd p2 = 5) (hF : F_C_keptOf p1 p2 h = some (r, h')) : CON 3 yX0_keptOf cX0_keptOf 3 (Option.some Jvm.ClassFile.FieldType.int) [vR 49, vR p1, vR p2] h (some (vI r)) h' := by
  refine con_of (own := RX0) (fl := flX0) (by decide +kernel) rfl flok_X0 rfl (Nat.le_of_ble_eq_true rfl) ?_
  intro K hK hR
  show K 0 [(0, vR 49), (1, vR p1), (2, vR p2)] [] h
  unfold F_C_keptOf at hF
  refine g_seg hK [.aload_n 0, .aload_n 1, .aload_n 2] 0 3 (L1 := [(0, vR 49), (1, vR p1), (2, vR p2)]) (st1 := [vR p2, vR p1, vR 49]) (h1 := h) (P := True ∧ True ∧ True ∧ True) (by decide +kernel) rfl rfl ⟨trivial, trivial, trivial, trivial⟩ ?_
  obtain ⟨h1, e2, hF⟩ := ob1_elim hF
  refine g_callV0 hK 3 49 (d1 := 2) (ci := 0) (i := 49) (vs := [vR p1, vR p2]) (rest := []) (h1 := h1) my_yX0_compare vw_X0_49 (by decide) (T_C_compare (p1 := p1) (p2 := p2) (h := h) (kp1 := kp1) (kp2 := kp2) (hF := e2)) rfl rfl rfl (Nat.le_of_ble_eq_true rfl) (by decide +kernel) ?_
  refine g_seg hK [.aload_n 0, .iconst 0, .iconst 0] 6 9 (L1 := [(0, vR 49), (1, vR p1), (2, vR p2)]) (st1 := [vI 0, vI 0, vR 49]) (h1 := h1) (P := True ∧ True ∧ True ∧ True) (by decide +kernel) rfl rfl ⟨trivial, trivial, trivial, trivial⟩ ?_
  refine g_callV1 hK 9 34 (d1 := 1) (ci := 0) (i := 49) (vs := [vI 0, vI 0]) (rest := []) (h1 := h1) (r := vI (F_C_keptFrom 0 0 h1)) my_yX0_keptFrom vw_X0_34 (by decide) (T_C_keptFrom (p1 := 0) (p2 := 0) (h := h1) (hF := rfl)) rfl rfl rfl (Nat.le_of_ble_eq_true rfl) (by decide +kernel) ?_
  cases hF
  exact hR.1 12 _ _ _ (by decide +kernel) rfl ⟨rfl, rfl⟩
set_option maxHeartbeats 4000000 in
set_option maxRecDepth 100000 in
theorem T_C_apart {p1 : Nat} {p2 : Nat} {h : MH} {r : Int} {h' : MH} (kp1 : kd p1 = 5) (kp2 : kd p2 = 5) (hF : F_C_apart p1 p2 h = some (r, h')) : CON 4 yX0_apart cX0_apart 3 (Option.some Jvm.ClassFile.FieldType.int) [vR 49, vR p1, vR p2] h (some (vI r)) h' := by
  refine con_of (own := RX0) (fl := flX0) (by decide +kernel) rfl flok_X0 rfl (Nat.le_of_ble_eq_true rfl) ?_
  intro K hK hR
  show K 0 [(0, vR 49), (1, vR p1), (2, vR p2)] [] h
  unfold F_C_apart at hF
  refine g_seg hK [.aload_n 1] 0 1 (L1 := [(0, vR 49), (1, vR p1), (2, vR p2)]) (st1 := [vR p1]) (h1 := h) (P := True ∧ True) (by decide +kernel) rfl rfl ⟨trivial, trivial⟩ ?_
  refine g_callV1 hK 1 26 (d1 := 0) (ci := 3) (i := p1) (vs := []) (rest := []) (h1 := h) (r := vI (F_Ro_size p1 h)) my_yX3_size vw_X0_26 (by decide) (T_Ro_size (o := p1) (h := h) (ko := kp1) (hF := rfl)) kp1 rfl rfl (Nat.le_of_ble_eq_true rfl) (by decide +kernel) ?_
  refine g_seg hK [.aload_n 2] 4 5 (L1 := [(0, vR 49), (1, vR p1), (2, vR p2)]) (st1 := [vR p2, vI (F_Ro_size p1 h)]) (h1 := h) (P := True ∧ True) (by decide +kernel) rfl rfl ⟨trivial, trivial⟩ ?_
  refine g_callV1 hK 5 26 (d1 := 0) (ci := 3) (i := p2) (vs := []) (rest := [vI (F_Ro_size p1 h)]) (h1 := h) (r := vI (F_Ro_size p2 h)) my_yX3_size vw_X0_26 (by decide) (T_Ro_size (o := p2) (h := h) (ko := kp2) (hF := rfl)) kp2 rfl rfl (Nat.le_of_ble_eq_true rfl) (by decide +kernel) ?_
  refine g_seg hK [.iadd, .iconst 2, .aload_n 0, .aload_n 1, .aload_n 2] 8 13 (L1 := [(0, vR 49), (1, vR p1), (2, vR p2)]) (st1 := [vR p2, vR p1, vR 49, vI 2, vI (wr ((F_Ro_size p1 h) + (F_Ro_size p2 h)))]) (h1 := h) (P := True ∧ True ∧ True ∧ True ∧ True ∧ True) (by decide +kernel) rfl rfl ⟨trivial, trivial, trivial, trivial, trivial, trivial⟩ ?_
  obtain ⟨r1, h2, e3, hF⟩ := ob2_elim hF
  refine g_callV1 hK 13 53 (d1 := 3) (ci := 0) (i := 49) (vs := [vR p1, vR p2]) (rest := [vI 2, vI (wr ((F_Ro_size p1 h) + (F_Ro_size p2 h)))]) (h1 := h2) (r := vI r1) my_yX0_keptOf vw_X0_53 (by decide) (T_C_keptOf (p1 := p1) (p2 := p2) (h := h) (kp1 := kp1) (kp2 := kp2) (hF := e3)) rfl rfl rfl (Nat.le_of_ble_eq_true rfl) (by decide +kernel) ?_
  refine g_seg hK [.imul, .isub] 16 18 (L1 := [(0, vR 49), (1, vR p1), (2, vR p2)]) (st1 := [vI (wr ((wr ((F_Ro_size p1 h) + (F_Ro_size p2 h))) - (wr (2 * r1))))]) (h1 := h2) (P := True ∧ True ∧ True) (by decide +kernel) rfl rfl ⟨trivial, trivial, trivial⟩ ?_
  cases hF
  exact hR.1 18 _ _ _ (by decide +kernel) rfl ⟨rfl, rfl⟩
set_option maxHeartbeats 4000000 in
set_option maxRecDepth 100000 in
theorem T_X_distanceNow {h : MH} {r : Int} {h' : MH} (hF : F_X_distanceNow h = some (r, h')) : CON 5 yX6_distanceNow cX6_distanceNow 1 (Option.some Jvm.ClassFile.FieldType.int) [vR 0] h (some (vI r)) h' := by
  refine con_of (own := RX6) (fl := flX6) (by decide +kernel) rfl flok_X6 rfl (Nat.le_of_ble_eq_true rfl) ?_
  intro K hK hR
  show K 0 [(0, vR 0)] [] h
  unfold F_X_distanceNow at hF
  refine g_seg hK [.aload_n 0, .getfield 45, .aload_n 0, .getfield 21, .iconst 0] 0 9 (L1 := [(0, vR 0)]) (st1 := [vI 0, vR 3, vR 49]) (h1 := h) (P := True ∧ kd 0 = 8 ∧ True ∧ kd 0 = 8 ∧ True ∧ True) (by decide +kernel) rfl rfl ⟨trivial, rfl, trivial, rfl, trivial, trivial⟩ ?_
  refine g_callV1 hK 9 88 (d1 := 0) (ci := 4) (i := 3) (vs := [vI 0]) (rest := [vR 49]) (h1 := h) (r := vR (F_St_text 3 0)) my_yX4_text vw_X6_88 (by decide) (T_St_text (o := 3) (p1 := 0) (h := h) (ks := rfl) (hF := rfl)) rfl rfl rfl (Nat.le_of_ble_eq_true rfl) (by decide +kernel) ?_
  refine g_seg hK [.aload_n 0, .getfield 21, .iconst 1] 12 17 (L1 := [(0, vR 0)]) (st1 := [vI 1, vR 3, vR (F_St_text 3 0), vR 49]) (h1 := h) (P := True ∧ kd 0 = 8 ∧ True ∧ True) (by decide +kernel) rfl rfl ⟨trivial, rfl, trivial, trivial⟩ ?_
  refine g_callV1 hK 17 88 (d1 := 0) (ci := 4) (i := 3) (vs := [vI 1]) (rest := [vR (F_St_text 3 0), vR 49]) (h1 := h) (r := vR (F_St_text 3 1)) my_yX4_text vw_X6_88 (by decide) (T_St_text (o := 3) (p1 := 1) (h := h) (ks := rfl) (hF := rfl)) rfl rfl rfl (Nat.le_of_ble_eq_true rfl) (by decide +kernel) ?_
  obtain ⟨r1, h2, e3, hF⟩ := ob2_elim hF
  refine g_callV1 hK 20 213 (d1 := 4) (ci := 0) (i := 49) (vs := [vR (F_St_text 3 0), vR (F_St_text 3 1)]) (rest := []) (h1 := h2) (r := vI r1) my_yX0_apart vw_X6_213 (by decide) (T_C_apart (p1 := (F_St_text 3 0)) (p2 := (F_St_text 3 1)) (h := h) (kp1 := (kd_St_text rfl)) (kp2 := (kd_St_text rfl)) (hF := e3)) rfl rfl rfl (Nat.le_of_ble_eq_true rfl) (by decide +kernel) ?_
  cases hF
  exact hR.1 23 _ _ _ (by decide +kernel) rfl ⟨rfl, rfl⟩
set_option maxHeartbeats 4000000 in
set_option maxRecDepth 100000 in
theorem T_X_swap {p1 : Int} {p2 : Int} {h : MH} {r : Int} {h' : MH} (hF : F_X_swap p1 p2 h = some (r, h')) : CON 6 yX6_swap cX6_swap 3 (Option.some Jvm.ClassFile.FieldType.int) [vR 0, vI p1, vI p2] h (some (vI r)) h' := by
  refine con_of (own := RX6) (fl := flX6) (by decide +kernel) rfl flok_X6 rfl (Nat.le_of_ble_eq_true rfl) ?_
  intro K hK hR
  show K 0 [(0, vR 0), (1, vI p1), (2, vI p2)] [] h
  unfold F_X_swap at hF
  refine g_seg hK [.iload_n 1] 0 1 (L1 := [(0, vR 0), (1, vI p1), (2, vI p2)]) (st1 := [vI p1]) (h1 := h) (P := True ∧ True) (by decide +kernel) rfl rfl ⟨trivial, trivial⟩ ?_
  refine g_callS1 hK 1 77 (d1 := 0) (vs := [vI p1]) (rest := []) (h1 := h) (r := vI (F_X_isText p1)) my_yX6_isText sw_X6_77 (by decide) (T_X_isText (p1 := p1) (h := h) (hF := rfl)) rfl (Nat.le_of_ble_eq_true rfl) (by decide +kernel) ?_
  refine g_ifz hK 4 .eq (15) 19 (t1 := 19) (t2 := 7) (by decide +kernel) (by decide) rfl rfl (fun (hc1 : F_X_isText p1 = 0) => ?_) (fun (hc1 : ¬ (F_X_isText p1 = 0)) => ?_)
  · have hF := ite_t hc1 hF
    refine g_seg hK [.iconst (-1)] 19 20 (L1 := [(0, vR 0), (1, vI p1), (2, vI p2)]) (st1 := [vI (-1)]) (h1 := h) (P := True ∧ True) (by decide +kernel) rfl rfl ⟨trivial, trivial⟩ ?_
    cases hF
    exact hR.1 20 _ _ _ (by decide +kernel) rfl ⟨rfl, rfl⟩
  · have hF := ite_f hc1 hF
    refine g_seg hK [.iload_n 2] 7 8 (L1 := [(0, vR 0), (1, vI p1), (2, vI p2)]) (st1 := [vI p2]) (h1 := h) (P := True ∧ True) (by decide +kernel) rfl rfl ⟨trivial, trivial⟩ ?_
    refine g_callS1 hK 8 77 (d1 := 0) (vs := [vI p2]) (rest := []) (h1 := h) (r := vI (F_X_isText p2)) my_yX6_isText sw_X6_77 (by decide) (T_X_isText (p1 := p2) (h := h) (hF := rfl)) rfl (Nat.le_of_ble_eq_true rfl) (by decide +kernel) ?_
    refine g_ifz hK 11 .eq (8) 19 (t1 := 19) (t2 := 14) (by decide +kernel) (by decide) rfl rfl (fun (hc2 : F_X_isText p2 = 0) => ?_) (fun (hc2 : ¬ (F_X_isText p2 = 0)) => ?_)
    · have hF := ite_t hc2 hF
      refine g_seg hK [.iconst (-1)] 19 20 (L1 := [(0, vR 0), (1, vI p1), (2, vI p2)]) (st1 := [vI (-1)]) (h1 := h) (P := True ∧ True) (by decide +kernel) rfl rfl ⟨trivial, trivial⟩ ?_
      cases hF
      exact hR.1 20 _ _ _ (by decide +kernel) rfl ⟨rfl, rfl⟩
    · have hF := ite_f hc2 hF
      refine g_seg hK [.iload_n 1, .iload_n 2] 14 16 (L1 := [(0, vR 0), (1, vI p1), (2, vI p2)]) (st1 := [vI p2, vI p1]) (h1 := h) (P := True ∧ True ∧ True) (by decide +kernel) rfl rfl ⟨trivial, trivial, trivial⟩ ?_
      refine g_icmp hK 16 .ne (5) 21 (t1 := 19) (t2 := 21) (by decide +kernel) (by decide) rfl rfl (fun (hc3 : p1 = p2) => ?_) (fun (hc3 : ¬ (p1 = p2)) => ?_)
      · have hF := ite_t hc3 hF
        refine g_seg hK [.iconst (-1)] 19 20 (L1 := [(0, vR 0), (1, vI p1), (2, vI p2)]) (st1 := [vI (-1)]) (h1 := h) (P := True ∧ True) (by decide +kernel) rfl rfl ⟨trivial, trivial⟩ ?_
        cases hF
        exact hR.1 20 _ _ _ (by decide +kernel) rfl ⟨rfl, rfl⟩
      · have hF := ite_f hc3 hF
        refine g_seg hK [.aload_n 0, .getfield 35, .aload_n 0, .getfield 21] 21 29 (L1 := [(0, vR 0), (1, vI p1), (2, vI p2)]) (st1 := [vR 3, vR 17]) (h1 := h) (P := True ∧ kd 0 = 8 ∧ True ∧ kd 0 = 8 ∧ True) (by decide +kernel) rfl rfl ⟨trivial, rfl, trivial, rfl, trivial⟩ ?_
        obtain ⟨h4, e5, hF⟩ := ob1_elim hF
        refine g_callV0 hK 29 84 (d1 := 5) (ci := 1) (i := 17) (vs := [vR 3]) (rest := []) (h1 := h4) my_yX1_record vw_X6_84 (by decide) (T_Hi_record (p1 := 3) (h := h) (kp1 := rfl) (hF := e5)) rfl rfl rfl (Nat.le_of_ble_eq_true rfl) (by decide +kernel) ?_
        refine g_seg hK [.aload_n 0, .getfield 39, .aload_n 0, .getfield 21, .iload_n 1] 32 41 (L1 := [(0, vR 0), (1, vI p1), (2, vI p2)]) (st1 := [vI p1, vR 3, vR 47]) (h1 := h4) (P := True ∧ kd 0 = 8 ∧ True ∧ kd 0 = 8 ∧ True ∧ True) (by decide +kernel) rfl rfl ⟨trivial, rfl, trivial, rfl, trivial, trivial⟩ ?_
        refine g_callV1 hK 41 88 (d1 := 0) (ci := 4) (i := 3) (vs := [vI p1]) (rest := [vR 47]) (h1 := h4) (r := vR (F_St_text 3 p1)) my_yX4_text vw_X6_88 (by decide) (T_St_text (o := 3) (p1 := p1) (h := h4) (ks := rfl) (hF := rfl)) rfl rfl rfl (Nat.le_of_ble_eq_true rfl) (by decide +kernel) ?_
        obtain ⟨h6, e7, hF⟩ := ob1_elim hF
        refine g_callV0 hK 44 105 (d1 := 1) (ci := 3) (i := 47) (vs := [vR (F_St_text 3 p1)]) (rest := []) (h1 := h6) my_yX3_become vw_X6_105 (by decide) (T_Ro_become (o := 47) (p1 := (F_St_text 3 p1)) (h := h4) (ko := rfl) (kp1 := (kd_St_text rfl)) (hF := e7)) rfl rfl rfl (Nat.le_of_ble_eq_true rfl) (by decide +kernel) ?_
        refine g_seg hK [.aload_n 0, .getfield 21, .iload_n 1] 47 52 (L1 := [(0, vR 0), (1, vI p1), (2, vI p2)]) (st1 := [vI p1, vR 3]) (h1 := h6) (P := True ∧ kd 0 = 8 ∧ True ∧ True) (by decide +kernel) rfl rfl ⟨trivial, rfl, trivial, trivial⟩ ?_
        refine g_callV1 hK 52 88 (d1 := 0) (ci := 4) (i := 3) (vs := [vI p1]) (rest := []) (h1 := h6) (r := vR (F_St_text 3 p1)) my_yX4_text vw_X6_88 (by decide) (T_St_text (o := 3) (p1 := p1) (h := h6) (ks := rfl) (hF := rfl)) rfl rfl rfl (Nat.le_of_ble_eq_true rfl) (by decide +kernel) ?_
        refine g_seg hK [.aload_n 0, .getfield 21, .iload_n 2] 55 60 (L1 := [(0, vR 0), (1, vI p1), (2, vI p2)]) (st1 := [vI p2, vR 3, vR (F_St_text 3 p1)]) (h1 := h6) (P := True ∧ kd 0 = 8 ∧ True ∧ True) (by decide +kernel) rfl rfl ⟨trivial, rfl, trivial, trivial⟩ ?_
        refine g_callV1 hK 60 88 (d1 := 0) (ci := 4) (i := 3) (vs := [vI p2]) (rest := [vR (F_St_text 3 p1)]) (h1 := h6) (r := vR (F_St_text 3 p2)) my_yX4_text vw_X6_88 (by decide) (T_St_text (o := 3) (p1 := p2) (h := h6) (ks := rfl) (hF := rfl)) rfl rfl rfl (Nat.le_of_ble_eq_true rfl) (by decide +kernel) ?_
        obtain ⟨h8, e9, hF⟩ := ob1_elim hF
        refine g_callV0 hK 63 105 (d1 := 1) (ci := 3) (i := F_St_text 3 p1) (vs := [vR (F_St_text 3 p2)]) (rest := []) (h1 := h8) my_yX3_become vw_X6_105 (by decide) (T_Ro_become (o := (F_St_text 3 p1)) (p1 := (F_St_text 3 p2)) (h := h6) (ko := (kd_St_text rfl)) (kp1 := (kd_St_text rfl)) (hF := e9)) (kd_St_text rfl) rfl rfl (Nat.le_of_ble_eq_true rfl) (by decide +kernel) ?_
        refine g_seg hK [.aload_n 0, .getfield 21, .iload_n 2] 66 71 (L1 := [(0, vR 0), (1, vI p1), (2, vI p2)]) (st1 := [vI p2, vR 3]) (h1 := h8) (P := True ∧ kd 0 = 8 ∧ True ∧ True) (by decide +kernel) rfl rfl ⟨trivial, rfl, trivial, trivial⟩ ?_
        refine g_callV1 hK 71 88 (d1 := 0) (ci := 4) (i := 3) (vs := [vI p2]) (rest := []) (h1 := h8) (r := vR (F_St_text 3 p2)) my_yX4_text vw_X6_88 (by decide) (T_St_text (o := 3) (p1 := p2) (h := h8) (ks := rfl) (hF := rfl)) rfl rfl rfl (Nat.le_of_ble_eq_true rfl) (by decide +kernel) ?_
        refine g_seg hK [.aload_n 0, .getfield 39] 74 78 (L1 := [(0, vR 0), (1, vI p1), (2, vI p2)]) (st1 := [vR 47, vR (F_St_text 3 p2)]) (h1 := h8) (P := True ∧ kd 0 = 8 ∧ True) (by decide +kernel) rfl rfl ⟨trivial, rfl, trivial⟩ ?_
        obtain ⟨h10, e11, hF⟩ := ob1_elim hF
        refine g_callV0 hK 78 105 (d1 := 1) (ci := 3) (i := F_St_text 3 p2) (vs := [vR 47]) (rest := []) (h1 := h10) my_yX3_become vw_X6_105 (by decide) (T_Ro_become (o := (F_St_text 3 p2)) (p1 := 47) (h := h8) (ko := (kd_St_text rfl)) (kp1 := rfl) (hF := e11)) (kd_St_text rfl) rfl rfl (Nat.le_of_ble_eq_true rfl) (by decide +kernel) ?_
        refine g_seg hK [.aload_n 0] 81 82 (L1 := [(0, vR 0), (1, vI p1), (2, vI p2)]) (st1 := [vR 0]) (h1 := h10) (P := True ∧ True) (by decide +kernel) rfl rfl ⟨trivial, trivial⟩ ?_
        obtain ⟨r12, h13, e14, hF⟩ := ob2_elim hF
        refine g_callV1 hK 82 109 (d1 := 5) (ci := 6) (i := 0) (vs := []) (rest := []) (h1 := h13) (r := vI r12) my_yX6_distanceNow vw_X6_109 (by decide) (T_X_distanceNow (h := h10) (hF := e14)) rfl rfl rfl (Nat.le_of_ble_eq_true rfl) (by decide +kernel) ?_
        cases hF
        exact hR.1 85 _ _ _ (by decide +kernel) rfl ⟨rfl, rfl⟩
set_option maxHeartbeats 4000000 in
set_option maxRecDepth 100000 in
theorem T_St_setting {o : Nat} {p1 : Int} {h : MH} {r : Int} (ks : kd o = 6) (hF : F_St_setting o p1 h = r) : CON 0 yX4_setting cX4_setting 2 (Option.some Jvm.ClassFile.FieldType.int) [vR o, vI p1] h (some (vI r)) h := by
  refine con_of (own := RX4) (fl := flX4) (by decide +kernel) rfl flok_X4 rfl (Nat.le_of_ble_eq_true rfl) ?_
  intro K hK hR
  show K 0 [(0, vR o), (1, vI p1)] [] h
  unfold F_St_setting at hF
  refine g_seg hK [.iload_n 1] 0 1 (L1 := [(0, vR o), (1, vI p1)]) (st1 := [vI p1]) (h1 := h) (P := True ∧ True) (by decide +kernel) rfl rfl ⟨trivial, trivial⟩ ?_
  refine g_ifz hK 1 .ne (10) 11 (t1 := 4) (t2 := 11) (by decide +kernel) (by decide) rfl rfl (fun (hc1 : p1 = 0) => ?_) (fun (hc1 : ¬ (p1 = 0)) => ?_)
  · have hF := ite_t hc1 hF
    refine g_seg hK [.aload_n 0, .getfield 26] 4 8 (L1 := [(0, vR o), (1, vI p1)]) (st1 := [vI (h o 3)]) (h1 := h) (P := True ∧ kd o = 6 ∧ True) (by decide +kernel) rfl rfl ⟨trivial, ks, trivial⟩ ?_
    refine g_goto hK 8 (7) 15 (by decide +kernel) (by decide) ?_
    cases hF
    exact hR.1 15 _ _ _ (by decide +kernel) rfl ⟨rfl, rfl⟩
  · have hF := ite_f hc1 hF
    refine g_seg hK [.aload_n 0, .getfield 30] 11 15 (L1 := [(0, vR o), (1, vI p1)]) (st1 := [vI (h o 4)]) (h1 := h) (P := True ∧ kd o = 6 ∧ True) (by decide +kernel) rfl rfl ⟨trivial, ks, trivial⟩ ?_
    cases hF
    exact hR.1 15 _ _ _ (by decide +kernel) rfl ⟨rfl, rfl⟩
set_option maxHeartbeats 4000000 in
set_option maxRecDepth 100000 in
theorem T_St_changeSetting {o : Nat} {p1 : Int} {p2 : Int} {h : MH} {h' : MH} (ks : kd o = 6) (hF : F_St_changeSetting o p1 p2 h = h') : CON 0 yX4_changeSetting cX4_changeSetting 3 none [vR o, vI p1, vI p2] h none h' := by
  refine con_of (own := RX4) (fl := flX4) (by decide +kernel) rfl flok_X4 rfl (Nat.le_of_ble_eq_true rfl) ?_
  intro K hK hR
  show K 0 [(0, vR o), (1, vI p1), (2, vI p2)] [] h
  unfold F_St_changeSetting at hF
  refine g_seg hK [.iload_n 1] 0 1 (L1 := [(0, vR o), (1, vI p1), (2, vI p2)]) (st1 := [vI p1]) (h1 := h) (P := True ∧ True) (by decide +kernel) rfl rfl ⟨trivial, trivial⟩ ?_
  refine g_ifz hK 1 .ne (11) 12 (t1 := 4) (t2 := 12) (by decide +kernel) (by decide) rfl rfl (fun (hc1 : p1 = 0) => ?_) (fun (hc1 : ¬ (p1 = 0)) => ?_)
  · have hF := ite_t hc1 hF
    refine g_seg hK [.aload_n 0, .iload_n 2, .putfield 26] 4 9 (L1 := [(0, vR o), (1, vI p1), (2, vI p2)]) (st1 := []) (h1 := (up h o 3 p2)) (P := True ∧ True ∧ kd o = 6 ∧ True) (by decide +kernel) rfl rfl ⟨trivial, trivial, ks, trivial⟩ ?_
    refine g_goto hK 9 (8) 17 (by decide +kernel) (by decide) ?_
    cases hF
    exact hR.2.2.2.2 17 _ _ (by decide +kernel) rfl ⟨rfl, rfl⟩
  · have hF := ite_f hc1 hF
    refine g_seg hK [.aload_n 0, .iload_n 2, .putfield 30] 12 17 (L1 := [(0, vR o), (1, vI p1), (2, vI p2)]) (st1 := []) (h1 := (up h o 4 p2)) (P := True ∧ True ∧ kd o = 6 ∧ True) (by decide +kernel) rfl rfl ⟨trivial, trivial, ks, trivial⟩ ?_
    cases hF
    exact hR.2.2.2.2 17 _ _ (by decide +kernel) rfl ⟨rfl, rfl⟩
set_option maxHeartbeats 4000000 in
set_option maxRecDepth 100000 in
theorem T_X_set {p1 : Int} {p2 : Int} {h : MH} {r : Int} {h' : MH} (hF : F_X_set p1 p2 h = some (r, h')) : CON 6 yX6_set cX6_set 4 (Option.some Jvm.ClassFile.FieldType.int) [vR 0, vI p1, vI p2] h (some (vI r)) h' := by
  refine con_of (own := RX6) (fl := flX6) (by decide +kernel) rfl flok_X6 rfl (Nat.le_of_ble_eq_true rfl) ?_
  intro K hK hR
  show K 0 [(0, vR 0), (1, vI p1), (2, vI p2)] [] h
  unfold F_X_set at hF
  refine g_seg hK [.iload_n 1] 0 1 (L1 := [(0, vR 0), (1, vI p1), (2, vI p2)]) (st1 := [vI p1]) (h1 := h) (P := True ∧ True) (by decide +kernel) rfl rfl ⟨trivial, trivial⟩ ?_
  obtain ⟨kj2, e11, hF⟩ := jk1_elim hF
  have j2 : ∀ (u1 : Unit), kj2 u1 = some (r, h') → K 11 [(0, vR 0), (1, vI p1), (2, vI p2)] [] h := by
    intro u1 hF
    have hF := (e11 u1).symm.trans hF
    refine g_seg hK [.iload_n 2] 11 12 (L1 := [(0, vR 0), (1, vI p1), (2, vI p2)]) (st1 := [vI p2]) (h1 := h) (P := True ∧ True) (by decide +kernel) rfl rfl ⟨trivial, trivial⟩ ?_
    refine g_ifz hK 12 .lt (16) 28 (t1 := 28) (t2 := 15) (by decide +kernel) (by decide) rfl rfl (fun (hc3 : p2 < 0) => ?_) (fun (hc3 : ¬ (p2 < 0)) => ?_)
    · have hF := ite_t hc3 hF
      refine g_seg hK [.iconst (-1)] 28 29 (L1 := [(0, vR 0), (1, vI p1), (2, vI p2)]) (st1 := [vI (-1)]) (h1 := h) (P := True ∧ True) (by decide +kernel) rfl rfl ⟨trivial, trivial⟩ ?_
      cases hF
      exact hR.1 29 _ _ _ (by decide +kernel) rfl ⟨rfl, rfl⟩
    · have hF := ite_f hc3 hF
      refine g_seg hK [.iload_n 2, .iload_n 1] 15 17 (L1 := [(0, vR 0), (1, vI p1), (2, vI p2)]) (st1 := [vI p1, vI p2]) (h1 := h) (P := True ∧ True ∧ True) (by decide +kernel) rfl rfl ⟨trivial, trivial, trivial⟩ ?_
      obtain ⟨s4, e10, hF⟩ := jn1_elim hF
      have j5 : K 25 [(0, vR 0), (1, vI p1), (2, vI p2)] [vI s4, vI p2] h := by
        refine g_icmp hK 25 .le (5) 30 (t1 := 30) (t2 := 28) (by decide +kernel) (by decide) rfl rfl (fun (hc7 : p2 ≤ s4) => ?_) (fun (hc7 : ¬ (p2 ≤ s4)) => ?_)
        · have hF := ite_t hc7 hF
          refine g_seg hK [.aload_n 0, .getfield 35, .aload_n 0, .getfield 21] 30 38 (L1 := [(0, vR 0), (1, vI p1), (2, vI p2)]) (st1 := [vR 3, vR 17]) (h1 := h) (P := True ∧ kd 0 = 8 ∧ True ∧ kd 0 = 8 ∧ True) (by decide +kernel) rfl rfl ⟨trivial, rfl, trivial, rfl, trivial⟩ ?_
          obtain ⟨h8, e9, hF⟩ := ob1_elim hF
          refine g_callV0 hK 38 84 (d1 := 5) (ci := 1) (i := 17) (vs := [vR 3]) (rest := []) (h1 := h8) my_yX1_record vw_X6_84 (by decide) (T_Hi_record (p1 := 3) (h := h) (kp1 := rfl) (hF := e9)) rfl rfl rfl (Nat.le_of_ble_eq_true rfl) (by decide +kernel) ?_
          refine g_seg hK [.aload_n 0, .getfield 21, .iload_n 1] 41 46 (L1 := [(0, vR 0), (1, vI p1), (2, vI p2)]) (st1 := [vI p1, vR 3]) (h1 := h8) (P := True ∧ kd 0 = 8 ∧ True ∧ True) (by decide +kernel) rfl rfl ⟨trivial, rfl, trivial, trivial⟩ ?_
          refine g_callV1 hK 46 112 (d1 := 0) (ci := 4) (i := 3) (vs := [vI p1]) (rest := []) (h1 := h8) (r := vI (F_St_setting 3 p1 h8)) my_yX4_setting vw_X6_112 (by decide) (T_St_setting (o := 3) (p1 := p1) (h := h8) (ks := rfl) (hF := rfl)) rfl rfl rfl (Nat.le_of_ble_eq_true rfl) (by decide +kernel) ?_
          refine g_seg hK [.istore_n 3, .aload_n 0, .getfield 21, .iload_n 1, .iload_n 2] 49 56 (L1 := [(3, vI (F_St_setting 3 p1 h8)), (0, vR 0), (1, vI p1), (2, vI p2)]) (st1 := [vI p2, vI p1, vR 3]) (h1 := h8) (P := True ∧ True ∧ kd 0 = 8 ∧ True ∧ True ∧ True) (by decide +kernel) rfl rfl ⟨trivial, trivial, rfl, trivial, trivial, trivial⟩ ?_
          refine g_callV0 hK 56 115 (d1 := 0) (ci := 4) (i := 3) (vs := [vI p1, vI p2]) (rest := []) (h1 := (F_St_changeSetting 3 p1 p2 h8)) my_yX4_changeSetting vw_X6_115 (by decide) (T_St_changeSetting (o := 3) (p1 := p1) (p2 := p2) (h := h8) (ks := rfl) (hF := rfl)) rfl rfl rfl (Nat.le_of_ble_eq_true rfl) (by decide +kernel) ?_
          refine g_seg hK [.iload_n 3] 59 60 (L1 := [(3, vI (F_St_setting 3 p1 h8)), (0, vR 0), (1, vI p1), (2, vI p2)]) (st1 := [vI (F_St_setting 3 p1 h8)]) (h1 := (F_St_changeSetting 3 p1 p2 h8)) (P := True ∧ True) (by decide +kernel) rfl rfl ⟨trivial, trivial⟩ ?_
          cases hF
          exact hR.1 60 _ _ _ (by decide +kernel) rfl ⟨rfl, rfl⟩
        · have hF := ite_f hc7 hF
          refine g_seg hK [.iconst (-1)] 28 29 (L1 := [(0, vR 0), (1, vI p1), (2, vI p2)]) (st1 := [vI (-1)]) (h1 := h) (P := True ∧ True) (by decide +kernel) rfl rfl ⟨trivial, trivial⟩ ?_
          cases hF
          exact hR.1 29 _ _ _ (by decide +kernel) rfl ⟨rfl, rfl⟩
      clear hF
      have hF := e10
      refine g_ifz hK 17 .ne (7) 24 (t1 := 20) (t2 := 24) (by decide +kernel) (by decide) rfl rfl (fun (hc6 : p1 = 0) => ?_) (fun (hc6 : ¬ (p1 = 0)) => ?_)
      · have hF := ite_t hc6 hF
        refine g_seg hK [.iconst 3] 20 21 (L1 := [(0, vR 0), (1, vI p1), (2, vI p2)]) (st1 := [vI 3, vI p2]) (h1 := h) (P := True ∧ True) (by decide +kernel) rfl rfl ⟨trivial, trivial⟩ ?_
        refine g_goto hK 21 (4) 25 (by decide +kernel) (by decide) ?_
        cases hF
        exact j5
      · have hF := ite_f hc6 hF
        refine g_seg hK [.iconst 1] 24 25 (L1 := [(0, vR 0), (1, vI p1), (2, vI p2)]) (st1 := [vI 1, vI p2]) (h1 := h) (P := True ∧ True) (by decide +kernel) rfl rfl ⟨trivial, trivial⟩ ?_
        cases hF
        exact j5
  refine g_ifz hK 1 .eq (10) 11 (t1 := 11) (t2 := 4) (by decide +kernel) (by decide) rfl rfl (fun (hc12 : p1 = 0) => ?_) (fun (hc12 : ¬ (p1 = 0)) => ?_)
  · have hF := ite_t hc12 hF
    exact j2 _ hF
  · have hF := ite_f hc12 hF
    refine g_seg hK [.iload_n 1, .iconst 1] 4 6 (L1 := [(0, vR 0), (1, vI p1), (2, vI p2)]) (st1 := [vI 1, vI p1]) (h1 := h) (P := True ∧ True ∧ True) (by decide +kernel) rfl rfl ⟨trivial, trivial, trivial⟩ ?_
    refine g_icmp hK 6 .eq (5) 11 (t1 := 11) (t2 := 9) (by decide +kernel) (by decide) rfl rfl (fun (hc13 : p1 = 1) => ?_) (fun (hc13 : ¬ (p1 = 1)) => ?_)
    · have hF := ite_t hc13 hF
      exact j2 _ hF
    · have hF := ite_f hc13 hF
      refine g_seg hK [.iconst (-1)] 9 10 (L1 := [(0, vR 0), (1, vI p1), (2, vI p2)]) (st1 := [vI (-1)]) (h1 := h) (P := True ∧ True) (by decide +kernel) rfl rfl ⟨trivial, trivial⟩ ?_
      cases hF
      exact hR.1 10 _ _ _ (by decide +kernel) rfl ⟨rfl, rfl⟩
set_option maxHeartbeats 4000000 in
set_option maxRecDepth 100000 in
theorem T_C_step {p1 : Nat} {p2 : Nat} {p3 : Int} {p4 : Int} {h : MH} {r : Int} (kp1 : kd p1 = 5) (kp2 : kd p2 = 5) (hF : F_C_step p1 p2 p3 p4 h = r) : CON 2 yX0_step cX0_step 7 (Option.some Jvm.ClassFile.FieldType.int) [vR 49, vR p1, vR p2, vI p3, vI p4] h (some (vI r)) h := by
  refine con_of (own := RX0) (fl := flX0) (by decide +kernel) rfl flok_X0 rfl (Nat.le_of_ble_eq_true rfl) ?_
  intro K hK hR
  show K 0 [(0, vR 49), (1, vR p1), (2, vR p2), (3, vI p3), (4, vI p4)] [] h
  unfold F_C_step at hF
  refine g_seg hK [.iload_n 3, .aload_n 1] 0 2 (L1 := [(0, vR 49), (1, vR p1), (2, vR p2), (3, vI p3), (4, vI p4)]) (st1 := [vR p1, vI p3]) (h1 := h) (P := True ∧ True ∧ True) (by decide +kernel) rfl rfl ⟨trivial, trivial, trivial⟩ ?_
  refine g_callV1 hK 2 26 (d1 := 0) (ci := 3) (i := p1) (vs := []) (rest := [vI p3]) (h1 := h) (r := vI (F_Ro_size p1 h)) my_yX3_size vw_X0_26 (by decide) (T_Ro_size (o := p1) (h := h) (ko := kp1) (hF := rfl)) kp1 rfl rfl (Nat.le_of_ble_eq_true rfl) (by decide +kernel) ?_
  obtain ⟨s1, e17, hF⟩ := jn1_elim hF
  have j2 : K 13 [(0, vR 49), (1, vR p1), (2, vR p2), (3, vI p3), (4, vI p4)] [vI s1] h := by
    refine g_seg hK [.istore 5, .iload 4, .aload_n 2] 13 18 (L1 := [(5, vI s1), (0, vR 49), (1, vR p1), (2, vR p2), (3, vI p3), (4, vI p4)]) (st1 := [vR p2, vI p4]) (h1 := h) (P := True ∧ True ∧ True ∧ True) (by decide +kernel) rfl rfl ⟨trivial, trivial, trivial, trivial⟩ ?_
    refine g_callV1 hK 18 26 (d1 := 0) (ci := 3) (i := p2) (vs := []) (rest := [vI p4]) (h1 := h) (r := vI (F_Ro_size p2 h)) my_yX3_size vw_X0_26 (by decide) (T_Ro_size (o := p2) (h := h) (ko := kp2) (hF := rfl)) kp2 rfl rfl (Nat.le_of_ble_eq_true rfl) (by decide +kernel) ?_
    obtain ⟨s4, e16, hF⟩ := jn1_elim hF
    have j5 : K 29 [(0, vR 49), (1, vR p1), (2, vR p2), (3, vI p3), (4, vI p4), (5, vI s1)] [vI s4] h := by
      refine g_seg hK [.istore 6, .iload 5] 29 33 (L1 := [(6, vI s4), (0, vR 49), (1, vR p1), (2, vR p2), (3, vI p3), (4, vI p4), (5, vI s1)]) (st1 := [vI s1]) (h1 := h) (P := True ∧ True ∧ True) (by decide +kernel) rfl rfl ⟨trivial, trivial, trivial⟩ ?_
      obtain ⟨kj8, e12, hF⟩ := jk1_elim hF
      have j8 : ∀ (u7 : Unit), kj8 u7 = r → K 57 [(0, vR 49), (3, vI p3), (4, vI p4), (5, vI s1), (6, vI s4)] [] h := by
        intro u7 hF
        have hF := (e12 u7).symm.trans hF
        refine g_seg hK [.iload 5] 57 59 (L1 := [(0, vR 49), (3, vI p3), (4, vI p4), (5, vI s1), (6, vI s4)]) (st1 := [vI s1]) (h1 := h) (P := True ∧ True) (by decide +kernel) rfl rfl ⟨trivial, trivial⟩ ?_
        refine g_ifz hK 59 .eq (31) 90 (t1 := 90) (t2 := 62) (by decide +kernel) (by decide) rfl rfl (fun (hc9 : s1 = 0) => ?_) (fun (hc9 : ¬ (s1 = 0)) => ?_)
        · have hF := ite_t hc9 hF
          refine g_seg hK [.iconst 2] 90 91 (L1 := [(0, vR 49), (3, vI p3), (4, vI p4), (5, vI s1), (6, vI s4)]) (st1 := [vI 2]) (h1 := h) (P := True ∧ True) (by decide +kernel) rfl rfl ⟨trivial, trivial⟩ ?_
          cases hF
          exact hR.1 91 _ _ _ (by decide +kernel) rfl ⟨rfl, rfl⟩
        · have hF := ite_f hc9 hF
          refine g_seg hK [.iload 6] 62 64 (L1 := [(0, vR 49), (3, vI p3), (4, vI p4), (5, vI s1), (6, vI s4)]) (st1 := [vI s4]) (h1 := h) (P := True ∧ True) (by decide +kernel) rfl rfl ⟨trivial, trivial⟩ ?_
          refine g_ifz hK 64 .eq (24) 88 (t1 := 88) (t2 := 67) (by decide +kernel) (by decide) rfl rfl (fun (hc10 : s4 = 0) => ?_) (fun (hc10 : ¬ (s4 = 0)) => ?_)
          · have hF := ite_t hc10 hF
            refine g_seg hK [.iconst 1] 88 89 (L1 := [(0, vR 49), (3, vI p3), (4, vI p4), (5, vI s1), (6, vI s4)]) (st1 := [vI 1]) (h1 := h) (P := True ∧ True) (by decide +kernel) rfl rfl ⟨trivial, trivial⟩ ?_
            cases hF
            exact hR.1 89 _ _ _ (by decide +kernel) rfl ⟨rfl, rfl⟩
          · have hF := ite_f hc10 hF
            refine g_seg hK [.aload_n 0, .iload_n 3, .iconst 1, .iadd, .iload 4] 67 73 (L1 := [(0, vR 49), (3, vI p3), (4, vI p4), (5, vI s1), (6, vI s4)]) (st1 := [vI p4, vI (wr (p3 + 1)), vR 49]) (h1 := h) (P := True ∧ True ∧ True ∧ True ∧ True ∧ True) (by decide +kernel) rfl rfl ⟨trivial, trivial, trivial, trivial, trivial, trivial⟩ ?_
            refine g_callV1 hK 73 34 (d1 := 1) (ci := 0) (i := 49) (vs := [vI (wr (p3 + 1)), vI p4]) (rest := []) (h1 := h) (r := vI (F_C_keptFrom (wr (p3 + 1)) p4 h)) my_yX0_keptFrom vw_X0_34 (by decide) (T_C_keptFrom (p1 := (wr (p3 + 1))) (p2 := p4) (h := h) (hF := rfl)) rfl rfl rfl (Nat.le_of_ble_eq_true rfl) (by decide +kernel) ?_
            refine g_seg hK [.aload_n 0, .iload_n 3, .iload 4, .iconst 1, .iadd] 76 82 (L1 := [(0, vR 49), (3, vI p3), (4, vI p4), (5, vI s1), (6, vI s4)]) (st1 := [vI (wr (p4 + 1)), vI p3, vR 49, vI (F_C_keptFrom (wr (p3 + 1)) p4 h)]) (h1 := h) (P := True ∧ True ∧ True ∧ True ∧ True ∧ True) (by decide +kernel) rfl rfl ⟨trivial, trivial, trivial, trivial, trivial, trivial⟩ ?_
            refine g_callV1 hK 82 34 (d1 := 1) (ci := 0) (i := 49) (vs := [vI p3, vI (wr (p4 + 1))]) (rest := [vI (F_C_keptFrom (wr (p3 + 1)) p4 h)]) (h1 := h) (r := vI (F_C_keptFrom p3 (wr (p4 + 1)) h)) my_yX0_keptFrom vw_X0_34 (by decide) (T_C_keptFrom (p1 := p3) (p2 := (wr (p4 + 1))) (h := h) (hF := rfl)) rfl rfl rfl (Nat.le_of_ble_eq_true rfl) (by decide +kernel) ?_
            refine g_icmp hK 85 .lt (5) 90 (t1 := 90) (t2 := 88) (by decide +kernel) (by decide) rfl rfl (fun (hc11 : F_C_keptFrom (wr (p3 + 1)) p4 h < F_C_keptFrom p3 (wr (p4 + 1)) h) => ?_) (fun (hc11 : ¬ (F_C_keptFrom (wr (p3 + 1)) p4 h < F_C_keptFrom p3 (wr (p4 + 1)) h)) => ?_)
            · have hF := ite_t hc11 hF
              refine g_seg hK [.iconst 2] 90 91 (L1 := [(0, vR 49), (3, vI p3), (4, vI p4), (5, vI s1), (6, vI s4)]) (st1 := [vI 2]) (h1 := h) (P := True ∧ True) (by decide +kernel) rfl rfl ⟨trivial, trivial⟩ ?_
              cases hF
              exact hR.1 91 _ _ _ (by decide +kernel) rfl ⟨rfl, rfl⟩
            · have hF := ite_f hc11 hF
              refine g_seg hK [.iconst 1] 88 89 (L1 := [(0, vR 49), (3, vI p3), (4, vI p4), (5, vI s1), (6, vI s4)]) (st1 := [vI 1]) (h1 := h) (P := True ∧ True) (by decide +kernel) rfl rfl ⟨trivial, trivial⟩ ?_
              cases hF
              exact hR.1 89 _ _ _ (by decide +kernel) rfl ⟨rfl, rfl⟩
      refine g_ifz hK 33 .eq (24) 57 (t1 := 57) (t2 := 36) (by decide +kernel) (by decide) rfl rfl (fun (hc13 : s1 = 0) => ?_) (fun (hc13 : ¬ (s1 = 0)) => ?_)
      · have hF := ite_t hc13 hF
        refine hK.2.1 _ _ ([(0, vR 49), (3, vI p3), (4, vI p4), (5, vI s1), (6, vI s4)]) _ _ (sub_of [1, 4, 5, 6, 0] rfl) ?_
        exact j8 _ hF
      · have hF := ite_f hc13 hF
        refine g_seg hK [.iload 6] 36 38 (L1 := [(6, vI s4), (0, vR 49), (1, vR p1), (2, vR p2), (3, vI p3), (4, vI p4), (5, vI s1)]) (st1 := [vI s4]) (h1 := h) (P := True ∧ True) (by decide +kernel) rfl rfl ⟨trivial, trivial⟩ ?_
        refine g_ifz hK 38 .eq (19) 57 (t1 := 57) (t2 := 41) (by decide +kernel) (by decide) rfl rfl (fun (hc14 : s4 = 0) => ?_) (fun (hc14 : ¬ (s4 = 0)) => ?_)
        · have hF := ite_t hc14 hF
          refine hK.2.1 _ _ ([(0, vR 49), (3, vI p3), (4, vI p4), (5, vI s1), (6, vI s4)]) _ _ (sub_of [1, 4, 5, 6, 0] rfl) ?_
          exact j8 _ hF
        · have hF := ite_f hc14 hF
          refine g_seg hK [.aload_n 1, .iload_n 3] 41 43 (L1 := [(6, vI s4), (0, vR 49), (1, vR p1), (2, vR p2), (3, vI p3), (4, vI p4), (5, vI s1)]) (st1 := [vI p3, vR p1]) (h1 := h) (P := True ∧ True ∧ True) (by decide +kernel) rfl rfl ⟨trivial, trivial, trivial⟩ ?_
          refine g_callV1 hK 43 30 (d1 := 0) (ci := 3) (i := p1) (vs := [vI p3]) (rest := []) (h1 := h) (r := vI (F_Ro_at p1 p3 h)) my_yX3_at vw_X0_30 (by decide) (T_Ro_at (o := p1) (p1 := p3) (h := h) (ko := kp1) (hF := rfl)) kp1 rfl rfl (Nat.le_of_ble_eq_true rfl) (by decide +kernel) ?_
          refine g_seg hK [.aload_n 2, .iload 4] 46 49 (L1 := [(6, vI s4), (0, vR 49), (1, vR p1), (2, vR p2), (3, vI p3), (4, vI p4), (5, vI s1)]) (st1 := [vI p4, vR p2, vI (F_Ro_at p1 p3 h)]) (h1 := h) (P := True ∧ True ∧ True) (by decide +kernel) rfl rfl ⟨trivial, trivial, trivial⟩ ?_
          refine g_callV1 hK 49 30 (d1 := 0) (ci := 3) (i := p2) (vs := [vI p4]) (rest := [vI (F_Ro_at p1 p3 h)]) (h1 := h) (r := vI (F_Ro_at p2 p4 h)) my_yX3_at vw_X0_30 (by decide) (T_Ro_at (o := p2) (p1 := p4) (h := h) (ko := kp2) (hF := rfl)) kp2 rfl rfl (Nat.le_of_ble_eq_true rfl) (by decide +kernel) ?_
          refine g_icmp hK 52 .ne (5) 57 (t1 := 55) (t2 := 57) (by decide +kernel) (by decide) rfl rfl (fun (hc15 : F_Ro_at p1 p3 h = F_Ro_at p2 p4 h) => ?_) (fun (hc15 : ¬ (F_Ro_at p1 p3 h = F_Ro_at p2 p4 h)) => ?_)
          · have hF := ite_t hc15 hF
            refine g_seg hK [.iconst 0] 55 56 (L1 := [(6, vI s4), (0, vR 49), (1, vR p1), (2, vR p2), (3, vI p3), (4, vI p4), (5, vI s1)]) (st1 := [vI 0]) (h1 := h) (P := True ∧ True) (by decide +kernel) rfl rfl ⟨trivial, trivial⟩ ?_
            cases hF
            exact hR.1 56 _ _ _ (by decide +kernel) rfl ⟨rfl, rfl⟩
          · have hF := ite_f hc15 hF
            refine hK.2.1 _ _ ([(0, vR 49), (3, vI p3), (4, vI p4), (5, vI s1), (6, vI s4)]) _ _ (sub_of [1, 4, 5, 6, 0] rfl) ?_
            exact j8 _ hF
    clear hF
    have hF := e16
    refine g_icmp hK 21 .ge (7) 28 (t1 := 24) (t2 := 28) (by decide +kernel) (by decide) rfl rfl (fun (hc6 : p4 < F_Ro_size p2 h) => ?_) (fun (hc6 : ¬ (p4 < F_Ro_size p2 h)) => ?_)
    · have hF := ite_t hc6 hF
      refine g_seg hK [.iconst 1] 24 25 (L1 := [(5, vI s1), (0, vR 49), (1, vR p1), (2, vR p2), (3, vI p3), (4, vI p4)]) (st1 := [vI 1]) (h1 := h) (P := True ∧ True) (by decide +kernel) rfl rfl ⟨trivial, trivial⟩ ?_
      refine g_goto hK 25 (4) 29 (by decide +kernel) (by decide) ?_
      refine hK.2.1 _ _ ([(0, vR 49), (1, vR p1), (2, vR p2), (3, vI p3), (4, vI p4), (5, vI s1)]) _ _ (sub_of [1, 2, 3, 4, 5, 0] rfl) ?_
      cases hF
      exact j5
    · have hF := ite_f hc6 hF
      refine g_seg hK [.iconst 0] 28 29 (L1 := [(5, vI s1), (0, vR 49), (1, vR p1), (2, vR p2), (3, vI p3), (4, vI p4)]) (st1 := [vI 0]) (h1 := h) (P := True ∧ True) (by decide +kernel) rfl rfl ⟨trivial, trivial⟩ ?_
      refine hK.2.1 _ _ ([(0, vR 49), (1, vR p1), (2, vR p2), (3, vI p3), (4, vI p4), (5, vI s1)]) _ _ (sub_of [1, 2, 3, 4, 5, 0] rfl) ?_
      cases hF
      exact j5
  clear hF
  have hF := e17
  refine g_icmp hK 5 .ge (7) 12 (t1 := 8) (t2 := 12) (by decide +kernel) (by decide) rfl rfl (fun (hc3 : p3 < F_Ro_size p1 h) => ?_) (fun (hc3 : ¬ (p3 < F_Ro_size p1 h)) => ?_)
  · have hF := ite_t hc3 hF
    refine g_seg hK [.iconst 1] 8 9 (L1 := [(0, vR 49), (1, vR p1), (2, vR p2), (3, vI p3), (4, vI p4)]) (st1 := [vI 1]) (h1 := h) (P := True ∧ True) (by decide +kernel) rfl rfl ⟨trivial, trivial⟩ ?_
    refine g_goto hK 9 (4) 13 (by decide +kernel) (by decide) ?_
    cases hF
    exact j2
  · have hF := ite_f hc3 hF
    refine g_seg hK [.iconst 0] 12 13 (L1 := [(0, vR 49), (1, vR p1), (2, vR p2), (3, vI p3), (4, vI p4)]) (st1 := [vI 0]) (h1 := h) (P := True ∧ True) (by decide +kernel) rfl rfl ⟨trivial, trivial⟩ ?_
    cases hF
    exact j2
end
section
set_option maxHeartbeats 4000000 in
set_option maxRecDepth 100000 in
theorem T_V_size {h : MH} {r : Int} (hF : F_V_size h = r) : CON 1 yX5_size cX5_size 1 (Option.some Jvm.ClassFile.FieldType.int) [vR 54] h (some (vI r)) h := by
  refine con_of (own := RX5) (fl := flX5) (by decide +kernel) rfl flok_X5 rfl (Nat.le_of_ble_eq_true rfl) ?_
  intro K hK hR
  show K 0 [(0, vR 54)] [] h
  unfold F_V_size at hF
  refine g_seg hK [.aload_n 0, .getfield 14] 0 4 (L1 := [(0, vR 54)]) (st1 := [vR 55]) (h1 := h) (P := True ∧ kd 54 = 7 ∧ True) (by decide +kernel) rfl rfl ⟨trivial, rfl, trivial⟩ ?_
  refine g_callV1 hK 4 41 (d1 := 0) (ci := 3) (i := 55) (vs := []) (rest := []) (h1 := h) (r := vI (F_Ro_size 55 h)) my_yX3_size vw_X5_41 (by decide) (T_Ro_size (o := 55) (h := h) (ko := rfl) (hF := rfl)) rfl rfl rfl (Nat.le_of_ble_eq_true rfl) (by decide +kernel) ?_
  cases hF
  exact hR.1 7 _ _ _ (by decide +kernel) rfl ⟨rfl, rfl⟩
set_option maxHeartbeats 4000000 in
set_option maxRecDepth 100000 in
theorem T_V_inHunk {p1 : Int} {h : MH} {r : Int} (hF : F_V_inHunk p1 h = r) : CON 1 yX5_inHunk cX5_inHunk 2 (Option.some Jvm.ClassFile.FieldType.boolean) [vR 54, vI p1] h (some (vI r)) h := by
  refine con_of (own := RX5) (fl := flX5) (by decide +kernel) rfl flok_X5 rfl (Nat.le_of_ble_eq_true rfl) ?_
  intro K hK hR
  show K 0 [(0, vR 54), (1, vI p1)] [] h
  unfold F_V_inHunk at hF
  refine g_seg hK [.aload_n 0, .getfield 14, .iload_n 1] 0 5 (L1 := [(0, vR 54), (1, vI p1)]) (st1 := [vI p1, vR 55]) (h1 := h) (P := True ∧ kd 54 = 7 ∧ True ∧ True) (by decide +kernel) rfl rfl ⟨trivial, rfl, trivial, trivial⟩ ?_
  refine g_callV1 hK 5 52 (d1 := 0) (ci := 3) (i := 55) (vs := [vI p1]) (rest := []) (h1 := h) (r := vI (F_Ro_at 55 p1 h)) my_yX3_at vw_X5_52 (by decide) (T_Ro_at (o := 55) (p1 := p1) (h := h) (ko := rfl) (hF := rfl)) rfl rfl rfl (Nat.le_of_ble_eq_true rfl) (by decide +kernel) ?_
  refine g_ifz hK 8 .le (7) 15 (t1 := 15) (t2 := 11) (by decide +kernel) (by decide) rfl rfl (fun (hc1 : F_Ro_at 55 p1 h ≤ 0) => ?_) (fun (hc1 : ¬ (F_Ro_at 55 p1 h ≤ 0)) => ?_)
  · have hF := ite_t hc1 hF
    refine g_seg hK [.iconst 0] 15 16 (L1 := [(0, vR 54), (1, vI p1)]) (st1 := [vI 0]) (h1 := h) (P := True ∧ True) (by decide +kernel) rfl rfl ⟨trivial, trivial⟩ ?_
    cases hF
    exact hR.2.1 16 _ _ _ (by decide +kernel) rfl (by decide) ⟨rfl, rfl⟩
  · have hF := ite_f hc1 hF
    refine g_seg hK [.iconst 1] 11 12 (L1 := [(0, vR 54), (1, vI p1)]) (st1 := [vI 1]) (h1 := h) (P := True ∧ True) (by decide +kernel) rfl rfl ⟨trivial, trivial⟩ ?_
    refine g_goto hK 12 (4) 16 (by decide +kernel) (by decide) ?_
    cases hF
    exact hR.2.1 16 _ _ _ (by decide +kernel) rfl (by decide) ⟨rfl, rfl⟩
set_option maxHeartbeats 4000000 in
set_option maxRecDepth 100000 in
theorem T_V_hunks {h : MH} {r : Int} (hF : F_V_hunks h = r) : CON 1 yX5_hunks cX5_hunks 1 (Option.some Jvm.ClassFile.FieldType.int) [vR 54] h (some (vI r)) h := by
  refine con_of (own := RX5) (fl := flX5) (by decide +kernel) rfl flok_X5 rfl (Nat.le_of_ble_eq_true rfl) ?_
  intro K hK hR
  show K 0 [(0, vR 54)] [] h
  unfold F_V_hunks at hF
  refine g_seg hK [.aload_n 0, .getfield 23] 0 4 (L1 := [(0, vR 54)]) (st1 := [vR 59]) (h1 := h) (P := True ∧ kd 54 = 7 ∧ True) (by decide +kernel) rfl rfl ⟨trivial, rfl, trivial⟩ ?_
  refine g_callV1 hK 4 41 (d1 := 0) (ci := 3) (i := 59) (vs := []) (rest := []) (h1 := h) (r := vI (F_Ro_size 59 h)) my_yX3_size vw_X5_41 (by decide) (T_Ro_size (o := 59) (h := h) (ko := rfl) (hF := rfl)) rfl rfl rfl (Nat.le_of_ble_eq_true rfl) (by decide +kernel) ?_
  cases hF
  exact hR.1 7 _ _ _ (by decide +kernel) rfl ⟨rfl, rfl⟩
set_option maxHeartbeats 4000000 in
set_option maxRecDepth 100000 in
theorem T_V_top {p1 : Int} {h : MH} {r : Int} (hF : F_V_top p1 h = r) : CON 1 yX5_top cX5_top 2 (Option.some Jvm.ClassFile.FieldType.int) [vR 54, vI p1] h (some (vI r)) h := by
  refine con_of (own := RX5) (fl := flX5) (by decide +kernel) rfl flok_X5 rfl (Nat.le_of_ble_eq_true rfl) ?_
  intro K hK hR
  show K 0 [(0, vR 54), (1, vI p1)] [] h
  unfold F_V_top at hF
  refine g_seg hK [.aload_n 0, .getfield 23, .iload_n 1] 0 5 (L1 := [(0, vR 54), (1, vI p1)]) (st1 := [vI p1, vR 59]) (h1 := h) (P := True ∧ kd 54 = 7 ∧ True ∧ True) (by decide +kernel) rfl rfl ⟨trivial, rfl, trivial, trivial⟩ ?_
  refine g_callV1 hK 5 52 (d1 := 0) (ci := 3) (i := 59) (vs := [vI p1]) (rest := []) (h1 := h) (r := vI (F_Ro_at 59 p1 h)) my_yX3_at vw_X5_52 (by decide) (T_Ro_at (o := 59) (p1 := p1) (h := h) (ko := rfl) (hF := rfl)) rfl rfl rfl (Nat.le_of_ble_eq_true rfl) (by decide +kernel) ?_
  cases hF
  exact hR.1 8 _ _ _ (by decide +kernel) rfl ⟨rfl, rfl⟩
set_option maxHeartbeats 4000000 in
set_option maxRecDepth 100000 in
theorem T_V_end {p1 : Int} {h : MH} {r : Int} (hF : F_V_end p1 h = r) : CON 1 yX5_end cX5_end 2 (Option.some Jvm.ClassFile.FieldType.int) [vR 54, vI p1] h (some (vI r)) h := by
  refine con_of (own := RX5) (fl := flX5) (by decide +kernel) rfl flok_X5 rfl (Nat.le_of_ble_eq_true rfl) ?_
  intro K hK hR
  show K 0 [(0, vR 54), (1, vI p1)] [] h
  unfold F_V_end at hF
  refine g_seg hK [.aload_n 0, .getfield 26, .iload_n 1] 0 5 (L1 := [(0, vR 54), (1, vI p1)]) (st1 := [vI p1, vR 61]) (h1 := h) (P := True ∧ kd 54 = 7 ∧ True ∧ True) (by decide +kernel) rfl rfl ⟨trivial, rfl, trivial, trivial⟩ ?_
  refine g_callV1 hK 5 52 (d1 := 0) (ci := 3) (i := 61) (vs := [vI p1]) (rest := []) (h1 := h) (r := vI (F_Ro_at 61 p1 h)) my_yX3_at vw_X5_52 (by decide) (T_Ro_at (o := 61) (p1 := p1) (h := h) (ko := rfl) (hF := rfl)) rfl rfl rfl (Nat.le_of_ble_eq_true rfl) (by decide +kernel) ?_
  cases hF
  exact hR.1 8 _ _ _ (by decide +kernel) rfl ⟨rfl, rfl⟩
set_option maxHeartbeats 4000000 in
set_option maxRecDepth 100000 in
theorem LT_V_linesWithin_L6 {K : KT} (hK : Rules RX5 cX5_linesWithin 6 (Option.some Jvm.ClassFile.FieldType.int) flX5 1 K) {x2 : Int} {x3 : Int} {h : MH} : ∀ (n : Nat) (x4 : Int) (x5 : Int) (x4' : Int) (x5' : Int), F_V_linesWithin_L6 x2 x3 h n x4 x5 = some (x4', x5') → K 41 [(0, vR 54), (2, vI x2), (3, vI x3), (4, vI x4'), (5, vI x5')] [] h → K 6 [(0, vR 54), (2, vI x2), (3, vI x3), (4, vI x4), (5, vI x5)] [] h := by
  intro n
  induction n with
  | zero =>
    intro x4 x5 x4' x5' hF
    cases hF
  | succ n ih =>
    intro x4 x5 x4' x5' hF hE
    unfold F_V_linesWithin_L6 at hF
    refine g_seg hK [.iload 5, .iload_n 2] 6 9 (L1 := [(0, vR 54), (2, vI x2), (3, vI x3), (4, vI x4), (5, vI x5)]) (st1 := [vI x2, vI x5]) (h1 := h) (P := True ∧ True ∧ True) (by decide +kernel) rfl rfl ⟨trivial, trivial, trivial⟩ ?_
    refine g_icmp hK 9 .ge (32) 41 (t1 := 12) (t2 := 41) (by decide +kernel) (by decide) rfl rfl (fun (hc1 : x5 < x2) => ?_) (fun (hc1 : ¬ (x5 < x2)) => ?_)
    · have hF := ite_t hc1 hF
      refine g_seg hK [.iload 4, .aload_n 0, .getfield 14, .iload 5] 12 20 (L1 := [(0, vR 54), (2, vI x2), (3, vI x3), (4, vI x4), (5, vI x5)]) (st1 := [vI x5, vR 55, vI x4]) (h1 := h) (P := True ∧ True ∧ kd 54 = 7 ∧ True ∧ True) (by decide +kernel) rfl rfl ⟨trivial, trivial, rfl, trivial, trivial⟩ ?_
      refine g_callV1 hK 20 52 (d1 := 0) (ci := 3) (i := 55) (vs := [vI x5]) (rest := [vI x4]) (h1 := h) (r := vI (F_Ro_at 55 x5 h)) my_yX3_at vw_X5_52 (by decide) (T_Ro_at (o := 55) (p1 := x5) (h := h) (ko := rfl) (hF := rfl)) rfl rfl rfl (Nat.le_of_ble_eq_true rfl) (by decide +kernel) ?_
      refine g_seg hK [.iload_n 3] 23 24 (L1 := [(0, vR 54), (2, vI x2), (3, vI x3), (4, vI x4), (5, vI x5)]) (st1 := [vI x3, vI (F_Ro_at 55 x5 h), vI x4]) (h1 := h) (P := True ∧ True) (by decide +kernel) rfl rfl ⟨trivial, trivial⟩ ?_
      obtain ⟨s2, e5, hF⟩ := jn1_elim hF
      have j3 : K 32 [(0, vR 54), (2, vI x2), (3, vI x3), (5, vI x5)] [vI s2, vI x4] h := by
        refine g_seg hK [.iadd, .istore 4, .iinc 5 1] 32 38 (L1 := [(5, vI (wr (x5 + 1))), (4, vI (wr (x4 + s2))), (0, vR 54), (2, vI x2), (3, vI x3)]) (st1 := []) (h1 := h) (P := True ∧ True ∧ True ∧ True) (by decide +kernel) rfl rfl ⟨trivial, trivial, trivial, trivial⟩ ?_
        refine g_goto hK 38 (-32) 6 (by decide +kernel) (by decide) ?_
        refine hK.2.1 _ _ ([(0, vR 54), (2, vI x2), (3, vI x3), (4, vI (wr (x4 + s2))), (5, vI (wr (x5 + 1)))]) _ _ (sub_of [2, 3, 4, 1, 0] rfl) ?_
        exact ih _ _ _ _ hF hE
      clear hF
      have hF := e5
      refine g_icmp hK 24 .ne (7) 31 (t1 := 27) (t2 := 31) (by decide +kernel) (by decide) rfl rfl (fun (hc4 : F_Ro_at 55 x5 h = x3) => ?_) (fun (hc4 : ¬ (F_Ro_at 55 x5 h = x3)) => ?_)
      · have hF := ite_t hc4 hF
        refine g_seg hK [.iconst 1] 27 28 (L1 := [(0, vR 54), (2, vI x2), (3, vI x3), (4, vI x4), (5, vI x5)]) (st1 := [vI 1, vI x4]) (h1 := h) (P := True ∧ True) (by decide +kernel) rfl rfl ⟨trivial, trivial⟩ ?_
        refine g_goto hK 28 (4) 32 (by decide +kernel) (by decide) ?_
        refine hK.2.1 _ _ ([(0, vR 54), (2, vI x2), (3, vI x3), (5, vI x5)]) _ _ (sub_of [0, 1, 2, 4] rfl) ?_
        cases hF
        exact j3
      · have hF := ite_f hc4 hF
        refine g_seg hK [.iconst 0] 31 32 (L1 := [(0, vR 54), (2, vI x2), (3, vI x3), (4, vI x4), (5, vI x5)]) (st1 := [vI 0, vI x4]) (h1 := h) (P := True ∧ True) (by decide +kernel) rfl rfl ⟨trivial, trivial⟩ ?_
        refine hK.2.1 _ _ ([(0, vR 54), (2, vI x2), (3, vI x3), (5, vI x5)]) _ _ (sub_of [0, 1, 2, 4] rfl) ?_
        cases hF
        exact j3
    · have hF := ite_f hc1 hF
      cases hF
      exact hE
set_option maxHeartbeats 4000000 in
set_option maxRecDepth 100000 in
theorem T_V_linesWithin {p1 : Int} {p2 : Int} {p3 : Int} {h : MH} {r : Int} (hF : F_V_linesWithin p1 p2 p3 h = some r) : CON 1 yX5_linesWithin cX5_linesWithin 6 (Option.some Jvm.ClassFile.FieldType.int) [vR 54, vI p1, vI p2, vI p3] h (some (vI r)) h := by
  refine con_of (own := RX5) (fl := flX5) (by decide +kernel) rfl flok_X5 rfl (Nat.le_of_ble_eq_true rfl) ?_
  intro K hK hR
  show K 0 [(0, vR 54), (1, vI p1), (2, vI p2), (3, vI p3)] [] h
  unfold F_V_linesWithin at hF
  refine g_seg hK [.iconst 0, .istore 4, .iload_n 1, .istore 5] 0 6 (L1 := [(5, vI p1), (4, vI 0), (0, vR 54), (1, vI p1), (2, vI p2), (3, vI p3)]) (st1 := []) (h1 := h) (P := True ∧ True ∧ True ∧ True ∧ True) (by decide +kernel) rfl rfl ⟨trivial, trivial, trivial, trivial, trivial⟩ ?_
  refine hK.2.1 _ _ ([(0, vR 54), (2, vI p2), (3, vI p3), (4, vI 0), (5, vI p1)]) _ _ (sub_of [2, 4, 5, 1, 0] rfl) ?_
  obtain ⟨x4_1, x5_2, e3, hF⟩ := ob2_elim hF
  refine LT_V_linesWithin_L6 hK _ _ _ _ _ e3 ?_
  refine g_seg hK [.iload 4] 41 43 (L1 := [(0, vR 54), (2, vI p2), (3, vI p3), (4, vI x4_1), (5, vI x5_2)]) (st1 := [vI x4_1]) (h1 := h) (P := True ∧ True) (by decide +kernel) rfl rfl ⟨trivial, trivial⟩ ?_
  cases hF
  exact hR.1 43 _ _ _ (by decide +kernel) rfl ⟨rfl, rfl⟩
set_option maxHeartbeats 4000000 in
set_option maxRecDepth 100000 in
theorem T_V_linesOf {p1 : Int} {p2 : Int} {h : MH} {r : Int} (hF : F_V_linesOf p1 p2 h = some r) : CON 2 yX5_linesOf cX5_linesOf 3 (Option.some Jvm.ClassFile.FieldType.int) [vR 54, vI p1, vI p2] h (some (vI r)) h := by
  refine con_of (own := RX5) (fl := flX5) (by decide +kernel) rfl flok_X5 rfl (Nat.le_of_ble_eq_true rfl) ?_
  intro K hK hR
  show K 0 [(0, vR 54), (1, vI p1), (2, vI p2)] [] h
  unfold F_V_linesOf at hF
  refine g_seg hK [.aload_n 0, .aload_n 0, .iload_n 1] 0 3 (L1 := [(0, vR 54), (1, vI p1), (2, vI p2)]) (st1 := [vI p1, vR 54, vR 54]) (h1 := h) (P := True ∧ True ∧ True ∧ True) (by decide +kernel) rfl rfl ⟨trivial, trivial, trivial, trivial⟩ ?_
  refine g_callV1 hK 3 81 (d1 := 1) (ci := 5) (i := 54) (vs := [vI p1]) (rest := [vR 54]) (h1 := h) (r := vI (F_V_top p1 h)) my_yX5_top vw_X5_81 (by decide) (T_V_top (p1 := p1) (h := h) (hF := rfl)) rfl rfl rfl (Nat.le_of_ble_eq_true rfl) (by decide +kernel) ?_
  refine g_seg hK [.aload_n 0, .iload_n 1] 6 8 (L1 := [(0, vR 54), (1, vI p1), (2, vI p2)]) (st1 := [vI p1, vR 54, vI (F_V_top p1 h), vR 54]) (h1 := h) (P := True ∧ True ∧ True) (by decide +kernel) rfl rfl ⟨trivial, trivial, trivial⟩ ?_
  refine g_callV1 hK 8 84 (d1 := 1) (ci := 5) (i := 54) (vs := [vI p1]) (rest := [vI (F_V_top p1 h), vR 54]) (h1 := h) (r := vI (F_V_end p1 h)) my_yX5_end vw_X5_84 (by decide) (T_V_end (p1 := p1) (h := h) (hF := rfl)) rfl rfl rfl (Nat.le_of_ble_eq_true rfl) (by decide +kernel) ?_
  refine g_seg hK [.iload_n 2] 11 12 (L1 := [(0, vR 54), (1, vI p1), (2, vI p2)]) (st1 := [vI p2, vI (F_V_end p1 h), vI (F_V_top p1 h), vR 54]) (h1 := h) (P := True ∧ True) (by decide +kernel) rfl rfl ⟨trivial, trivial⟩ ?_
  obtain ⟨r1, e2, hF⟩ := ob1_elim hF
  refine g_callV1 hK 12 97 (d1 := 1) (ci := 5) (i := 54) (vs := [vI (F_V_top p1 h), vI (F_V_end p1 h), vI p2]) (rest := []) (h1 := h) (r := vI r1) my_yX5_linesWithin vw_X5_97 (by decide) (T_V_linesWithin (p1 := (F_V_top p1 h)) (p2 := (F_V_end p1 h)) (p3 := p2) (h := h) (hF := e2)) rfl rfl rfl (Nat.le_of_ble_eq_true rfl) (by decide +kernel) ?_
  cases hF
  exact hR.1 15 _ _ _ (by decide +kernel) rfl ⟨rfl, rfl⟩
set_option maxHeartbeats 4000000 in
set_option maxRecDepth 100000 in
theorem LT_V_findHunks_L23 {K : KT} (hK : Rules RX5 cX5_findHunks 3 none flX5 3 K) : ∀ (n : Nat) (x1 : Int) (h : MH) (x1' : Int) (h' : MH), F_V_findHunks_L23 n x1 h = some (x1', h') → K 91 [(0, vR 54), (1, vI x1')] [] h' → K 23 [(0, vR 54), (1, vI x1)] [] h := by
  intro n
  induction n with
  | zero =>
    intro x1 h x1' h' hF
    cases hF
  | succ n ih =>
    intro x1 h x1' h' hF hE
    unfold F_V_findHunks_L23 at hF
    refine g_seg hK [.iload_n 1, .aload_n 0] 23 25 (L1 := [(0, vR 54), (1, vI x1)]) (st1 := [vR 54, vI x1]) (h1 := h) (P := True ∧ True ∧ True) (by decide +kernel) rfl rfl ⟨trivial, trivial, trivial⟩ ?_
    refine g_callV1 hK 25 59 (d1 := 1) (ci := 5) (i := 54) (vs := []) (rest := [vI x1]) (h1 := h) (r := vI (F_V_size h)) my_yX5_size vw_X5_59 (by decide) (T_V_size (h := h) (hF := rfl)) rfl rfl rfl (Nat.le_of_ble_eq_true rfl) (by decide +kernel) ?_
    refine g_icmp hK 28 .ge (63) 91 (t1 := 31) (t2 := 91) (by decide +kernel) (by decide) rfl rfl (fun (hc1 : x1 < F_V_size h) => ?_) (fun (hc1 : ¬ (x1 < F_V_size h)) => ?_)
    · have hF := ite_t hc1 hF
      refine g_seg hK [.aload_n 0, .iload_n 1] 31 33 (L1 := [(0, vR 54), (1, vI x1)]) (st1 := [vI x1, vR 54]) (h1 := h) (P := True ∧ True ∧ True) (by decide +kernel) rfl rfl ⟨trivial, trivial, trivial⟩ ?_
      refine g_callV1 hK 33 60 (d1 := 1) (ci := 5) (i := 54) (vs := [vI x1]) (rest := []) (h1 := h) (r := vI (F_V_inHunk x1 h)) my_yX5_inHunk vw_X5_60 (by decide) (T_V_inHunk (p1 := x1) (h := h) (hF := rfl)) rfl rfl rfl (Nat.le_of_ble_eq_true rfl) (by decide +kernel) ?_
      obtain ⟨h2, e11, hF⟩ := jn1_elim hF
      have j3 : K 57 [(0, vR 54), (1, vI x1)] [] h2 := by
        refine g_seg hK [.aload_n 0, .iload_n 1] 57 59 (L1 := [(0, vR 54), (1, vI x1)]) (st1 := [vI x1, vR 54]) (h1 := h2) (P := True ∧ True ∧ True) (by decide +kernel) rfl rfl ⟨trivial, trivial, trivial⟩ ?_
        refine g_callV1 hK 59 60 (d1 := 1) (ci := 5) (i := 54) (vs := [vI x1]) (rest := []) (h1 := h2) (r := vI (F_V_inHunk x1 h2)) my_yX5_inHunk vw_X5_60 (by decide) (T_V_inHunk (p1 := x1) (h := h2) (hF := rfl)) rfl rfl rfl (Nat.le_of_ble_eq_true rfl) (by decide +kernel) ?_
        obtain ⟨h6, e10, hF⟩ := jn1_elim hF
        have j7 : K 85 [(0, vR 54), (1, vI x1)] [] h6 := by
          refine g_seg hK [.iinc 1 1] 85 88 (L1 := [(1, vI (wr (x1 + 1))), (0, vR 54)]) (st1 := []) (h1 := h6) (P := True ∧ True) (by decide +kernel) rfl rfl ⟨trivial, trivial⟩ ?_
          refine g_goto hK 88 (-65) 23 (by decide +kernel) (by decide) ?_
          refine hK.2.1 _ _ ([(0, vR 54), (1, vI (wr (x1 + 1)))]) _ _ (sub_of [1, 0] rfl) ?_
          exact ih _ _ _ _ hF hE
        clear hF
        have hF := e10
        refine g_ifz hK 62 .eq (23) 85 (t1 := 85) (t2 := 65) (by decide +kernel) (by decide) rfl rfl (fun (hc8 : F_V_inHunk x1 h2 = 0) => ?_) (fun (hc8 : ¬ (F_V_inHunk x1 h2 = 0)) => ?_)
        · have hF := ite_t hc8 hF
          cases hF
          exact j7
        · have hF := ite_f hc8 hF
          refine g_seg hK [.aload_n 0, .iload_n 1, .iconst 1, .iadd] 65 69 (L1 := [(0, vR 54), (1, vI x1)]) (st1 := [vI (wr (x1 + 1)), vR 54]) (h1 := h2) (P := True ∧ True ∧ True ∧ True ∧ True) (by decide +kernel) rfl rfl ⟨trivial, trivial, trivial, trivial, trivial⟩ ?_
          refine g_callV1 hK 69 60 (d1 := 1) (ci := 5) (i := 54) (vs := [vI (wr (x1 + 1))]) (rest := []) (h1 := h2) (r := vI (F_V_inHunk (wr (x1 + 1)) h2)) my_yX5_inHunk vw_X5_60 (by decide) (T_V_inHunk (p1 := (wr (x1 + 1))) (h := h2) (hF := rfl)) rfl rfl rfl (Nat.le_of_ble_eq_true rfl) (by decide +kernel) ?_
          refine g_ifz hK 72 .ne (13) 85 (t1 := 75) (t2 := 85) (by decide +kernel) (by decide) rfl rfl (fun (hc9 : F_V_inHunk (wr (x1 + 1)) h2 = 0) => ?_) (fun (hc9 : ¬ (F_V_inHunk (wr (x1 + 1)) h2 = 0)) => ?_)
          · have hF := ite_t hc9 hF
            refine g_seg hK [.aload_n 0, .getfield 26, .iload_n 1, .iconst 1, .iadd] 75 82 (L1 := [(0, vR 54), (1, vI x1)]) (st1 := [vI (wr (x1 + 1)), vR 61]) (h1 := h2) (P := True ∧ kd 54 = 7 ∧ True ∧ True ∧ True ∧ True) (by decide +kernel) rfl rfl ⟨trivial, rfl, trivial, trivial, trivial, trivial⟩ ?_
            refine g_callV0 hK 82 49 (d1 := 0) (ci := 3) (i := 61) (vs := [vI (wr (x1 + 1))]) (rest := []) (h1 := (F_Ro_add 61 (wr (x1 + 1)) h2)) my_yX3_add vw_X5_49 (by decide) (T_Ro_add (o := 61) (p1 := (wr (x1 + 1))) (h := h2) (ko := rfl) (hF := rfl)) rfl rfl rfl (Nat.le_of_ble_eq_true rfl) (by decide +kernel) ?_
            cases hF
            exact j7
          · have hF := ite_f hc9 hF
            cases hF
            exact j7
      clear hF
      have hF := e11
      refine g_ifz hK 36 .eq (21) 57 (t1 := 57) (t2 := 39) (by decide +kernel) (by decide) rfl rfl (fun (hc4 : F_V_inHunk x1 h = 0) => ?_) (fun (hc4 : ¬ (F_V_inHunk x1 h = 0)) => ?_)
      · have hF := ite_t hc4 hF
        cases hF
        exact j3
      · have hF := ite_f hc4 hF
        refine g_seg hK [.aload_n 0, .iload_n 1, .iconst 1, .isub] 39 43 (L1 := [(0, vR 54), (1, vI x1)]) (st1 := [vI (wr (x1 - 1)), vR 54]) (h1 := h) (P := True ∧ True ∧ True ∧ True ∧ True) (by decide +kernel) rfl rfl ⟨trivial, trivial, trivial, trivial, trivial⟩ ?_
        refine g_callV1 hK 43 60 (d1 := 1) (ci := 5) (i := 54) (vs := [vI (wr (x1 - 1))]) (rest := []) (h1 := h) (r := vI (F_V_inHunk (wr (x1 - 1)) h)) my_yX5_inHunk vw_X5_60 (by decide) (T_V_inHunk (p1 := (wr (x1 - 1))) (h := h) (hF := rfl)) rfl rfl rfl (Nat.le_of_ble_eq_true rfl) (by decide +kernel) ?_
        refine g_ifz hK 46 .ne (11) 57 (t1 := 49) (t2 := 57) (by decide +kernel) (by decide) rfl rfl (fun (hc5 : F_V_inHunk (wr (x1 - 1)) h = 0) => ?_) (fun (hc5 : ¬ (F_V_inHunk (wr (x1 - 1)) h = 0)) => ?_)
        · have hF := ite_t hc5 hF
          refine g_seg hK [.aload_n 0, .getfield 23, .iload_n 1] 49 54 (L1 := [(0, vR 54), (1, vI x1)]) (st1 := [vI x1, vR 59]) (h1 := h) (P := True ∧ kd 54 = 7 ∧ True ∧ True) (by decide +kernel) rfl rfl ⟨trivial, rfl, trivial, trivial⟩ ?_
          refine g_callV0 hK 54 49 (d1 := 0) (ci := 3) (i := 59) (vs := [vI x1]) (rest := []) (h1 := (F_Ro_add 59 x1 h)) my_yX3_add vw_X5_49 (by decide) (T_Ro_add (o := 59) (p1 := x1) (h := h) (ko := rfl) (hF := rfl)) rfl rfl rfl (Nat.le_of_ble_eq_true rfl) (by decide +kernel) ?_
          cases hF
          exact j3
        · have hF := ite_f hc5 hF
          cases hF
          exact j3
    · have hF := ite_f hc1 hF
      cases hF
      exact hE
set_option maxHeartbeats 4000000 in
set_option maxRecDepth 100000 in
theorem LT_V_findHunks_L93 {K : KT} (hK : Rules RX5 cX5_findHunks 3 none flX5 3 K) : ∀ (n : Nat) (x1 : Int) (h : MH) (x1' : Int) (h' : MH), F_V_findHunks_L93 n x1 h = some (x1', h') → K 147 [(0, vR 54), (1, vI x1')] [] h' → K 93 [(0, vR 54), (1, vI x1)] [] h := by
  intro n
  induction n with
  | zero =>
    intro x1 h x1' h' hF
    cases hF
  | succ n ih =>
    intro x1 h x1' h' hF hE
    unfold F_V_findHunks_L93 at hF
    refine g_seg hK [.iload_n 1, .aload_n 0] 93 95 (L1 := [(0, vR 54), (1, vI x1)]) (st1 := [vR 54, vI x1]) (h1 := h) (P := True ∧ True ∧ True) (by decide +kernel) rfl rfl ⟨trivial, trivial, trivial⟩ ?_
    refine g_callV1 hK 95 64 (d1 := 1) (ci := 5) (i := 54) (vs := []) (rest := [vI x1]) (h1 := h) (r := vI (F_V_hunks h)) my_yX5_hunks vw_X5_64 (by decide) (T_V_hunks (h := h) (hF := rfl)) rfl rfl rfl (Nat.le_of_ble_eq_true rfl) (by decide +kernel) ?_
    refine g_icmp hK 98 .ge (49) 147 (t1 := 101) (t2 := 147) (by decide +kernel) (by decide) rfl rfl (fun (hc1 : x1 < F_V_hunks h) => ?_) (fun (hc1 : ¬ (x1 < F_V_hunks h)) => ?_)
    · have hF := ite_t hc1 hF
      refine g_seg hK [.aload_n 0, .iload_n 1, .iconst 1] 101 104 (L1 := [(0, vR 54), (1, vI x1)]) (st1 := [vI 1, vI x1, vR 54]) (h1 := h) (P := True ∧ True ∧ True ∧ True) (by decide +kernel) rfl rfl ⟨trivial, trivial, trivial, trivial⟩ ?_
      obtain ⟨r2, e3, hF⟩ := ob1_elim hF
      refine g_callV1 hK 104 67 (d1 := 2) (ci := 5) (i := 54) (vs := [vI x1, vI 1]) (rest := []) (h1 := h) (r := vI r2) my_yX5_linesOf vw_X5_67 (by decide) (T_V_linesOf (p1 := x1) (p2 := 1) (h := h) (hF := e3)) rfl rfl rfl (Nat.le_of_ble_eq_true rfl) (by decide +kernel) ?_
      obtain ⟨kj7, e12, hF⟩ := jk1_elim hF
      have j7 : ∀ (s6 : Int), kj7 s6 = some (x1', h') → K 124 [(0, vR 54), (1, vI x1)] [vI s6] h := by
        intro s6 hF
        have hF := (e12 s6).symm.trans hF
        refine g_seg hK [.istore_n 2, .aload_n 0, .getfield 29, .iload_n 2] 124 130 (L1 := [(2, vI s6), (0, vR 54), (1, vI x1)]) (st1 := [vI s6, vR 63]) (h1 := h) (P := True ∧ True ∧ kd 54 = 7 ∧ True ∧ True) (by decide +kernel) rfl rfl ⟨trivial, trivial, rfl, trivial, trivial⟩ ?_
        obtain ⟨s8, e11, hF⟩ := jn1_elim hF
        have j9 : K 138 [(0, vR 54), (1, vI x1)] [vI s8, vR 63] h := by
          refine g_callV0 hK 138 49 (d1 := 0) (ci := 3) (i := 63) (vs := [vI s8]) (rest := []) (h1 := (F_Ro_add 63 s8 h)) my_yX3_add vw_X5_49 (by decide) (T_Ro_add (o := 63) (p1 := s8) (h := h) (ko := rfl) (hF := rfl)) rfl rfl rfl (Nat.le_of_ble_eq_true rfl) (by decide +kernel) ?_
          refine g_seg hK [.iinc 1 1] 141 144 (L1 := [(1, vI (wr (x1 + 1))), (0, vR 54)]) (st1 := []) (h1 := (F_Ro_add 63 s8 h)) (P := True ∧ True) (by decide +kernel) rfl rfl ⟨trivial, trivial⟩ ?_
          refine g_goto hK 144 (-51) 93 (by decide +kernel) (by decide) ?_
          refine hK.2.1 _ _ ([(0, vR 54), (1, vI (wr (x1 + 1)))]) _ _ (sub_of [1, 0] rfl) ?_
          exact ih _ _ _ _ hF hE
        clear hF
        have hF := e11
        refine g_ifz hK 130 .eq (7) 137 (t1 := 137) (t2 := 133) (by decide +kernel) (by decide) rfl rfl (fun (hc10 : s6 = 0) => ?_) (fun (hc10 : ¬ (s6 = 0)) => ?_)
        · have hF := ite_t hc10 hF
          refine g_seg hK [.iconst 1] 137 138 (L1 := [(2, vI s6), (0, vR 54), (1, vI x1)]) (st1 := [vI 1, vR 63]) (h1 := h) (P := True ∧ True) (by decide +kernel) rfl rfl ⟨trivial, trivial⟩ ?_
          refine hK.2.1 _ _ ([(0, vR 54), (1, vI x1)]) _ _ (sub_of [1, 2] rfl) ?_
          cases hF
          exact j9
        · have hF := ite_f hc10 hF
          refine g_seg hK [.iconst 0] 133 134 (L1 := [(2, vI s6), (0, vR 54), (1, vI x1)]) (st1 := [vI 0, vR 63]) (h1 := h) (P := True ∧ True) (by decide +kernel) rfl rfl ⟨trivial, trivial⟩ ?_
          refine g_goto hK 134 (4) 138 (by decide +kernel) (by decide) ?_
          refine hK.2.1 _ _ ([(0, vR 54), (1, vI x1)]) _ _ (sub_of [1, 2] rfl) ?_
          cases hF
          exact j9
      obtain ⟨kj5, e13, hF⟩ := jk1_elim hF
      have j5 : ∀ (u4 : Unit), kj5 u4 = some (x1', h') → K 123 [(0, vR 54), (1, vI x1)] [] h := by
        intro u4 hF
        have hF := (e13 u4).symm.trans hF
        refine g_seg hK [.iconst 0] 123 124 (L1 := [(0, vR 54), (1, vI x1)]) (st1 := [vI 0]) (h1 := h) (P := True ∧ True) (by decide +kernel) rfl rfl ⟨trivial, trivial⟩ ?_
        exact j7 _ hF
      refine g_ifz hK 107 .le (16) 123 (t1 := 123) (t2 := 110) (by decide +kernel) (by decide) rfl rfl (fun (hc14 : r2 ≤ 0) => ?_) (fun (hc14 : ¬ (r2 ≤ 0)) => ?_)
      · have hF := ite_t hc14 hF
        exact j5 _ hF
      · have hF := ite_f hc14 hF
        refine g_seg hK [.aload_n 0, .iload_n 1, .iconst 2] 110 113 (L1 := [(0, vR 54), (1, vI x1)]) (st1 := [vI 2, vI x1, vR 54]) (h1 := h) (P := True ∧ True ∧ True ∧ True) (by decide +kernel) rfl rfl ⟨trivial, trivial, trivial, trivial⟩ ?_
        obtain ⟨r15, e16, hF⟩ := ob1_elim hF
        refine g_callV1 hK 113 67 (d1 := 2) (ci := 5) (i := 54) (vs := [vI x1, vI 2]) (rest := []) (h1 := h) (r := vI r15) my_yX5_linesOf vw_X5_67 (by decide) (T_V_linesOf (p1 := x1) (p2 := 2) (h := h) (hF := e16)) rfl rfl rfl (Nat.le_of_ble_eq_true rfl) (by decide +kernel) ?_
        refine g_ifz hK 116 .le (7) 123 (t1 := 123) (t2 := 119) (by decide +kernel) (by decide) rfl rfl (fun (hc17 : r15 ≤ 0) => ?_) (fun (hc17 : ¬ (r15 ≤ 0)) => ?_)
        · have hF := ite_t hc17 hF
          exact j5 _ hF
        · have hF := ite_f hc17 hF
          refine g_seg hK [.iconst 1] 119 120 (L1 := [(0, vR 54), (1, vI x1)]) (st1 := [vI 1]) (h1 := h) (P := True ∧ True) (by decide +kernel) rfl rfl ⟨trivial, trivial⟩ ?_
          refine g_goto hK 120 (4) 124 (by decide +kernel) (by decide) ?_
          exact j7 _ hF
    · have hF := ite_f hc1 hF
      cases hF
      exact hE
set_option maxHeartbeats 4000000 in
set_option maxRecDepth 100000 in
theorem T_V_findHunks {h : MH} {h' : MH} (hF : F_V_findHunks h = some h') : CON 3 yX5_findHunks cX5_findHunks 3 none [vR 54] h none h' := by
  refine con_of (own := RX5) (fl := flX5) (by decide +kernel) rfl flok_X5 rfl (Nat.le_of_ble_eq_true rfl) ?_
  intro K hK hR
  show K 0 [(0, vR 54)] [] h
  unfold F_V_findHunks at hF
  refine g_seg hK [.aload_n 0, .getfield 23] 0 4 (L1 := [(0, vR 54)]) (st1 := [vR 59]) (h1 := h) (P := True ∧ kd 54 = 7 ∧ True) (by decide +kernel) rfl rfl ⟨trivial, rfl, trivial⟩ ?_
  refine g_callV0 hK 4 38 (d1 := 0) (ci := 3) (i := 59) (vs := []) (rest := []) (h1 := (F_Ro_emptyOut 59 h)) my_yX3_emptyOut vw_X5_38 (by decide) (T_Ro_emptyOut (o := 59) (h := h) (ko := rfl) (hF := rfl)) rfl rfl rfl (Nat.le_of_ble_eq_true rfl) (by decide +kernel) ?_
  refine g_seg hK [.aload_n 0, .getfield 26] 7 11 (L1 := [(0, vR 54)]) (st1 := [vR 61]) (h1 := (F_Ro_emptyOut 59 h)) (P := True ∧ kd 54 = 7 ∧ True) (by decide +kernel) rfl rfl ⟨trivial, rfl, trivial⟩ ?_
  refine g_callV0 hK 11 38 (d1 := 0) (ci := 3) (i := 61) (vs := []) (rest := []) (h1 := (F_Ro_emptyOut 61 (F_Ro_emptyOut 59 h))) my_yX3_emptyOut vw_X5_38 (by decide) (T_Ro_emptyOut (o := 61) (h := (F_Ro_emptyOut 59 h)) (ko := rfl) (hF := rfl)) rfl rfl rfl (Nat.le_of_ble_eq_true rfl) (by decide +kernel) ?_
  refine g_seg hK [.aload_n 0, .getfield 29] 14 18 (L1 := [(0, vR 54)]) (st1 := [vR 63]) (h1 := (F_Ro_emptyOut 61 (F_Ro_emptyOut 59 h))) (P := True ∧ kd 54 = 7 ∧ True) (by decide +kernel) rfl rfl ⟨trivial, rfl, trivial⟩ ?_
  refine g_callV0 hK 18 38 (d1 := 0) (ci := 3) (i := 63) (vs := []) (rest := []) (h1 := (F_Ro_emptyOut 63 (F_Ro_emptyOut 61 (F_Ro_emptyOut 59 h)))) my_yX3_emptyOut vw_X5_38 (by decide) (T_Ro_emptyOut (o := 63) (h := (F_Ro_emptyOut 61 (F_Ro_emptyOut 59 h))) (ko := rfl) (hF := rfl)) rfl rfl rfl (Nat.le_of_ble_eq_true rfl) (by decide +kernel) ?_
  refine g_seg hK [.iconst 0, .istore_n 1] 21 23 (L1 := [(1, vI 0), (0, vR 54)]) (st1 := []) (h1 := (F_Ro_emptyOut 63 (F_Ro_emptyOut 61 (F_Ro_emptyOut 59 h)))) (P := True ∧ True ∧ True) (by decide +kernel) rfl rfl ⟨trivial, trivial, trivial⟩ ?_
  refine hK.2.1 _ _ ([(0, vR 54), (1, vI 0)]) _ _ (sub_of [1, 0] rfl) ?_
  obtain ⟨x1_1, h2, e3, hF⟩ := ob2_elim hF
  refine LT_V_findHunks_L23 hK _ _ _ _ _ e3 ?_
  refine g_seg hK [.iconst 0, .istore_n 1] 91 93 (L1 := [(1, vI 0), (0, vR 54)]) (st1 := []) (h1 := h2) (P := True ∧ True ∧ True) (by decide +kernel) rfl rfl ⟨trivial, trivial, trivial⟩ ?_
  refine hK.2.1 _ _ ([(0, vR 54), (1, vI 0)]) _ _ (sub_of [1, 0] rfl) ?_
  obtain ⟨x1_4, h5, e6, hF⟩ := ob2_elim hF
  refine LT_V_findHunks_L93 hK _ _ _ _ _ e6 ?_
  cases hF
  exact hR.2.2.2.2 147 _ _ (by decide +kernel) rfl ⟨rfl, rfl⟩
set_option maxHeartbeats 4000000 in
set_option maxRecDepth 100000 in
theorem LT_V_gather_L40 {K : KT} (hK : Rules RX5 cX5_gather 9 none flX5 4 K) {x1 : Nat} {x2 : Nat} {x4 : Int} (kx1 : kd x1 = 5) (kx2 : kd x2 = 5) : ∀ (n : Nat) (x5 : Int) (x6 : Int) (x7 : Int) (h : MH) (x5' : Int) (x6' : Int) (x7' : Int) (h' : MH), F_V_gather_L40 x1 x2 x4 n x5 x6 x7 h = some (x5', x6', x7', h') → K 144 [(0, vR 54), (1, vR x1), (2, vR x2), (3, vR 49), (4, vI x4), (5, vI x5'), (6, vI x6'), (7, vI x7')] [] h' → K 40 [(0, vR 54), (1, vR x1), (2, vR x2), (3, vR 49), (4, vI x4), (5, vI x5), (6, vI x6), (7, vI x7)] [] h := by
  intro n
  induction n with
  | zero =>
    intro x5 x6 x7 h x5' x6' x7' h' hF
    cases hF
  | succ n ih =>
    intro x5 x6 x7 h x5' x6' x7' h' hF hE
    unfold F_V_gather_L40 at hF
    refine g_seg hK [.iload 7, .iload 4] 40 44 (L1 := [(0, vR 54), (1, vR x1), (2, vR x2), (3, vR 49), (4, vI x4), (5, vI x5), (6, vI x6), (7, vI x7)]) (st1 := [vI x4, vI x7]) (h1 := h) (P := True ∧ True ∧ True) (by decide +kernel) rfl rfl ⟨trivial, trivial, trivial⟩ ?_
    refine g_icmp hK 44 .ge (100) 144 (t1 := 47) (t2 := 144) (by decide +kernel) (by decide) rfl rfl (fun (hc1 : x7 < x4) => ?_) (fun (hc1 : ¬ (x7 < x4)) => ?_)
    · have hF := ite_t hc1 hF
      refine g_seg hK [.iload 5, .iload 6, .iadd, .iload 4] 47 54 (L1 := [(0, vR 54), (1, vR x1), (2, vR x2), (3, vR 49), (4, vI x4), (5, vI x5), (6, vI x6), (7, vI x7)]) (st1 := [vI x4, vI (wr (x5 + x6))]) (h1 := h) (P := True ∧ True ∧ True ∧ True ∧ True) (by decide +kernel) rfl rfl ⟨trivial, trivial, trivial, trivial, trivial⟩ ?_
      refine g_icmp hK 54 .ge (90) 144 (t1 := 57) (t2 := 144) (by decide +kernel) (by decide) rfl rfl (fun (hc2 : wr (x5 + x6) < x4) => ?_) (fun (hc2 : ¬ (wr (x5 + x6) < x4)) => ?_)
      · have hF := ite_t hc2 hF
        refine g_seg hK [.aload_n 3, .aload_n 1, .aload_n 2, .iload 5, .iload 6] 57 64 (L1 := [(0, vR 54), (1, vR x1), (2, vR x2), (3, vR 49), (4, vI x4), (5, vI x5), (6, vI x6), (7, vI x7)]) (st1 := [vI x6, vI x5, vR x2, vR x1, vR 49]) (h1 := h) (P := True ∧ True ∧ True ∧ True ∧ True ∧ True) (by decide +kernel) rfl rfl ⟨trivial, trivial, trivial, trivial, trivial, trivial⟩ ?_
        refine g_callV1 hK 64 45 (d1 := 2) (ci := 0) (i := 49) (vs := [vR x1, vR x2, vI x5, vI x6]) (rest := []) (h1 := h) (r := vI (F_C_step x1 x2 x5 x6 h)) my_yX0_step vw_X5_45 (by decide) (T_C_step (p1 := x1) (p2 := x2) (p3 := x5) (p4 := x6) (h := h) (kp1 := kx1) (kp2 := kx2) (hF := rfl)) rfl rfl rfl (Nat.le_of_ble_eq_true rfl) (by decide +kernel) ?_
        refine g_seg hK [.istore 8, .aload_n 0, .getfield 14, .iload 8] 67 75 (L1 := [(8, vI (F_C_step x1 x2 x5 x6 h)), (0, vR 54), (1, vR x1), (2, vR x2), (3, vR 49), (4, vI x4), (5, vI x5), (6, vI x6), (7, vI x7)]) (st1 := [vI (F_C_step x1 x2 x5 x6 h), vR 55]) (h1 := h) (P := True ∧ True ∧ kd 54 = 7 ∧ True ∧ True) (by decide +kernel) rfl rfl ⟨trivial, trivial, rfl, trivial, trivial⟩ ?_
        refine g_callV0 hK 75 49 (d1 := 0) (ci := 3) (i := 55) (vs := [vI (F_C_step x1 x2 x5 x6 h)]) (rest := []) (h1 := (F_Ro_add 55 (F_C_step x1 x2 x5 x6 h) h)) my_yX3_add vw_X5_49 (by decide) (T_Ro_add (o := 55) (p1 := (F_C_step x1 x2 x5 x6 h)) (h := h) (ko := rfl) (hF := rfl)) rfl rfl rfl (Nat.le_of_ble_eq_true rfl) (by decide +kernel) ?_
        refine g_seg hK [.aload_n 0, .getfield 20, .iload 8, .iconst 2] 78 85 (L1 := [(8, vI (F_C_step x1 x2 x5 x6 h)), (0, vR 54), (1, vR x1), (2, vR x2), (3, vR 49), (4, vI x4), (5, vI x5), (6, vI x6), (7, vI x7)]) (st1 := [vI 2, vI (F_C_step x1 x2 x5 x6 h), vR 57]) (h1 := (F_Ro_add 55 (F_C_step x1 x2 x5 x6 h) h)) (P := True ∧ kd 54 = 7 ∧ True ∧ True ∧ True) (by decide +kernel) rfl rfl ⟨trivial, rfl, trivial, trivial, trivial⟩ ?_
        obtain ⟨s3, e14, hF⟩ := jn1_elim hF
        have j4 : K 103 [(0, vR 54), (1, vR x1), (2, vR x2), (3, vR 49), (4, vI x4), (5, vI x5), (6, vI x6), (7, vI x7), (8, vI (F_C_step x1 x2 x5 x6 h))] [vI s3, vR 57] (F_Ro_add 55 (F_C_step x1 x2 x5 x6 h) h) := by
          refine g_callV0 hK 103 49 (d1 := 0) (ci := 3) (i := 57) (vs := [vI s3]) (rest := []) (h1 := (F_Ro_add 57 s3 (F_Ro_add 55 (F_C_step x1 x2 x5 x6 h) h))) my_yX3_add vw_X5_49 (by decide) (T_Ro_add (o := 57) (p1 := s3) (h := (F_Ro_add 55 (F_C_step x1 x2 x5 x6 h) h)) (ko := rfl) (hF := rfl)) rfl rfl rfl (Nat.le_of_ble_eq_true rfl) (by decide +kernel) ?_
          refine g_seg hK [.iload 5, .iload 8, .iconst 2] 106 111 (L1 := [(0, vR 54), (1, vR x1), (2, vR x2), (3, vR 49), (4, vI x4), (5, vI x5), (6, vI x6), (7, vI x7), (8, vI (F_C_step x1 x2 x5 x6 h))]) (st1 := [vI 2, vI (F_C_step x1 x2 x5 x6 h), vI x5]) (h1 := (F_Ro_add 57 s3 (F_Ro_add 55 (F_C_step x1 x2 x5 x6 h) h))) (P := True ∧ True ∧ True ∧ True) (by decide +kernel) rfl rfl ⟨trivial, trivial, trivial, trivial⟩ ?_
          obtain ⟨s6, e13, hF⟩ := jn1_elim hF
          have j7 : K 119 [(0, vR 54), (1, vR x1), (2, vR x2), (3, vR 49), (4, vI x4), (6, vI x6), (7, vI x7), (8, vI (F_C_step x1 x2 x5 x6 h))] [vI s6, vI x5] (F_Ro_add 57 s3 (F_Ro_add 55 (F_C_step x1 x2 x5 x6 h) h)) := by
            refine g_seg hK [.iadd, .istore 5, .iload 6, .iload 8, .iconst 1] 119 127 (L1 := [(5, vI (wr (x5 + s6))), (0, vR 54), (1, vR x1), (2, vR x2), (3, vR 49), (4, vI x4), (6, vI x6), (7, vI x7), (8, vI (F_C_step x1 x2 x5 x6 h))]) (st1 := [vI 1, vI (F_C_step x1 x2 x5 x6 h), vI x6]) (h1 := (F_Ro_add 57 s3 (F_Ro_add 55 (F_C_step x1 x2 x5 x6 h) h))) (P := True ∧ True ∧ True ∧ True ∧ True ∧ True) (by decide +kernel) rfl rfl ⟨trivial, trivial, trivial, trivial, trivial, trivial⟩ ?_
            obtain ⟨s9, e12, hF⟩ := jn1_elim hF
            have j10 : K 135 [(0, vR 54), (1, vR x1), (2, vR x2), (3, vR 49), (4, vI x4), (5, vI (wr (x5 + s6))), (7, vI x7)] [vI s9, vI x6] (F_Ro_add 57 s3 (F_Ro_add 55 (F_C_step x1 x2 x5 x6 h) h)) := by
              refine g_seg hK [.iadd, .istore 6, .iinc 7 1] 135 141 (L1 := [(7, vI (wr (x7 + 1))), (6, vI (wr (x6 + s9))), (0, vR 54), (1, vR x1), (2, vR x2), (3, vR 49), (4, vI x4), (5, vI (wr (x5 + s6)))]) (st1 := []) (h1 := (F_Ro_add 57 s3 (F_Ro_add 55 (F_C_step x1 x2 x5 x6 h) h))) (P := True ∧ True ∧ True ∧ True) (by decide +kernel) rfl rfl ⟨trivial, trivial, trivial, trivial⟩ ?_
              refine g_goto hK 141 (-101) 40 (by decide +kernel) (by decide) ?_
              refine hK.2.1 _ _ ([(0, vR 54), (1, vR x1), (2, vR x2), (3, vR 49), (4, vI x4), (5, vI (wr (x5 + s6))), (6, vI (wr (x6 + s9))), (7, vI (wr (x7 + 1)))]) _ _ (sub_of [2, 3, 4, 5, 6, 7, 1, 0] rfl) ?_
              exact ih _ _ _ _ _ _ _ _ hF hE
            clear hF
            have hF := e12
            refine g_icmp hK 127 .ne (7) 134 (t1 := 130) (t2 := 134) (by decide +kernel) (by decide) rfl rfl (fun (hc11 : F_C_step x1 x2 x5 x6 h = 1) => ?_) (fun (hc11 : ¬ (F_C_step x1 x2 x5 x6 h = 1)) => ?_)
            · have hF := ite_t hc11 hF
              refine g_seg hK [.iconst 0] 130 131 (L1 := [(5, vI (wr (x5 + s6))), (0, vR 54), (1, vR x1), (2, vR x2), (3, vR 49), (4, vI x4), (6, vI x6), (7, vI x7), (8, vI (F_C_step x1 x2 x5 x6 h))]) (st1 := [vI 0, vI x6]) (h1 := (F_Ro_add 57 s3 (F_Ro_add 55 (F_C_step x1 x2 x5 x6 h) h))) (P := True ∧ True) (by decide +kernel) rfl rfl ⟨trivial, trivial⟩ ?_
              refine g_goto hK 131 (4) 135 (by decide +kernel) (by decide) ?_
              refine hK.2.1 _ _ ([(0, vR 54), (1, vR x1), (2, vR x2), (3, vR 49), (4, vI x4), (5, vI (wr (x5 + s6))), (7, vI x7)]) _ _ (sub_of [1, 2, 3, 4, 5, 0, 7] rfl) ?_
              cases hF
              exact j10
            · have hF := ite_f hc11 hF
              refine g_seg hK [.iconst 1] 134 135 (L1 := [(5, vI (wr (x5 + s6))), (0, vR 54), (1, vR x1), (2, vR x2), (3, vR 49), (4, vI x4), (6, vI x6), (7, vI x7), (8, vI (F_C_step x1 x2 x5 x6 h))]) (st1 := [vI 1, vI x6]) (h1 := (F_Ro_add 57 s3 (F_Ro_add 55 (F_C_step x1 x2 x5 x6 h) h))) (P := True ∧ True) (by decide +kernel) rfl rfl ⟨trivial, trivial⟩ ?_
              refine hK.2.1 _ _ ([(0, vR 54), (1, vR x1), (2, vR x2), (3, vR 49), (4, vI x4), (5, vI (wr (x5 + s6))), (7, vI x7)]) _ _ (sub_of [1, 2, 3, 4, 5, 0, 7] rfl) ?_
              cases hF
              exact j10
          clear hF
          have hF := e13
          refine g_icmp hK 111 .ne (7) 118 (t1 := 114) (t2 := 118) (by decide +kernel) (by decide) rfl rfl (fun (hc8 : F_C_step x1 x2 x5 x6 h = 2) => ?_) (fun (hc8 : ¬ (F_C_step x1 x2 x5 x6 h = 2)) => ?_)
          · have hF := ite_t hc8 hF
            refine g_seg hK [.iconst 0] 114 115 (L1 := [(0, vR 54), (1, vR x1), (2, vR x2), (3, vR 49), (4, vI x4), (5, vI x5), (6, vI x6), (7, vI x7), (8, vI (F_C_step x1 x2 x5 x6 h))]) (st1 := [vI 0, vI x5]) (h1 := (F_Ro_add 57 s3 (F_Ro_add 55 (F_C_step x1 x2 x5 x6 h) h))) (P := True ∧ True) (by decide +kernel) rfl rfl ⟨trivial, trivial⟩ ?_
            refine g_goto hK 115 (4) 119 (by decide +kernel) (by decide) ?_
            refine hK.2.1 _ _ ([(0, vR 54), (1, vR x1), (2, vR x2), (3, vR 49), (4, vI x4), (6, vI x6), (7, vI x7), (8, vI (F_C_step x1 x2 x5 x6 h))]) _ _ (sub_of [0, 1, 2, 3, 4, 6, 7, 8] rfl) ?_
            cases hF
            exact j7
          · have hF := ite_f hc8 hF
            refine g_seg hK [.iconst 1] 118 119 (L1 := [(0, vR 54), (1, vR x1), (2, vR x2), (3, vR 49), (4, vI x4), (5, vI x5), (6, vI x6), (7, vI x7), (8, vI (F_C_step x1 x2 x5 x6 h))]) (st1 := [vI 1, vI x5]) (h1 := (F_Ro_add 57 s3 (F_Ro_add 55 (F_C_step x1 x2 x5 x6 h) h))) (P := True ∧ True) (by decide +kernel) rfl rfl ⟨trivial, trivial⟩ ?_
            refine hK.2.1 _ _ ([(0, vR 54), (1, vR x1), (2, vR x2), (3, vR 49), (4, vI x4), (6, vI x6), (7, vI x7), (8, vI (F_C_step x1 x2 x5 x6 h))]) _ _ (sub_of [0, 1, 2, 3, 4, 6, 7, 8] rfl) ?_
            cases hF
            exact j7
        clear hF
        have hF := e14
        refine g_icmp hK 85 .ne (12) 97 (t1 := 88) (t2 := 97) (by decide +kernel) (by decide) rfl rfl (fun (hc5 : F_C_step x1 x2 x5 x6 h = 2) => ?_) (fun (hc5 : ¬ (F_C_step x1 x2 x5 x6 h = 2)) => ?_)
        · have hF := ite_t hc5 hF
          refine g_seg hK [.aload_n 2, .iload 6] 88 91 (L1 := [(8, vI (F_C_step x1 x2 x5 x6 h)), (0, vR 54), (1, vR x1), (2, vR x2), (3, vR 49), (4, vI x4), (5, vI x5), (6, vI x6), (7, vI x7)]) (st1 := [vI x6, vR x2, vR 57]) (h1 := (F_Ro_add 55 (F_C_step x1 x2 x5 x6 h) h)) (P := True ∧ True ∧ True) (by decide +kernel) rfl rfl ⟨trivial, trivial, trivial⟩ ?_
          refine g_callV1 hK 91 52 (d1 := 0) (ci := 3) (i := x2) (vs := [vI x6]) (rest := [vR 57]) (h1 := (F_Ro_add 55 (F_C_step x1 x2 x5 x6 h) h)) (r := vI (F_Ro_at x2 x6 (F_Ro_add 55 (F_C_step x1 x2 x5 x6 h) h))) my_yX3_at vw_X5_52 (by decide) (T_Ro_at (o := x2) (p1 := x6) (h := (F_Ro_add 55 (F_C_step x1 x2 x5 x6 h) h)) (ko := kx2) (hF := rfl)) kx2 rfl rfl (Nat.le_of_ble_eq_true rfl) (by decide +kernel) ?_
          refine g_goto hK 94 (9) 103 (by decide +kernel) (by decide) ?_
          refine hK.2.1 _ _ ([(0, vR 54), (1, vR x1), (2, vR x2), (3, vR 49), (4, vI x4), (5, vI x5), (6, vI x6), (7, vI x7), (8, vI (F_C_step x1 x2 x5 x6 h))]) _ _ (sub_of [1, 2, 3, 4, 5, 6, 7, 8, 0] rfl) ?_
          cases hF
          exact j4
        · have hF := ite_f hc5 hF
          refine g_seg hK [.aload_n 1, .iload 5] 97 100 (L1 := [(8, vI (F_C_step x1 x2 x5 x6 h)), (0, vR 54), (1, vR x1), (2, vR x2), (3, vR 49), (4, vI x4), (5, vI x5), (6, vI x6), (7, vI x7)]) (st1 := [vI x5, vR x1, vR 57]) (h1 := (F_Ro_add 55 (F_C_step x1 x2 x5 x6 h) h)) (P := True ∧ True ∧ True) (by decide +kernel) rfl rfl ⟨trivial, trivial, trivial⟩ ?_
          refine g_callV1 hK 100 52 (d1 := 0) (ci := 3) (i := x1) (vs := [vI x5]) (rest := [vR 57]) (h1 := (F_Ro_add 55 (F_C_step x1 x2 x5 x6 h) h)) (r := vI (F_Ro_at x1 x5 (F_Ro_add 55 (F_C_step x1 x2 x5 x6 h) h))) my_yX3_at vw_X5_52 (by decide) (T_Ro_at (o := x1) (p1 := x5) (h := (F_Ro_add 55 (F_C_step x1 x2 x5 x6 h) h)) (ko := kx1) (hF := rfl)) kx1 rfl rfl (Nat.le_of_ble_eq_true rfl) (by decide +kernel) ?_
          refine hK.2.1 _ _ ([(0, vR 54), (1, vR x1), (2, vR x2), (3, vR 49), (4, vI x4), (5, vI x5), (6, vI x6), (7, vI x7), (8, vI (F_C_step x1 x2 x5 x6 h))]) _ _ (sub_of [1, 2, 3, 4, 5, 6, 7, 8, 0] rfl) ?_
          cases hF
          exact j4
      · have hF := ite_f hc2 hF
        cases hF
        exact hE
    · have hF := ite_f hc1 hF
      cases hF
      exact hE
set_option maxHeartbeats 4000000 in
set_option maxRecDepth 100000 in
theorem T_V_gather {p1 : Nat} {p2 : Nat} {h : MH} {h' : MH} (kp1 : kd p1 = 5) (kp2 : kd p2 = 5) (hF : F_V_gather p1 p2 h = some h') : CON 4 yX5_gather cX5_gather 9 none [vR 54, vR p1, vR p2, vR 49] h none h' := by
  refine con_of (own := RX5) (fl := flX5) (by decide +kernel) rfl flok_X5 rfl (Nat.le_of_ble_eq_true rfl) ?_
  intro K hK hR
  show K 0 [(0, vR 54), (1, vR p1), (2, vR p2), (3, vR 49)] [] h
  unfold F_V_gather at hF
  refine g_seg hK [.aload_n 3, .aload_n 1, .aload_n 2] 0 3 (L1 := [(0, vR 54), (1, vR p1), (2, vR p2), (3, vR 49)]) (st1 := [vR p2, vR p1, vR 49]) (h1 := h) (P := True ∧ True ∧ True ∧ True) (by decide +kernel) rfl rfl ⟨trivial, trivial, trivial, trivial⟩ ?_
  obtain ⟨h1, e2, hF⟩ := ob1_elim hF
  refine g_callV0 hK 3 32 (d1 := 2) (ci := 0) (i := 49) (vs := [vR p1, vR p2]) (rest := []) (h1 := h1) my_yX0_compare vw_X5_32 (by decide) (T_C_compare (p1 := p1) (p2 := p2) (h := h) (kp1 := kp1) (kp2 := kp2) (hF := e2)) rfl rfl rfl (Nat.le_of_ble_eq_true rfl) (by decide +kernel) ?_
  refine g_seg hK [.aload_n 0, .getfield 14] 6 10 (L1 := [(0, vR 54), (1, vR p1), (2, vR p2), (3, vR 49)]) (st1 := [vR 55]) (h1 := h1) (P := True ∧ kd 54 = 7 ∧ True) (by decide +kernel) rfl rfl ⟨trivial, rfl, trivial⟩ ?_
  refine g_callV0 hK 10 38 (d1 := 0) (ci := 3) (i := 55) (vs := []) (rest := []) (h1 := (F_Ro_emptyOut 55 h1)) my_yX3_emptyOut vw_X5_38 (by decide) (T_Ro_emptyOut (o := 55) (h := h1) (ko := rfl) (hF := rfl)) rfl rfl rfl (Nat.le_of_ble_eq_true rfl) (by decide +kernel) ?_
  refine g_seg hK [.aload_n 0, .getfield 20] 13 17 (L1 := [(0, vR 54), (1, vR p1), (2, vR p2), (3, vR 49)]) (st1 := [vR 57]) (h1 := (F_Ro_emptyOut 55 h1)) (P := True ∧ kd 54 = 7 ∧ True) (by decide +kernel) rfl rfl ⟨trivial, rfl, trivial⟩ ?_
  refine g_callV0 hK 17 38 (d1 := 0) (ci := 3) (i := 57) (vs := []) (rest := []) (h1 := (F_Ro_emptyOut 57 (F_Ro_emptyOut 55 h1))) my_yX3_emptyOut vw_X5_38 (by decide) (T_Ro_emptyOut (o := 57) (h := (F_Ro_emptyOut 55 h1)) (ko := rfl) (hF := rfl)) rfl rfl rfl (Nat.le_of_ble_eq_true rfl) (by decide +kernel) ?_
  refine g_seg hK [.aload_n 1] 20 21 (L1 := [(0, vR 54), (1, vR p1), (2, vR p2), (3, vR 49)]) (st1 := [vR p1]) (h1 := (F_Ro_emptyOut 57 (F_Ro_emptyOut 55 h1))) (P := True ∧ True) (by decide +kernel) rfl rfl ⟨trivial, trivial⟩ ?_
  refine g_callV1 hK 21 41 (d1 := 0) (ci := 3) (i := p1) (vs := []) (rest := []) (h1 := (F_Ro_emptyOut 57 (F_Ro_emptyOut 55 h1))) (r := vI (F_Ro_size p1 (F_Ro_emptyOut 57 (F_Ro_emptyOut 55 h1)))) my_yX3_size vw_X5_41 (by decide) (T_Ro_size (o := p1) (h := (F_Ro_emptyOut 57 (F_Ro_emptyOut 55 h1))) (ko := kp1) (hF := rfl)) kp1 rfl rfl (Nat.le_of_ble_eq_true rfl) (by decide +kernel) ?_
  refine g_seg hK [.aload_n 2] 24 25 (L1 := [(0, vR 54), (1, vR p1), (2, vR p2), (3, vR 49)]) (st1 := [vR p2, vI (F_Ro_size p1 (F_Ro_emptyOut 57 (F_Ro_emptyOut 55 h1)))]) (h1 := (F_Ro_emptyOut 57 (F_Ro_emptyOut 55 h1))) (P := True ∧ True) (by decide +kernel) rfl rfl ⟨trivial, trivial⟩ ?_
  refine g_callV1 hK 25 41 (d1 := 0) (ci := 3) (i := p2) (vs := []) (rest := [vI (F_Ro_size p1 (F_Ro_emptyOut 57 (F_Ro_emptyOut 55 h1)))]) (h1 := (F_Ro_emptyOut 57 (F_Ro_emptyOut 55 h1))) (r := vI (F_Ro_size p2 (F_Ro_emptyOut 57 (F_Ro_emptyOut 55 h1)))) my_yX3_size vw_X5_41 (by decide) (T_Ro_size (o := p2) (h := (F_Ro_emptyOut 57 (F_Ro_emptyOut 55 h1))) (ko := kp2) (hF := rfl)) kp2 rfl rfl (Nat.le_of_ble_eq_true rfl) (by decide +kernel) ?_
  refine g_seg hK [.iadd, .istore 4, .iconst 0, .istore 5, .iconst 0, .istore 6, .iconst 0, .istore 7] 28 40 (L1 := [(7, vI 0), (6, vI 0), (5, vI 0), (4, vI (wr ((F_Ro_size p1 (F_Ro_emptyOut 57 (F_Ro_emptyOut 55 h1))) + (F_Ro_size p2 (F_Ro_emptyOut 57 (F_Ro_emptyOut 55 h1)))))), (0, vR 54), (1, vR p1), (2, vR p2), (3, vR 49)]) (st1 := []) (h1 := (F_Ro_emptyOut 57 (F_Ro_emptyOut 55 h1))) (P := True ∧ True ∧ True ∧ True ∧ True ∧ True ∧ True ∧ True ∧ True) (by decide +kernel) rfl rfl ⟨trivial, trivial, trivial, trivial, trivial, trivial, trivial, trivial, trivial⟩ ?_
  refine hK.2.1 _ _ ([(0, vR 54), (1, vR p1), (2, vR p2), (3, vR 49), (4, vI (wr ((F_Ro_size p1 (F_Ro_emptyOut 57 (F_Ro_emptyOut 55 h1))) + (F_Ro_size p2 (F_Ro_emptyOut 57 (F_Ro_emptyOut 55 h1)))))), (5, vI 0), (6, vI 0), (7, vI 0)]) _ _ (sub_of [4, 5, 6, 7, 3, 2, 1, 0] rfl) ?_
  obtain ⟨x5_3, x6_4, x7_5, h6, e7, hF⟩ := ob4_elim hF
  refine LT_V_gather_L40 hK (kx1 := kp1) (kx2 := kp2) _ _ _ _ _ _ _ _ _ e7 ?_
  refine g_seg hK [.aload_n 0] 144 145 (L1 := [(0, vR 54), (1, vR p1), (2, vR p2), (3, vR 49), (4, vI (wr ((F_Ro_size p1 (F_Ro_emptyOut 57 (F_Ro_emptyOut 55 h1))) + (F_Ro_size p2 (F_Ro_emptyOut 57 (F_Ro_emptyOut 55 h1)))))), (5, vI x5_3), (6, vI x6_4), (7, vI x7_5)]) (st1 := [vR 54]) (h1 := h6) (P := True ∧ True) (by decide +kernel) rfl rfl ⟨trivial, trivial⟩ ?_
  obtain ⟨h8, e9, hF⟩ := ob1_elim hF
  refine g_callV0 hK 145 56 (d1 := 3) (ci := 5) (i := 54) (vs := []) (rest := []) (h1 := h8) my_yX5_findHunks vw_X5_56 (by decide) (T_V_findHunks (h := h6) (hF := e9)) rfl rfl rfl (Nat.le_of_ble_eq_true rfl) (by decide +kernel) ?_
  cases hF
  exact hR.2.2.2.2 148 _ _ (by decide +kernel) rfl ⟨rfl, rfl⟩
set_option maxHeartbeats 4000000 in
set_option maxRecDepth 100000 in
theorem T_V_isPlain {p1 : Int} {h : MH} {r : Int} (hF : F_V_isPlain p1 h = r) : CON 1 yX5_isPlain cX5_isPlain 2 (Option.some Jvm.ClassFile.FieldType.boolean) [vR 54, vI p1] h (some (vI r)) h := by
  refine con_of (own := RX5) (fl := flX5) (by decide +kernel) rfl flok_X5 rfl (Nat.le_of_ble_eq_true rfl) ?_
  intro K hK hR
  show K 0 [(0, vR 54), (1, vI p1)] [] h
  unfold F_V_isPlain at hF
  refine g_seg hK [.aload_n 0, .getfield 29, .iload_n 1] 0 5 (L1 := [(0, vR 54), (1, vI p1)]) (st1 := [vI p1, vR 63]) (h1 := h) (P := True ∧ kd 54 = 7 ∧ True ∧ True) (by decide +kernel) rfl rfl ⟨trivial, rfl, trivial, trivial⟩ ?_
  refine g_callV1 hK 5 52 (d1 := 0) (ci := 3) (i := 63) (vs := [vI p1]) (rest := []) (h1 := h) (r := vI (F_Ro_at 63 p1 h)) my_yX3_at vw_X5_52 (by decide) (T_Ro_at (o := 63) (p1 := p1) (h := h) (ko := rfl) (hF := rfl)) rfl rfl rfl (Nat.le_of_ble_eq_true rfl) (by decide +kernel) ?_
  refine g_seg hK [.iconst 1] 8 9 (L1 := [(0, vR 54), (1, vI p1)]) (st1 := [vI 1, vI (F_Ro_at 63 p1 h)]) (h1 := h) (P := True ∧ True) (by decide +kernel) rfl rfl ⟨trivial, trivial⟩ ?_
  refine g_icmp hK 9 .ne (7) 16 (t1 := 12) (t2 := 16) (by decide +kernel) (by decide) rfl rfl (fun (hc1 : F_Ro_at 63 p1 h = 1) => ?_) (fun (hc1 : ¬ (F_Ro_at 63 p1 h = 1)) => ?_)
  · have hF := ite_t hc1 hF
    refine g_seg hK [.iconst 1] 12 13 (L1 := [(0, vR 54), (1, vI p1)]) (st1 := [vI 1]) (h1 := h) (P := True ∧ True) (by decide +kernel) rfl rfl ⟨trivial, trivial⟩ ?_
    refine g_goto hK 13 (4) 17 (by decide +kernel) (by decide) ?_
    cases hF
    exact hR.2.1 17 _ _ _ (by decide +kernel) rfl (by decide) ⟨rfl, rfl⟩
  · have hF := ite_f hc1 hF
    refine g_seg hK [.iconst 0] 16 17 (L1 := [(0, vR 54), (1, vI p1)]) (st1 := [vI 0]) (h1 := h) (P := True ∧ True) (by decide +kernel) rfl rfl ⟨trivial, trivial⟩ ?_
    cases hF
    exact hR.2.1 17 _ _ _ (by decide +kernel) rfl (by decide) ⟨rfl, rfl⟩
set_option maxHeartbeats 4000000 in
set_option maxRecDepth 100000 in
theorem T_V_barAt {p1 : Int} {p2 : Int} {p3 : Int} {h : MH} {r : Int} (hF : F_V_barAt p1 p2 p3 h = r) : CON 1 yX5_barAt cX5_barAt 6 (Option.some Jvm.ClassFile.FieldType.int) [vR 54, vI p1, vI p2, vI p3] h (some (vI r)) h := by
  refine con_of (own := RX5) (fl := flX5) (by decide +kernel) rfl flok_X5 rfl (Nat.le_of_ble_eq_true rfl) ?_
  intro K hK hR
  show K 0 [(0, vR 54), (1, vI p1), (2, vI p2), (3, vI p3)] [] h
  unfold F_V_barAt at hF
  refine g_seg hK [.aload_n 0, .getfield 20, .iload_n 3] 0 5 (L1 := [(0, vR 54), (1, vI p1), (2, vI p2), (3, vI p3)]) (st1 := [vI p3, vR 57]) (h1 := h) (P := True ∧ kd 54 = 7 ∧ True ∧ True) (by decide +kernel) rfl rfl ⟨trivial, rfl, trivial, trivial⟩ ?_
  obtain ⟨s1, e15, hF⟩ := jn1_elim hF
  have j2 : K 15 [(0, vR 54), (1, vI p1), (2, vI p2), (3, vI p3)] [vI s1, vR 57] h := by
    refine g_callV1 hK 15 52 (d1 := 0) (ci := 3) (i := 57) (vs := [vI s1]) (rest := []) (h1 := h) (r := vI (F_Ro_at 57 s1 h)) my_yX3_at vw_X5_52 (by decide) (T_Ro_at (o := 57) (p1 := s1) (h := h) (ko := rfl) (hF := rfl)) rfl rfl rfl (Nat.le_of_ble_eq_true rfl) (by decide +kernel) ?_
    refine g_seg hK [.istore 4, .aload_n 0, .getfield 20, .iload_n 3] 18 25 (L1 := [(4, vI (F_Ro_at 57 s1 h)), (0, vR 54), (1, vI p1), (2, vI p2), (3, vI p3)]) (st1 := [vI p3, vR 57]) (h1 := h) (P := True ∧ True ∧ kd 54 = 7 ∧ True ∧ True) (by decide +kernel) rfl rfl ⟨trivial, trivial, rfl, trivial, trivial⟩ ?_
    obtain ⟨s4, e14, hF⟩ := jn1_elim hF
    have j5 : K 35 [(0, vR 54), (1, vI p1), (2, vI p2), (3, vI p3), (4, vI (F_Ro_at 57 s1 h))] [vI s4, vR 57] h := by
      refine g_callV1 hK 35 52 (d1 := 0) (ci := 3) (i := 57) (vs := [vI s4]) (rest := []) (h1 := h) (r := vI (F_Ro_at 57 s4 h)) my_yX3_at vw_X5_52 (by decide) (T_Ro_at (o := 57) (p1 := s4) (h := h) (ko := rfl) (hF := rfl)) rfl rfl rfl (Nat.le_of_ble_eq_true rfl) (by decide +kernel) ?_
      refine g_seg hK [.istore 5, .iload 4, .iconst (-1)] 38 43 (L1 := [(5, vI (F_Ro_at 57 s4 h)), (0, vR 54), (1, vI p1), (2, vI p2), (3, vI p3), (4, vI (F_Ro_at 57 s1 h))]) (st1 := [vI (-1), vI (F_Ro_at 57 s1 h)]) (h1 := h) (P := True ∧ True ∧ True ∧ True) (by decide +kernel) rfl rfl ⟨trivial, trivial, trivial, trivial⟩ ?_
      refine g_icmp hK 43 .ne (5) 48 (t1 := 46) (t2 := 48) (by decide +kernel) (by decide) rfl rfl (fun (hc7 : F_Ro_at 57 s1 h = (-1)) => ?_) (fun (hc7 : ¬ (F_Ro_at 57 s1 h = (-1))) => ?_)
      · have hF := ite_t hc7 hF
        refine g_seg hK [.iconst 2] 46 47 (L1 := [(5, vI (F_Ro_at 57 s4 h)), (0, vR 54), (1, vI p1), (2, vI p2), (3, vI p3), (4, vI (F_Ro_at 57 s1 h))]) (st1 := [vI 2]) (h1 := h) (P := True ∧ True) (by decide +kernel) rfl rfl ⟨trivial, trivial⟩ ?_
        cases hF
        exact hR.1 47 _ _ _ (by decide +kernel) rfl ⟨rfl, rfl⟩
      · have hF := ite_f hc7 hF
        refine g_seg hK [.iload 4, .iload 5] 48 52 (L1 := [(5, vI (F_Ro_at 57 s4 h)), (0, vR 54), (1, vI p1), (2, vI p2), (3, vI p3), (4, vI (F_Ro_at 57 s1 h))]) (st1 := [vI (F_Ro_at 57 s4 h), vI (F_Ro_at 57 s1 h)]) (h1 := h) (P := True ∧ True ∧ True) (by decide +kernel) rfl rfl ⟨trivial, trivial, trivial⟩ ?_
        refine g_icmp hK 52 .eq (5) 57 (t1 := 57) (t2 := 55) (by decide +kernel) (by decide) rfl rfl (fun (hc8 : F_Ro_at 57 s1 h = F_Ro_at 57 s4 h) => ?_) (fun (hc8 : ¬ (F_Ro_at 57 s1 h = F_Ro_at 57 s4 h)) => ?_)
        · have hF := ite_t hc8 hF
          refine g_seg hK [.aload_n 0, .getfield 14, .iload_n 3] 57 62 (L1 := [(5, vI (F_Ro_at 57 s4 h)), (0, vR 54), (1, vI p1), (2, vI p2), (3, vI p3), (4, vI (F_Ro_at 57 s1 h))]) (st1 := [vI p3, vR 55]) (h1 := h) (P := True ∧ kd 54 = 7 ∧ True ∧ True) (by decide +kernel) rfl rfl ⟨trivial, rfl, trivial, trivial⟩ ?_
          obtain ⟨s9, e13, hF⟩ := jn1_elim hF
          have j10 : K 74 [] [vI s9, vR 55] h := by
            refine g_callV1 hK 74 52 (d1 := 0) (ci := 3) (i := 55) (vs := [vI s9]) (rest := []) (h1 := h) (r := vI (F_Ro_at 55 s9 h)) my_yX3_at vw_X5_52 (by decide) (T_Ro_at (o := 55) (p1 := s9) (h := h) (ko := rfl) (hF := rfl)) rfl rfl rfl (Nat.le_of_ble_eq_true rfl) (by decide +kernel) ?_
            refine g_ifz hK 77 .le (7) 84 (t1 := 84) (t2 := 80) (by decide +kernel) (by decide) rfl rfl (fun (hc12 : F_Ro_at 55 s9 h ≤ 0) => ?_) (fun (hc12 : ¬ (F_Ro_at 55 s9 h ≤ 0)) => ?_)
            · have hF := ite_t hc12 hF
              refine g_seg hK [.iconst 0] 84 85 (L1 := []) (st1 := [vI 0]) (h1 := h) (P := True ∧ True) (by decide +kernel) rfl rfl ⟨trivial, trivial⟩ ?_
              cases hF
              exact hR.1 85 _ _ _ (by decide +kernel) rfl ⟨rfl, rfl⟩
            · have hF := ite_f hc12 hF
              refine g_seg hK [.iconst 4] 80 81 (L1 := []) (st1 := [vI 4]) (h1 := h) (P := True ∧ True) (by decide +kernel) rfl rfl ⟨trivial, trivial⟩ ?_
              refine g_goto hK 81 (4) 85 (by decide +kernel) (by decide) ?_
              cases hF
              exact hR.1 85 _ _ _ (by decide +kernel) rfl ⟨rfl, rfl⟩
          clear hF
          have hF := e13
          refine g_ifz hK 62 .eq (9) 71 (t1 := 71) (t2 := 65) (by decide +kernel) (by decide) rfl rfl (fun (hc11 : p3 = 0) => ?_) (fun (hc11 : ¬ (p3 = 0)) => ?_)
          · have hF := ite_t hc11 hF
            refine g_seg hK [.iload_n 1, .iconst 2, .isub] 71 74 (L1 := [(5, vI (F_Ro_at 57 s4 h)), (0, vR 54), (1, vI p1), (2, vI p2), (3, vI p3), (4, vI (F_Ro_at 57 s1 h))]) (st1 := [vI (wr (p1 - 2)), vR 55]) (h1 := h) (P := True ∧ True ∧ True ∧ True) (by decide +kernel) rfl rfl ⟨trivial, trivial, trivial, trivial⟩ ?_
            refine hK.2.1 _ _ ([]) _ _ (sub_of [] rfl) ?_
            cases hF
            exact j10
          · have hF := ite_f hc11 hF
            refine g_seg hK [.iload_n 2, .iconst 1, .iadd] 65 68 (L1 := [(5, vI (F_Ro_at 57 s4 h)), (0, vR 54), (1, vI p1), (2, vI p2), (3, vI p3), (4, vI (F_Ro_at 57 s1 h))]) (st1 := [vI (wr (p2 + 1)), vR 55]) (h1 := h) (P := True ∧ True ∧ True ∧ True) (by decide +kernel) rfl rfl ⟨trivial, trivial, trivial, trivial⟩ ?_
            refine g_goto hK 68 (6) 74 (by decide +kernel) (by decide) ?_
            refine hK.2.1 _ _ ([]) _ _ (sub_of [] rfl) ?_
            cases hF
            exact j10
        · have hF := ite_f hc8 hF
          refine g_seg hK [.iconst 3] 55 56 (L1 := [(5, vI (F_Ro_at 57 s4 h)), (0, vR 54), (1, vI p1), (2, vI p2), (3, vI p3), (4, vI (F_Ro_at 57 s1 h))]) (st1 := [vI 3]) (h1 := h) (P := True ∧ True) (by decide +kernel) rfl rfl ⟨trivial, trivial⟩ ?_
          cases hF
          exact hR.1 56 _ _ _ (by decide +kernel) rfl ⟨rfl, rfl⟩
    clear hF
    have hF := e14
    refine g_ifz hK 25 .eq (7) 32 (t1 := 32) (t2 := 28) (by decide +kernel) (by decide) rfl rfl (fun (hc6 : p3 = 0) => ?_) (fun (hc6 : ¬ (p3 = 0)) => ?_)
    · have hF := ite_t hc6 hF
      refine g_seg hK [.iload_n 2, .iconst 1, .isub] 32 35 (L1 := [(4, vI (F_Ro_at 57 s1 h)), (0, vR 54), (1, vI p1), (2, vI p2), (3, vI p3)]) (st1 := [vI (wr (p2 - 1)), vR 57]) (h1 := h) (P := True ∧ True ∧ True ∧ True) (by decide +kernel) rfl rfl ⟨trivial, trivial, trivial, trivial⟩ ?_
      refine hK.2.1 _ _ ([(0, vR 54), (1, vI p1), (2, vI p2), (3, vI p3), (4, vI (F_Ro_at 57 s1 h))]) _ _ (sub_of [1, 2, 3, 4, 0] rfl) ?_
      cases hF
      exact j5
    · have hF := ite_f hc6 hF
      refine g_seg hK [.iload_n 1] 28 29 (L1 := [(4, vI (F_Ro_at 57 s1 h)), (0, vR 54), (1, vI p1), (2, vI p2), (3, vI p3)]) (st1 := [vI p1, vR 57]) (h1 := h) (P := True ∧ True) (by decide +kernel) rfl rfl ⟨trivial, trivial⟩ ?_
      refine g_goto hK 29 (6) 35 (by decide +kernel) (by decide) ?_
      refine hK.2.1 _ _ ([(0, vR 54), (1, vI p1), (2, vI p2), (3, vI p3), (4, vI (F_Ro_at 57 s1 h))]) _ _ (sub_of [1, 2, 3, 4, 0] rfl) ?_
      cases hF
      exact j5
  clear hF
  have hF := e15
  refine g_ifz hK 5 .eq (7) 12 (t1 := 12) (t2 := 8) (by decide +kernel) (by decide) rfl rfl (fun (hc3 : p3 = 0) => ?_) (fun (hc3 : ¬ (p3 = 0)) => ?_)
  · have hF := ite_t hc3 hF
    refine g_seg hK [.iload_n 1, .iconst 1, .isub] 12 15 (L1 := [(0, vR 54), (1, vI p1), (2, vI p2), (3, vI p3)]) (st1 := [vI (wr (p1 - 1)), vR 57]) (h1 := h) (P := True ∧ True ∧ True ∧ True) (by decide +kernel) rfl rfl ⟨trivial, trivial, trivial, trivial⟩ ?_
    cases hF
    exact j2
  · have hF := ite_f hc3 hF
    refine g_seg hK [.iload_n 2] 8 9 (L1 := [(0, vR 54), (1, vI p1), (2, vI p2), (3, vI p3)]) (st1 := [vI p2, vR 57]) (h1 := h) (P := True ∧ True) (by decide +kernel) rfl rfl ⟨trivial, trivial⟩ ?_
    refine g_goto hK 9 (6) 15 (by decide +kernel) (by decide) ?_
    cases hF
    exact j2
set_option maxHeartbeats 4000000 in
set_option maxRecDepth 100000 in
theorem LT_V_reach_L23 {K : KT} (hK : Rules RX5 cX5_reach 5 (Option.some Jvm.ClassFile.FieldType.int) flX5 2 K) {x1 : Int} {x2 : Int} {x3 : Int} {h : MH} : ∀ (n : Nat) (x4 : Int) (x4' : Int), F_V_reach_L23 x1 x2 x3 h n x4 = some x4' → K 66 [(0, vR 54), (1, vI x1), (2, vI x2), (3, vI x3), (4, vI x4')] [] h → K 23 [(0, vR 54), (1, vI x1), (2, vI x2), (3, vI x3), (4, vI x4)] [] h := by
  intro n
  induction n with
  | zero =>
    intro x4 x4' hF
    cases hF
  | succ n ih =>
    intro x4 x4' hF hE
    unfold F_V_reach_L23 at hF
    refine g_seg hK [.iload 4, .aload_n 0] 23 26 (L1 := [(0, vR 54), (1, vI x1), (2, vI x2), (3, vI x3), (4, vI x4)]) (st1 := [vR 54, vI x4]) (h1 := h) (P := True ∧ True ∧ True) (by decide +kernel) rfl rfl ⟨trivial, trivial, trivial⟩ ?_
    refine g_callV1 hK 26 59 (d1 := 1) (ci := 5) (i := 54) (vs := []) (rest := [vI x4]) (h1 := h) (r := vI (F_V_size h)) my_yX5_size vw_X5_59 (by decide) (T_V_size (h := h) (hF := rfl)) rfl rfl rfl (Nat.le_of_ble_eq_true rfl) (by decide +kernel) ?_
    refine g_icmp hK 29 .ge (37) 66 (t1 := 32) (t2 := 66) (by decide +kernel) (by decide) rfl rfl (fun (hc1 : x4 < F_V_size h) => ?_) (fun (hc1 : ¬ (x4 < F_V_size h)) => ?_)
    · have hF := ite_t hc1 hF
      refine g_seg hK [.aload_n 0, .aload_n 0, .iload_n 1] 32 35 (L1 := [(0, vR 54), (1, vI x1), (2, vI x2), (3, vI x3), (4, vI x4)]) (st1 := [vI x1, vR 54, vR 54]) (h1 := h) (P := True ∧ True ∧ True ∧ True) (by decide +kernel) rfl rfl ⟨trivial, trivial, trivial, trivial⟩ ?_
      refine g_callV1 hK 35 81 (d1 := 1) (ci := 5) (i := 54) (vs := [vI x1]) (rest := [vR 54]) (h1 := h) (r := vI (F_V_top x1 h)) my_yX5_top vw_X5_81 (by decide) (T_V_top (p1 := x1) (h := h) (hF := rfl)) rfl rfl rfl (Nat.le_of_ble_eq_true rfl) (by decide +kernel) ?_
      refine g_seg hK [.iload_n 3, .iload 4, .imul, .iadd, .aload_n 0, .iload_n 1] 38 45 (L1 := [(0, vR 54), (1, vI x1), (2, vI x2), (3, vI x3), (4, vI x4)]) (st1 := [vI x1, vR 54, vI (wr ((F_V_top x1 h) + (wr (x3 * x4)))), vR 54]) (h1 := h) (P := True ∧ True ∧ True ∧ True ∧ True ∧ True ∧ True) (by decide +kernel) rfl rfl ⟨trivial, trivial, trivial, trivial, trivial, trivial, trivial⟩ ?_
      refine g_callV1 hK 45 84 (d1 := 1) (ci := 5) (i := 54) (vs := [vI x1]) (rest := [vI (wr ((F_V_top x1 h) + (wr (x3 * x4)))), vR 54]) (h1 := h) (r := vI (F_V_end x1 h)) my_yX5_end vw_X5_84 (by decide) (T_V_end (p1 := x1) (h := h) (hF := rfl)) rfl rfl rfl (Nat.le_of_ble_eq_true rfl) (by decide +kernel) ?_
      refine g_seg hK [.iload_n 3, .iload 4, .imul, .iadd, .iload_n 2] 48 54 (L1 := [(0, vR 54), (1, vI x1), (2, vI x2), (3, vI x3), (4, vI x4)]) (st1 := [vI x2, vI (wr ((F_V_end x1 h) + (wr (x3 * x4)))), vI (wr ((F_V_top x1 h) + (wr (x3 * x4)))), vR 54]) (h1 := h) (P := True ∧ True ∧ True ∧ True ∧ True ∧ True) (by decide +kernel) rfl rfl ⟨trivial, trivial, trivial, trivial, trivial, trivial⟩ ?_
      refine g_callV1 hK 54 109 (d1 := 1) (ci := 5) (i := 54) (vs := [vI (wr ((F_V_top x1 h) + (wr (x3 * x4)))), vI (wr ((F_V_end x1 h) + (wr (x3 * x4)))), vI x2]) (rest := []) (h1 := h) (r := vI (F_V_barAt (wr ((F_V_top x1 h) + (wr (x3 * x4)))) (wr ((F_V_end x1 h) + (wr (x3 * x4)))) x2 h)) my_yX5_barAt vw_X5_109 (by decide) (T_V_barAt (p1 := (wr ((F_V_top x1 h) + (wr (x3 * x4))))) (p2 := (wr ((F_V_end x1 h) + (wr (x3 * x4))))) (p3 := x2) (h := h) (hF := rfl)) rfl rfl rfl (Nat.le_of_ble_eq_true rfl) (by decide +kernel) ?_
      refine g_ifz hK 57 .ne (9) 66 (t1 := 60) (t2 := 66) (by decide +kernel) (by decide) rfl rfl (fun (hc2 : F_V_barAt (wr ((F_V_top x1 h) + (wr (x3 * x4)))) (wr ((F_V_end x1 h) + (wr (x3 * x4)))) x2 h = 0) => ?_) (fun (hc2 : ¬ (F_V_barAt (wr ((F_V_top x1 h) + (wr (x3 * x4)))) (wr ((F_V_end x1 h) + (wr (x3 * x4)))) x2 h = 0)) => ?_)
      · have hF := ite_t hc2 hF
        refine g_seg hK [.iinc 4 1] 60 63 (L1 := [(4, vI (wr (x4 + 1))), (0, vR 54), (1, vI x1), (2, vI x2), (3, vI x3)]) (st1 := []) (h1 := h) (P := True ∧ True) (by decide +kernel) rfl rfl ⟨trivial, trivial⟩ ?_
        refine g_goto hK 63 (-40) 23 (by decide +kernel) (by decide) ?_
        refine hK.2.1 _ _ ([(0, vR 54), (1, vI x1), (2, vI x2), (3, vI x3), (4, vI (wr (x4 + 1)))]) _ _ (sub_of [1, 2, 3, 4, 0] rfl) ?_
        exact ih _ _ hF hE
      · have hF := ite_f hc2 hF
        cases hF
        exact hE
    · have hF := ite_f hc1 hF
      cases hF
      exact hE
set_option maxHeartbeats 4000000 in
set_option maxRecDepth 100000 in
theorem T_V_reach {p1 : Int} {p2 : Int} {h : MH} {r : Int} (hF : F_V_reach p1 p2 h = some r) : CON 2 yX5_reach cX5_reach 5 (Option.some Jvm.ClassFile.FieldType.int) [vR 54, vI p1, vI p2] h (some (vI r)) h := by
  refine con_of (own := RX5) (fl := flX5) (by decide +kernel) rfl flok_X5 rfl (Nat.le_of_ble_eq_true rfl) ?_
  intro K hK hR
  show K 0 [(0, vR 54), (1, vI p1), (2, vI p2)] [] h
  unfold F_V_reach at hF
  refine g_seg hK [.aload_n 0, .iload_n 1] 0 2 (L1 := [(0, vR 54), (1, vI p1), (2, vI p2)]) (st1 := [vI p1, vR 54]) (h1 := h) (P := True ∧ True ∧ True) (by decide +kernel) rfl rfl ⟨trivial, trivial, trivial⟩ ?_
  refine g_callV1 hK 2 71 (d1 := 1) (ci := 5) (i := 54) (vs := [vI p1]) (rest := []) (h1 := h) (r := vI (F_V_isPlain p1 h)) my_yX5_isPlain vw_X5_71 (by decide) (T_V_isPlain (p1 := p1) (h := h) (hF := rfl)) rfl rfl rfl (Nat.le_of_ble_eq_true rfl) (by decide +kernel) ?_
  refine g_ifz hK 5 .ne (5) 10 (t1 := 8) (t2 := 10) (by decide +kernel) (by decide) rfl rfl (fun (hc1 : F_V_isPlain p1 h = 0) => ?_) (fun (hc1 : ¬ (F_V_isPlain p1 h = 0)) => ?_)
  · have hF := ite_t hc1 hF
    refine g_seg hK [.iconst 0] 8 9 (L1 := [(0, vR 54), (1, vI p1), (2, vI p2)]) (st1 := [vI 0]) (h1 := h) (P := True ∧ True) (by decide +kernel) rfl rfl ⟨trivial, trivial⟩ ?_
    cases hF
    exact hR.1 9 _ _ _ (by decide +kernel) rfl ⟨rfl, rfl⟩
  · have hF := ite_f hc1 hF
    refine g_seg hK [.iload_n 2] 10 11 (L1 := [(0, vR 54), (1, vI p1), (2, vI p2)]) (st1 := [vI p2]) (h1 := h) (P := True ∧ True) (by decide +kernel) rfl rfl ⟨trivial, trivial⟩ ?_
    obtain ⟨s2, e7, hF⟩ := jn1_elim hF
    have j3 : K 19 [(0, vR 54), (1, vI p1), (2, vI p2)] [vI s2] h := by
      refine g_seg hK [.istore_n 3, .iconst 0, .istore 4] 19 23 (L1 := [(4, vI 0), (3, vI s2), (0, vR 54), (1, vI p1), (2, vI p2)]) (st1 := []) (h1 := h) (P := True ∧ True ∧ True ∧ True) (by decide +kernel) rfl rfl ⟨trivial, trivial, trivial, trivial⟩ ?_
      refine hK.2.1 _ _ ([(0, vR 54), (1, vI p1), (2, vI p2), (3, vI s2), (4, vI 0)]) _ _ (sub_of [2, 3, 4, 1, 0] rfl) ?_
      obtain ⟨x4_5, e6, hF⟩ := ob1_elim hF
      refine LT_V_reach_L23 hK _ _ _ e6 ?_
      refine g_seg hK [.iload 4] 66 68 (L1 := [(0, vR 54), (1, vI p1), (2, vI p2), (3, vI s2), (4, vI x4_5)]) (st1 := [vI x4_5]) (h1 := h) (P := True ∧ True) (by decide +kernel) rfl rfl ⟨trivial, trivial⟩ ?_
      cases hF
      exact hR.1 68 _ _ _ (by decide +kernel) rfl ⟨rfl, rfl⟩
    clear hF
    have hF := e7
    refine g_ifz hK 11 .eq (7) 18 (t1 := 18) (t2 := 14) (by decide +kernel) (by decide) rfl rfl (fun (hc4 : p2 = 0) => ?_) (fun (hc4 : ¬ (p2 = 0)) => ?_)
    · have hF := ite_t hc4 hF
      refine g_seg hK [.iconst (-1)] 18 19 (L1 := [(0, vR 54), (1, vI p1), (2, vI p2)]) (st1 := [vI (-1)]) (h1 := h) (P := True ∧ True) (by decide +kernel) rfl rfl ⟨trivial, trivial⟩ ?_
      cases hF
      exact j3
    · have hF := ite_f hc4 hF
      refine g_seg hK [.iconst 1] 14 15 (L1 := [(0, vR 54), (1, vI p1), (2, vI p2)]) (st1 := [vI 1]) (h1 := h) (P := True ∧ True) (by decide +kernel) rfl rfl ⟨trivial, trivial⟩ ?_
      refine g_goto hK 15 (4) 19 (by decide +kernel) (by decide) ?_
      cases hF
      exact j3
set_option maxHeartbeats 4000000 in
set_option maxRecDepth 100000 in
theorem T_V_worthAt {p1 : Int} {p2 : Int} {h : MH} {r : Int} (hF : F_V_worthAt p1 p2 h = r) : CON 1 yX5_worthAt cX5_worthAt 6 (Option.some Jvm.ClassFile.FieldType.int) [vR 54, vI p1, vI p2] h (some (vI r)) h := by
  refine con_of (own := RX5) (fl := flX5) (by decide +kernel) rfl flok_X5 rfl (Nat.le_of_ble_eq_true rfl) ?_
  intro K hK hR
  show K 0 [(0, vR 54), (1, vI p1), (2, vI p2)] [] h
  unfold F_V_worthAt at hF
  refine g_seg hK [.aload_n 0, .getfield 20, .iload_n 1, .iconst 1, .isub] 0 7 (L1 := [(0, vR 54), (1, vI p1), (2, vI p2)]) (st1 := [vI (wr (p1 - 1)), vR 57]) (h1 := h) (P := True ∧ kd 54 = 7 ∧ True ∧ True ∧ True ∧ True) (by decide +kernel) rfl rfl ⟨trivial, rfl, trivial, trivial, trivial, trivial⟩ ?_
  refine g_callV1 hK 7 52 (d1 := 0) (ci := 3) (i := 57) (vs := [vI (wr (p1 - 1))]) (rest := []) (h1 := h) (r := vI (F_Ro_at 57 (wr (p1 - 1)) h)) my_yX3_at vw_X5_52 (by decide) (T_Ro_at (o := 57) (p1 := (wr (p1 - 1))) (h := h) (ko := rfl) (hF := rfl)) rfl rfl rfl (Nat.le_of_ble_eq_true rfl) (by decide +kernel) ?_
  refine g_seg hK [.istore_n 3, .aload_n 0, .getfield 20, .iload_n 2, .iconst 1, .isub] 10 18 (L1 := [(3, vI (F_Ro_at 57 (wr (p1 - 1)) h)), (0, vR 54), (1, vI p1), (2, vI p2)]) (st1 := [vI (wr (p2 - 1)), vR 57]) (h1 := h) (P := True ∧ True ∧ kd 54 = 7 ∧ True ∧ True ∧ True ∧ True) (by decide +kernel) rfl rfl ⟨trivial, trivial, rfl, trivial, trivial, trivial, trivial⟩ ?_
  refine g_callV1 hK 18 52 (d1 := 0) (ci := 3) (i := 57) (vs := [vI (wr (p2 - 1))]) (rest := []) (h1 := h) (r := vI (F_Ro_at 57 (wr (p2 - 1)) h)) my_yX3_at vw_X5_52 (by decide) (T_Ro_at (o := 57) (p1 := (wr (p2 - 1))) (h := h) (ko := rfl) (hF := rfl)) rfl rfl rfl (Nat.le_of_ble_eq_true rfl) (by decide +kernel) ?_
  refine g_seg hK [.istore 4, .iload_n 3, .bipush 6] 21 26 (L1 := [(4, vI (F_Ro_at 57 (wr (p2 - 1)) h)), (3, vI (F_Ro_at 57 (wr (p1 - 1)) h)), (0, vR 54), (1, vI p1), (2, vI p2)]) (st1 := [vI 6, vI (F_Ro_at 57 (wr (p1 - 1)) h)]) (h1 := h) (P := True ∧ True ∧ True ∧ True) (by decide +kernel) rfl rfl ⟨trivial, trivial, trivial, trivial⟩ ?_
  obtain ⟨kj4, e14, hF⟩ := jk1_elim hF
  have j4 : ∀ (s3 : Int), kj4 s3 = r → K 39 [(0, vR 54), (1, vI p1), (4, vI (F_Ro_at 57 (wr (p2 - 1)) h))] [vI s3] h := by
    intro s3 hF
    have hF := (e14 s3).symm.trans hF
    refine g_seg hK [.istore 5, .iload 5, .iload 4, .bipush 6] 39 47 (L1 := [(5, vI s3), (0, vR 54), (1, vI p1), (4, vI (F_Ro_at 57 (wr (p2 - 1)) h))]) (st1 := [vI 6, vI (F_Ro_at 57 (wr (p2 - 1)) h), vI s3]) (h1 := h) (P := True ∧ True ∧ True ∧ True ∧ True) (by decide +kernel) rfl rfl ⟨trivial, trivial, trivial, trivial, trivial⟩ ?_
    obtain ⟨s5, e13, hF⟩ := jn1_elim hF
    have j6 : K 55 [(0, vR 54), (1, vI p1), (4, vI (F_Ro_at 57 (wr (p2 - 1)) h))] [vI s5, vI s3] h := by
      refine g_seg hK [.iadd, .istore 5, .iload 5, .aload_n 0, .getfield 20, .iload_n 1] 55 65 (L1 := [(5, vI (wr (s3 + s5))), (0, vR 54), (1, vI p1), (4, vI (F_Ro_at 57 (wr (p2 - 1)) h))]) (st1 := [vI p1, vR 57, vI (wr (s3 + s5))]) (h1 := h) (P := True ∧ True ∧ True ∧ True ∧ kd 54 = 7 ∧ True ∧ True) (by decide +kernel) rfl rfl ⟨trivial, trivial, trivial, trivial, rfl, trivial, trivial⟩ ?_
      refine g_callV1 hK 65 52 (d1 := 0) (ci := 3) (i := 57) (vs := [vI p1]) (rest := [vI (wr (s3 + s5))]) (h1 := h) (r := vI (F_Ro_at 57 p1 h)) my_yX3_at vw_X5_52 (by decide) (T_Ro_at (o := 57) (p1 := p1) (h := h) (ko := rfl) (hF := rfl)) rfl rfl rfl (Nat.le_of_ble_eq_true rfl) (by decide +kernel) ?_
      refine g_seg hK [.bipush 7] 68 70 (L1 := [(5, vI (wr (s3 + s5))), (0, vR 54), (1, vI p1), (4, vI (F_Ro_at 57 (wr (p2 - 1)) h))]) (st1 := [vI 7, vI (F_Ro_at 57 p1 h), vI (wr (s3 + s5))]) (h1 := h) (P := True ∧ True) (by decide +kernel) rfl rfl ⟨trivial, trivial⟩ ?_
      obtain ⟨s8, e12, hF⟩ := jn1_elim hF
      have j9 : K 78 [(4, vI (F_Ro_at 57 (wr (p2 - 1)) h))] [vI s8, vI (wr (s3 + s5))] h := by
        refine g_seg hK [.iadd, .istore 5, .iload 5, .iload 4, .bipush 8] 78 87 (L1 := [(5, vI (wr ((wr (s3 + s5)) + s8))), (4, vI (F_Ro_at 57 (wr (p2 - 1)) h))]) (st1 := [vI 8, vI (F_Ro_at 57 (wr (p2 - 1)) h), vI (wr ((wr (s3 + s5)) + s8))]) (h1 := h) (P := True ∧ True ∧ True ∧ True ∧ True ∧ True) (by decide +kernel) rfl rfl ⟨trivial, trivial, trivial, trivial, trivial, trivial⟩ ?_
        refine g_icmp hK 87 .ne (7) 94 (t1 := 90) (t2 := 94) (by decide +kernel) (by decide) rfl rfl (fun (hc11 : F_Ro_at 57 (wr (p2 - 1)) h = 8) => ?_) (fun (hc11 : ¬ (F_Ro_at 57 (wr (p2 - 1)) h = 8)) => ?_)
        · have hF := ite_t hc11 hF
          refine g_seg hK [.iconst 3] 90 91 (L1 := [(5, vI (wr ((wr (s3 + s5)) + s8))), (4, vI (F_Ro_at 57 (wr (p2 - 1)) h))]) (st1 := [vI 3, vI (wr ((wr (s3 + s5)) + s8))]) (h1 := h) (P := True ∧ True) (by decide +kernel) rfl rfl ⟨trivial, trivial⟩ ?_
          refine g_goto hK 91 (4) 95 (by decide +kernel) (by decide) ?_
          refine g_seg hK [.iadd, .istore 5, .iload 5] 95 100 (L1 := [(5, vI (wr ((wr ((wr (s3 + s5)) + s8)) + 3))), (4, vI (F_Ro_at 57 (wr (p2 - 1)) h))]) (st1 := [vI (wr ((wr ((wr (s3 + s5)) + s8)) + 3))]) (h1 := h) (P := True ∧ True ∧ True ∧ True) (by decide +kernel) rfl rfl ⟨trivial, trivial, trivial, trivial⟩ ?_
          cases hF
          exact hR.1 100 _ _ _ (by decide +kernel) rfl ⟨rfl, rfl⟩
        · have hF := ite_f hc11 hF
          refine g_seg hK [.iconst 0, .iadd, .istore 5, .iload 5] 94 100 (L1 := [(5, vI (wr ((wr ((wr (s3 + s5)) + s8)) + 0))), (4, vI (F_Ro_at 57 (wr (p2 - 1)) h))]) (st1 := [vI (wr ((wr ((wr (s3 + s5)) + s8)) + 0))]) (h1 := h) (P := True ∧ True ∧ True ∧ True ∧ True) (by decide +kernel) rfl rfl ⟨trivial, trivial, trivial, trivial, trivial⟩ ?_
          cases hF
          exact hR.1 100 _ _ _ (by decide +kernel) rfl ⟨rfl, rfl⟩
      clear hF
      have hF := e12
      refine g_icmp hK 70 .ne (7) 77 (t1 := 73) (t2 := 77) (by decide +kernel) (by decide) rfl rfl (fun (hc10 : F_Ro_at 57 p1 h = 7) => ?_) (fun (hc10 : ¬ (F_Ro_at 57 p1 h = 7)) => ?_)
      · have hF := ite_t hc10 hF
        refine g_seg hK [.iconst 1] 73 74 (L1 := [(5, vI (wr (s3 + s5))), (0, vR 54), (1, vI p1), (4, vI (F_Ro_at 57 (wr (p2 - 1)) h))]) (st1 := [vI 1, vI (wr (s3 + s5))]) (h1 := h) (P := True ∧ True) (by decide +kernel) rfl rfl ⟨trivial, trivial⟩ ?_
        refine g_goto hK 74 (4) 78 (by decide +kernel) (by decide) ?_
        refine hK.2.1 _ _ ([(4, vI (F_Ro_at 57 (wr (p2 - 1)) h))]) _ _ (sub_of [3] rfl) ?_
        cases hF
        exact j9
      · have hF := ite_f hc10 hF
        refine g_seg hK [.iconst 0] 77 78 (L1 := [(5, vI (wr (s3 + s5))), (0, vR 54), (1, vI p1), (4, vI (F_Ro_at 57 (wr (p2 - 1)) h))]) (st1 := [vI 0, vI (wr (s3 + s5))]) (h1 := h) (P := True ∧ True) (by decide +kernel) rfl rfl ⟨trivial, trivial⟩ ?_
        refine hK.2.1 _ _ ([(4, vI (F_Ro_at 57 (wr (p2 - 1)) h))]) _ _ (sub_of [3] rfl) ?_
        cases hF
        exact j9
    clear hF
    have hF := e13
    refine g_icmp hK 47 .ne (7) 54 (t1 := 50) (t2 := 54) (by decide +kernel) (by decide) rfl rfl (fun (hc7 : F_Ro_at 57 (wr (p2 - 1)) h = 6) => ?_) (fun (hc7 : ¬ (F_Ro_at 57 (wr (p2 - 1)) h = 6)) => ?_)
    · have hF := ite_t hc7 hF
      refine g_seg hK [.iconst 2] 50 51 (L1 := [(5, vI s3), (0, vR 54), (1, vI p1), (4, vI (F_Ro_at 57 (wr (p2 - 1)) h))]) (st1 := [vI 2, vI s3]) (h1 := h) (P := True ∧ True) (by decide +kernel) rfl rfl ⟨trivial, trivial⟩ ?_
      refine g_goto hK 51 (4) 55 (by decide +kernel) (by decide) ?_
      refine hK.2.1 _ _ ([(0, vR 54), (1, vI p1), (4, vI (F_Ro_at 57 (wr (p2 - 1)) h))]) _ _ (sub_of [1, 2, 3] rfl) ?_
      cases hF
      exact j6
    · have hF := ite_f hc7 hF
      refine g_seg hK [.iconst 0] 54 55 (L1 := [(5, vI s3), (0, vR 54), (1, vI p1), (4, vI (F_Ro_at 57 (wr (p2 - 1)) h))]) (st1 := [vI 0, vI s3]) (h1 := h) (P := True ∧ True) (by decide +kernel) rfl rfl ⟨trivial, trivial⟩ ?_
      refine hK.2.1 _ _ ([(0, vR 54), (1, vI p1), (4, vI (F_Ro_at 57 (wr (p2 - 1)) h))]) _ _ (sub_of [1, 2, 3] rfl) ?_
      cases hF
      exact j6
  obtain ⟨kj2, e15, hF⟩ := jk1_elim hF
  have j2 : ∀ (u1 : Unit), kj2 u1 = r → K 34 [(0, vR 54), (1, vI p1), (4, vI (F_Ro_at 57 (wr (p2 - 1)) h))] [] h := by
    intro u1 hF
    have hF := (e15 u1).symm.trans hF
    refine g_seg hK [.iconst 4] 34 35 (L1 := [(0, vR 54), (1, vI p1), (4, vI (F_Ro_at 57 (wr (p2 - 1)) h))]) (st1 := [vI 4]) (h1 := h) (P := True ∧ True) (by decide +kernel) rfl rfl ⟨trivial, trivial⟩ ?_
    refine g_goto hK 35 (4) 39 (by decide +kernel) (by decide) ?_
    exact j4 _ hF
  refine g_icmp hK 26 .eq (8) 34 (t1 := 34) (t2 := 29) (by decide +kernel) (by decide) rfl rfl (fun (hc16 : F_Ro_at 57 (wr (p1 - 1)) h = 6) => ?_) (fun (hc16 : ¬ (F_Ro_at 57 (wr (p1 - 1)) h = 6)) => ?_)
  · have hF := ite_t hc16 hF
    refine hK.2.1 _ _ ([(0, vR 54), (1, vI p1), (4, vI (F_Ro_at 57 (wr (p2 - 1)) h))]) _ _ (sub_of [2, 3, 0] rfl) ?_
    exact j2 _ hF
  · have hF := ite_f hc16 hF
    refine g_seg hK [.iload_n 3, .iconst (-1)] 29 31 (L1 := [(4, vI (F_Ro_at 57 (wr (p2 - 1)) h)), (3, vI (F_Ro_at 57 (wr (p1 - 1)) h)), (0, vR 54), (1, vI p1), (2, vI p2)]) (st1 := [vI (-1), vI (F_Ro_at 57 (wr (p1 - 1)) h)]) (h1 := h) (P := True ∧ True ∧ True) (by decide +kernel) rfl rfl ⟨trivial, trivial, trivial⟩ ?_
    refine g_icmp hK 31 .ne (7) 38 (t1 := 34) (t2 := 38) (by decide +kernel) (by decide) rfl rfl (fun (hc17 : F_Ro_at 57 (wr (p1 - 1)) h = (-1)) => ?_) (fun (hc17 : ¬ (F_Ro_at 57 (wr (p1 - 1)) h = (-1))) => ?_)
    · have hF := ite_t hc17 hF
      refine hK.2.1 _ _ ([(0, vR 54), (1, vI p1), (4, vI (F_Ro_at 57 (wr (p2 - 1)) h))]) _ _ (sub_of [2, 3, 0] rfl) ?_
      exact j2 _ hF
    · have hF := ite_f hc17 hF
      refine g_seg hK [.iconst 0] 38 39 (L1 := [(4, vI (F_Ro_at 57 (wr (p2 - 1)) h)), (3, vI (F_Ro_at 57 (wr (p1 - 1)) h)), (0, vR 54), (1, vI p1), (2, vI p2)]) (st1 := [vI 0]) (h1 := h) (P := True ∧ True) (by decide +kernel) rfl rfl ⟨trivial, trivial⟩ ?_
      refine hK.2.1 _ _ ([(0, vR 54), (1, vI p1), (4, vI (F_Ro_at 57 (wr (p2 - 1)) h))]) _ _ (sub_of [2, 3, 0] rfl) ?_
      exact j4 _ hF
set_option maxHeartbeats 4000000 in
set_option maxRecDepth 100000 in
theorem LT_V_bestTop_L45 {K : KT} (hK : Rules RX5 cX5_bestTop 6 (Option.some Jvm.ClassFile.FieldType.int) flX5 3 K) {x2 : Int} {x3 : Int} {h : MH} : ∀ (n : Nat) (x4 : Int) (x5 : Int) (x4' : Int) (x5' : Int), F_V_bestTop_L45 x2 x3 h n x4 x5 = some (x4', x5') → K 84 [(0, vR 54), (2, vI x2), (3, vI x3), (4, vI x4'), (5, vI x5')] [] h → K 45 [(0, vR 54), (2, vI x2), (3, vI x3), (4, vI x4), (5, vI x5)] [] h := by
  intro n
  induction n with
  | zero =>
    intro x4 x5 x4' x5' hF
    cases hF
  | succ n ih =>
    intro x4 x5 x4' x5' hF hE
    unfold F_V_bestTop_L45 at hF
    refine g_seg hK [.iload 5, .iload_n 3] 45 48 (L1 := [(0, vR 54), (2, vI x2), (3, vI x3), (4, vI x4), (5, vI x5)]) (st1 := [vI x3, vI x5]) (h1 := h) (P := True ∧ True ∧ True) (by decide +kernel) rfl rfl ⟨trivial, trivial, trivial⟩ ?_
    refine g_icmp hK 48 .gt (36) 84 (t1 := 51) (t2 := 84) (by decide +kernel) (by decide) rfl rfl (fun (hc1 : x5 ≤ x3) => ?_) (fun (hc1 : ¬ (x5 ≤ x3)) => ?_)
    · have hF := ite_t hc1 hF
      refine g_seg hK [.aload_n 0, .iload 5, .iload 5, .iload_n 2, .iadd] 51 58 (L1 := [(0, vR 54), (2, vI x2), (3, vI x3), (4, vI x4), (5, vI x5)]) (st1 := [vI (wr (x5 + x2)), vI x5, vR 54]) (h1 := h) (P := True ∧ True ∧ True ∧ True ∧ True ∧ True) (by decide +kernel) rfl rfl ⟨trivial, trivial, trivial, trivial, trivial, trivial⟩ ?_
      refine g_callV1 hK 58 94 (d1 := 1) (ci := 5) (i := 54) (vs := [vI x5, vI (wr (x5 + x2))]) (rest := []) (h1 := h) (r := vI (F_V_worthAt x5 (wr (x5 + x2)) h)) my_yX5_worthAt vw_X5_94 (by decide) (T_V_worthAt (p1 := x5) (p2 := (wr (x5 + x2))) (h := h) (hF := rfl)) rfl rfl rfl (Nat.le_of_ble_eq_true rfl) (by decide +kernel) ?_
      refine g_seg hK [.aload_n 0, .iload 4, .iload 4, .iload_n 2, .iadd] 61 68 (L1 := [(0, vR 54), (2, vI x2), (3, vI x3), (4, vI x4), (5, vI x5)]) (st1 := [vI (wr (x4 + x2)), vI x4, vR 54, vI (F_V_worthAt x5 (wr (x5 + x2)) h)]) (h1 := h) (P := True ∧ True ∧ True ∧ True ∧ True ∧ True) (by decide +kernel) rfl rfl ⟨trivial, trivial, trivial, trivial, trivial, trivial⟩ ?_
      refine g_callV1 hK 68 94 (d1 := 1) (ci := 5) (i := 54) (vs := [vI x4, vI (wr (x4 + x2))]) (rest := [vI (F_V_worthAt x5 (wr (x5 + x2)) h)]) (h1 := h) (r := vI (F_V_worthAt x4 (wr (x4 + x2)) h)) my_yX5_worthAt vw_X5_94 (by decide) (T_V_worthAt (p1 := x4) (p2 := (wr (x4 + x2))) (h := h) (hF := rfl)) rfl rfl rfl (Nat.le_of_ble_eq_true rfl) (by decide +kernel) ?_
      obtain ⟨x4_2, e5, hF⟩ := jn1_elim hF
      have j3 : K 78 [(0, vR 54), (2, vI x2), (3, vI x3), (4, vI x4_2), (5, vI x5)] [] h := by
        refine g_seg hK [.iinc 5 1] 78 81 (L1 := [(5, vI (wr (x5 + 1))), (0, vR 54), (2, vI x2), (3, vI x3), (4, vI x4_2)]) (st1 := []) (h1 := h) (P := True ∧ True) (by decide +kernel) rfl rfl ⟨trivial, trivial⟩ ?_
        refine g_goto hK 81 (-36) 45 (by decide +kernel) (by decide) ?_
        refine hK.2.1 _ _ ([(0, vR 54), (2, vI x2), (3, vI x3), (4, vI x4_2), (5, vI (wr (x5 + 1)))]) _ _ (sub_of [1, 2, 3, 4, 0] rfl) ?_
        exact ih _ _ _ _ hF hE
      clear hF
      have hF := e5
      refine g_icmp hK 71 .lt (7) 78 (t1 := 78) (t2 := 74) (by decide +kernel) (by decide) rfl rfl (fun (hc4 : F_V_worthAt x5 (wr (x5 + x2)) h < F_V_worthAt x4 (wr (x4 + x2)) h) => ?_) (fun (hc4 : ¬ (F_V_worthAt x5 (wr (x5 + x2)) h < F_V_worthAt x4 (wr (x4 + x2)) h)) => ?_)
      · have hF := ite_t hc4 hF
        cases hF
        exact j3
      · have hF := ite_f hc4 hF
        refine g_seg hK [.iload 5, .istore 4] 74 78 (L1 := [(4, vI x5), (0, vR 54), (2, vI x2), (3, vI x3), (5, vI x5)]) (st1 := []) (h1 := h) (P := True ∧ True ∧ True) (by decide +kernel) rfl rfl ⟨trivial, trivial, trivial⟩ ?_
        refine hK.2.1 _ _ ([(0, vR 54), (2, vI x2), (3, vI x3), (4, vI x5), (5, vI x5)]) _ _ (sub_of [1, 2, 3, 0, 4] rfl) ?_
        cases hF
        exact j3
    · have hF := ite_f hc1 hF
      cases hF
      exact hE
set_option maxHeartbeats 4000000 in
set_option maxRecDepth 100000 in
theorem T_V_bestTop {p1 : Int} {h : MH} {r : Int} (hF : F_V_bestTop p1 h = some r) : CON 3 yX5_bestTop cX5_bestTop 6 (Option.some Jvm.ClassFile.FieldType.int) [vR 54, vI p1] h (some (vI r)) h := by
  refine con_of (own := RX5) (fl := flX5) (by decide +kernel) rfl flok_X5 rfl (Nat.le_of_ble_eq_true rfl) ?_
  intro K hK hR
  show K 0 [(0, vR 54), (1, vI p1)] [] h
  unfold F_V_bestTop at hF
  refine g_seg hK [.aload_n 0, .iload_n 1] 0 2 (L1 := [(0, vR 54), (1, vI p1)]) (st1 := [vI p1, vR 54]) (h1 := h) (P := True ∧ True ∧ True) (by decide +kernel) rfl rfl ⟨trivial, trivial, trivial⟩ ?_
  refine g_callV1 hK 2 84 (d1 := 1) (ci := 5) (i := 54) (vs := [vI p1]) (rest := []) (h1 := h) (r := vI (F_V_end p1 h)) my_yX5_end vw_X5_84 (by decide) (T_V_end (p1 := p1) (h := h) (hF := rfl)) rfl rfl rfl (Nat.le_of_ble_eq_true rfl) (by decide +kernel) ?_
  refine g_seg hK [.aload_n 0, .iload_n 1] 5 7 (L1 := [(0, vR 54), (1, vI p1)]) (st1 := [vI p1, vR 54, vI (F_V_end p1 h)]) (h1 := h) (P := True ∧ True ∧ True) (by decide +kernel) rfl rfl ⟨trivial, trivial, trivial⟩ ?_
  refine g_callV1 hK 7 81 (d1 := 1) (ci := 5) (i := 54) (vs := [vI p1]) (rest := [vI (F_V_end p1 h)]) (h1 := h) (r := vI (F_V_top p1 h)) my_yX5_top vw_X5_81 (by decide) (T_V_top (p1 := p1) (h := h) (hF := rfl)) rfl rfl rfl (Nat.le_of_ble_eq_true rfl) (by decide +kernel) ?_
  refine g_seg hK [.isub, .istore_n 2, .aload_n 0, .iload_n 1] 10 14 (L1 := [(2, vI (wr ((F_V_end p1 h) - (F_V_top p1 h)))), (0, vR 54), (1, vI p1)]) (st1 := [vI p1, vR 54]) (h1 := h) (P := True ∧ True ∧ True ∧ True ∧ True) (by decide +kernel) rfl rfl ⟨trivial, trivial, trivial, trivial, trivial⟩ ?_
  refine g_callV1 hK 14 81 (d1 := 1) (ci := 5) (i := 54) (vs := [vI p1]) (rest := []) (h1 := h) (r := vI (F_V_top p1 h)) my_yX5_top vw_X5_81 (by decide) (T_V_top (p1 := p1) (h := h) (hF := rfl)) rfl rfl rfl (Nat.le_of_ble_eq_true rfl) (by decide +kernel) ?_
  refine g_seg hK [.aload_n 0, .iload_n 1, .iconst 1] 17 20 (L1 := [(2, vI (wr ((F_V_end p1 h) - (F_V_top p1 h)))), (0, vR 54), (1, vI p1)]) (st1 := [vI 1, vI p1, vR 54, vI (F_V_top p1 h)]) (h1 := h) (P := True ∧ True ∧ True ∧ True) (by decide +kernel) rfl rfl ⟨trivial, trivial, trivial, trivial⟩ ?_
  obtain ⟨r1, e2, hF⟩ := ob1_elim hF
  refine g_callV1 hK 20 90 (d1 := 2) (ci := 5) (i := 54) (vs := [vI p1, vI 1]) (rest := [vI (F_V_top p1 h)]) (h1 := h) (r := vI r1) my_yX5_reach vw_X5_90 (by decide) (T_V_reach (p1 := p1) (p2 := 1) (h := h) (hF := e2)) rfl rfl rfl (Nat.le_of_ble_eq_true rfl) (by decide +kernel) ?_
  refine g_seg hK [.iadd, .istore_n 3, .aload_n 0, .iload_n 1] 23 27 (L1 := [(3, vI (wr ((F_V_top p1 h) + r1))), (2, vI (wr ((F_V_end p1 h) - (F_V_top p1 h)))), (0, vR 54), (1, vI p1)]) (st1 := [vI p1, vR 54]) (h1 := h) (P := True ∧ True ∧ True ∧ True ∧ True) (by decide +kernel) rfl rfl ⟨trivial, trivial, trivial, trivial, trivial⟩ ?_
  refine g_callV1 hK 27 81 (d1 := 1) (ci := 5) (i := 54) (vs := [vI p1]) (rest := []) (h1 := h) (r := vI (F_V_top p1 h)) my_yX5_top vw_X5_81 (by decide) (T_V_top (p1 := p1) (h := h) (hF := rfl)) rfl rfl rfl (Nat.le_of_ble_eq_true rfl) (by decide +kernel) ?_
  refine g_seg hK [.aload_n 0, .iload_n 1, .iconst 0] 30 33 (L1 := [(3, vI (wr ((F_V_top p1 h) + r1))), (2, vI (wr ((F_V_end p1 h) - (F_V_top p1 h)))), (0, vR 54), (1, vI p1)]) (st1 := [vI 0, vI p1, vR 54, vI (F_V_top p1 h)]) (h1 := h) (P := True ∧ True ∧ True ∧ True) (by decide +kernel) rfl rfl ⟨trivial, trivial, trivial, trivial⟩ ?_
  obtain ⟨r3, e4, hF⟩ := ob1_elim hF
  refine g_callV1 hK 33 90 (d1 := 2) (ci := 5) (i := 54) (vs := [vI p1, vI 0]) (rest := [vI (F_V_top p1 h)]) (h1 := h) (r := vI r3) my_yX5_reach vw_X5_90 (by decide) (T_V_reach (p1 := p1) (p2 := 0) (h := h) (hF := e4)) rfl rfl rfl (Nat.le_of_ble_eq_true rfl) (by decide +kernel) ?_
  refine g_seg hK [.isub, .istore 4, .iload 4, .iconst 1, .iadd, .istore 5] 36 45 (L1 := [(5, vI (wr ((wr ((F_V_top p1 h) - r3)) + 1))), (4, vI (wr ((F_V_top p1 h) - r3))), (3, vI (wr ((F_V_top p1 h) + r1))), (2, vI (wr ((F_V_end p1 h) - (F_V_top p1 h)))), (0, vR 54), (1, vI p1)]) (st1 := []) (h1 := h) (P := True ∧ True ∧ True ∧ True ∧ True ∧ True ∧ True) (by decide +kernel) rfl rfl ⟨trivial, trivial, trivial, trivial, trivial, trivial, trivial⟩ ?_
  refine hK.2.1 _ _ ([(0, vR 54), (2, vI (wr ((F_V_end p1 h) - (F_V_top p1 h)))), (3, vI (wr ((F_V_top p1 h) + r1))), (4, vI (wr ((F_V_top p1 h) - r3))), (5, vI (wr ((wr ((F_V_top p1 h) - r3)) + 1)))]) _ _ (sub_of [4, 3, 2, 1, 0] rfl) ?_
  obtain ⟨x4_5, x5_6, e7, hF⟩ := ob2_elim hF
  refine LT_V_bestTop_L45 hK _ _ _ _ _ e7 ?_
  refine g_seg hK [.iload 4] 84 86 (L1 := [(0, vR 54), (2, vI (wr ((F_V_end p1 h) - (F_V_top p1 h)))), (3, vI (wr ((F_V_top p1 h) + r1))), (4, vI x4_5), (5, vI x5_6)]) (st1 := [vI x4_5]) (h1 := h) (P := True ∧ True) (by decide +kernel) rfl rfl ⟨trivial, trivial⟩ ?_
  cases hF
  exact hR.1 86 _ _ _ (by decide +kernel) rfl ⟨rfl, rfl⟩
set_option maxHeartbeats 4000000 in
set_option maxRecDepth 100000 in
theorem LT_V_moveTo_L35 {K : KT} (hK : Rules RX5 cX5_moveTo 6 none flX5 2 K) {x1 : Int} {x2 : Int} {x3 : Int} {x4 : Int} : ∀ (n : Nat) (x5 : Int) (h : MH) (x5' : Int) (h' : MH), F_V_moveTo_L35 x1 x2 x3 x4 n x5 h = some (x5', h') → K 61 [(0, vR 54), (1, vI x1), (2, vI x2), (3, vI x3), (4, vI x4), (5, vI x5')] [] h' → K 35 [(0, vR 54), (1, vI x1), (2, vI x2), (3, vI x3), (4, vI x4), (5, vI x5)] [] h := by
  intro n
  induction n with
  | zero =>
    intro x5 h x5' h' hF
    cases hF
  | succ n ih =>
    intro x5 h x5' h' hF hE
    unfold F_V_moveTo_L35 at hF
    refine g_seg hK [.iload 5, .aload_n 0, .iload_n 1] 35 39 (L1 := [(0, vR 54), (1, vI x1), (2, vI x2), (3, vI x3), (4, vI x4), (5, vI x5)]) (st1 := [vI x1, vR 54, vI x5]) (h1 := h) (P := True ∧ True ∧ True ∧ True) (by decide +kernel) rfl rfl ⟨trivial, trivial, trivial, trivial⟩ ?_
    refine g_callV1 hK 39 84 (d1 := 1) (ci := 5) (i := 54) (vs := [vI x1]) (rest := [vI x5]) (h1 := h) (r := vI (F_V_end x1 h)) my_yX5_end vw_X5_84 (by decide) (T_V_end (p1 := x1) (h := h) (hF := rfl)) rfl rfl rfl (Nat.le_of_ble_eq_true rfl) (by decide +kernel) ?_
    refine g_icmp hK 42 .ge (19) 61 (t1 := 45) (t2 := 61) (by decide +kernel) (by decide) rfl rfl (fun (hc1 : x5 < F_V_end x1 h) => ?_) (fun (hc1 : ¬ (x5 < F_V_end x1 h)) => ?_)
    · have hF := ite_t hc1 hF
      refine g_seg hK [.aload_n 0, .getfield 14, .iload 5, .iconst 0] 45 52 (L1 := [(0, vR 54), (1, vI x1), (2, vI x2), (3, vI x3), (4, vI x4), (5, vI x5)]) (st1 := [vI 0, vI x5, vR 55]) (h1 := h) (P := True ∧ kd 54 = 7 ∧ True ∧ True ∧ True) (by decide +kernel) rfl rfl ⟨trivial, rfl, trivial, trivial, trivial⟩ ?_
      refine g_callV0 hK 52 87 (d1 := 0) (ci := 3) (i := 55) (vs := [vI x5, vI 0]) (rest := []) (h1 := (F_Ro_change 55 x5 0 h)) my_yX3_change vw_X5_87 (by decide) (T_Ro_change (o := 55) (p1 := x5) (p2 := 0) (h := h) (ko := rfl) (hF := rfl)) rfl rfl rfl (Nat.le_of_ble_eq_true rfl) (by decide +kernel) ?_
      refine g_seg hK [.iinc 5 1] 55 58 (L1 := [(5, vI (wr (x5 + 1))), (0, vR 54), (1, vI x1), (2, vI x2), (3, vI x3), (4, vI x4)]) (st1 := []) (h1 := (F_Ro_change 55 x5 0 h)) (P := True ∧ True) (by decide +kernel) rfl rfl ⟨trivial, trivial⟩ ?_
      refine g_goto hK 58 (-23) 35 (by decide +kernel) (by decide) ?_
      refine hK.2.1 _ _ ([(0, vR 54), (1, vI x1), (2, vI x2), (3, vI x3), (4, vI x4), (5, vI (wr (x5 + 1)))]) _ _ (sub_of [1, 2, 3, 4, 5, 0] rfl) ?_
      exact ih _ _ _ _ hF hE
    · have hF := ite_f hc1 hF
      cases hF
      exact hE
set_option maxHeartbeats 4000000 in
set_option maxRecDepth 100000 in
theorem LT_V_moveTo_L64 {K : KT} (hK : Rules RX5 cX5_moveTo 6 none flX5 2 K) {x1 : Int} {x2 : Int} {x3 : Int} {x4 : Int} : ∀ (n : Nat) (x5 : Int) (h : MH) (x5' : Int) (h' : MH), F_V_moveTo_L64 x1 x2 x3 x4 n x5 h = some (x5', h') → K 87 [(0, vR 54), (1, vI x1), (2, vI x2), (3, vI x3), (4, vI x4), (5, vI x5')] [] h' → K 64 [(0, vR 54), (1, vI x1), (2, vI x2), (3, vI x3), (4, vI x4), (5, vI x5)] [] h := by
  intro n
  induction n with
  | zero =>
    intro x5 h x5' h' hF
    cases hF
  | succ n ih =>
    intro x5 h x5' h' hF hE
    unfold F_V_moveTo_L64 at hF
    refine g_seg hK [.iload 5, .iload 4] 64 68 (L1 := [(0, vR 54), (1, vI x1), (2, vI x2), (3, vI x3), (4, vI x4), (5, vI x5)]) (st1 := [vI x4, vI x5]) (h1 := h) (P := True ∧ True ∧ True) (by decide +kernel) rfl rfl ⟨trivial, trivial, trivial⟩ ?_
    refine g_icmp hK 68 .ge (19) 87 (t1 := 71) (t2 := 87) (by decide +kernel) (by decide) rfl rfl (fun (hc1 : x5 < x4) => ?_) (fun (hc1 : ¬ (x5 < x4)) => ?_)
    · have hF := ite_t hc1 hF
      refine g_seg hK [.aload_n 0, .getfield 14, .iload 5, .iload_n 3] 71 78 (L1 := [(0, vR 54), (1, vI x1), (2, vI x2), (3, vI x3), (4, vI x4), (5, vI x5)]) (st1 := [vI x3, vI x5, vR 55]) (h1 := h) (P := True ∧ kd 54 = 7 ∧ True ∧ True ∧ True) (by decide +kernel) rfl rfl ⟨trivial, rfl, trivial, trivial, trivial⟩ ?_
      refine g_callV0 hK 78 87 (d1 := 0) (ci := 3) (i := 55) (vs := [vI x5, vI x3]) (rest := []) (h1 := (F_Ro_change 55 x5 x3 h)) my_yX3_change vw_X5_87 (by decide) (T_Ro_change (o := 55) (p1 := x5) (p2 := x3) (h := h) (ko := rfl) (hF := rfl)) rfl rfl rfl (Nat.le_of_ble_eq_true rfl) (by decide +kernel) ?_
      refine g_seg hK [.iinc 5 1] 81 84 (L1 := [(5, vI (wr (x5 + 1))), (0, vR 54), (1, vI x1), (2, vI x2), (3, vI x3), (4, vI x4)]) (st1 := []) (h1 := (F_Ro_change 55 x5 x3 h)) (P := True ∧ True) (by decide +kernel) rfl rfl ⟨trivial, trivial⟩ ?_
      refine g_goto hK 84 (-20) 64 (by decide +kernel) (by decide) ?_
      refine hK.2.1 _ _ ([(0, vR 54), (1, vI x1), (2, vI x2), (3, vI x3), (4, vI x4), (5, vI (wr (x5 + 1)))]) _ _ (sub_of [1, 2, 3, 4, 5, 0] rfl) ?_
      exact ih _ _ _ _ hF hE
    · have hF := ite_f hc1 hF
      cases hF
      exact hE
set_option maxHeartbeats 4000000 in
set_option maxRecDepth 100000 in
theorem T_V_moveTo {p1 : Int} {p2 : Int} {h : MH} {h' : MH} (hF : F_V_moveTo p1 p2 h = some h') : CON 2 yX5_moveTo cX5_moveTo 6 none [vR 54, vI p1, vI p2] h none h' := by
  refine con_of (own := RX5) (fl := flX5) (by decide +kernel) rfl flok_X5 rfl (Nat.le_of_ble_eq_true rfl) ?_
  intro K hK hR
  show K 0 [(0, vR 54), (1, vI p1), (2, vI p2)] [] h
  unfold F_V_moveTo at hF
  refine g_seg hK [.aload_n 0, .getfield 14, .aload_n 0, .iload_n 1] 0 6 (L1 := [(0, vR 54), (1, vI p1), (2, vI p2)]) (st1 := [vI p1, vR 54, vR 55]) (h1 := h) (P := True ∧ kd 54 = 7 ∧ True ∧ True ∧ True) (by decide +kernel) rfl rfl ⟨trivial, rfl, trivial, trivial, trivial⟩ ?_
  refine g_callV1 hK 6 81 (d1 := 1) (ci := 5) (i := 54) (vs := [vI p1]) (rest := [vR 55]) (h1 := h) (r := vI (F_V_top p1 h)) my_yX5_top vw_X5_81 (by decide) (T_V_top (p1 := p1) (h := h) (hF := rfl)) rfl rfl rfl (Nat.le_of_ble_eq_true rfl) (by decide +kernel) ?_
  refine g_callV1 hK 9 52 (d1 := 0) (ci := 3) (i := 55) (vs := [vI (F_V_top p1 h)]) (rest := []) (h1 := h) (r := vI (F_Ro_at 55 (F_V_top p1 h) h)) my_yX3_at vw_X5_52 (by decide) (T_Ro_at (o := 55) (p1 := (F_V_top p1 h)) (h := h) (ko := rfl) (hF := rfl)) rfl rfl rfl (Nat.le_of_ble_eq_true rfl) (by decide +kernel) ?_
  refine g_seg hK [.istore_n 3, .iload_n 2, .aload_n 0, .iload_n 1] 12 16 (L1 := [(3, vI (F_Ro_at 55 (F_V_top p1 h) h)), (0, vR 54), (1, vI p1), (2, vI p2)]) (st1 := [vI p1, vR 54, vI p2]) (h1 := h) (P := True ∧ True ∧ True ∧ True ∧ True) (by decide +kernel) rfl rfl ⟨trivial, trivial, trivial, trivial, trivial⟩ ?_
  refine g_callV1 hK 16 84 (d1 := 1) (ci := 5) (i := 54) (vs := [vI p1]) (rest := [vI p2]) (h1 := h) (r := vI (F_V_end p1 h)) my_yX5_end vw_X5_84 (by decide) (T_V_end (p1 := p1) (h := h) (hF := rfl)) rfl rfl rfl (Nat.le_of_ble_eq_true rfl) (by decide +kernel) ?_
  refine g_seg hK [.iadd, .aload_n 0, .iload_n 1] 19 22 (L1 := [(3, vI (F_Ro_at 55 (F_V_top p1 h) h)), (0, vR 54), (1, vI p1), (2, vI p2)]) (st1 := [vI p1, vR 54, vI (wr (p2 + (F_V_end p1 h)))]) (h1 := h) (P := True ∧ True ∧ True ∧ True) (by decide +kernel) rfl rfl ⟨trivial, trivial, trivial, trivial⟩ ?_
  refine g_callV1 hK 22 81 (d1 := 1) (ci := 5) (i := 54) (vs := [vI p1]) (rest := [vI (wr (p2 + (F_V_end p1 h)))]) (h1 := h) (r := vI (F_V_top p1 h)) my_yX5_top vw_X5_81 (by decide) (T_V_top (p1 := p1) (h := h) (hF := rfl)) rfl rfl rfl (Nat.le_of_ble_eq_true rfl) (by decide +kernel) ?_
  refine g_seg hK [.isub, .istore 4, .aload_n 0, .iload_n 1] 25 30 (L1 := [(4, vI (wr ((wr (p2 + (F_V_end p1 h))) - (F_V_top p1 h)))), (3, vI (F_Ro_at 55 (F_V_top p1 h) h)), (0, vR 54), (1, vI p1), (2, vI p2)]) (st1 := [vI p1, vR 54]) (h1 := h) (P := True ∧ True ∧ True ∧ True ∧ True) (by decide +kernel) rfl rfl ⟨trivial, trivial, trivial, trivial, trivial⟩ ?_
  refine g_callV1 hK 30 81 (d1 := 1) (ci := 5) (i := 54) (vs := [vI p1]) (rest := []) (h1 := h) (r := vI (F_V_top p1 h)) my_yX5_top vw_X5_81 (by decide) (T_V_top (p1 := p1) (h := h) (hF := rfl)) rfl rfl rfl (Nat.le_of_ble_eq_true rfl) (by decide +kernel) ?_
  refine g_seg hK [.istore 5] 33 35 (L1 := [(5, vI (F_V_top p1 h)), (4, vI (wr ((wr (p2 + (F_V_end p1 h))) - (F_V_top p1 h)))), (3, vI (F_Ro_at 55 (F_V_top p1 h) h)), (0, vR 54), (1, vI p1), (2, vI p2)]) (st1 := []) (h1 := h) (P := True ∧ True) (by decide +kernel) rfl rfl ⟨trivial, trivial⟩ ?_
  refine hK.2.1 _ _ ([(0, vR 54), (1, vI p1), (2, vI p2), (3, vI (F_Ro_at 55 (F_V_top p1 h) h)), (4, vI (wr ((wr (p2 + (F_V_end p1 h))) - (F_V_top p1 h)))), (5, vI (F_V_top p1 h))]) _ _ (sub_of [3, 4, 5, 2, 1, 0] rfl) ?_
  obtain ⟨x5_1, h2, e3, hF⟩ := ob2_elim hF
  refine LT_V_moveTo_L35 hK _ _ _ _ _ e3 ?_
  refine g_seg hK [.iload_n 2, .istore 5] 61 64 (L1 := [(5, vI p2), (0, vR 54), (1, vI p1), (2, vI p2), (3, vI (F_Ro_at 55 (F_V_top p1 h) h)), (4, vI (wr ((wr (p2 + (F_V_end p1 h))) - (F_V_top p1 h))))]) (st1 := []) (h1 := h2) (P := True ∧ True ∧ True) (by decide +kernel) rfl rfl ⟨trivial, trivial, trivial⟩ ?_
  refine hK.2.1 _ _ ([(0, vR 54), (1, vI p1), (2, vI p2), (3, vI (F_Ro_at 55 (F_V_top p1 h) h)), (4, vI (wr ((wr (p2 + (F_V_end p1 h))) - (F_V_top p1 h)))), (5, vI p2)]) _ _ (sub_of [1, 2, 3, 4, 5, 0] rfl) ?_
  obtain ⟨x5_4, h5, e6, hF⟩ := ob2_elim hF
  refine LT_V_moveTo_L64 hK _ _ _ _ _ e6 ?_
  refine g_seg hK [.aload_n 0, .getfield 23, .iload_n 1, .iload_n 2] 87 93 (L1 := [(0, vR 54), (1, vI p1), (2, vI p2), (3, vI (F_Ro_at 55 (F_V_top p1 h) h)), (4, vI (wr ((wr (p2 + (F_V_end p1 h))) - (F_V_top p1 h)))), (5, vI x5_4)]) (st1 := [vI p2, vI p1, vR 59]) (h1 := h5) (P := True ∧ kd 54 = 7 ∧ True ∧ True ∧ True) (by decide +kernel) rfl rfl ⟨trivial, rfl, trivial, trivial, trivial⟩ ?_
  refine g_callV0 hK 93 87 (d1 := 0) (ci := 3) (i := 59) (vs := [vI p1, vI p2]) (rest := []) (h1 := (F_Ro_change 59 p1 p2 h5)) my_yX3_change vw_X5_87 (by decide) (T_Ro_change (o := 59) (p1 := p1) (p2 := p2) (h := h5) (ko := rfl) (hF := rfl)) rfl rfl rfl (Nat.le_of_ble_eq_true rfl) (by decide +kernel) ?_
  refine g_seg hK [.aload_n 0, .getfield 26, .iload_n 1, .iload 4] 96 103 (L1 := [(0, vR 54), (1, vI p1), (2, vI p2), (3, vI (F_Ro_at 55 (F_V_top p1 h) h)), (4, vI (wr ((wr (p2 + (F_V_end p1 h))) - (F_V_top p1 h)))), (5, vI x5_4)]) (st1 := [vI (wr ((wr (p2 + (F_V_end p1 h))) - (F_V_top p1 h))), vI p1, vR 61]) (h1 := (F_Ro_change 59 p1 p2 h5)) (P := True ∧ kd 54 = 7 ∧ True ∧ True ∧ True) (by decide +kernel) rfl rfl ⟨trivial, rfl, trivial, trivial, trivial⟩ ?_
  refine g_callV0 hK 103 87 (d1 := 0) (ci := 3) (i := 61) (vs := [vI p1, vI (wr ((wr (p2 + (F_V_end p1 h))) - (F_V_top p1 h)))]) (rest := []) (h1 := (F_Ro_change 61 p1 (wr ((wr (p2 + (F_V_end p1 h))) - (F_V_top p1 h))) (F_Ro_change 59 p1 p2 h5))) my_yX3_change vw_X5_87 (by decide) (T_Ro_change (o := 61) (p1 := p1) (p2 := (wr ((wr (p2 + (F_V_end p1 h))) - (F_V_top p1 h)))) (h := (F_Ro_change 59 p1 p2 h5)) (ko := rfl) (hF := rfl)) rfl rfl rfl (Nat.le_of_ble_eq_true rfl) (by decide +kernel) ?_
  cases hF
  exact hR.2.2.2.2 106 _ _ (by decide +kernel) rfl ⟨rfl, rfl⟩
set_option maxHeartbeats 4000000 in
set_option maxRecDepth 100000 in
theorem LT_V_settle_L2 {K : KT} (hK : Rules RX5 cX5_settle 2 none flX5 4 K) : ∀ (n : Nat) (x1 : Int) (h : MH) (x1' : Int) (h' : MH), F_V_settle_L2 n x1 h = some (x1', h') → K 34 [(0, vR 54), (1, vI x1')] [] h' → K 2 [(0, vR 54), (1, vI x1)] [] h := by
  intro n
  induction n with
  | zero =>
    intro x1 h x1' h' hF
    cases hF
  | succ n ih =>
    intro x1 h x1' h' hF hE
    unfold F_V_settle_L2 at hF
    refine g_seg hK [.iload_n 1, .aload_n 0] 2 4 (L1 := [(0, vR 54), (1, vI x1)]) (st1 := [vR 54, vI x1]) (h1 := h) (P := True ∧ True ∧ True) (by decide +kernel) rfl rfl ⟨trivial, trivial, trivial⟩ ?_
    refine g_callV1 hK 4 64 (d1 := 1) (ci := 5) (i := 54) (vs := []) (rest := [vI x1]) (h1 := h) (r := vI (F_V_hunks h)) my_yX5_hunks vw_X5_64 (by decide) (T_V_hunks (h := h) (hF := rfl)) rfl rfl rfl (Nat.le_of_ble_eq_true rfl) (by decide +kernel) ?_
    refine g_icmp hK 7 .ge (27) 34 (t1 := 10) (t2 := 34) (by decide +kernel) (by decide) rfl rfl (fun (hc1 : x1 < F_V_hunks h) => ?_) (fun (hc1 : ¬ (x1 < F_V_hunks h)) => ?_)
    · have hF := ite_t hc1 hF
      refine g_seg hK [.aload_n 0, .iload_n 1] 10 12 (L1 := [(0, vR 54), (1, vI x1)]) (st1 := [vI x1, vR 54]) (h1 := h) (P := True ∧ True ∧ True) (by decide +kernel) rfl rfl ⟨trivial, trivial, trivial⟩ ?_
      refine g_callV1 hK 12 71 (d1 := 1) (ci := 5) (i := 54) (vs := [vI x1]) (rest := []) (h1 := h) (r := vI (F_V_isPlain x1 h)) my_yX5_isPlain vw_X5_71 (by decide) (T_V_isPlain (p1 := x1) (h := h) (hF := rfl)) rfl rfl rfl (Nat.le_of_ble_eq_true rfl) (by decide +kernel) ?_
      obtain ⟨kj3, e4, hF⟩ := jk1_elim hF
      have j3 : ∀ (h2 : MH), kj3 h2 = some (x1', h') → K 28 [(0, vR 54), (1, vI x1)] [] h2 := by
        intro h2 hF
        have hF := (e4 h2).symm.trans hF
        refine g_seg hK [.iinc 1 1] 28 31 (L1 := [(1, vI (wr (x1 + 1))), (0, vR 54)]) (st1 := []) (h1 := h2) (P := True ∧ True) (by decide +kernel) rfl rfl ⟨trivial, trivial⟩ ?_
        refine g_goto hK 31 (-29) 2 (by decide +kernel) (by decide) ?_
        refine hK.2.1 _ _ ([(0, vR 54), (1, vI (wr (x1 + 1)))]) _ _ (sub_of [1, 0] rfl) ?_
        exact ih _ _ _ _ hF hE
      refine g_ifz hK 15 .eq (13) 28 (t1 := 28) (t2 := 18) (by decide +kernel) (by decide) rfl rfl (fun (hc5 : F_V_isPlain x1 h = 0) => ?_) (fun (hc5 : ¬ (F_V_isPlain x1 h = 0)) => ?_)
      · have hF := ite_t hc5 hF
        exact j3 _ hF
      · have hF := ite_f hc5 hF
        refine g_seg hK [.aload_n 0, .iload_n 1, .aload_n 0, .iload_n 1] 18 22 (L1 := [(0, vR 54), (1, vI x1)]) (st1 := [vI x1, vR 54, vI x1, vR 54]) (h1 := h) (P := True ∧ True ∧ True ∧ True ∧ True) (by decide +kernel) rfl rfl ⟨trivial, trivial, trivial, trivial, trivial⟩ ?_
        obtain ⟨r6, e7, hF⟩ := ob1_elim hF
        refine g_callV1 hK 22 74 (d1 := 3) (ci := 5) (i := 54) (vs := [vI x1]) (rest := [vI x1, vR 54]) (h1 := h) (r := vI r6) my_yX5_bestTop vw_X5_74 (by decide) (T_V_bestTop (p1 := x1) (h := h) (hF := e7)) rfl rfl rfl (Nat.le_of_ble_eq_true rfl) (by decide +kernel) ?_
        obtain ⟨h8, e9, hF⟩ := ob1_elim hF
        refine g_callV0 hK 25 77 (d1 := 2) (ci := 5) (i := 54) (vs := [vI x1, vI r6]) (rest := []) (h1 := h8) my_yX5_moveTo vw_X5_77 (by decide) (T_V_moveTo (p1 := x1) (p2 := r6) (h := h) (hF := e9)) rfl rfl rfl (Nat.le_of_ble_eq_true rfl) (by decide +kernel) ?_
        exact j3 _ hF
    · have hF := ite_f hc1 hF
      cases hF
      exact hE
set_option maxHeartbeats 4000000 in
set_option maxRecDepth 100000 in
theorem T_V_settle {h : MH} {h' : MH} (hF : F_V_settle h = some h') : CON 4 yX5_settle cX5_settle 2 none [vR 54] h none h' := by
  refine con_of (own := RX5) (fl := flX5) (by decide +kernel) rfl flok_X5 rfl (Nat.le_of_ble_eq_true rfl) ?_
  intro K hK hR
  show K 0 [(0, vR 54)] [] h
  unfold F_V_settle at hF
  refine g_seg hK [.iconst 0, .istore_n 1] 0 2 (L1 := [(1, vI 0), (0, vR 54)]) (st1 := []) (h1 := h) (P := True ∧ True ∧ True) (by decide +kernel) rfl rfl ⟨trivial, trivial, trivial⟩ ?_
  refine hK.2.1 _ _ ([(0, vR 54), (1, vI 0)]) _ _ (sub_of [1, 0] rfl) ?_
  obtain ⟨x1_1, h2, e3, hF⟩ := ob2_elim hF
  refine LT_V_settle_L2 hK _ _ _ _ _ e3 ?_
  cases hF
  exact hR.2.2.2.2 34 _ _ (by decide +kernel) rfl ⟨rfl, rfl⟩
set_option maxHeartbeats 4000000 in
set_option maxRecDepth 100000 in
theorem T_X_show {h : MH} {h' : MH} (hF : F_X_show h = some h') : CON 5 yX6_show cX6_show 1 none [vR 0] h none h' := by
  refine con_of (own := RX6) (fl := flX6) (by decide +kernel) rfl flok_X6 rfl (Nat.le_of_ble_eq_true rfl) ?_
  intro K hK hR
  show K 0 [(0, vR 0)] [] h
  unfold F_X_show at hF
  refine g_seg hK [.aload_n 0, .getfield 52, .aload_n 0, .getfield 21, .iconst 0] 0 9 (L1 := [(0, vR 0)]) (st1 := [vI 0, vR 3, vR 54]) (h1 := h) (P := True ∧ kd 0 = 8 ∧ True ∧ kd 0 = 8 ∧ True ∧ True) (by decide +kernel) rfl rfl ⟨trivial, rfl, trivial, rfl, trivial, trivial⟩ ?_
  refine g_callV1 hK 9 88 (d1 := 0) (ci := 4) (i := 3) (vs := [vI 0]) (rest := [vR 54]) (h1 := h) (r := vR (F_St_text 3 0)) my_yX4_text vw_X6_88 (by decide) (T_St_text (o := 3) (p1 := 0) (h := h) (ks := rfl) (hF := rfl)) rfl rfl rfl (Nat.le_of_ble_eq_true rfl) (by decide +kernel) ?_
  refine g_seg hK [.aload_n 0, .getfield 21, .iconst 1] 12 17 (L1 := [(0, vR 0)]) (st1 := [vI 1, vR 3, vR (F_St_text 3 0), vR 54]) (h1 := h) (P := True ∧ kd 0 = 8 ∧ True ∧ True) (by decide +kernel) rfl rfl ⟨trivial, rfl, trivial, trivial⟩ ?_
  refine g_callV1 hK 17 88 (d1 := 0) (ci := 4) (i := 3) (vs := [vI 1]) (rest := [vR (F_St_text 3 0), vR 54]) (h1 := h) (r := vR (F_St_text 3 1)) my_yX4_text vw_X6_88 (by decide) (T_St_text (o := 3) (p1 := 1) (h := h) (ks := rfl) (hF := rfl)) rfl rfl rfl (Nat.le_of_ble_eq_true rfl) (by decide +kernel) ?_
  refine g_seg hK [.aload_n 0, .getfield 45] 20 24 (L1 := [(0, vR 0)]) (st1 := [vR 49, vR (F_St_text 3 1), vR (F_St_text 3 0), vR 54]) (h1 := h) (P := True ∧ kd 0 = 8 ∧ True) (by decide +kernel) rfl rfl ⟨trivial, rfl, trivial⟩ ?_
  obtain ⟨h1, e2, hF⟩ := ob1_elim hF
  refine g_callV0 hK 24 233 (d1 := 4) (ci := 5) (i := 54) (vs := [vR (F_St_text 3 0), vR (F_St_text 3 1), vR 49]) (rest := []) (h1 := h1) my_yX5_gather vw_X6_233 (by decide) (T_V_gather (p1 := (F_St_text 3 0)) (p2 := (F_St_text 3 1)) (h := h) (kp1 := (kd_St_text rfl)) (kp2 := (kd_St_text rfl)) (hF := e2)) rfl rfl rfl (Nat.le_of_ble_eq_true rfl) (by decide +kernel) ?_
  refine g_seg hK [.aload_n 0, .getfield 21, .iconst 1] 27 32 (L1 := [(0, vR 0)]) (st1 := [vI 1, vR 3]) (h1 := h1) (P := True ∧ kd 0 = 8 ∧ True ∧ True) (by decide +kernel) rfl rfl ⟨trivial, rfl, trivial, trivial⟩ ?_
  refine g_callV1 hK 32 112 (d1 := 0) (ci := 4) (i := 3) (vs := [vI 1]) (rest := []) (h1 := h1) (r := vI (F_St_setting 3 1 h1)) my_yX4_setting vw_X6_112 (by decide) (T_St_setting (o := 3) (p1 := 1) (h := h1) (ks := rfl) (hF := rfl)) rfl rfl rfl (Nat.le_of_ble_eq_true rfl) (by decide +kernel) ?_
  refine g_seg hK [.iconst 1] 35 36 (L1 := [(0, vR 0)]) (st1 := [vI 1, vI (F_St_setting 3 1 h1)]) (h1 := h1) (P := True ∧ True) (by decide +kernel) rfl rfl ⟨trivial, trivial⟩ ?_
  refine g_icmp hK 36 .ne (10) 46 (t1 := 39) (t2 := 46) (by decide +kernel) (by decide) rfl rfl (fun (hc3 : F_St_setting 3 1 h1 = 1) => ?_) (fun (hc3 : ¬ (F_St_setting 3 1 h1 = 1)) => ?_)
  · have hF := ite_t hc3 hF
    refine g_seg hK [.aload_n 0, .getfield 52] 39 43 (L1 := [(0, vR 0)]) (st1 := [vR 54]) (h1 := h1) (P := True ∧ kd 0 = 8 ∧ True) (by decide +kernel) rfl rfl ⟨trivial, rfl, trivial⟩ ?_
    obtain ⟨h4, e5, hF⟩ := ob1_elim hF
    refine g_callV0 hK 43 237 (d1 := 4) (ci := 5) (i := 54) (vs := []) (rest := []) (h1 := h4) my_yX5_settle vw_X6_237 (by decide) (T_V_settle (h := h1) (hF := e5)) rfl rfl rfl (Nat.le_of_ble_eq_true rfl) (by decide +kernel) ?_
    cases hF
    exact hR.2.2.2.2 46 _ _ (by decide +kernel) rfl ⟨rfl, rfl⟩
  · have hF := ite_f hc3 hF
    cases hF
    exact hR.2.2.2.2 46 _ _ (by decide +kernel) rfl ⟨rfl, rfl⟩
set_option maxHeartbeats 4000000 in
set_option maxRecDepth 100000 in
theorem T_V_has {p1 : Int} {h : MH} {r : Int} (hF : F_V_has p1 h = r) : CON 2 yX5_has cX5_has 2 (Option.some Jvm.ClassFile.FieldType.boolean) [vR 54, vI p1] h (some (vI r)) h := by
  refine con_of (own := RX5) (fl := flX5) (by decide +kernel) rfl flok_X5 rfl (Nat.le_of_ble_eq_true rfl) ?_
  intro K hK hR
  show K 0 [(0, vR 54), (1, vI p1)] [] h
  unfold F_V_has at hF
  refine g_seg hK [.iload_n 1] 0 1 (L1 := [(0, vR 54), (1, vI p1)]) (st1 := [vI p1]) (h1 := h) (P := True ∧ True) (by decide +kernel) rfl rfl ⟨trivial, trivial⟩ ?_
  refine g_ifz hK 1 .lt (15) 16 (t1 := 16) (t2 := 4) (by decide +kernel) (by decide) rfl rfl (fun (hc1 : p1 < 0) => ?_) (fun (hc1 : ¬ (p1 < 0)) => ?_)
  · have hF := ite_t hc1 hF
    refine g_seg hK [.iconst 0] 16 17 (L1 := [(0, vR 54), (1, vI p1)]) (st1 := [vI 0]) (h1 := h) (P := True ∧ True) (by decide +kernel) rfl rfl ⟨trivial, trivial⟩ ?_
    cases hF
    exact hR.2.1 17 _ _ _ (by decide +kernel) rfl (by decide) ⟨rfl, rfl⟩
  · have hF := ite_f hc1 hF
    refine g_seg hK [.iload_n 1, .aload_n 0] 4 6 (L1 := [(0, vR 54), (1, vI p1)]) (st1 := [vR 54, vI p1]) (h1 := h) (P := True ∧ True ∧ True) (by decide +kernel) rfl rfl ⟨trivial, trivial, trivial⟩ ?_
    refine g_callV1 hK 6 64 (d1 := 1) (ci := 5) (i := 54) (vs := []) (rest := [vI p1]) (h1 := h) (r := vI (F_V_hunks h)) my_yX5_hunks vw_X5_64 (by decide) (T_V_hunks (h := h) (hF := rfl)) rfl rfl rfl (Nat.le_of_ble_eq_true rfl) (by decide +kernel) ?_
    refine g_icmp hK 9 .ge (7) 16 (t1 := 12) (t2 := 16) (by decide +kernel) (by decide) rfl rfl (fun (hc2 : p1 < F_V_hunks h) => ?_) (fun (hc2 : ¬ (p1 < F_V_hunks h)) => ?_)
    · have hF := ite_t hc2 hF
      refine g_seg hK [.iconst 1] 12 13 (L1 := [(0, vR 54), (1, vI p1)]) (st1 := [vI 1]) (h1 := h) (P := True ∧ True) (by decide +kernel) rfl rfl ⟨trivial, trivial⟩ ?_
      refine g_goto hK 13 (4) 17 (by decide +kernel) (by decide) ?_
      cases hF
      exact hR.2.1 17 _ _ _ (by decide +kernel) rfl (by decide) ⟨rfl, rfl⟩
    · have hF := ite_f hc2 hF
      refine g_seg hK [.iconst 0] 16 17 (L1 := [(0, vR 54), (1, vI p1)]) (st1 := [vI 0]) (h1 := h) (P := True ∧ True) (by decide +kernel) rfl rfl ⟨trivial, trivial⟩ ?_
      cases hF
      exact hR.2.1 17 _ _ _ (by decide +kernel) rfl (by decide) ⟨rfl, rfl⟩
set_option maxHeartbeats 4000000 in
set_option maxRecDepth 100000 in
theorem T_V_around {p1 : Int} {p2 : Int} {p3 : Int} {h : MH} {r : Int} (hF : F_V_around p1 p2 p3 h = r) : CON 3 yX5_around cX5_around 5 (Option.some Jvm.ClassFile.FieldType.int) [vR 54, vI p1, vI p2, vI p3] h (some (vI r)) h := by
  refine con_of (own := RX5) (fl := flX5) (by decide +kernel) rfl flok_X5 rfl (Nat.le_of_ble_eq_true rfl) ?_
  intro K hK hR
  show K 0 [(0, vR 54), (1, vI p1), (2, vI p2), (3, vI p3)] [] h
  unfold F_V_around at hF
  refine g_seg hK [.iload_n 3] 0 1 (L1 := [(0, vR 54), (1, vI p1), (2, vI p2), (3, vI p3)]) (st1 := [vI p3]) (h1 := h) (P := True ∧ True) (by decide +kernel) rfl rfl ⟨trivial, trivial⟩ ?_
  obtain ⟨x4_1, e12, hF⟩ := jn1_elim hF
  have j2 : K 68 [(2, vI p2), (4, vI x4_1)] [] h := by
    refine g_seg hK [.iload_n 2, .iload 4] 68 71 (L1 := [(2, vI p2), (4, vI x4_1)]) (st1 := [vI x4_1, vI p2]) (h1 := h) (P := True ∧ True ∧ True) (by decide +kernel) rfl rfl ⟨trivial, trivial, trivial⟩ ?_
    refine g_mmin hK 71 116 (by decide) mw_X5_116 (Nat.le_of_ble_eq_true rfl) (by decide +kernel) ?_
    cases hF
    exact hR.1 74 _ _ _ (by decide +kernel) rfl ⟨rfl, rfl⟩
  clear hF
  have hF := e12
  refine g_ifz hK 1 .eq (38) 39 (t1 := 39) (t2 := 4) (by decide +kernel) (by decide) rfl rfl (fun (hc3 : p3 = 0) => ?_) (fun (hc3 : ¬ (p3 = 0)) => ?_)
  · have hF := ite_t hc3 hF
    refine g_seg hK [.aload_n 0, .iload_n 1] 39 41 (L1 := [(0, vR 54), (1, vI p1), (2, vI p2), (3, vI p3)]) (st1 := [vI p1, vR 54]) (h1 := h) (P := True ∧ True ∧ True) (by decide +kernel) rfl rfl ⟨trivial, trivial, trivial⟩ ?_
    refine g_callV1 hK 41 81 (d1 := 1) (ci := 5) (i := 54) (vs := [vI p1]) (rest := []) (h1 := h) (r := vI (F_V_top p1 h)) my_yX5_top vw_X5_81 (by decide) (T_V_top (p1 := p1) (h := h) (hF := rfl)) rfl rfl rfl (Nat.le_of_ble_eq_true rfl) (by decide +kernel) ?_
    refine g_seg hK [.aload_n 0, .iload_n 1, .iconst 1, .isub] 44 48 (L1 := [(0, vR 54), (1, vI p1), (2, vI p2), (3, vI p3)]) (st1 := [vI (wr (p1 - 1)), vR 54, vI (F_V_top p1 h)]) (h1 := h) (P := True ∧ True ∧ True ∧ True ∧ True) (by decide +kernel) rfl rfl ⟨trivial, trivial, trivial, trivial, trivial⟩ ?_
    refine g_callV1 hK 48 113 (d1 := 2) (ci := 5) (i := 54) (vs := [vI (wr (p1 - 1))]) (rest := [vI (F_V_top p1 h)]) (h1 := h) (r := vI (F_V_has (wr (p1 - 1)) h)) my_yX5_has vw_X5_113 (by decide) (T_V_has (p1 := (wr (p1 - 1))) (h := h) (hF := rfl)) rfl rfl rfl (Nat.le_of_ble_eq_true rfl) (by decide +kernel) ?_
    obtain ⟨s4, e7, hF⟩ := jn1_elim hF
    have j5 : K 65 [(2, vI p2)] [vI s4, vI (F_V_top p1 h)] h := by
      refine g_seg hK [.isub, .istore 4] 65 68 (L1 := [(4, vI (wr ((F_V_top p1 h) - s4))), (2, vI p2)]) (st1 := []) (h1 := h) (P := True ∧ True ∧ True) (by decide +kernel) rfl rfl ⟨trivial, trivial, trivial⟩ ?_
      refine hK.2.1 _ _ ([(2, vI p2), (4, vI (wr ((F_V_top p1 h) - s4)))]) _ _ (sub_of [1, 0] rfl) ?_
      cases hF
      exact j2
    clear hF
    have hF := e7
    refine g_ifz hK 51 .eq (13) 64 (t1 := 64) (t2 := 54) (by decide +kernel) (by decide) rfl rfl (fun (hc6 : F_V_has (wr (p1 - 1)) h = 0) => ?_) (fun (hc6 : ¬ (F_V_has (wr (p1 - 1)) h = 0)) => ?_)
    · have hF := ite_t hc6 hF
      refine g_seg hK [.iconst 0] 64 65 (L1 := [(0, vR 54), (1, vI p1), (2, vI p2), (3, vI p3)]) (st1 := [vI 0, vI (F_V_top p1 h)]) (h1 := h) (P := True ∧ True) (by decide +kernel) rfl rfl ⟨trivial, trivial⟩ ?_
      refine hK.2.1 _ _ ([(2, vI p2)]) _ _ (sub_of [2] rfl) ?_
      cases hF
      exact j5
    · have hF := ite_f hc6 hF
      refine g_seg hK [.aload_n 0, .iload_n 1, .iconst 1, .isub] 54 58 (L1 := [(0, vR 54), (1, vI p1), (2, vI p2), (3, vI p3)]) (st1 := [vI (wr (p1 - 1)), vR 54, vI (F_V_top p1 h)]) (h1 := h) (P := True ∧ True ∧ True ∧ True ∧ True) (by decide +kernel) rfl rfl ⟨trivial, trivial, trivial, trivial, trivial⟩ ?_
      refine g_callV1 hK 58 84 (d1 := 1) (ci := 5) (i := 54) (vs := [vI (wr (p1 - 1))]) (rest := [vI (F_V_top p1 h)]) (h1 := h) (r := vI (F_V_end (wr (p1 - 1)) h)) my_yX5_end vw_X5_84 (by decide) (T_V_end (p1 := (wr (p1 - 1))) (h := h) (hF := rfl)) rfl rfl rfl (Nat.le_of_ble_eq_true rfl) (by decide +kernel) ?_
      refine g_goto hK 61 (4) 65 (by decide +kernel) (by decide) ?_
      refine hK.2.1 _ _ ([(2, vI p2)]) _ _ (sub_of [2] rfl) ?_
      cases hF
      exact j5
  · have hF := ite_f hc3 hF
    refine g_seg hK [.aload_n 0, .iload_n 1, .iconst 1, .iadd] 4 8 (L1 := [(0, vR 54), (1, vI p1), (2, vI p2), (3, vI p3)]) (st1 := [vI (wr (p1 + 1)), vR 54]) (h1 := h) (P := True ∧ True ∧ True ∧ True ∧ True) (by decide +kernel) rfl rfl ⟨trivial, trivial, trivial, trivial, trivial⟩ ?_
    refine g_callV1 hK 8 113 (d1 := 2) (ci := 5) (i := 54) (vs := [vI (wr (p1 + 1))]) (rest := []) (h1 := h) (r := vI (F_V_has (wr (p1 + 1)) h)) my_yX5_has vw_X5_113 (by decide) (T_V_has (p1 := (wr (p1 + 1))) (h := h) (hF := rfl)) rfl rfl rfl (Nat.le_of_ble_eq_true rfl) (by decide +kernel) ?_
    obtain ⟨s8, e11, hF⟩ := jn1_elim hF
    have j9 : K 28 [(0, vR 54), (1, vI p1), (2, vI p2)] [vI s8] h := by
      refine g_seg hK [.aload_n 0, .iload_n 1] 28 30 (L1 := [(0, vR 54), (1, vI p1), (2, vI p2)]) (st1 := [vI p1, vR 54, vI s8]) (h1 := h) (P := True ∧ True ∧ True) (by decide +kernel) rfl rfl ⟨trivial, trivial, trivial⟩ ?_
      refine g_callV1 hK 30 84 (d1 := 1) (ci := 5) (i := 54) (vs := [vI p1]) (rest := [vI s8]) (h1 := h) (r := vI (F_V_end p1 h)) my_yX5_end vw_X5_84 (by decide) (T_V_end (p1 := p1) (h := h) (hF := rfl)) rfl rfl rfl (Nat.le_of_ble_eq_true rfl) (by decide +kernel) ?_
      refine g_seg hK [.isub, .istore 4] 33 36 (L1 := [(4, vI (wr (s8 - (F_V_end p1 h)))), (0, vR 54), (1, vI p1), (2, vI p2)]) (st1 := []) (h1 := h) (P := True ∧ True ∧ True) (by decide +kernel) rfl rfl ⟨trivial, trivial, trivial⟩ ?_
      refine g_goto hK 36 (32) 68 (by decide +kernel) (by decide) ?_
      refine hK.2.1 _ _ ([(2, vI p2), (4, vI (wr (s8 - (F_V_end p1 h))))]) _ _ (sub_of [3, 0] rfl) ?_
      cases hF
      exact j2
    clear hF
    have hF := e11
    refine g_ifz hK 11 .eq (13) 24 (t1 := 24) (t2 := 14) (by decide +kernel) (by decide) rfl rfl (fun (hc10 : F_V_has (wr (p1 + 1)) h = 0) => ?_) (fun (hc10 : ¬ (F_V_has (wr (p1 + 1)) h = 0)) => ?_)
    · have hF := ite_t hc10 hF
      refine g_seg hK [.aload_n 0] 24 25 (L1 := [(0, vR 54), (1, vI p1), (2, vI p2), (3, vI p3)]) (st1 := [vR 54]) (h1 := h) (P := True ∧ True) (by decide +kernel) rfl rfl ⟨trivial, trivial⟩ ?_
      refine g_callV1 hK 25 59 (d1 := 1) (ci := 5) (i := 54) (vs := []) (rest := []) (h1 := h) (r := vI (F_V_size h)) my_yX5_size vw_X5_59 (by decide) (T_V_size (h := h) (hF := rfl)) rfl rfl rfl (Nat.le_of_ble_eq_true rfl) (by decide +kernel) ?_
      refine hK.2.1 _ _ ([(0, vR 54), (1, vI p1), (2, vI p2)]) _ _ (sub_of [0, 1, 2] rfl) ?_
      cases hF
      exact j9
    · have hF := ite_f hc10 hF
      refine g_seg hK [.aload_n 0, .iload_n 1, .iconst 1, .iadd] 14 18 (L1 := [(0, vR 54), (1, vI p1), (2, vI p2), (3, vI p3)]) (st1 := [vI (wr (p1 + 1)), vR 54]) (h1 := h) (P := True ∧ True ∧ True ∧ True ∧ True) (by decide +kernel) rfl rfl ⟨trivial, trivial, trivial, trivial, trivial⟩ ?_
      refine g_callV1 hK 18 81 (d1 := 1) (ci := 5) (i := 54) (vs := [vI (wr (p1 + 1))]) (rest := []) (h1 := h) (r := vI (F_V_top (wr (p1 + 1)) h)) my_yX5_top vw_X5_81 (by decide) (T_V_top (p1 := (wr (p1 + 1))) (h := h) (hF := rfl)) rfl rfl rfl (Nat.le_of_ble_eq_true rfl) (by decide +kernel) ?_
      refine g_goto hK 21 (7) 28 (by decide +kernel) (by decide) ?_
      refine hK.2.1 _ _ ([(0, vR 54), (1, vI p1), (2, vI p2)]) _ _ (sub_of [0, 1, 2] rfl) ?_
      cases hF
      exact j9
set_option maxHeartbeats 4000000 in
set_option maxRecDepth 100000 in
theorem T_V_kind {p1 : Int} {h : MH} {r : Int} (hF : F_V_kind p1 h = r) : CON 1 yX5_kind cX5_kind 2 (Option.some Jvm.ClassFile.FieldType.int) [vR 54, vI p1] h (some (vI r)) h := by
  refine con_of (own := RX5) (fl := flX5) (by decide +kernel) rfl flok_X5 rfl (Nat.le_of_ble_eq_true rfl) ?_
  intro K hK hR
  show K 0 [(0, vR 54), (1, vI p1)] [] h
  unfold F_V_kind at hF
  refine g_seg hK [.aload_n 0, .getfield 14, .iload_n 1] 0 5 (L1 := [(0, vR 54), (1, vI p1)]) (st1 := [vI p1, vR 55]) (h1 := h) (P := True ∧ kd 54 = 7 ∧ True ∧ True) (by decide +kernel) rfl rfl ⟨trivial, rfl, trivial, trivial⟩ ?_
  refine g_callV1 hK 5 52 (d1 := 0) (ci := 3) (i := 55) (vs := [vI p1]) (rest := []) (h1 := h) (r := vI (F_Ro_at 55 p1 h)) my_yX3_at vw_X5_52 (by decide) (T_Ro_at (o := 55) (p1 := p1) (h := h) (ko := rfl) (hF := rfl)) rfl rfl rfl (Nat.le_of_ble_eq_true rfl) (by decide +kernel) ?_
  cases hF
  exact hR.1 8 _ _ _ (by decide +kernel) rfl ⟨rfl, rfl⟩
set_option maxHeartbeats 4000000 in
set_option maxRecDepth 100000 in
theorem T_V_sign {p1 : Int} {h : MH} {r : Int} (hF : F_V_sign p1 h = r) : CON 1 yX5_sign cX5_sign 2 (Option.some Jvm.ClassFile.FieldType.int) [vR 54, vI p1] h (some (vI r)) h := by
  refine con_of (own := RX5) (fl := flX5) (by decide +kernel) rfl flok_X5 rfl (Nat.le_of_ble_eq_true rfl) ?_
  intro K hK hR
  show K 0 [(0, vR 54), (1, vI p1)] [] h
  unfold F_V_sign at hF
  refine g_seg hK [.aload_n 0, .getfield 20, .iload_n 1] 0 5 (L1 := [(0, vR 54), (1, vI p1)]) (st1 := [vI p1, vR 57]) (h1 := h) (P := True ∧ kd 54 = 7 ∧ True ∧ True) (by decide +kernel) rfl rfl ⟨trivial, rfl, trivial, trivial⟩ ?_
  refine g_callV1 hK 5 52 (d1 := 0) (ci := 3) (i := 57) (vs := [vI p1]) (rest := []) (h1 := h) (r := vI (F_Ro_at 57 p1 h)) my_yX3_at vw_X5_52 (by decide) (T_Ro_at (o := 57) (p1 := p1) (h := h) (ko := rfl) (hF := rfl)) rfl rfl rfl (Nat.le_of_ble_eq_true rfl) (by decide +kernel) ?_
  cases hF
  exact hR.1 8 _ _ _ (by decide +kernel) rfl ⟨rfl, rfl⟩
set_option maxHeartbeats 4000000 in
set_option maxRecDepth 100000 in
theorem LT_La_takeParts_L41 {K : KT} (hK : Rules RX2 cX2_takeParts 8 none flX2 2 K) {x3 : Int} {x5 : Int} {x6 : Int} : ∀ (n : Nat) (x7 : Int) (h : MH) (x7' : Int) (h' : MH), F_La_takeParts_L41 x3 x5 x6 n x7 h = some (x7', h') → K 101 [(0, vR 65), (1, vR 54), (3, vI x3), (5, vI x5), (6, vI x6), (7, vI x7')] [] h' → K 41 [(0, vR 65), (1, vR 54), (3, vI x3), (5, vI x5), (6, vI x6), (7, vI x7)] [] h := by
  intro n
  induction n with
  | zero =>
    intro x7 h x7' h' hF
    cases hF
  | succ n ih =>
    intro x7 h x7' h' hF hE
    unfold F_La_takeParts_L41 at hF
    refine g_seg hK [.iload 7, .iload_n 3] 41 44 (L1 := [(0, vR 65), (1, vR 54), (3, vI x3), (5, vI x5), (6, vI x6), (7, vI x7)]) (st1 := [vI x3, vI x7]) (h1 := h) (P := True ∧ True ∧ True) (by decide +kernel) rfl rfl ⟨trivial, trivial, trivial⟩ ?_
    refine g_icmp hK 44 .ge (57) 101 (t1 := 47) (t2 := 101) (by decide +kernel) (by decide) rfl rfl (fun (hc1 : x7 < x3) => ?_) (fun (hc1 : ¬ (x7 < x3)) => ?_)
    · have hF := ite_t hc1 hF
      refine g_seg hK [.aload_n 1, .iload 7] 47 50 (L1 := [(0, vR 65), (1, vR 54), (3, vI x3), (5, vI x5), (6, vI x6), (7, vI x7)]) (st1 := [vI x7, vR 54]) (h1 := h) (P := True ∧ True ∧ True) (by decide +kernel) rfl rfl ⟨trivial, trivial, trivial⟩ ?_
      refine g_callV1 hK 50 106 (d1 := 1) (ci := 5) (i := 54) (vs := [vI x7]) (rest := []) (h1 := h) (r := vI (F_V_kind x7 h)) my_yX5_kind vw_X2_106 (by decide) (T_V_kind (p1 := x7) (h := h) (hF := rfl)) rfl rfl rfl (Nat.le_of_ble_eq_true rfl) (by decide +kernel) ?_
      refine g_seg hK [.iload 6] 53 55 (L1 := [(0, vR 65), (1, vR 54), (3, vI x3), (5, vI x5), (6, vI x6), (7, vI x7)]) (st1 := [vI x6, vI (F_V_kind x7 h)]) (h1 := h) (P := True ∧ True) (by decide +kernel) rfl rfl ⟨trivial, trivial⟩ ?_
      obtain ⟨h2, e9, hF⟩ := jn1_elim hF
      have j3 : K 71 [(0, vR 65), (1, vR 54), (3, vI x3), (5, vI x5), (6, vI x6), (7, vI x7)] [] h2 := by
        refine g_seg hK [.aload_n 1, .iload 7] 71 74 (L1 := [(0, vR 65), (1, vR 54), (3, vI x3), (5, vI x5), (6, vI x6), (7, vI x7)]) (st1 := [vI x7, vR 54]) (h1 := h2) (P := True ∧ True ∧ True) (by decide +kernel) rfl rfl ⟨trivial, trivial, trivial⟩ ?_
        refine g_callV1 hK 74 106 (d1 := 1) (ci := 5) (i := 54) (vs := [vI x7]) (rest := []) (h1 := h2) (r := vI (F_V_kind x7 h2)) my_yX5_kind vw_X2_106 (by decide) (T_V_kind (p1 := x7) (h := h2) (hF := rfl)) rfl rfl rfl (Nat.le_of_ble_eq_true rfl) (by decide +kernel) ?_
        refine g_seg hK [.iload 5] 77 79 (L1 := [(0, vR 65), (1, vR 54), (3, vI x3), (5, vI x5), (6, vI x6), (7, vI x7)]) (st1 := [vI x5, vI (F_V_kind x7 h2)]) (h1 := h2) (P := True ∧ True) (by decide +kernel) rfl rfl ⟨trivial, trivial⟩ ?_
        obtain ⟨h5, e8, hF⟩ := jn1_elim hF
        have j6 : K 95 [(0, vR 65), (1, vR 54), (3, vI x3), (5, vI x5), (6, vI x6), (7, vI x7)] [] h5 := by
          refine g_seg hK [.iinc 7 1] 95 98 (L1 := [(7, vI (wr (x7 + 1))), (0, vR 65), (1, vR 54), (3, vI x3), (5, vI x5), (6, vI x6)]) (st1 := []) (h1 := h5) (P := True ∧ True) (by decide +kernel) rfl rfl ⟨trivial, trivial⟩ ?_
          refine g_goto hK 98 (-57) 41 (by decide +kernel) (by decide) ?_
          refine hK.2.1 _ _ ([(0, vR 65), (1, vR 54), (3, vI x3), (5, vI x5), (6, vI x6), (7, vI (wr (x7 + 1)))]) _ _ (sub_of [1, 2, 3, 4, 5, 0] rfl) ?_
          exact ih _ _ _ _ hF hE
        clear hF
        have hF := e8
        refine g_icmp hK 79 .eq (16) 95 (t1 := 95) (t2 := 82) (by decide +kernel) (by decide) rfl rfl (fun (hc7 : F_V_kind x7 h2 = x5) => ?_) (fun (hc7 : ¬ (F_V_kind x7 h2 = x5)) => ?_)
        · have hF := ite_t hc7 hF
          cases hF
          exact j6
        · have hF := ite_f hc7 hF
          refine g_seg hK [.aload_n 0, .getfield 23, .aload_n 1, .iload 7] 82 89 (L1 := [(0, vR 65), (1, vR 54), (3, vI x3), (5, vI x5), (6, vI x6), (7, vI x7)]) (st1 := [vI x7, vR 54, vR 70]) (h1 := h2) (P := True ∧ kd 65 = 4 ∧ True ∧ True ∧ True) (by decide +kernel) rfl rfl ⟨trivial, rfl, trivial, trivial, trivial⟩ ?_
          refine g_callV1 hK 89 109 (d1 := 1) (ci := 5) (i := 54) (vs := [vI x7]) (rest := [vR 70]) (h1 := h2) (r := vI (F_V_sign x7 h2)) my_yX5_sign vw_X2_109 (by decide) (T_V_sign (p1 := x7) (h := h2) (hF := rfl)) rfl rfl rfl (Nat.le_of_ble_eq_true rfl) (by decide +kernel) ?_
          refine g_callV0 hK 92 91 (d1 := 0) (ci := 3) (i := 70) (vs := [vI (F_V_sign x7 h2)]) (rest := []) (h1 := (F_Ro_add 70 (F_V_sign x7 h2) h2)) my_yX3_add vw_X2_91 (by decide) (T_Ro_add (o := 70) (p1 := (F_V_sign x7 h2)) (h := h2) (ko := rfl) (hF := rfl)) rfl rfl rfl (Nat.le_of_ble_eq_true rfl) (by decide +kernel) ?_
          cases hF
          exact j6
      clear hF
      have hF := e9
      refine g_icmp hK 55 .eq (16) 71 (t1 := 71) (t2 := 58) (by decide +kernel) (by decide) rfl rfl (fun (hc4 : F_V_kind x7 h = x6) => ?_) (fun (hc4 : ¬ (F_V_kind x7 h = x6)) => ?_)
      · have hF := ite_t hc4 hF
        cases hF
        exact j3
      · have hF := ite_f hc4 hF
        refine g_seg hK [.aload_n 0, .getfield 20, .aload_n 1, .iload 7] 58 65 (L1 := [(0, vR 65), (1, vR 54), (3, vI x3), (5, vI x5), (6, vI x6), (7, vI x7)]) (st1 := [vI x7, vR 54, vR 68]) (h1 := h) (P := True ∧ kd 65 = 4 ∧ True ∧ True ∧ True) (by decide +kernel) rfl rfl ⟨trivial, rfl, trivial, trivial, trivial⟩ ?_
        refine g_callV1 hK 65 109 (d1 := 1) (ci := 5) (i := 54) (vs := [vI x7]) (rest := [vR 68]) (h1 := h) (r := vI (F_V_sign x7 h)) my_yX5_sign vw_X2_109 (by decide) (T_V_sign (p1 := x7) (h := h) (hF := rfl)) rfl rfl rfl (Nat.le_of_ble_eq_true rfl) (by decide +kernel) ?_
        refine g_callV0 hK 68 91 (d1 := 0) (ci := 3) (i := 68) (vs := [vI (F_V_sign x7 h)]) (rest := []) (h1 := (F_Ro_add 68 (F_V_sign x7 h) h)) my_yX3_add vw_X2_91 (by decide) (T_Ro_add (o := 68) (p1 := (F_V_sign x7 h)) (h := h) (ko := rfl) (hF := rfl)) rfl rfl rfl (Nat.le_of_ble_eq_true rfl) (by decide +kernel) ?_
        cases hF
        exact j3
    · have hF := ite_f hc1 hF
      cases hF
      exact hE
set_option maxHeartbeats 4000000 in
set_option maxRecDepth 100000 in
theorem T_La_takeParts {p2 : Int} {p3 : Int} {p4 : Int} {h : MH} {h' : MH} (hF : F_La_takeParts p2 p3 p4 h = some h') : CON 2 yX2_takeParts cX2_takeParts 8 none [vR 65, vR 54, vI p2, vI p3, vI p4] h none h' := by
  refine con_of (own := RX2) (fl := flX2) (by decide +kernel) rfl flok_X2 rfl (Nat.le_of_ble_eq_true rfl) ?_
  intro K hK hR
  show K 0 [(0, vR 65), (1, vR 54), (2, vI p2), (3, vI p3), (4, vI p4)] [] h
  unfold F_La_takeParts at hF
  refine g_seg hK [.iload 4] 0 2 (L1 := [(0, vR 65), (1, vR 54), (2, vI p2), (3, vI p3), (4, vI p4)]) (st1 := [vI p4]) (h1 := h) (P := True ∧ True) (by decide +kernel) rfl rfl ⟨trivial, trivial⟩ ?_
  obtain ⟨s1, e11, hF⟩ := jn1_elim hF
  have j2 : K 10 [(0, vR 65), (1, vR 54), (2, vI p2), (3, vI p3), (4, vI p4)] [vI s1] h := by
    refine g_seg hK [.istore 5, .iload 4] 10 14 (L1 := [(5, vI s1), (0, vR 65), (1, vR 54), (2, vI p2), (3, vI p3), (4, vI p4)]) (st1 := [vI p4]) (h1 := h) (P := True ∧ True ∧ True) (by decide +kernel) rfl rfl ⟨trivial, trivial, trivial⟩ ?_
    obtain ⟨s4, e10, hF⟩ := jn1_elim hF
    have j5 : K 22 [(0, vR 65), (1, vR 54), (2, vI p2), (3, vI p3), (5, vI s1)] [vI s4] h := by
      refine g_seg hK [.istore 6, .aload_n 0, .getfield 20] 22 28 (L1 := [(6, vI s4), (0, vR 65), (1, vR 54), (2, vI p2), (3, vI p3), (5, vI s1)]) (st1 := [vR 68]) (h1 := h) (P := True ∧ True ∧ kd 65 = 4 ∧ True) (by decide +kernel) rfl rfl ⟨trivial, trivial, rfl, trivial⟩ ?_
      refine g_callV0 hK 28 52 (d1 := 0) (ci := 3) (i := 68) (vs := []) (rest := []) (h1 := (F_Ro_emptyOut 68 h)) my_yX3_emptyOut vw_X2_52 (by decide) (T_Ro_emptyOut (o := 68) (h := h) (ko := rfl) (hF := rfl)) rfl rfl rfl (Nat.le_of_ble_eq_true rfl) (by decide +kernel) ?_
      refine g_seg hK [.aload_n 0, .getfield 23] 31 35 (L1 := [(6, vI s4), (0, vR 65), (1, vR 54), (2, vI p2), (3, vI p3), (5, vI s1)]) (st1 := [vR 70]) (h1 := (F_Ro_emptyOut 68 h)) (P := True ∧ kd 65 = 4 ∧ True) (by decide +kernel) rfl rfl ⟨trivial, rfl, trivial⟩ ?_
      refine g_callV0 hK 35 52 (d1 := 0) (ci := 3) (i := 70) (vs := []) (rest := []) (h1 := (F_Ro_emptyOut 70 (F_Ro_emptyOut 68 h))) my_yX3_emptyOut vw_X2_52 (by decide) (T_Ro_emptyOut (o := 70) (h := (F_Ro_emptyOut 68 h)) (ko := rfl) (hF := rfl)) rfl rfl rfl (Nat.le_of_ble_eq_true rfl) (by decide +kernel) ?_
      refine g_seg hK [.iload_n 2, .istore 7] 38 41 (L1 := [(7, vI p2), (6, vI s4), (0, vR 65), (1, vR 54), (2, vI p2), (3, vI p3), (5, vI s1)]) (st1 := []) (h1 := (F_Ro_emptyOut 70 (F_Ro_emptyOut 68 h))) (P := True ∧ True ∧ True) (by decide +kernel) rfl rfl ⟨trivial, trivial, trivial⟩ ?_
      refine hK.2.1 _ _ ([(0, vR 65), (1, vR 54), (3, vI p3), (5, vI s1), (6, vI s4), (7, vI p2)]) _ _ (sub_of [2, 3, 5, 6, 1, 0] rfl) ?_
      obtain ⟨x7_7, h8, e9, hF⟩ := ob2_elim hF
      refine LT_La_takeParts_L41 hK _ _ _ _ _ e9 ?_
      cases hF
      exact hR.2.2.2.2 101 _ _ (by decide +kernel) rfl ⟨rfl, rfl⟩
    clear hF
    have hF := e10
    refine g_ifz hK 14 .eq (7) 21 (t1 := 21) (t2 := 17) (by decide +kernel) (by decide) rfl rfl (fun (hc6 : p4 = 0) => ?_) (fun (hc6 : ¬ (p4 = 0)) => ?_)
    · have hF := ite_t hc6 hF
      refine g_seg hK [.iconst 2] 21 22 (L1 := [(5, vI s1), (0, vR 65), (1, vR 54), (2, vI p2), (3, vI p3), (4, vI p4)]) (st1 := [vI 2]) (h1 := h) (P := True ∧ True) (by decide +kernel) rfl rfl ⟨trivial, trivial⟩ ?_
      refine hK.2.1 _ _ ([(0, vR 65), (1, vR 54), (2, vI p2), (3, vI p3), (5, vI s1)]) _ _ (sub_of [1, 2, 3, 4, 0] rfl) ?_
      cases hF
      exact j5
    · have hF := ite_f hc6 hF
      refine g_seg hK [.iconst 1] 17 18 (L1 := [(5, vI s1), (0, vR 65), (1, vR 54), (2, vI p2), (3, vI p3), (4, vI p4)]) (st1 := [vI 1]) (h1 := h) (P := True ∧ True) (by decide +kernel) rfl rfl ⟨trivial, trivial⟩ ?_
      refine g_goto hK 18 (4) 22 (by decide +kernel) (by decide) ?_
      refine hK.2.1 _ _ ([(0, vR 65), (1, vR 54), (2, vI p2), (3, vI p3), (5, vI s1)]) _ _ (sub_of [1, 2, 3, 4, 0] rfl) ?_
      cases hF
      exact j5
  clear hF
  have hF := e11
  refine g_ifz hK 2 .eq (7) 9 (t1 := 9) (t2 := 5) (by decide +kernel) (by decide) rfl rfl (fun (hc3 : p4 = 0) => ?_) (fun (hc3 : ¬ (p4 = 0)) => ?_)
  · have hF := ite_t hc3 hF
    refine g_seg hK [.iconst 1] 9 10 (L1 := [(0, vR 65), (1, vR 54), (2, vI p2), (3, vI p3), (4, vI p4)]) (st1 := [vI 1]) (h1 := h) (P := True ∧ True) (by decide +kernel) rfl rfl ⟨trivial, trivial⟩ ?_
    cases hF
    exact j2
  · have hF := ite_f hc3 hF
    refine g_seg hK [.iconst 2] 5 6 (L1 := [(0, vR 65), (1, vR 54), (2, vI p2), (3, vI p3), (4, vI p4)]) (st1 := [vI 2]) (h1 := h) (P := True ∧ True) (by decide +kernel) rfl rfl ⟨trivial, trivial⟩ ?_
    refine g_goto hK 6 (4) 10 (by decide +kernel) (by decide) ?_
    cases hF
    exact j2
end
section
set_option maxHeartbeats 4000000 in
set_option maxRecDepth 100000 in
theorem T_V_newAhead {p1 : Int} {h : MH} {r : Int} (hF : F_V_newAhead p1 h = some r) : CON 2 yX5_newAhead cX5_newAhead 2 (Option.some Jvm.ClassFile.FieldType.int) [vR 54, vI p1] h (some (vI r)) h := by
  refine con_of (own := RX5) (fl := flX5) (by decide +kernel) rfl flok_X5 rfl (Nat.le_of_ble_eq_true rfl) ?_
  intro K hK hR
  show K 0 [(0, vR 54), (1, vI p1)] [] h
  unfold F_V_newAhead at hF
  refine g_seg hK [.iload_n 1, .aload_n 0, .iconst 0, .iload_n 1, .iconst 1] 0 5 (L1 := [(0, vR 54), (1, vI p1)]) (st1 := [vI 1, vI p1, vI 0, vR 54, vI p1]) (h1 := h) (P := True ∧ True ∧ True ∧ True ∧ True ∧ True) (by decide +kernel) rfl rfl ⟨trivial, trivial, trivial, trivial, trivial, trivial⟩ ?_
  obtain ⟨r1, e2, hF⟩ := ob1_elim hF
  refine g_callV1 hK 5 97 (d1 := 1) (ci := 5) (i := 54) (vs := [vI 0, vI p1, vI 1]) (rest := [vI p1]) (h1 := h) (r := vI r1) my_yX5_linesWithin vw_X5_97 (by decide) (T_V_linesWithin (p1 := 0) (p2 := p1) (p3 := 1) (h := h) (hF := e2)) rfl rfl rfl (Nat.le_of_ble_eq_true rfl) (by decide +kernel) ?_
  refine g_seg hK [.isub] 8 9 (L1 := [(0, vR 54), (1, vI p1)]) (st1 := [vI (wr (p1 - r1))]) (h1 := h) (P := True ∧ True) (by decide +kernel) rfl rfl ⟨trivial, trivial⟩ ?_
  cases hF
  exact hR.1 9 _ _ _ (by decide +kernel) rfl ⟨rfl, rfl⟩
set_option maxHeartbeats 4000000 in
set_option maxRecDepth 100000 in
theorem T_V_oldAhead {p1 : Int} {h : MH} {r : Int} (hF : F_V_oldAhead p1 h = some r) : CON 2 yX5_oldAhead cX5_oldAhead 2 (Option.some Jvm.ClassFile.FieldType.int) [vR 54, vI p1] h (some (vI r)) h := by
  refine con_of (own := RX5) (fl := flX5) (by decide +kernel) rfl flok_X5 rfl (Nat.le_of_ble_eq_true rfl) ?_
  intro K hK hR
  show K 0 [(0, vR 54), (1, vI p1)] [] h
  unfold F_V_oldAhead at hF
  refine g_seg hK [.iload_n 1, .aload_n 0, .iconst 0, .iload_n 1, .iconst 2] 0 5 (L1 := [(0, vR 54), (1, vI p1)]) (st1 := [vI 2, vI p1, vI 0, vR 54, vI p1]) (h1 := h) (P := True ∧ True ∧ True ∧ True ∧ True ∧ True) (by decide +kernel) rfl rfl ⟨trivial, trivial, trivial, trivial, trivial, trivial⟩ ?_
  obtain ⟨r1, e2, hF⟩ := ob1_elim hF
  refine g_callV1 hK 5 97 (d1 := 1) (ci := 5) (i := 54) (vs := [vI 0, vI p1, vI 2]) (rest := [vI p1]) (h1 := h) (r := vI r1) my_yX5_linesWithin vw_X5_97 (by decide) (T_V_linesWithin (p1 := 0) (p2 := p1) (p3 := 2) (h := h) (hF := e2)) rfl rfl rfl (Nat.le_of_ble_eq_true rfl) (by decide +kernel) ?_
  refine g_seg hK [.isub] 8 9 (L1 := [(0, vR 54), (1, vI p1)]) (st1 := [vI (wr (p1 - r1))]) (h1 := h) (P := True ∧ True) (by decide +kernel) rfl rfl ⟨trivial, trivial⟩ ?_
  cases hF
  exact hR.1 9 _ _ _ (by decide +kernel) rfl ⟨rfl, rfl⟩
set_option maxHeartbeats 4000000 in
set_option maxRecDepth 100000 in
theorem LT_La_fitsAt_L31 {K : KT} (hK : Rules RX2 cX2_fitsAt 3 (Option.some Jvm.ClassFile.FieldType.boolean) flX2 1 K) {Post : Option MV → MH → Prop} (hR : R_ret cX2_fitsAt (Option.some Jvm.ClassFile.FieldType.boolean) Post K) {x1 : Int} {h : MH} : ∀ (n : Nat) (x2 : Int) (out : Sum (Int) (Int)), F_La_fitsAt_L31 x1 h n x2 = some out → (∀ a : Int, out = Sum.inl a → Post (some (vI a)) h) → (∀ q : Int, out = Sum.inr q → K 71 [(0, vR 65), (1, vI x1), (2, vI q)] [] h) → K 31 [(0, vR 65), (1, vI x1), (2, vI x2)] [] h := by
  intro n
  induction n with
  | zero =>
    intro x2 out hF
    cases hF
  | succ n ih =>
    intro x2 out hF hRet hE
    unfold F_La_fitsAt_L31 at hF
    refine g_seg hK [.iload_n 2, .aload_n 0, .getfield 20] 31 36 (L1 := [(0, vR 65), (1, vI x1), (2, vI x2)]) (st1 := [vR 68, vI x2]) (h1 := h) (P := True ∧ True ∧ kd 65 = 4 ∧ True) (by decide +kernel) rfl rfl ⟨trivial, trivial, rfl, trivial⟩ ?_
    refine g_callV1 hK 36 97 (d1 := 0) (ci := 3) (i := 68) (vs := []) (rest := [vI x2]) (h1 := h) (r := vI (F_Ro_size 68 h)) my_yX3_size vw_X2_97 (by decide) (T_Ro_size (o := 68) (h := h) (ko := rfl) (hF := rfl)) rfl rfl rfl (Nat.le_of_ble_eq_true rfl) (by decide +kernel) ?_
    refine g_icmp hK 39 .ge (32) 71 (t1 := 42) (t2 := 71) (by decide +kernel) (by decide) rfl rfl (fun (hc1 : x2 < F_Ro_size 68 h) => ?_) (fun (hc1 : ¬ (x2 < F_Ro_size 68 h)) => ?_)
    · have hF := ite_t hc1 hF
      refine g_seg hK [.aload_n 0, .getfield 20, .iload_n 2] 42 47 (L1 := [(0, vR 65), (1, vI x1), (2, vI x2)]) (st1 := [vI x2, vR 68]) (h1 := h) (P := True ∧ kd 65 = 4 ∧ True ∧ True) (by decide +kernel) rfl rfl ⟨trivial, rfl, trivial, trivial⟩ ?_
      refine g_callV1 hK 47 65 (d1 := 0) (ci := 3) (i := 68) (vs := [vI x2]) (rest := []) (h1 := h) (r := vI (F_Ro_at 68 x2 h)) my_yX3_at vw_X2_65 (by decide) (T_Ro_at (o := 68) (p1 := x2) (h := h) (ko := rfl) (hF := rfl)) rfl rfl rfl (Nat.le_of_ble_eq_true rfl) (by decide +kernel) ?_
      refine g_seg hK [.aload_n 0, .getfield 14, .iload_n 1, .iload_n 2, .iadd] 50 57 (L1 := [(0, vR 65), (1, vI x1), (2, vI x2)]) (st1 := [vI (wr (x1 + x2)), vR 66, vI (F_Ro_at 68 x2 h)]) (h1 := h) (P := True ∧ kd 65 = 4 ∧ True ∧ True ∧ True ∧ True) (by decide +kernel) rfl rfl ⟨trivial, rfl, trivial, trivial, trivial, trivial⟩ ?_
      refine g_callV1 hK 57 65 (d1 := 0) (ci := 3) (i := 66) (vs := [vI (wr (x1 + x2))]) (rest := [vI (F_Ro_at 68 x2 h)]) (h1 := h) (r := vI (F_Ro_at 66 (wr (x1 + x2)) h)) my_yX3_at vw_X2_65 (by decide) (T_Ro_at (o := 66) (p1 := (wr (x1 + x2))) (h := h) (ko := rfl) (hF := rfl)) rfl rfl rfl (Nat.le_of_ble_eq_true rfl) (by decide +kernel) ?_
      refine g_icmp hK 60 .eq (5) 65 (t1 := 65) (t2 := 63) (by decide +kernel) (by decide) rfl rfl (fun (hc2 : F_Ro_at 68 x2 h = F_Ro_at 66 (wr (x1 + x2)) h) => ?_) (fun (hc2 : ¬ (F_Ro_at 68 x2 h = F_Ro_at 66 (wr (x1 + x2)) h)) => ?_)
      · have hF := ite_t hc2 hF
        refine g_seg hK [.iinc 2 1] 65 68 (L1 := [(2, vI (wr (x2 + 1))), (0, vR 65), (1, vI x1)]) (st1 := []) (h1 := h) (P := True ∧ True) (by decide +kernel) rfl rfl ⟨trivial, trivial⟩ ?_
        refine g_goto hK 68 (-37) 31 (by decide +kernel) (by decide) ?_
        refine hK.2.1 _ _ ([(0, vR 65), (1, vI x1), (2, vI (wr (x2 + 1)))]) _ _ (sub_of [1, 2, 0] rfl) ?_
        exact ih _ _ hF hRet hE
      · have hF := ite_f hc2 hF
        refine g_seg hK [.iconst 0] 63 64 (L1 := [(0, vR 65), (1, vI x1), (2, vI x2)]) (st1 := [vI 0]) (h1 := h) (P := True ∧ True) (by decide +kernel) rfl rfl ⟨trivial, trivial⟩ ?_
        cases hF
        exact hR.2.1 64 _ _ _ (by decide +kernel) rfl (by decide) (hRet _ rfl)
    · have hF := ite_f hc1 hF
      cases hF
      exact hE _ rfl
set_option maxHeartbeats 4000000 in
set_option maxRecDepth 100000 in
theorem T_La_fitsAt {p1 : Int} {h : MH} {r : Int} (hF : F_La_fitsAt p1 h = some r) : CON 1 yX2_fitsAt cX2_fitsAt 3 (Option.some Jvm.ClassFile.FieldType.boolean) [vR 65, vI p1] h (some (vI r)) h := by
  refine con_of (own := RX2) (fl := flX2) (by decide +kernel) rfl flok_X2 rfl (Nat.le_of_ble_eq_true rfl) ?_
  intro K hK hR
  show K 0 [(0, vR 65), (1, vI p1)] [] h
  unfold F_La_fitsAt at hF
  refine g_seg hK [.iload_n 1, .aload_n 0, .getfield 45] 0 5 (L1 := [(0, vR 65), (1, vI p1)]) (st1 := [vI (h 65 9), vI p1]) (h1 := h) (P := True ∧ True ∧ kd 65 = 4 ∧ True) (by decide +kernel) rfl rfl ⟨trivial, trivial, rfl, trivial⟩ ?_
  refine g_icmp hK 5 .lt (22) 27 (t1 := 27) (t2 := 8) (by decide +kernel) (by decide) rfl rfl (fun (hc1 : p1 < h 65 9) => ?_) (fun (hc1 : ¬ (p1 < h 65 9)) => ?_)
  · have hF := ite_t hc1 hF
    refine g_seg hK [.iconst 0] 27 28 (L1 := [(0, vR 65), (1, vI p1)]) (st1 := [vI 0]) (h1 := h) (P := True ∧ True) (by decide +kernel) rfl rfl ⟨trivial, trivial⟩ ?_
    cases hF
    exact hR.2.1 28 _ _ _ (by decide +kernel) rfl (by decide) ⟨rfl, rfl⟩
  · have hF := ite_f hc1 hF
    refine g_seg hK [.iload_n 1, .aload_n 0, .getfield 20] 8 13 (L1 := [(0, vR 65), (1, vI p1)]) (st1 := [vR 68, vI p1]) (h1 := h) (P := True ∧ True ∧ kd 65 = 4 ∧ True) (by decide +kernel) rfl rfl ⟨trivial, trivial, rfl, trivial⟩ ?_
    refine g_callV1 hK 13 97 (d1 := 0) (ci := 3) (i := 68) (vs := []) (rest := [vI p1]) (h1 := h) (r := vI (F_Ro_size 68 h)) my_yX3_size vw_X2_97 (by decide) (T_Ro_size (o := 68) (h := h) (ko := rfl) (hF := rfl)) rfl rfl rfl (Nat.le_of_ble_eq_true rfl) (by decide +kernel) ?_
    refine g_seg hK [.iadd, .aload_n 0, .getfield 14] 16 21 (L1 := [(0, vR 65), (1, vI p1)]) (st1 := [vR 66, vI (wr (p1 + (F_Ro_size 68 h)))]) (h1 := h) (P := True ∧ True ∧ kd 65 = 4 ∧ True) (by decide +kernel) rfl rfl ⟨trivial, trivial, rfl, trivial⟩ ?_
    refine g_callV1 hK 21 97 (d1 := 0) (ci := 3) (i := 66) (vs := []) (rest := [vI (wr (p1 + (F_Ro_size 68 h)))]) (h1 := h) (r := vI (F_Ro_size 66 h)) my_yX3_size vw_X2_97 (by decide) (T_Ro_size (o := 66) (h := h) (ko := rfl) (hF := rfl)) rfl rfl rfl (Nat.le_of_ble_eq_true rfl) (by decide +kernel) ?_
    refine g_icmp hK 24 .le (5) 29 (t1 := 29) (t2 := 27) (by decide +kernel) (by decide) rfl rfl (fun (hc2 : wr (p1 + (F_Ro_size 68 h)) ≤ F_Ro_size 66 h) => ?_) (fun (hc2 : ¬ (wr (p1 + (F_Ro_size 68 h)) ≤ F_Ro_size 66 h)) => ?_)
    · have hF := ite_t hc2 hF
      refine g_seg hK [.iconst 0, .istore_n 2] 29 31 (L1 := [(2, vI 0), (0, vR 65), (1, vI p1)]) (st1 := []) (h1 := h) (P := True ∧ True ∧ True) (by decide +kernel) rfl rfl ⟨trivial, trivial, trivial⟩ ?_
      refine hK.2.1 _ _ ([(0, vR 65), (1, vI p1), (2, vI 0)]) _ _ (sub_of [1, 2, 0] rfl) ?_
      obtain ⟨out6, e4, hr7, hx8⟩ := os_elim hF
      refine LT_La_fitsAt_L31 hK hR _ _ out6 e4 ?_ ?_
      · intro a ha
        have hF := hr7 a ha
        cases hF
        exact ⟨rfl, rfl⟩
      · intro q5 hq
        have hF := hx8 q5 hq
        refine g_seg hK [.iconst 1] 71 72 (L1 := [(0, vR 65), (1, vI p1), (2, vI q5)]) (st1 := [vI 1]) (h1 := h) (P := True ∧ True) (by decide +kernel) rfl rfl ⟨trivial, trivial⟩ ?_
        cases hF
        exact hR.2.1 72 _ _ _ (by decide +kernel) rfl (by decide) ⟨rfl, rfl⟩
    · have hF := ite_f hc2 hF
      refine g_seg hK [.iconst 0] 27 28 (L1 := [(0, vR 65), (1, vI p1)]) (st1 := [vI 0]) (h1 := h) (P := True ∧ True) (by decide +kernel) rfl rfl ⟨trivial, trivial⟩ ?_
      cases hF
      exact hR.2.1 28 _ _ _ (by decide +kernel) rfl (by decide) ⟨rfl, rfl⟩
set_option maxHeartbeats 4000000 in
set_option maxRecDepth 100000 in
theorem LT_La_search_L2 {K : KT} (hK : Rules RX2 cX2_search 3 (Option.some Jvm.ClassFile.FieldType.int) flX2 2 K) {Post : Option MV → MH → Prop} (hR : R_ret cX2_search (Option.some Jvm.ClassFile.FieldType.int) Post K) {x1 : Int} {h : MH} : ∀ (n : Nat) (x2 : Int) (out : Sum (Int) (Int)), F_La_search_L2 x1 h n x2 = some out → (∀ a : Int, out = Sum.inl a → Post (some (vI a)) h) → (∀ q : Int, out = Sum.inr q → K 42 [(0, vR 65), (1, vI x1), (2, vI q)] [] h) → K 2 [(0, vR 65), (1, vI x1), (2, vI x2)] [] h := by
  intro n
  induction n with
  | zero =>
    intro x2 out hF
    cases hF
  | succ n ih =>
    intro x2 out hF hRet hE
    unfold F_La_search_L2 at hF
    refine g_seg hK [.iload_n 2, .bipush 112] 2 5 (L1 := [(0, vR 65), (1, vI x1), (2, vI x2)]) (st1 := [vI 112, vI x2]) (h1 := h) (P := True ∧ True ∧ True) (by decide +kernel) rfl rfl ⟨trivial, trivial, trivial⟩ ?_
    refine g_icmp hK 5 .gt (37) 42 (t1 := 8) (t2 := 42) (by decide +kernel) (by decide) rfl rfl (fun (hc1 : x2 ≤ 112) => ?_) (fun (hc1 : ¬ (x2 ≤ 112)) => ?_)
    · have hF := ite_t hc1 hF
      refine g_seg hK [.aload_n 0, .iload_n 1, .iload_n 2, .isub] 8 12 (L1 := [(0, vR 65), (1, vI x1), (2, vI x2)]) (st1 := [vI (wr (x1 - x2)), vR 65]) (h1 := h) (P := True ∧ True ∧ True ∧ True ∧ True) (by decide +kernel) rfl rfl ⟨trivial, trivial, trivial, trivial, trivial⟩ ?_
      obtain ⟨r2, e3, hF⟩ := ob1_elim hF
      refine g_callV1 hK 12 112 (d1 := 1) (ci := 2) (i := 65) (vs := [vI (wr (x1 - x2))]) (rest := []) (h1 := h) (r := vI r2) my_yX2_fitsAt vw_X2_112 (by decide) (T_La_fitsAt (p1 := (wr (x1 - x2))) (h := h) (hF := e3)) rfl rfl rfl (Nat.le_of_ble_eq_true rfl) (by decide +kernel) ?_
      refine g_ifz hK 15 .eq (7) 22 (t1 := 22) (t2 := 18) (by decide +kernel) (by decide) rfl rfl (fun (hc4 : r2 = 0) => ?_) (fun (hc4 : ¬ (r2 = 0)) => ?_)
      · have hF := ite_t hc4 hF
        refine g_seg hK [.aload_n 0, .iload_n 1, .iload_n 2, .iadd] 22 26 (L1 := [(0, vR 65), (1, vI x1), (2, vI x2)]) (st1 := [vI (wr (x1 + x2)), vR 65]) (h1 := h) (P := True ∧ True ∧ True ∧ True ∧ True) (by decide +kernel) rfl rfl ⟨trivial, trivial, trivial, trivial, trivial⟩ ?_
        obtain ⟨r5, e6, hF⟩ := ob1_elim hF
        refine g_callV1 hK 26 112 (d1 := 1) (ci := 2) (i := 65) (vs := [vI (wr (x1 + x2))]) (rest := []) (h1 := h) (r := vI r5) my_yX2_fitsAt vw_X2_112 (by decide) (T_La_fitsAt (p1 := (wr (x1 + x2))) (h := h) (hF := e6)) rfl rfl rfl (Nat.le_of_ble_eq_true rfl) (by decide +kernel) ?_
        refine g_ifz hK 29 .eq (7) 36 (t1 := 36) (t2 := 32) (by decide +kernel) (by decide) rfl rfl (fun (hc7 : r5 = 0) => ?_) (fun (hc7 : ¬ (r5 = 0)) => ?_)
        · have hF := ite_t hc7 hF
          refine g_seg hK [.iinc 2 1] 36 39 (L1 := [(2, vI (wr (x2 + 1))), (0, vR 65), (1, vI x1)]) (st1 := []) (h1 := h) (P := True ∧ True) (by decide +kernel) rfl rfl ⟨trivial, trivial⟩ ?_
          refine g_goto hK 39 (-37) 2 (by decide +kernel) (by decide) ?_
          refine hK.2.1 _ _ ([(0, vR 65), (1, vI x1), (2, vI (wr (x2 + 1)))]) _ _ (sub_of [1, 2, 0] rfl) ?_
          exact ih _ _ hF hRet hE
        · have hF := ite_f hc7 hF
          refine g_seg hK [.iload_n 1, .iload_n 2, .iadd] 32 35 (L1 := [(0, vR 65), (1, vI x1), (2, vI x2)]) (st1 := [vI (wr (x1 + x2))]) (h1 := h) (P := True ∧ True ∧ True ∧ True) (by decide +kernel) rfl rfl ⟨trivial, trivial, trivial, trivial⟩ ?_
          cases hF
          exact hR.1 35 _ _ _ (by decide +kernel) rfl (hRet _ rfl)
      · have hF := ite_f hc4 hF
        refine g_seg hK [.iload_n 1, .iload_n 2, .isub] 18 21 (L1 := [(0, vR 65), (1, vI x1), (2, vI x2)]) (st1 := [vI (wr (x1 - x2))]) (h1 := h) (P := True ∧ True ∧ True ∧ True) (by decide +kernel) rfl rfl ⟨trivial, trivial, trivial, trivial⟩ ?_
        cases hF
        exact hR.1 21 _ _ _ (by decide +kernel) rfl (hRet _ rfl)
    · have hF := ite_f hc1 hF
      cases hF
      exact hE _ rfl
set_option maxHeartbeats 4000000 in
set_option maxRecDepth 100000 in
theorem T_La_search {p1 : Int} {h : MH} {r : Int} (hF : F_La_search p1 h = some r) : CON 2 yX2_search cX2_search 3 (Option.some Jvm.ClassFile.FieldType.int) [vR 65, vI p1] h (some (vI r)) h := by
  refine con_of (own := RX2) (fl := flX2) (by decide +kernel) rfl flok_X2 rfl (Nat.le_of_ble_eq_true rfl) ?_
  intro K hK hR
  show K 0 [(0, vR 65), (1, vI p1)] [] h
  unfold F_La_search at hF
  refine g_seg hK [.iconst 0, .istore_n 2] 0 2 (L1 := [(2, vI 0), (0, vR 65), (1, vI p1)]) (st1 := []) (h1 := h) (P := True ∧ True ∧ True) (by decide +kernel) rfl rfl ⟨trivial, trivial, trivial⟩ ?_
  refine hK.2.1 _ _ ([(0, vR 65), (1, vI p1), (2, vI 0)]) _ _ (sub_of [1, 2, 0] rfl) ?_
  obtain ⟨out4, e2, hr5, hx6⟩ := os_elim hF
  refine LT_La_search_L2 hK hR _ _ out4 e2 ?_ ?_
  · intro a ha
    have hF := hr5 a ha
    cases hF
    exact ⟨rfl, rfl⟩
  · intro q3 hq
    have hF := hx6 q3 hq
    refine g_seg hK [.bipush (-4)] 42 44 (L1 := [(0, vR 65), (1, vI p1), (2, vI q3)]) (st1 := [vI (-4)]) (h1 := h) (P := True ∧ True) (by decide +kernel) rfl rfl ⟨trivial, trivial⟩ ?_
    cases hF
    exact hR.1 44 _ _ _ (by decide +kernel) rfl ⟨rfl, rfl⟩
set_option maxHeartbeats 4000000 in
set_option maxRecDepth 100000 in
theorem LT_La_replaceAt_L2 {K : KT} (hK : Rules RX2 cX2_replaceAt 3 none flX2 2 K) {x1 : Int} : ∀ (n : Nat) (x2 : Int) (h : MH) (x2' : Int) (h' : MH), F_La_replaceAt_L2 x1 n x2 h = some (x2', h') → K 27 [(0, vR 65), (1, vI x1), (2, vI x2')] [] h' → K 2 [(0, vR 65), (1, vI x1), (2, vI x2)] [] h := by
  intro n
  induction n with
  | zero =>
    intro x2 h x2' h' hF
    cases hF
  | succ n ih =>
    intro x2 h x2' h' hF hE
    unfold F_La_replaceAt_L2 at hF
    refine g_seg hK [.iload_n 2, .aload_n 0, .getfield 20] 2 7 (L1 := [(0, vR 65), (1, vI x1), (2, vI x2)]) (st1 := [vR 68, vI x2]) (h1 := h) (P := True ∧ True ∧ kd 65 = 4 ∧ True) (by decide +kernel) rfl rfl ⟨trivial, trivial, rfl, trivial⟩ ?_
    refine g_callV1 hK 7 97 (d1 := 0) (ci := 3) (i := 68) (vs := []) (rest := [vI x2]) (h1 := h) (r := vI (F_Ro_size 68 h)) my_yX3_size vw_X2_97 (by decide) (T_Ro_size (o := 68) (h := h) (ko := rfl) (hF := rfl)) rfl rfl rfl (Nat.le_of_ble_eq_true rfl) (by decide +kernel) ?_
    refine g_icmp hK 10 .ge (17) 27 (t1 := 13) (t2 := 27) (by decide +kernel) (by decide) rfl rfl (fun (hc1 : x2 < F_Ro_size 68 h) => ?_) (fun (hc1 : ¬ (x2 < F_Ro_size 68 h)) => ?_)
    · have hF := ite_t hc1 hF
      refine g_seg hK [.aload_n 0, .getfield 14, .iload_n 1] 13 18 (L1 := [(0, vR 65), (1, vI x1), (2, vI x2)]) (st1 := [vI x1, vR 66]) (h1 := h) (P := True ∧ kd 65 = 4 ∧ True ∧ True) (by decide +kernel) rfl rfl ⟨trivial, rfl, trivial, trivial⟩ ?_
      obtain ⟨h2, e3, hF⟩ := ob1_elim hF
      refine g_callV0 hK 18 116 (d1 := 1) (ci := 3) (i := 66) (vs := [vI x1]) (rest := []) (h1 := h2) my_yX3_putOut vw_X2_116 (by decide) (T_Ro_putOut (o := 66) (p1 := x1) (h := h) (ko := rfl) (hF := e3)) rfl rfl rfl (Nat.le_of_ble_eq_true rfl) (by decide +kernel) ?_
      refine g_seg hK [.iinc 2 1] 21 24 (L1 := [(2, vI (wr (x2 + 1))), (0, vR 65), (1, vI x1)]) (st1 := []) (h1 := h2) (P := True ∧ True) (by decide +kernel) rfl rfl ⟨trivial, trivial⟩ ?_
      refine g_goto hK 24 (-22) 2 (by decide +kernel) (by decide) ?_
      refine hK.2.1 _ _ ([(0, vR 65), (1, vI x1), (2, vI (wr (x2 + 1)))]) _ _ (sub_of [1, 2, 0] rfl) ?_
      exact ih _ _ _ _ hF hE
    · have hF := ite_f hc1 hF
      cases hF
      exact hE
set_option maxHeartbeats 4000000 in
set_option maxRecDepth 100000 in
theorem LT_La_replaceAt_L29 {K : KT} (hK : Rules RX2 cX2_replaceAt 3 none flX2 2 K) {x1 : Int} : ∀ (n : Nat) (x2 : Int) (h : MH) (x2' : Int) (h' : MH), F_La_replaceAt_L29 x1 n x2 h = some (x2', h') → K 64 [(0, vR 65), (1, vI x1), (2, vI x2')] [] h' → K 29 [(0, vR 65), (1, vI x1), (2, vI x2)] [] h := by
  intro n
  induction n with
  | zero =>
    intro x2 h x2' h' hF
    cases hF
  | succ n ih =>
    intro x2 h x2' h' hF hE
    unfold F_La_replaceAt_L29 at hF
    refine g_seg hK [.iload_n 2, .aload_n 0, .getfield 23] 29 34 (L1 := [(0, vR 65), (1, vI x1), (2, vI x2)]) (st1 := [vR 70, vI x2]) (h1 := h) (P := True ∧ True ∧ kd 65 = 4 ∧ True) (by decide +kernel) rfl rfl ⟨trivial, trivial, rfl, trivial⟩ ?_
    refine g_callV1 hK 34 97 (d1 := 0) (ci := 3) (i := 70) (vs := []) (rest := [vI x2]) (h1 := h) (r := vI (F_Ro_size 70 h)) my_yX3_size vw_X2_97 (by decide) (T_Ro_size (o := 70) (h := h) (ko := rfl) (hF := rfl)) rfl rfl rfl (Nat.le_of_ble_eq_true rfl) (by decide +kernel) ?_
    refine g_icmp hK 37 .ge (27) 64 (t1 := 40) (t2 := 64) (by decide +kernel) (by decide) rfl rfl (fun (hc1 : x2 < F_Ro_size 70 h) => ?_) (fun (hc1 : ¬ (x2 < F_Ro_size 70 h)) => ?_)
    · have hF := ite_t hc1 hF
      refine g_seg hK [.aload_n 0, .getfield 14, .iload_n 1, .iload_n 2, .iadd, .aload_n 0, .getfield 23, .iload_n 2] 40 52 (L1 := [(0, vR 65), (1, vI x1), (2, vI x2)]) (st1 := [vI x2, vR 70, vI (wr (x1 + x2)), vR 66]) (h1 := h) (P := True ∧ kd 65 = 4 ∧ True ∧ True ∧ True ∧ True ∧ kd 65 = 4 ∧ True ∧ True) (by decide +kernel) rfl rfl ⟨trivial, rfl, trivial, trivial, trivial, trivial, rfl, trivial, trivial⟩ ?_
      refine g_callV1 hK 52 65 (d1 := 0) (ci := 3) (i := 70) (vs := [vI x2]) (rest := [vI (wr (x1 + x2)), vR 66]) (h1 := h) (r := vI (F_Ro_at 70 x2 h)) my_yX3_at vw_X2_65 (by decide) (T_Ro_at (o := 70) (p1 := x2) (h := h) (ko := rfl) (hF := rfl)) rfl rfl rfl (Nat.le_of_ble_eq_true rfl) (by decide +kernel) ?_
      obtain ⟨h2, e3, hF⟩ := ob1_elim hF
      refine g_callV0 hK 55 118 (d1 := 1) (ci := 3) (i := 66) (vs := [vI (wr (x1 + x2)), vI (F_Ro_at 70 x2 h)]) (rest := []) (h1 := h2) my_yX3_putIn vw_X2_118 (by decide) (T_Ro_putIn (o := 66) (p1 := (wr (x1 + x2))) (p2 := (F_Ro_at 70 x2 h)) (h := h) (ko := rfl) (hF := e3)) rfl rfl rfl (Nat.le_of_ble_eq_true rfl) (by decide +kernel) ?_
      refine g_seg hK [.iinc 2 1] 58 61 (L1 := [(2, vI (wr (x2 + 1))), (0, vR 65), (1, vI x1)]) (st1 := []) (h1 := h2) (P := True ∧ True) (by decide +kernel) rfl rfl ⟨trivial, trivial⟩ ?_
      refine g_goto hK 61 (-32) 29 (by decide +kernel) (by decide) ?_
      refine hK.2.1 _ _ ([(0, vR 65), (1, vI x1), (2, vI (wr (x2 + 1)))]) _ _ (sub_of [1, 2, 0] rfl) ?_
      exact ih _ _ _ _ hF hE
    · have hF := ite_f hc1 hF
      cases hF
      exact hE
set_option maxHeartbeats 4000000 in
set_option maxRecDepth 100000 in
theorem T_La_replaceAt {p1 : Int} {h : MH} {h' : MH} (hF : F_La_replaceAt p1 h = some h') : CON 2 yX2_replaceAt cX2_replaceAt 3 none [vR 65, vI p1] h none h' := by
  refine con_of (own := RX2) (fl := flX2) (by decide +kernel) rfl flok_X2 rfl (Nat.le_of_ble_eq_true rfl) ?_
  intro K hK hR
  show K 0 [(0, vR 65), (1, vI p1)] [] h
  unfold F_La_replaceAt at hF
  refine g_seg hK [.iconst 0, .istore_n 2] 0 2 (L1 := [(2, vI 0), (0, vR 65), (1, vI p1)]) (st1 := []) (h1 := h) (P := True ∧ True ∧ True) (by decide +kernel) rfl rfl ⟨trivial, trivial, trivial⟩ ?_
  refine hK.2.1 _ _ ([(0, vR 65), (1, vI p1), (2, vI 0)]) _ _ (sub_of [1, 2, 0] rfl) ?_
  obtain ⟨x2_1, h2, e3, hF⟩ := ob2_elim hF
  refine LT_La_replaceAt_L2 hK _ _ _ _ _ e3 ?_
  refine g_seg hK [.iconst 0, .istore_n 2] 27 29 (L1 := [(2, vI 0), (0, vR 65), (1, vI p1)]) (st1 := []) (h1 := h2) (P := True ∧ True ∧ True) (by decide +kernel) rfl rfl ⟨trivial, trivial, trivial⟩ ?_
  refine hK.2.1 _ _ ([(0, vR 65), (1, vI p1), (2, vI 0)]) _ _ (sub_of [1, 2, 0] rfl) ?_
  obtain ⟨x2_4, h5, e6, hF⟩ := ob2_elim hF
  refine LT_La_replaceAt_L29 hK _ _ _ _ _ e6 ?_
  cases hF
  exact hR.2.2.2.2 64 _ _ (by decide +kernel) rfl ⟨rfl, rfl⟩
set_option maxHeartbeats 4000000 in
set_option maxRecDepth 100000 in
theorem T_La_layOne {p2 : Int} {p3 : Int} {p4 : Int} {h : MH} {h' : MH} (hF : F_La_layOne p2 p3 p4 h = some h') : CON 4 yX2_layOne cX2_layOne 10 none [vR 65, vR 54, vI p2, vI p3, vI p4] h none h' := by
  refine con_of (own := RX2) (fl := flX2) (by decide +kernel) rfl flok_X2 rfl (Nat.le_of_ble_eq_true rfl) ?_
  intro K hK hR
  show K 0 [(0, vR 65), (1, vR 54), (2, vI p2), (3, vI p3), (4, vI p4)] [] h
  unfold F_La_layOne at hF
  refine g_seg hK [.aload_n 1, .iload_n 2, .iload_n 3, .iconst 1] 0 4 (L1 := [(0, vR 65), (1, vR 54), (2, vI p2), (3, vI p3), (4, vI p4)]) (st1 := [vI 1, vI p3, vI p2, vR 54]) (h1 := h) (P := True ∧ True ∧ True ∧ True ∧ True) (by decide +kernel) rfl rfl ⟨trivial, trivial, trivial, trivial, trivial⟩ ?_
  refine g_callV1 hK 4 69 (d1 := 3) (ci := 5) (i := 54) (vs := [vI p2, vI p3, vI 1]) (rest := []) (h1 := h) (r := vI (F_V_around p2 p3 1 h)) my_yX5_around vw_X2_69 (by decide) (T_V_around (p1 := p2) (p2 := p3) (p3 := 1) (h := h) (hF := rfl)) rfl rfl rfl (Nat.le_of_ble_eq_true rfl) (by decide +kernel) ?_
  refine g_seg hK [.istore 5, .aload_n 1, .iload_n 2] 7 11 (L1 := [(5, vI (F_V_around p2 p3 1 h)), (0, vR 65), (1, vR 54), (2, vI p2), (3, vI p3), (4, vI p4)]) (st1 := [vI p2, vR 54]) (h1 := h) (P := True ∧ True ∧ True ∧ True) (by decide +kernel) rfl rfl ⟨trivial, trivial, trivial, trivial⟩ ?_
  refine g_callV1 hK 11 73 (d1 := 1) (ci := 5) (i := 54) (vs := [vI p2]) (rest := []) (h1 := h) (r := vI (F_V_top p2 h)) my_yX5_top vw_X2_73 (by decide) (T_V_top (p1 := p2) (h := h) (hF := rfl)) rfl rfl rfl (Nat.le_of_ble_eq_true rfl) (by decide +kernel) ?_
  refine g_seg hK [.aload_n 1, .iload_n 2, .iload_n 3, .iconst 0] 14 18 (L1 := [(5, vI (F_V_around p2 p3 1 h)), (0, vR 65), (1, vR 54), (2, vI p2), (3, vI p3), (4, vI p4)]) (st1 := [vI 0, vI p3, vI p2, vR 54, vI (F_V_top p2 h)]) (h1 := h) (P := True ∧ True ∧ True ∧ True ∧ True) (by decide +kernel) rfl rfl ⟨trivial, trivial, trivial, trivial, trivial⟩ ?_
  refine g_callV1 hK 18 69 (d1 := 3) (ci := 5) (i := 54) (vs := [vI p2, vI p3, vI 0]) (rest := [vI (F_V_top p2 h)]) (h1 := h) (r := vI (F_V_around p2 p3 0 h)) my_yX5_around vw_X2_69 (by decide) (T_V_around (p1 := p2) (p2 := p3) (p3 := 0) (h := h) (hF := rfl)) rfl rfl rfl (Nat.le_of_ble_eq_true rfl) (by decide +kernel) ?_
  refine g_seg hK [.isub, .istore 6, .aload_n 0, .aload_n 1, .iload 6, .aload_n 1, .iload_n 2] 21 30 (L1 := [(6, vI (wr ((F_V_top p2 h) - (F_V_around p2 p3 0 h)))), (5, vI (F_V_around p2 p3 1 h)), (0, vR 65), (1, vR 54), (2, vI p2), (3, vI p3), (4, vI p4)]) (st1 := [vI p2, vR 54, vI (wr ((F_V_top p2 h) - (F_V_around p2 p3 0 h))), vR 54, vR 65]) (h1 := h) (P := True ∧ True ∧ True ∧ True ∧ True ∧ True ∧ True ∧ True) (by decide +kernel) rfl rfl ⟨trivial, trivial, trivial, trivial, trivial, trivial, trivial, trivial⟩ ?_
  refine g_callV1 hK 30 76 (d1 := 1) (ci := 5) (i := 54) (vs := [vI p2]) (rest := [vI (wr ((F_V_top p2 h) - (F_V_around p2 p3 0 h))), vR 54, vR 65]) (h1 := h) (r := vI (F_V_end p2 h)) my_yX5_end vw_X2_76 (by decide) (T_V_end (p1 := p2) (h := h) (hF := rfl)) rfl rfl rfl (Nat.le_of_ble_eq_true rfl) (by decide +kernel) ?_
  refine g_seg hK [.iload 5, .iadd, .iload 4] 33 38 (L1 := [(6, vI (wr ((F_V_top p2 h) - (F_V_around p2 p3 0 h)))), (5, vI (F_V_around p2 p3 1 h)), (0, vR 65), (1, vR 54), (2, vI p2), (3, vI p3), (4, vI p4)]) (st1 := [vI p4, vI (wr ((F_V_end p2 h) + (F_V_around p2 p3 1 h))), vI (wr ((F_V_top p2 h) - (F_V_around p2 p3 0 h))), vR 54, vR 65]) (h1 := h) (P := True ∧ True ∧ True ∧ True) (by decide +kernel) rfl rfl ⟨trivial, trivial, trivial, trivial⟩ ?_
  obtain ⟨h1, e2, hF⟩ := ob1_elim hF
  refine g_callV0 hK 38 79 (d1 := 2) (ci := 2) (i := 65) (vs := [vR 54, vI (wr ((F_V_top p2 h) - (F_V_around p2 p3 0 h))), vI (wr ((F_V_end p2 h) + (F_V_around p2 p3 1 h))), vI p4]) (rest := []) (h1 := h1) my_yX2_takeParts vw_X2_79 (by decide) (T_La_takeParts (p2 := (wr ((F_V_top p2 h) - (F_V_around p2 p3 0 h)))) (p3 := (wr ((F_V_end p2 h) + (F_V_around p2 p3 1 h)))) (p4 := p4) (h := h) (hF := e2)) rfl rfl rfl (Nat.le_of_ble_eq_true rfl) (by decide +kernel) ?_
  refine g_seg hK [.iload 4] 41 43 (L1 := [(6, vI (wr ((F_V_top p2 h) - (F_V_around p2 p3 0 h)))), (5, vI (F_V_around p2 p3 1 h)), (0, vR 65), (1, vR 54), (2, vI p2), (3, vI p3), (4, vI p4)]) (st1 := [vI p4]) (h1 := h1) (P := True ∧ True) (by decide +kernel) rfl rfl ⟨trivial, trivial⟩ ?_
  obtain ⟨kj4, e20, hF⟩ := jk1_elim hF
  have j4 : ∀ (s3 : Int), kj4 s3 = some h' → K 61 [(0, vR 65), (5, vI (F_V_around p2 p3 1 h))] [vI s3] h1 := by
    intro s3 hF
    have hF := (e20 s3).symm.trans hF
    refine g_seg hK [.istore 7, .iload 7, .aload_n 0, .getfield 42, .iadd, .aload_n 0, .getfield 39, .iadd, .istore 8, .aload_n 0, .iload 8] 61 80 (L1 := [(8, vI (wr ((wr (s3 + (h1 65 8))) + (h1 65 7)))), (7, vI s3), (0, vR 65), (5, vI (F_V_around p2 p3 1 h))]) (st1 := [vI (wr ((wr (s3 + (h1 65 8))) + (h1 65 7))), vR 65]) (h1 := h1) (P := True ∧ True ∧ True ∧ kd 65 = 4 ∧ True ∧ True ∧ kd 65 = 4 ∧ True ∧ True ∧ True ∧ True ∧ True) (by decide +kernel) rfl rfl ⟨trivial, trivial, trivial, rfl, trivial, trivial, rfl, trivial, trivial, trivial, trivial, trivial⟩ ?_
    obtain ⟨r5, e6, hF⟩ := ob1_elim hF
    refine g_callV1 hK 80 88 (d1 := 2) (ci := 2) (i := 65) (vs := [vI (wr ((wr (s3 + (h1 65 8))) + (h1 65 7)))]) (rest := []) (h1 := h1) (r := vI r5) my_yX2_search vw_X2_88 (by decide) (T_La_search (p1 := (wr ((wr (s3 + (h1 65 8))) + (h1 65 7)))) (h := h1) (hF := e6)) rfl rfl rfl (Nat.le_of_ble_eq_true rfl) (by decide +kernel) ?_
    refine g_seg hK [.istore 9, .aload_n 0, .getfield 26, .iload 9] 83 91 (L1 := [(9, vI r5), (8, vI (wr ((wr (s3 + (h1 65 8))) + (h1 65 7)))), (7, vI s3), (0, vR 65), (5, vI (F_V_around p2 p3 1 h))]) (st1 := [vI r5, vR 72]) (h1 := h1) (P := True ∧ True ∧ kd 65 = 4 ∧ True ∧ True) (by decide +kernel) rfl rfl ⟨trivial, trivial, rfl, trivial, trivial⟩ ?_
    refine g_callV0 hK 91 91 (d1 := 0) (ci := 3) (i := 72) (vs := [vI r5]) (rest := []) (h1 := (F_Ro_add 72 r5 h1)) my_yX3_add vw_X2_91 (by decide) (T_Ro_add (o := 72) (p1 := r5) (h := h1) (ko := rfl) (hF := rfl)) rfl rfl rfl (Nat.le_of_ble_eq_true rfl) (by decide +kernel) ?_
    refine g_seg hK [.aload_n 0, .getfield 29, .iload 9, .iload 8, .isub] 94 103 (L1 := [(9, vI r5), (8, vI (wr ((wr (s3 + (h1 65 8))) + (h1 65 7)))), (7, vI s3), (0, vR 65), (5, vI (F_V_around p2 p3 1 h))]) (st1 := [vI (wr (r5 - (wr ((wr (s3 + (h1 65 8))) + (h1 65 7))))), vR 74]) (h1 := (F_Ro_add 72 r5 h1)) (P := True ∧ kd 65 = 4 ∧ True ∧ True ∧ True ∧ True) (by decide +kernel) rfl rfl ⟨trivial, rfl, trivial, trivial, trivial, trivial⟩ ?_
    refine g_callV0 hK 103 91 (d1 := 0) (ci := 3) (i := 74) (vs := [vI (wr (r5 - (wr ((wr (s3 + (h1 65 8))) + (h1 65 7)))))]) (rest := []) (h1 := (F_Ro_add 74 (wr (r5 - (wr ((wr (s3 + (h1 65 8))) + (h1 65 7))))) (F_Ro_add 72 r5 h1))) my_yX3_add vw_X2_91 (by decide) (T_Ro_add (o := 74) (p1 := (wr (r5 - (wr ((wr (s3 + (h1 65 8))) + (h1 65 7)))))) (h := (F_Ro_add 72 r5 h1)) (ko := rfl) (hF := rfl)) rfl rfl rfl (Nat.le_of_ble_eq_true rfl) (by decide +kernel) ?_
    refine g_seg hK [.iload 9, .bipush (-4)] 106 110 (L1 := [(9, vI r5), (8, vI (wr ((wr (s3 + (h1 65 8))) + (h1 65 7)))), (7, vI s3), (0, vR 65), (5, vI (F_V_around p2 p3 1 h))]) (st1 := [vI (-4), vI r5]) (h1 := (F_Ro_add 74 (wr (r5 - (wr ((wr (s3 + (h1 65 8))) + (h1 65 7))))) (F_Ro_add 72 r5 h1))) (P := True ∧ True ∧ True) (by decide +kernel) rfl rfl ⟨trivial, trivial, trivial⟩ ?_
    refine g_icmp hK 110 .ne (4) 114 (t1 := 113) (t2 := 114) (by decide +kernel) (by decide) rfl rfl (fun (hc7 : r5 = (-4)) => ?_) (fun (hc7 : ¬ (r5 = (-4))) => ?_)
    · have hF := ite_t hc7 hF
      cases hF
      exact hR.2.2.2.2 113 _ _ (by decide +kernel) rfl ⟨rfl, rfl⟩
    · have hF := ite_f hc7 hF
      refine g_seg hK [.aload_n 0, .iload 9] 114 117 (L1 := [(9, vI r5), (8, vI (wr ((wr (s3 + (h1 65 8))) + (h1 65 7)))), (7, vI s3), (0, vR 65), (5, vI (F_V_around p2 p3 1 h))]) (st1 := [vI r5, vR 65]) (h1 := (F_Ro_add 74 (wr (r5 - (wr ((wr (s3 + (h1 65 8))) + (h1 65 7))))) (F_Ro_add 72 r5 h1))) (P := True ∧ True ∧ True) (by decide +kernel) rfl rfl ⟨trivial, trivial, trivial⟩ ?_
      obtain ⟨h8, e9, hF⟩ := ob1_elim hF
      refine g_callV0 hK 117 94 (d1 := 2) (ci := 2) (i := 65) (vs := [vI r5]) (rest := []) (h1 := h8) my_yX2_replaceAt vw_X2_94 (by decide) (T_La_replaceAt (p1 := r5) (h := (F_Ro_add 74 (wr (r5 - (wr ((wr (s3 + (h1 65 8))) + (h1 65 7))))) (F_Ro_add 72 r5 h1))) (hF := e9)) rfl rfl rfl (Nat.le_of_ble_eq_true rfl) (by decide +kernel) ?_
      refine g_seg hK [.aload_n 0, .dup, .getfield 42, .aload_n 0, .getfield 23] 120 129 (L1 := [(9, vI r5), (8, vI (wr ((wr (s3 + (h1 65 8))) + (h1 65 7)))), (7, vI s3), (0, vR 65), (5, vI (F_V_around p2 p3 1 h))]) (st1 := [vR 70, vI (h8 65 8), vR 65]) (h1 := h8) (P := True ∧ True ∧ kd 65 = 4 ∧ True ∧ kd 65 = 4 ∧ True) (by decide +kernel) rfl rfl ⟨trivial, trivial, rfl, trivial, rfl, trivial⟩ ?_
      refine g_callV1 hK 129 97 (d1 := 0) (ci := 3) (i := 70) (vs := []) (rest := [vI (h8 65 8), vR 65]) (h1 := h8) (r := vI (F_Ro_size 70 h8)) my_yX3_size vw_X2_97 (by decide) (T_Ro_size (o := 70) (h := h8) (ko := rfl) (hF := rfl)) rfl rfl rfl (Nat.le_of_ble_eq_true rfl) (by decide +kernel) ?_
      refine g_seg hK [.aload_n 0, .getfield 20] 132 136 (L1 := [(9, vI r5), (8, vI (wr ((wr (s3 + (h1 65 8))) + (h1 65 7)))), (7, vI s3), (0, vR 65), (5, vI (F_V_around p2 p3 1 h))]) (st1 := [vR 68, vI (F_Ro_size 70 h8), vI (h8 65 8), vR 65]) (h1 := h8) (P := True ∧ kd 65 = 4 ∧ True) (by decide +kernel) rfl rfl ⟨trivial, rfl, trivial⟩ ?_
      refine g_callV1 hK 136 97 (d1 := 0) (ci := 3) (i := 68) (vs := []) (rest := [vI (F_Ro_size 70 h8), vI (h8 65 8), vR 65]) (h1 := h8) (r := vI (F_Ro_size 68 h8)) my_yX3_size vw_X2_97 (by decide) (T_Ro_size (o := 68) (h := h8) (ko := rfl) (hF := rfl)) rfl rfl rfl (Nat.le_of_ble_eq_true rfl) (by decide +kernel) ?_
      refine g_seg hK [.isub, .iadd, .putfield 42] 139 144 (L1 := [(9, vI r5), (8, vI (wr ((wr (s3 + (h1 65 8))) + (h1 65 7)))), (7, vI s3), (0, vR 65), (5, vI (F_V_around p2 p3 1 h))]) (st1 := []) (h1 := (up h8 65 8 (wr ((h8 65 8) + (wr ((F_Ro_size 70 h8) - (F_Ro_size 68 h8))))))) (P := True ∧ True ∧ kd 65 = 4 ∧ True) (by decide +kernel) rfl rfl ⟨trivial, trivial, rfl, trivial⟩ ?_
      obtain ⟨h10, e11, hF⟩ := jn1_elim hF
      rw [e11]
      refine g_seg hK [.aload_n 0, .dup, .getfield 39, .iload 9, .iload 8, .isub, .iadd, .putfield 39] 144 158 (L1 := [(9, vI r5), (8, vI (wr ((wr (s3 + (h1 65 8))) + (h1 65 7)))), (7, vI s3), (0, vR 65), (5, vI (F_V_around p2 p3 1 h))]) (st1 := []) (h1 := (up h10 65 7 (wr ((h10 65 7) + (wr (r5 - (wr ((wr (s3 + (h1 65 8))) + (h1 65 7))))))))) (P := True ∧ True ∧ kd 65 = 4 ∧ True ∧ True ∧ True ∧ True ∧ kd 65 = 4 ∧ True) (by decide +kernel) rfl rfl ⟨trivial, trivial, rfl, trivial, trivial, trivial, trivial, rfl, trivial⟩ ?_
      obtain ⟨h12, e13, hF⟩ := jn1_elim hF
      rw [e13]
      refine g_seg hK [.aload_n 0, .iload 9, .aload_n 0, .getfield 23] 158 165 (L1 := [(9, vI r5), (8, vI (wr ((wr (s3 + (h1 65 8))) + (h1 65 7)))), (7, vI s3), (0, vR 65), (5, vI (F_V_around p2 p3 1 h))]) (st1 := [vR 70, vI r5, vR 65]) (h1 := h12) (P := True ∧ True ∧ True ∧ kd 65 = 4 ∧ True) (by decide +kernel) rfl rfl ⟨trivial, trivial, trivial, rfl, trivial⟩ ?_
      refine g_callV1 hK 165 97 (d1 := 0) (ci := 3) (i := 70) (vs := []) (rest := [vI r5, vR 65]) (h1 := h12) (r := vI (F_Ro_size 70 h12)) my_yX3_size vw_X2_97 (by decide) (T_Ro_size (o := 70) (h := h12) (ko := rfl) (hF := rfl)) rfl rfl rfl (Nat.le_of_ble_eq_true rfl) (by decide +kernel) ?_
      refine g_seg hK [.iadd, .iload 5, .isub, .putfield 45] 168 175 (L1 := [(9, vI r5), (8, vI (wr ((wr (s3 + (h1 65 8))) + (h1 65 7)))), (7, vI s3), (0, vR 65), (5, vI (F_V_around p2 p3 1 h))]) (st1 := []) (h1 := (up h12 65 9 (wr ((wr (r5 + (F_Ro_size 70 h12))) - (F_V_around p2 p3 1 h))))) (P := True ∧ True ∧ True ∧ kd 65 = 4 ∧ True) (by decide +kernel) rfl rfl ⟨trivial, trivial, trivial, rfl, trivial⟩ ?_
      obtain ⟨h14, e15, hF⟩ := jn1_elim hF
      rw [e15]
      refine g_seg hK [.aload_n 0, .aload_n 0, .getfield 36, .aload_n 0, .getfield 14] 175 184 (L1 := [(9, vI r5), (8, vI (wr ((wr (s3 + (h1 65 8))) + (h1 65 7)))), (7, vI s3), (0, vR 65), (5, vI (F_V_around p2 p3 1 h))]) (st1 := [vR 66, vI (h14 65 6), vR 65]) (h1 := h14) (P := True ∧ True ∧ kd 65 = 4 ∧ True ∧ kd 65 = 4 ∧ True) (by decide +kernel) rfl rfl ⟨trivial, trivial, rfl, trivial, rfl, trivial⟩ ?_
      refine g_callV1 hK 184 97 (d1 := 0) (ci := 3) (i := 66) (vs := []) (rest := [vI (h14 65 6), vR 65]) (h1 := h14) (r := vI (F_Ro_size 66 h14)) my_yX3_size vw_X2_97 (by decide) (T_Ro_size (o := 66) (h := h14) (ko := rfl) (hF := rfl)) rfl rfl rfl (Nat.le_of_ble_eq_true rfl) (by decide +kernel) ?_
      refine g_mmax hK 187 100 (by decide) mw_X2_100 (Nat.le_of_ble_eq_true rfl) (by decide +kernel) ?_
      refine g_seg hK [.putfield 36] 190 193 (L1 := [(9, vI r5), (8, vI (wr ((wr (s3 + (h1 65 8))) + (h1 65 7)))), (7, vI s3), (0, vR 65), (5, vI (F_V_around p2 p3 1 h))]) (st1 := []) (h1 := (up h14 65 6 (imax (h14 65 6) (F_Ro_size 66 h14)))) (P := kd 65 = 4 ∧ True) (by decide +kernel) rfl rfl ⟨rfl, trivial⟩ ?_
      obtain ⟨h16, e17, hF⟩ := jn1_elim hF
      rw [e17]
      refine g_seg hK [.aload_n 0, .dup, .getfield 32, .iconst 1, .iadd, .putfield 32] 193 203 (L1 := [(9, vI r5), (8, vI (wr ((wr (s3 + (h1 65 8))) + (h1 65 7)))), (7, vI s3), (0, vR 65), (5, vI (F_V_around p2 p3 1 h))]) (st1 := []) (h1 := (up h16 65 5 (wr ((h16 65 5) + 1)))) (P := True ∧ True ∧ kd 65 = 4 ∧ True ∧ True ∧ kd 65 = 4 ∧ True) (by decide +kernel) rfl rfl ⟨trivial, trivial, rfl, trivial, trivial, rfl, trivial⟩ ?_
      obtain ⟨h18, e19, hF⟩ := jn1_elim hF
      rw [e19]
      cases hF
      exact hR.2.2.2.2 203 _ _ (by decide +kernel) rfl ⟨rfl, rfl⟩
  refine g_ifz hK 43 .eq (12) 55 (t1 := 55) (t2 := 46) (by decide +kernel) (by decide) rfl rfl (fun (hc21 : p4 = 0) => ?_) (fun (hc21 : ¬ (p4 = 0)) => ?_)
  · have hF := ite_t hc21 hF
    refine g_seg hK [.aload_n 1, .iload 6] 55 58 (L1 := [(6, vI (wr ((F_V_top p2 h) - (F_V_around p2 p3 0 h)))), (5, vI (F_V_around p2 p3 1 h)), (0, vR 65), (1, vR 54), (2, vI p2), (3, vI p3), (4, vI p4)]) (st1 := [vI (wr ((F_V_top p2 h) - (F_V_around p2 p3 0 h))), vR 54]) (h1 := h1) (P := True ∧ True ∧ True) (by decide +kernel) rfl rfl ⟨trivial, trivial, trivial⟩ ?_
    obtain ⟨r22, e23, hF⟩ := ob1_elim hF
    refine g_callV1 hK 58 85 (d1 := 2) (ci := 5) (i := 54) (vs := [vI (wr ((F_V_top p2 h) - (F_V_around p2 p3 0 h)))]) (rest := []) (h1 := h1) (r := vI r22) my_yX5_oldAhead vw_X2_85 (by decide) (T_V_oldAhead (p1 := (wr ((F_V_top p2 h) - (F_V_around p2 p3 0 h)))) (h := h1) (hF := e23)) rfl rfl rfl (Nat.le_of_ble_eq_true rfl) (by decide +kernel) ?_
    refine hK.2.1 _ _ ([(0, vR 65), (5, vI (F_V_around p2 p3 1 h))]) _ _ (sub_of [2, 1] rfl) ?_
    exact j4 _ hF
  · have hF := ite_f hc21 hF
    refine g_seg hK [.aload_n 1, .iload 6] 46 49 (L1 := [(6, vI (wr ((F_V_top p2 h) - (F_V_around p2 p3 0 h)))), (5, vI (F_V_around p2 p3 1 h)), (0, vR 65), (1, vR 54), (2, vI p2), (3, vI p3), (4, vI p4)]) (st1 := [vI (wr ((F_V_top p2 h) - (F_V_around p2 p3 0 h))), vR 54]) (h1 := h1) (P := True ∧ True ∧ True) (by decide +kernel) rfl rfl ⟨trivial, trivial, trivial⟩ ?_
    obtain ⟨r24, e25, hF⟩ := ob1_elim hF
    refine g_callV1 hK 49 82 (d1 := 2) (ci := 5) (i := 54) (vs := [vI (wr ((F_V_top p2 h) - (F_V_around p2 p3 0 h)))]) (rest := []) (h1 := h1) (r := vI r24) my_yX5_newAhead vw_X2_82 (by decide) (T_V_newAhead (p1 := (wr ((F_V_top p2 h) - (F_V_around p2 p3 0 h)))) (h := h1) (hF := e25)) rfl rfl rfl (Nat.le_of_ble_eq_true rfl) (by decide +kernel) ?_
    refine g_goto hK 52 (9) 61 (by decide +kernel) (by decide) ?_
    refine hK.2.1 _ _ ([(0, vR 65), (5, vI (F_V_around p2 p3 1 h))]) _ _ (sub_of [2, 1] rfl) ?_
    exact j4 _ hF
set_option maxHeartbeats 4000000 in
set_option maxRecDepth 100000 in
theorem LT_La_layAll_L50 {K : KT} (hK : Rules RX2 cX2_layAll 6 none flX2 5 K) {x3 : Int} {x4 : Int} : ∀ (n : Nat) (x5 : Int) (h : MH) (x5' : Int) (h' : MH), F_La_layAll_L50 x3 x4 n x5 h = some (x5', h') → K 75 [(0, vR 65), (1, vR 54), (3, vI x3), (4, vI x4), (5, vI x5')] [] h' → K 50 [(0, vR 65), (1, vR 54), (3, vI x3), (4, vI x4), (5, vI x5)] [] h := by
  intro n
  induction n with
  | zero =>
    intro x5 h x5' h' hF
    cases hF
  | succ n ih =>
    intro x5 h x5' h' hF hE
    unfold F_La_layAll_L50 at hF
    refine g_seg hK [.iload 5, .aload_n 1] 50 53 (L1 := [(0, vR 65), (1, vR 54), (3, vI x3), (4, vI x4), (5, vI x5)]) (st1 := [vR 54, vI x5]) (h1 := h) (P := True ∧ True ∧ True) (by decide +kernel) rfl rfl ⟨trivial, trivial, trivial⟩ ?_
    refine g_callV1 hK 53 55 (d1 := 1) (ci := 5) (i := 54) (vs := []) (rest := [vI x5]) (h1 := h) (r := vI (F_V_hunks h)) my_yX5_hunks vw_X2_55 (by decide) (T_V_hunks (h := h) (hF := rfl)) rfl rfl rfl (Nat.le_of_ble_eq_true rfl) (by decide +kernel) ?_
    refine g_icmp hK 56 .ge (19) 75 (t1 := 59) (t2 := 75) (by decide +kernel) (by decide) rfl rfl (fun (hc1 : x5 < F_V_hunks h) => ?_) (fun (hc1 : ¬ (x5 < F_V_hunks h)) => ?_)
    · have hF := ite_t hc1 hF
      refine g_seg hK [.aload_n 0, .aload_n 1, .iload 5, .iload_n 3, .iload 4] 59 66 (L1 := [(0, vR 65), (1, vR 54), (3, vI x3), (4, vI x4), (5, vI x5)]) (st1 := [vI x4, vI x3, vI x5, vR 54, vR 65]) (h1 := h) (P := True ∧ True ∧ True ∧ True ∧ True ∧ True) (by decide +kernel) rfl rfl ⟨trivial, trivial, trivial, trivial, trivial, trivial⟩ ?_
      obtain ⟨h2, e3, hF⟩ := ob1_elim hF
      refine g_callV0 hK 66 61 (d1 := 4) (ci := 2) (i := 65) (vs := [vR 54, vI x5, vI x3, vI x4]) (rest := []) (h1 := h2) my_yX2_layOne vw_X2_61 (by decide) (T_La_layOne (p2 := x5) (p3 := x3) (p4 := x4) (h := h) (hF := e3)) rfl rfl rfl (Nat.le_of_ble_eq_true rfl) (by decide +kernel) ?_
      refine g_seg hK [.iinc 5 1] 69 72 (L1 := [(5, vI (wr (x5 + 1))), (0, vR 65), (1, vR 54), (3, vI x3), (4, vI x4)]) (st1 := []) (h1 := h2) (P := True ∧ True) (by decide +kernel) rfl rfl ⟨trivial, trivial⟩ ?_
      refine g_goto hK 72 (-22) 50 (by decide +kernel) (by decide) ?_
      refine hK.2.1 _ _ ([(0, vR 65), (1, vR 54), (3, vI x3), (4, vI x4), (5, vI (wr (x5 + 1)))]) _ _ (sub_of [1, 2, 3, 4, 0] rfl) ?_
      exact ih _ _ _ _ hF hE
    · have hF := ite_f hc1 hF
      cases hF
      exact hE
set_option maxHeartbeats 4000000 in
set_option maxRecDepth 100000 in
theorem T_La_layAll {p2 : Nat} {p3 : Int} {p4 : Int} {h : MH} {h' : MH} (kp2 : kd p2 = 5) (hF : F_La_layAll p2 p3 p4 h = some h') : CON 5 yX2_layAll cX2_layAll 6 none [vR 65, vR 54, vR p2, vI p3, vI p4] h none h' := by
  refine con_of (own := RX2) (fl := flX2) (by decide +kernel) rfl flok_X2 rfl (Nat.le_of_ble_eq_true rfl) ?_
  intro K hK hR
  show K 0 [(0, vR 65), (1, vR 54), (2, vR p2), (3, vI p3), (4, vI p4)] [] h
  unfold F_La_layAll at hF
  refine g_seg hK [.aload_n 0, .getfield 14, .aload_n 2] 0 5 (L1 := [(0, vR 65), (1, vR 54), (2, vR p2), (3, vI p3), (4, vI p4)]) (st1 := [vR p2, vR 66]) (h1 := h) (P := True ∧ kd 65 = 4 ∧ True ∧ True) (by decide +kernel) rfl rfl ⟨trivial, rfl, trivial, trivial⟩ ?_
  obtain ⟨h1, e2, hF⟩ := ob1_elim hF
  refine g_callV0 hK 5 48 (d1 := 1) (ci := 3) (i := 66) (vs := [vR p2]) (rest := []) (h1 := h1) my_yX3_become vw_X2_48 (by decide) (T_Ro_become (o := 66) (p1 := p2) (h := h) (ko := rfl) (kp1 := kp2) (hF := e2)) rfl rfl rfl (Nat.le_of_ble_eq_true rfl) (by decide +kernel) ?_
  refine g_seg hK [.aload_n 0, .getfield 26] 8 12 (L1 := [(0, vR 65), (1, vR 54), (2, vR p2), (3, vI p3), (4, vI p4)]) (st1 := [vR 72]) (h1 := h1) (P := True ∧ kd 65 = 4 ∧ True) (by decide +kernel) rfl rfl ⟨trivial, rfl, trivial⟩ ?_
  refine g_callV0 hK 12 52 (d1 := 0) (ci := 3) (i := 72) (vs := []) (rest := []) (h1 := (F_Ro_emptyOut 72 h1)) my_yX3_emptyOut vw_X2_52 (by decide) (T_Ro_emptyOut (o := 72) (h := h1) (ko := rfl) (hF := rfl)) rfl rfl rfl (Nat.le_of_ble_eq_true rfl) (by decide +kernel) ?_
  refine g_seg hK [.aload_n 0, .getfield 29] 15 19 (L1 := [(0, vR 65), (1, vR 54), (2, vR p2), (3, vI p3), (4, vI p4)]) (st1 := [vR 74]) (h1 := (F_Ro_emptyOut 72 h1)) (P := True ∧ kd 65 = 4 ∧ True) (by decide +kernel) rfl rfl ⟨trivial, rfl, trivial⟩ ?_
  refine g_callV0 hK 19 52 (d1 := 0) (ci := 3) (i := 74) (vs := []) (rest := []) (h1 := (F_Ro_emptyOut 74 (F_Ro_emptyOut 72 h1))) my_yX3_emptyOut vw_X2_52 (by decide) (T_Ro_emptyOut (o := 74) (h := (F_Ro_emptyOut 72 h1)) (ko := rfl) (hF := rfl)) rfl rfl rfl (Nat.le_of_ble_eq_true rfl) (by decide +kernel) ?_
  refine g_seg hK [.aload_n 0, .iconst 0, .putfield 32, .aload_n 0, .iconst 0, .putfield 36, .aload_n 0, .iconst 0, .putfield 39, .aload_n 0, .iconst 0, .putfield 42, .aload_n 0, .iconst 0, .putfield 45, .iconst 0, .istore 5] 22 50 (L1 := [(5, vI 0), (0, vR 65), (1, vR 54), (2, vR p2), (3, vI p3), (4, vI p4)]) (st1 := []) (h1 := (up (up (up (up (up (F_Ro_emptyOut 74 (F_Ro_emptyOut 72 h1)) 65 5 0) 65 6 0) 65 7 0) 65 8 0) 65 9 0)) (P := True ∧ True ∧ kd 65 = 4 ∧ True ∧ True ∧ kd 65 = 4 ∧ True ∧ True ∧ kd 65 = 4 ∧ True ∧ True ∧ kd 65 = 4 ∧ True ∧ True ∧ kd 65 = 4 ∧ True ∧ True ∧ True) (by decide +kernel) rfl rfl ⟨trivial, trivial, rfl, trivial, trivial, rfl, trivial, trivial, rfl, trivial, trivial, rfl, trivial, trivial, rfl, trivial, trivial, trivial⟩ ?_
  refine hK.2.1 _ _ ([(0, vR 65), (1, vR 54), (3, vI p3), (4, vI p4), (5, vI 0)]) _ _ (sub_of [1, 2, 4, 5, 0] rfl) ?_
  obtain ⟨x5_3, h4, e5, hF⟩ := ob2_elim hF
  refine LT_La_layAll_L50 hK _ _ _ _ _ e5 ?_
  cases hF
  exact hR.2.2.2.2 75 _ _ (by decide +kernel) rfl ⟨rfl, rfl⟩
set_option maxHeartbeats 4000000 in
set_option maxRecDepth 100000 in
theorem T_La_longest {h : MH} {r : Int} (hF : F_La_longest h = r) : CON 0 yX2_longest cX2_longest 1 (Option.some Jvm.ClassFile.FieldType.int) [vR 65] h (some (vI r)) h := by
  refine con_of (own := RX2) (fl := flX2) (by decide +kernel) rfl flok_X2 rfl (Nat.le_of_ble_eq_true rfl) ?_
  intro K hK hR
  show K 0 [(0, vR 65)] [] h
  unfold F_La_longest at hF
  refine g_seg hK [.aload_n 0, .getfield 36] 0 4 (L1 := [(0, vR 65)]) (st1 := [vI (h 65 6)]) (h1 := h) (P := True ∧ kd 65 = 4 ∧ True) (by decide +kernel) rfl rfl ⟨trivial, rfl, trivial⟩ ?_
  cases hF
  exact hR.1 4 _ _ _ (by decide +kernel) rfl ⟨rfl, rfl⟩
set_option maxHeartbeats 4000000 in
set_option maxRecDepth 100000 in
theorem T_La_result {h : MH} {r : Nat} (hF : F_La_result = r) : CON 0 yX2_result cX2_result 1 (Option.some (Jvm.ClassFile.FieldType.object "HunkSlides$Row")) [vR 65] h (some (vR r)) h := by
  refine con_of (own := RX2) (fl := flX2) (by decide +kernel) rfl flok_X2 rfl (Nat.le_of_ble_eq_true rfl) ?_
  intro K hK hR
  show K 0 [(0, vR 65)] [] h
  unfold F_La_result at hF
  refine g_seg hK [.aload_n 0, .getfield 14] 0 4 (L1 := [(0, vR 65)]) (st1 := [vR 66]) (h1 := h) (P := True ∧ kd 65 = 4 ∧ True) (by decide +kernel) rfl rfl ⟨trivial, rfl, trivial⟩ ?_
  cases hF
  exact hR.2.2.1 4 _ _ _ (by decide +kernel) ⟨_, rfl⟩ ⟨rfl, rfl⟩
set_option maxHeartbeats 4000000 in
set_option maxRecDepth 100000 in
theorem T_La_laid {h : MH} {r : Int} (hF : F_La_laid h = r) : CON 0 yX2_laid cX2_laid 1 (Option.some Jvm.ClassFile.FieldType.int) [vR 65] h (some (vI r)) h := by
  refine con_of (own := RX2) (fl := flX2) (by decide +kernel) rfl flok_X2 rfl (Nat.le_of_ble_eq_true rfl) ?_
  intro K hK hR
  show K 0 [(0, vR 65)] [] h
  unfold F_La_laid at hF
  refine g_seg hK [.aload_n 0, .getfield 32] 0 4 (L1 := [(0, vR 65)]) (st1 := [vI (h 65 5)]) (h1 := h) (P := True ∧ kd 65 = 4 ∧ True) (by decide +kernel) rfl rfl ⟨trivial, rfl, trivial⟩ ?_
  cases hF
  exact hR.1 4 _ _ _ (by decide +kernel) rfl ⟨rfl, rfl⟩
set_option maxHeartbeats 4000000 in
set_option maxRecDepth 100000 in
theorem T_St_addPatches {o : Nat} {p1 : Int} {p2 : Int} {h : MH} {h' : MH} (ks : kd o = 6) (hF : F_St_addPatches o p1 p2 h = h') : CON 0 yX4_addPatches cX4_addPatches 3 none [vR o, vI p1, vI p2] h none h' := by
  refine con_of (own := RX4) (fl := flX4) (by decide +kernel) rfl flok_X4 rfl (Nat.le_of_ble_eq_true rfl) ?_
  intro K hK hR
  show K 0 [(0, vR o), (1, vI p1), (2, vI p2)] [] h
  unfold F_St_addPatches at hF
  refine g_seg hK [.aload_n 0, .dup, .getfield 33, .iload_n 1, .iadd, .putfield 33, .aload_n 0, .dup, .getfield 36, .iload_n 2, .iadd, .putfield 36] 0 20 (L1 := [(0, vR o), (1, vI p1), (2, vI p2)]) (st1 := []) (h1 := (up (up h o 5 (wr ((h o 5) + p1))) o 6 (wr (((up h o 5 (wr ((h o 5) + p1))) o 6) + p2)))) (P := True ∧ True ∧ kd o = 6 ∧ True ∧ True ∧ kd o = 6 ∧ True ∧ True ∧ kd o = 6 ∧ True ∧ True ∧ kd o = 6 ∧ True) (by decide +kernel) rfl rfl ⟨trivial, trivial, ks, trivial, trivial, ks, trivial, trivial, ks, trivial, trivial, ks, trivial⟩ ?_
  cases hF
  exact hR.2.2.2.2 20 _ _ (by decide +kernel) rfl ⟨rfl, rfl⟩
set_option maxHeartbeats 4000000 in
set_option maxRecDepth 100000 in
theorem T_X_lay {p1 : Int} {h : MH} {r : Int} {h' : MH} (hF : F_X_lay p1 h = some (r, h')) : CON 6 yX6_lay cX6_lay 2 (Option.some Jvm.ClassFile.FieldType.int) [vR 0, vI p1] h (some (vI r)) h' := by
  refine con_of (own := RX6) (fl := flX6) (by decide +kernel) rfl flok_X6 rfl (Nat.le_of_ble_eq_true rfl) ?_
  intro K hK hR
  show K 0 [(0, vR 0), (1, vI p1)] [] h
  unfold F_X_lay at hF
  refine g_seg hK [.aload_n 0] 0 1 (L1 := [(0, vR 0), (1, vI p1)]) (st1 := [vR 0]) (h1 := h) (P := True ∧ True) (by decide +kernel) rfl rfl ⟨trivial, trivial⟩ ?_
  obtain ⟨h1, e2, hF⟩ := ob1_elim hF
  refine g_callV0 hK 1 118 (d1 := 5) (ci := 6) (i := 0) (vs := []) (rest := []) (h1 := h1) my_yX6_show vw_X6_118 (by decide) (T_X_show (h := h) (hF := e2)) rfl rfl rfl (Nat.le_of_ble_eq_true rfl) (by decide +kernel) ?_
  refine g_seg hK [.aload_n 0, .getfield 59, .aload_n 0, .getfield 52, .aload_n 0, .getfield 21, .iconst 2] 4 17 (L1 := [(0, vR 0), (1, vI p1)]) (st1 := [vI 2, vR 3, vR 54, vR 65]) (h1 := h1) (P := True ∧ kd 0 = 8 ∧ True ∧ kd 0 = 8 ∧ True ∧ kd 0 = 8 ∧ True ∧ True) (by decide +kernel) rfl rfl ⟨trivial, rfl, trivial, rfl, trivial, rfl, trivial, trivial⟩ ?_
  refine g_callV1 hK 17 88 (d1 := 0) (ci := 4) (i := 3) (vs := [vI 2]) (rest := [vR 54, vR 65]) (h1 := h1) (r := vR (F_St_text 3 2)) my_yX4_text vw_X6_88 (by decide) (T_St_text (o := 3) (p1 := 2) (h := h1) (ks := rfl) (hF := rfl)) rfl rfl rfl (Nat.le_of_ble_eq_true rfl) (by decide +kernel) ?_
  refine g_seg hK [.aload_n 0, .getfield 21, .iconst 0] 20 25 (L1 := [(0, vR 0), (1, vI p1)]) (st1 := [vI 0, vR 3, vR (F_St_text 3 2), vR 54, vR 65]) (h1 := h1) (P := True ∧ kd 0 = 8 ∧ True ∧ True) (by decide +kernel) rfl rfl ⟨trivial, rfl, trivial, trivial⟩ ?_
  refine g_callV1 hK 25 112 (d1 := 0) (ci := 4) (i := 3) (vs := [vI 0]) (rest := [vR (F_St_text 3 2), vR 54, vR 65]) (h1 := h1) (r := vI (F_St_setting 3 0 h1)) my_yX4_setting vw_X6_112 (by decide) (T_St_setting (o := 3) (p1 := 0) (h := h1) (ks := rfl) (hF := rfl)) rfl rfl rfl (Nat.le_of_ble_eq_true rfl) (by decide +kernel) ?_
  refine g_seg hK [.iload_n 1] 28 29 (L1 := [(0, vR 0), (1, vI p1)]) (st1 := [vI p1, vI (F_St_setting 3 0 h1), vR (F_St_text 3 2), vR 54, vR 65]) (h1 := h1) (P := True ∧ True) (by decide +kernel) rfl rfl ⟨trivial, trivial⟩ ?_
  obtain ⟨h3, e4, hF⟩ := ob1_elim hF
  refine g_callV0 hK 29 121 (d1 := 5) (ci := 2) (i := 65) (vs := [vR 54, vR (F_St_text 3 2), vI (F_St_setting 3 0 h1), vI p1]) (rest := []) (h1 := h3) my_yX2_layAll vw_X6_121 (by decide) (T_La_layAll (p2 := (F_St_text 3 2)) (p3 := (F_St_setting 3 0 h1)) (p4 := p1) (h := h1) (kp2 := (kd_St_text rfl)) (hF := e4)) rfl rfl rfl (Nat.le_of_ble_eq_true rfl) (by decide +kernel) ?_
  refine g_seg hK [.aload_n 0, .getfield 59] 32 36 (L1 := [(0, vR 0), (1, vI p1)]) (st1 := [vR 65]) (h1 := h3) (P := True ∧ kd 0 = 8 ∧ True) (by decide +kernel) rfl rfl ⟨trivial, rfl, trivial⟩ ?_
  refine g_callV1 hK 36 125 (d1 := 0) (ci := 2) (i := 65) (vs := []) (rest := []) (h1 := h3) (r := vI (F_La_longest h3)) my_yX2_longest vw_X6_125 (by decide) (T_La_longest (h := h3) (hF := rfl)) rfl rfl rfl (Nat.le_of_ble_eq_true rfl) (by decide +kernel) ?_
  refine g_seg hK [.bipush 14] 39 41 (L1 := [(0, vR 0), (1, vI p1)]) (st1 := [vI 14, vI (F_La_longest h3)]) (h1 := h3) (P := True ∧ True) (by decide +kernel) rfl rfl ⟨trivial, trivial⟩ ?_
  refine g_icmp hK 41 .le (6) 47 (t1 := 47) (t2 := 44) (by decide +kernel) (by decide) rfl rfl (fun (hc5 : F_La_longest h3 ≤ 14) => ?_) (fun (hc5 : ¬ (F_La_longest h3 ≤ 14)) => ?_)
  · have hF := ite_t hc5 hF
    refine g_seg hK [.aload_n 0, .getfield 35, .aload_n 0, .getfield 21] 47 55 (L1 := [(0, vR 0), (1, vI p1)]) (st1 := [vR 3, vR 17]) (h1 := h3) (P := True ∧ kd 0 = 8 ∧ True ∧ kd 0 = 8 ∧ True) (by decide +kernel) rfl rfl ⟨trivial, rfl, trivial, rfl, trivial⟩ ?_
    obtain ⟨h6, e7, hF⟩ := ob1_elim hF
    refine g_callV0 hK 55 84 (d1 := 5) (ci := 1) (i := 17) (vs := [vR 3]) (rest := []) (h1 := h6) my_yX1_record vw_X6_84 (by decide) (T_Hi_record (p1 := 3) (h := h3) (kp1 := rfl) (hF := e7)) rfl rfl rfl (Nat.le_of_ble_eq_true rfl) (by decide +kernel) ?_
    refine g_seg hK [.aload_n 0, .getfield 21, .iconst 2] 58 63 (L1 := [(0, vR 0), (1, vI p1)]) (st1 := [vI 2, vR 3]) (h1 := h6) (P := True ∧ kd 0 = 8 ∧ True ∧ True) (by decide +kernel) rfl rfl ⟨trivial, rfl, trivial, trivial⟩ ?_
    refine g_callV1 hK 63 88 (d1 := 0) (ci := 4) (i := 3) (vs := [vI 2]) (rest := []) (h1 := h6) (r := vR (F_St_text 3 2)) my_yX4_text vw_X6_88 (by decide) (T_St_text (o := 3) (p1 := 2) (h := h6) (ks := rfl) (hF := rfl)) rfl rfl rfl (Nat.le_of_ble_eq_true rfl) (by decide +kernel) ?_
    refine g_seg hK [.aload_n 0, .getfield 59] 66 70 (L1 := [(0, vR 0), (1, vI p1)]) (st1 := [vR 65, vR (F_St_text 3 2)]) (h1 := h6) (P := True ∧ kd 0 = 8 ∧ True) (by decide +kernel) rfl rfl ⟨trivial, rfl, trivial⟩ ?_
    refine g_callV1 hK 70 128 (d1 := 0) (ci := 2) (i := 65) (vs := []) (rest := [vR (F_St_text 3 2)]) (h1 := h6) (r := vR 66) my_yX2_result vw_X6_128 (by decide) (T_La_result (h := h6) (hF := rfl)) rfl rfl rfl (Nat.le_of_ble_eq_true rfl) (by decide +kernel) ?_
    obtain ⟨h8, e9, hF⟩ := ob1_elim hF
    refine g_callV0 hK 73 105 (d1 := 1) (ci := 3) (i := F_St_text 3 2) (vs := [vR 66]) (rest := []) (h1 := h8) my_yX3_become vw_X6_105 (by decide) (T_Ro_become (o := (F_St_text 3 2)) (p1 := 66) (h := h6) (ko := (kd_St_text rfl)) (kp1 := rfl) (hF := e9)) (kd_St_text rfl) rfl rfl (Nat.le_of_ble_eq_true rfl) (by decide +kernel) ?_
    refine g_seg hK [.aload_n 0, .getfield 21, .aload_n 0, .getfield 59] 76 84 (L1 := [(0, vR 0), (1, vI p1)]) (st1 := [vR 65, vR 3]) (h1 := h8) (P := True ∧ kd 0 = 8 ∧ True ∧ kd 0 = 8 ∧ True) (by decide +kernel) rfl rfl ⟨trivial, rfl, trivial, rfl, trivial⟩ ?_
    refine g_callV1 hK 84 132 (d1 := 0) (ci := 2) (i := 65) (vs := []) (rest := [vR 3]) (h1 := h8) (r := vI (F_La_laid h8)) my_yX2_laid vw_X6_132 (by decide) (T_La_laid (h := h8) (hF := rfl)) rfl rfl rfl (Nat.le_of_ble_eq_true rfl) (by decide +kernel) ?_
    refine g_seg hK [.aload_n 0, .getfield 52] 87 91 (L1 := [(0, vR 0), (1, vI p1)]) (st1 := [vR 54, vI (F_La_laid h8), vR 3]) (h1 := h8) (P := True ∧ kd 0 = 8 ∧ True) (by decide +kernel) rfl rfl ⟨trivial, rfl, trivial⟩ ?_
    refine g_callV1 hK 91 135 (d1 := 1) (ci := 5) (i := 54) (vs := []) (rest := [vI (F_La_laid h8), vR 3]) (h1 := h8) (r := vI (F_V_hunks h8)) my_yX5_hunks vw_X6_135 (by decide) (T_V_hunks (h := h8) (hF := rfl)) rfl rfl rfl (Nat.le_of_ble_eq_true rfl) (by decide +kernel) ?_
    refine g_seg hK [.aload_n 0, .getfield 59] 94 98 (L1 := [(0, vR 0), (1, vI p1)]) (st1 := [vR 65, vI (F_V_hunks h8), vI (F_La_laid h8), vR 3]) (h1 := h8) (P := True ∧ kd 0 = 8 ∧ True) (by decide +kernel) rfl rfl ⟨trivial, rfl, trivial⟩ ?_
    refine g_callV1 hK 98 132 (d1 := 0) (ci := 2) (i := 65) (vs := []) (rest := [vI (F_V_hunks h8), vI (F_La_laid h8), vR 3]) (h1 := h8) (r := vI (F_La_laid h8)) my_yX2_laid vw_X6_132 (by decide) (T_La_laid (h := h8) (hF := rfl)) rfl rfl rfl (Nat.le_of_ble_eq_true rfl) (by decide +kernel) ?_
    refine g_seg hK [.isub] 101 102 (L1 := [(0, vR 0), (1, vI p1)]) (st1 := [vI (wr ((F_V_hunks h8) - (F_La_laid h8))), vI (F_La_laid h8), vR 3]) (h1 := h8) (P := True ∧ True) (by decide +kernel) rfl rfl ⟨trivial, trivial⟩ ?_
    refine g_callV0 hK 102 138 (d1 := 0) (ci := 4) (i := 3) (vs := [vI (F_La_laid h8), vI (wr ((F_V_hunks h8) - (F_La_laid h8)))]) (rest := []) (h1 := (F_St_addPatches 3 (F_La_laid h8) (wr ((F_V_hunks h8) - (F_La_laid h8))) h8)) my_yX4_addPatches vw_X6_138 (by decide) (T_St_addPatches (o := 3) (p1 := (F_La_laid h8)) (p2 := (wr ((F_V_hunks h8) - (F_La_laid h8)))) (h := h8) (ks := rfl) (hF := rfl)) rfl rfl rfl (Nat.le_of_ble_eq_true rfl) (by decide +kernel) ?_
    refine g_seg hK [.aload_n 0, .getfield 59] 105 109 (L1 := [(0, vR 0), (1, vI p1)]) (st1 := [vR 65]) (h1 := (F_St_addPatches 3 (F_La_laid h8) (wr ((F_V_hunks h8) - (F_La_laid h8))) h8)) (P := True ∧ kd 0 = 8 ∧ True) (by decide +kernel) rfl rfl ⟨trivial, rfl, trivial⟩ ?_
    refine g_callV1 hK 109 132 (d1 := 0) (ci := 2) (i := 65) (vs := []) (rest := []) (h1 := (F_St_addPatches 3 (F_La_laid h8) (wr ((F_V_hunks h8) - (F_La_laid h8))) h8)) (r := vI (F_La_laid (F_St_addPatches 3 (F_La_laid h8) (wr ((F_V_hunks h8) - (F_La_laid h8))) h8))) my_yX2_laid vw_X6_132 (by decide) (T_La_laid (h := (F_St_addPatches 3 (F_La_laid h8) (wr ((F_V_hunks h8) - (F_La_laid h8))) h8)) (hF := rfl)) rfl rfl rfl (Nat.le_of_ble_eq_true rfl) (by decide +kernel) ?_
    cases hF
    exact hR.1 112 _ _ _ (by decide +kernel) rfl ⟨rfl, rfl⟩
  · have hF := ite_f hc5 hF
    refine g_seg hK [.bipush (-3)] 44 46 (L1 := [(0, vR 0), (1, vI p1)]) (st1 := [vI (-3)]) (h1 := h3) (P := True ∧ True) (by decide +kernel) rfl rfl ⟨trivial, trivial⟩ ?_
    cases hF
    exact hR.1 46 _ _ _ (by decide +kernel) rfl ⟨rfl, rfl⟩
set_option maxHeartbeats 4000000 in
set_option maxRecDepth 100000 in
theorem T_X_line {p1 : Int} {p2 : Int} {h : MH} {r : Int} (hF : F_X_line p1 p2 h = r) : CON 1 yX6_line cX6_line 4 (Option.some Jvm.ClassFile.FieldType.int) [vR 0, vI p1, vI p2] h (some (vI r)) h := by
  refine con_of (own := RX6) (fl := flX6) (by decide +kernel) rfl flok_X6 rfl (Nat.le_of_ble_eq_true rfl) ?_
  intro K hK hR
  show K 0 [(0, vR 0), (1, vI p1), (2, vI p2)] [] h
  unfold F_X_line at hF
  refine g_seg hK [.iload_n 1] 0 1 (L1 := [(0, vR 0), (1, vI p1), (2, vI p2)]) (st1 := [vI p1]) (h1 := h) (P := True ∧ True) (by decide +kernel) rfl rfl ⟨trivial, trivial⟩ ?_
  refine g_callS1 hK 1 77 (d1 := 0) (vs := [vI p1]) (rest := []) (h1 := h) (r := vI (F_X_isText p1)) my_yX6_isText sw_X6_77 (by decide) (T_X_isText (p1 := p1) (h := h) (hF := rfl)) rfl (Nat.le_of_ble_eq_true rfl) (by decide +kernel) ?_
  refine g_ifz hK 4 .eq (7) 11 (t1 := 11) (t2 := 7) (by decide +kernel) (by decide) rfl rfl (fun (hc1 : F_X_isText p1 = 0) => ?_) (fun (hc1 : ¬ (F_X_isText p1 = 0)) => ?_)
  · have hF := ite_t hc1 hF
    refine g_seg hK [.iconst (-1)] 11 12 (L1 := [(0, vR 0), (1, vI p1), (2, vI p2)]) (st1 := [vI (-1)]) (h1 := h) (P := True ∧ True) (by decide +kernel) rfl rfl ⟨trivial, trivial⟩ ?_
    cases hF
    exact hR.1 12 _ _ _ (by decide +kernel) rfl ⟨rfl, rfl⟩
  · have hF := ite_f hc1 hF
    refine g_seg hK [.iload_n 2] 7 8 (L1 := [(0, vR 0), (1, vI p1), (2, vI p2)]) (st1 := [vI p2]) (h1 := h) (P := True ∧ True) (by decide +kernel) rfl rfl ⟨trivial, trivial⟩ ?_
    refine g_ifz hK 8 .ge (5) 13 (t1 := 11) (t2 := 13) (by decide +kernel) (by decide) rfl rfl (fun (hc2 : p2 < 0) => ?_) (fun (hc2 : ¬ (p2 < 0)) => ?_)
    · have hF := ite_t hc2 hF
      refine g_seg hK [.iconst (-1)] 11 12 (L1 := [(0, vR 0), (1, vI p1), (2, vI p2)]) (st1 := [vI (-1)]) (h1 := h) (P := True ∧ True) (by decide +kernel) rfl rfl ⟨trivial, trivial⟩ ?_
      cases hF
      exact hR.1 12 _ _ _ (by decide +kernel) rfl ⟨rfl, rfl⟩
    · have hF := ite_f hc2 hF
      refine g_seg hK [.aload_n 0, .getfield 21, .iload_n 1] 13 18 (L1 := [(0, vR 0), (1, vI p1), (2, vI p2)]) (st1 := [vI p1, vR 3]) (h1 := h) (P := True ∧ kd 0 = 8 ∧ True ∧ True) (by decide +kernel) rfl rfl ⟨trivial, rfl, trivial, trivial⟩ ?_
      refine g_callV1 hK 18 88 (d1 := 0) (ci := 4) (i := 3) (vs := [vI p1]) (rest := []) (h1 := h) (r := vR (F_St_text 3 p1)) my_yX4_text vw_X6_88 (by decide) (T_St_text (o := 3) (p1 := p1) (h := h) (ks := rfl) (hF := rfl)) rfl rfl rfl (Nat.le_of_ble_eq_true rfl) (by decide +kernel) ?_
      refine g_seg hK [.astore_n 3, .iload_n 2, .aload_n 3] 21 24 (L1 := [(3, vR (F_St_text 3 p1)), (0, vR 0), (1, vI p1), (2, vI p2)]) (st1 := [vR (F_St_text 3 p1), vI p2]) (h1 := h) (P := True ∧ True ∧ True ∧ True) (by decide +kernel) rfl rfl ⟨trivial, trivial, trivial, trivial⟩ ?_
      refine g_callV1 hK 24 63 (d1 := 0) (ci := 3) (i := F_St_text 3 p1) (vs := []) (rest := [vI p2]) (h1 := h) (r := vI (F_Ro_size (F_St_text 3 p1) h)) my_yX3_size vw_X6_63 (by decide) (T_Ro_size (o := (F_St_text 3 p1)) (h := h) (ko := (kd_St_text rfl)) (hF := rfl)) (kd_St_text rfl) rfl rfl (Nat.le_of_ble_eq_true rfl) (by decide +kernel) ?_
      refine g_icmp hK 27 .ge (11) 38 (t1 := 30) (t2 := 38) (by decide +kernel) (by decide) rfl rfl (fun (hc3 : p2 < F_Ro_size (F_St_text 3 p1) h) => ?_) (fun (hc3 : ¬ (p2 < F_Ro_size (F_St_text 3 p1) h)) => ?_)
      · have hF := ite_t hc3 hF
        refine g_seg hK [.aload_n 3, .iload_n 2] 30 32 (L1 := [(3, vR (F_St_text 3 p1)), (0, vR 0), (1, vI p1), (2, vI p2)]) (st1 := [vI p2, vR (F_St_text 3 p1)]) (h1 := h) (P := True ∧ True ∧ True) (by decide +kernel) rfl rfl ⟨trivial, trivial, trivial⟩ ?_
        refine g_callV1 hK 32 141 (d1 := 0) (ci := 3) (i := F_St_text 3 p1) (vs := [vI p2]) (rest := []) (h1 := h) (r := vI (F_Ro_at (F_St_text 3 p1) p2 h)) my_yX3_at vw_X6_141 (by decide) (T_Ro_at (o := (F_St_text 3 p1)) (p1 := p2) (h := h) (ko := (kd_St_text rfl)) (hF := rfl)) (kd_St_text rfl) rfl rfl (Nat.le_of_ble_eq_true rfl) (by decide +kernel) ?_
        refine g_goto hK 35 (5) 40 (by decide +kernel) (by decide) ?_
        cases hF
        exact hR.1 40 _ _ _ (by decide +kernel) rfl ⟨rfl, rfl⟩
      · have hF := ite_f hc3 hF
        refine g_seg hK [.bipush (-4)] 38 40 (L1 := [(3, vR (F_St_text 3 p1)), (0, vR 0), (1, vI p1), (2, vI p2)]) (st1 := [vI (-4)]) (h1 := h) (P := True ∧ True) (by decide +kernel) rfl rfl ⟨trivial, trivial⟩ ?_
        cases hF
        exact hR.1 40 _ _ _ (by decide +kernel) rfl ⟨rfl, rfl⟩
set_option maxHeartbeats 4000000 in
set_option maxRecDepth 100000 in
theorem T_C_entry {p1 : Int} {p2 : Int} {h : MH} {r : Int} (hF : F_C_entry p1 p2 h = r) : CON 1 yX0_entry cX0_entry 5 (Option.some Jvm.ClassFile.FieldType.int) [vR 49, vI p1, vI p2] h (some (vI r)) h := by
  refine con_of (own := RX0) (fl := flX0) (by decide +kernel) rfl flok_X0 rfl (Nat.le_of_ble_eq_true rfl) ?_
  intro K hK hR
  show K 0 [(0, vR 49), (1, vI p1), (2, vI p2)] [] h
  unfold F_C_entry at hF
  refine g_seg hK [.aload_n 0, .getfield 20, .bipush 29, .iload_n 1, .iadd, .iconst 1, .iadd] 0 10 (L1 := [(0, vR 49), (1, vI p1), (2, vI p2)]) (st1 := [vI (wr ((wr (29 + p1)) + 1)), vR 52]) (h1 := h) (P := True ∧ kd 49 = 2 ∧ True ∧ True ∧ True ∧ True ∧ True ∧ True) (by decide +kernel) rfl rfl ⟨trivial, rfl, trivial, trivial, trivial, trivial, trivial, trivial⟩ ?_
  refine g_callV1 hK 10 30 (d1 := 0) (ci := 3) (i := 52) (vs := [vI (wr ((wr (29 + p1)) + 1))]) (rest := []) (h1 := h) (r := vI (F_Ro_at 52 (wr ((wr (29 + p1)) + 1)) h)) my_yX3_at vw_X0_30 (by decide) (T_Ro_at (o := 52) (p1 := (wr ((wr (29 + p1)) + 1))) (h := h) (ko := rfl) (hF := rfl)) rfl rfl rfl (Nat.le_of_ble_eq_true rfl) (by decide +kernel) ?_
  refine g_seg hK [.istore_n 3, .aload_n 0, .getfield 20, .bipush 29, .iload_n 1, .iadd, .iconst 1, .isub] 13 24 (L1 := [(3, vI (F_Ro_at 52 (wr ((wr (29 + p1)) + 1)) h)), (0, vR 49), (1, vI p1), (2, vI p2)]) (st1 := [vI (wr ((wr (29 + p1)) - 1)), vR 52]) (h1 := h) (P := True ∧ True ∧ kd 49 = 2 ∧ True ∧ True ∧ True ∧ True ∧ True ∧ True) (by decide +kernel) rfl rfl ⟨trivial, trivial, rfl, trivial, trivial, trivial, trivial, trivial, trivial⟩ ?_
  refine g_callV1 hK 24 30 (d1 := 0) (ci := 3) (i := 52) (vs := [vI (wr ((wr (29 + p1)) - 1))]) (rest := []) (h1 := h) (r := vI (F_Ro_at 52 (wr ((wr (29 + p1)) - 1)) h)) my_yX3_at vw_X0_30 (by decide) (T_Ro_at (o := 52) (p1 := (wr ((wr (29 + p1)) - 1))) (h := h) (ko := rfl) (hF := rfl)) rfl rfl rfl (Nat.le_of_ble_eq_true rfl) (by decide +kernel) ?_
  refine g_seg hK [.iconst 1, .iadd, .istore 4, .iload_n 2] 27 32 (L1 := [(4, vI (wr ((F_Ro_at 52 (wr ((wr (29 + p1)) - 1)) h) + 1))), (3, vI (F_Ro_at 52 (wr ((wr (29 + p1)) + 1)) h)), (0, vR 49), (1, vI p1), (2, vI p2)]) (st1 := [vI p2]) (h1 := h) (P := True ∧ True ∧ True ∧ True ∧ True) (by decide +kernel) rfl rfl ⟨trivial, trivial, trivial, trivial, trivial⟩ ?_
  refine g_ifz hK 32 .ne (5) 37 (t1 := 35) (t2 := 37) (by decide +kernel) (by decide) rfl rfl (fun (hc1 : p2 = 0) => ?_) (fun (hc1 : ¬ (p2 = 0)) => ?_)
  · have hF := ite_t hc1 hF
    refine g_seg hK [.iconst 0] 35 36 (L1 := [(4, vI (wr ((F_Ro_at 52 (wr ((wr (29 + p1)) - 1)) h) + 1))), (3, vI (F_Ro_at 52 (wr ((wr (29 + p1)) + 1)) h)), (0, vR 49), (1, vI p1), (2, vI p2)]) (st1 := [vI 0]) (h1 := h) (P := True ∧ True) (by decide +kernel) rfl rfl ⟨trivial, trivial⟩ ?_
    cases hF
    exact hR.1 36 _ _ _ (by decide +kernel) rfl ⟨rfl, rfl⟩
  · have hF := ite_f hc1 hF
    refine g_seg hK [.iload_n 1, .iload_n 2, .ineg] 37 40 (L1 := [(4, vI (wr ((F_Ro_at 52 (wr ((wr (29 + p1)) - 1)) h) + 1))), (3, vI (F_Ro_at 52 (wr ((wr (29 + p1)) + 1)) h)), (0, vR 49), (1, vI p1), (2, vI p2)]) (st1 := [vI (wr (-p2)), vI p1]) (h1 := h) (P := True ∧ True ∧ True ∧ True) (by decide +kernel) rfl rfl ⟨trivial, trivial, trivial, trivial⟩ ?_
    refine g_icmp hK 40 .ne (5) 45 (t1 := 43) (t2 := 45) (by decide +kernel) (by decide) rfl rfl (fun (hc2 : p1 = wr (-p2)) => ?_) (fun (hc2 : ¬ (p1 = wr (-p2))) => ?_)
    · have hF := ite_t hc2 hF
      refine g_seg hK [.iload_n 3] 43 44 (L1 := [(4, vI (wr ((F_Ro_at 52 (wr ((wr (29 + p1)) - 1)) h) + 1))), (3, vI (F_Ro_at 52 (wr ((wr (29 + p1)) + 1)) h)), (0, vR 49), (1, vI p1), (2, vI p2)]) (st1 := [vI (F_Ro_at 52 (wr ((wr (29 + p1)) + 1)) h)]) (h1 := h) (P := True ∧ True) (by decide +kernel) rfl rfl ⟨trivial, trivial⟩ ?_
      cases hF
      exact hR.1 44 _ _ _ (by decide +kernel) rfl ⟨rfl, rfl⟩
    · have hF := ite_f hc2 hF
      refine g_seg hK [.iload_n 1, .iload_n 2] 45 47 (L1 := [(4, vI (wr ((F_Ro_at 52 (wr ((wr (29 + p1)) - 1)) h) + 1))), (3, vI (F_Ro_at 52 (wr ((wr (29 + p1)) + 1)) h)), (0, vR 49), (1, vI p1), (2, vI p2)]) (st1 := [vI p2, vI p1]) (h1 := h) (P := True ∧ True ∧ True) (by decide +kernel) rfl rfl ⟨trivial, trivial, trivial⟩ ?_
      refine g_icmp hK 47 .eq (9) 56 (t1 := 56) (t2 := 50) (by decide +kernel) (by decide) rfl rfl (fun (hc3 : p1 = p2) => ?_) (fun (hc3 : ¬ (p1 = p2)) => ?_)
      · have hF := ite_t hc3 hF
        refine g_seg hK [.iload 4] 56 58 (L1 := [(4, vI (wr ((F_Ro_at 52 (wr ((wr (29 + p1)) - 1)) h) + 1))), (3, vI (F_Ro_at 52 (wr ((wr (29 + p1)) + 1)) h)), (0, vR 49), (1, vI p1), (2, vI p2)]) (st1 := [vI (wr ((F_Ro_at 52 (wr ((wr (29 + p1)) - 1)) h) + 1))]) (h1 := h) (P := True ∧ True) (by decide +kernel) rfl rfl ⟨trivial, trivial⟩ ?_
        refine g_goto hK 58 (4) 62 (by decide +kernel) (by decide) ?_
        cases hF
        exact hR.1 62 _ _ _ (by decide +kernel) rfl ⟨rfl, rfl⟩
      · have hF := ite_f hc3 hF
        refine g_seg hK [.iload 4, .iload_n 3] 50 53 (L1 := [(4, vI (wr ((F_Ro_at 52 (wr ((wr (29 + p1)) - 1)) h) + 1))), (3, vI (F_Ro_at 52 (wr ((wr (29 + p1)) + 1)) h)), (0, vR 49), (1, vI p1), (2, vI p2)]) (st1 := [vI (F_Ro_at 52 (wr ((wr (29 + p1)) + 1)) h), vI (wr ((F_Ro_at 52 (wr ((wr (29 + p1)) - 1)) h) + 1))]) (h1 := h) (P := True ∧ True ∧ True) (by decide +kernel) rfl rfl ⟨trivial, trivial, trivial⟩ ?_
        refine g_icmp hK 53 .le (8) 61 (t1 := 61) (t2 := 56) (by decide +kernel) (by decide) rfl rfl (fun (hc4 : wr ((F_Ro_at 52 (wr ((wr (29 + p1)) - 1)) h) + 1) ≤ F_Ro_at 52 (wr ((wr (29 + p1)) + 1)) h) => ?_) (fun (hc4 : ¬ (wr ((F_Ro_at 52 (wr ((wr (29 + p1)) - 1)) h) + 1) ≤ F_Ro_at 52 (wr ((wr (29 + p1)) + 1)) h)) => ?_)
        · have hF := ite_t hc4 hF
          refine g_seg hK [.iload_n 3] 61 62 (L1 := [(4, vI (wr ((F_Ro_at 52 (wr ((wr (29 + p1)) - 1)) h) + 1))), (3, vI (F_Ro_at 52 (wr ((wr (29 + p1)) + 1)) h)), (0, vR 49), (1, vI p1), (2, vI p2)]) (st1 := [vI (F_Ro_at 52 (wr ((wr (29 + p1)) + 1)) h)]) (h1 := h) (P := True ∧ True) (by decide +kernel) rfl rfl ⟨trivial, trivial⟩ ?_
          cases hF
          exact hR.1 62 _ _ _ (by decide +kernel) rfl ⟨rfl, rfl⟩
        · have hF := ite_f hc4 hF
          refine g_seg hK [.iload 4] 56 58 (L1 := [(4, vI (wr ((F_Ro_at 52 (wr ((wr (29 + p1)) - 1)) h) + 1))), (3, vI (F_Ro_at 52 (wr ((wr (29 + p1)) + 1)) h)), (0, vR 49), (1, vI p1), (2, vI p2)]) (st1 := [vI (wr ((F_Ro_at 52 (wr ((wr (29 + p1)) - 1)) h) + 1))]) (h1 := h) (P := True ∧ True) (by decide +kernel) rfl rfl ⟨trivial, trivial⟩ ?_
          refine g_goto hK 58 (4) 62 (by decide +kernel) (by decide) ?_
          cases hF
          exact hR.1 62 _ _ _ (by decide +kernel) rfl ⟨rfl, rfl⟩
set_option maxHeartbeats 4000000 in
set_option maxRecDepth 100000 in
theorem LT_C_followKept_L3 {K : KT} (hK : Rules RX0 cX0_followKept 5 (Option.some Jvm.ClassFile.FieldType.int) flX0 1 K) {x0 : Nat} {x1 : Nat} {x3 : Int} {h : MH} (kx0 : kd x0 = 5) (kx1 : kd x1 = 5) : ∀ (n : Nat) (x4 : Int) (x4' : Int), F_C_followKept_L3 x0 x1 x3 h n x4 = some x4' → K 46 [(0, vR x0), (1, vR x1), (3, vI x3), (4, vI x4')] [] h → K 3 [(0, vR x0), (1, vR x1), (3, vI x3), (4, vI x4)] [] h := by
  intro n
  induction n with
  | zero =>
    intro x4 x4' hF
    cases hF
  | succ n ih =>
    intro x4 x4' hF hE
    unfold F_C_followKept_L3 at hF
    refine g_seg hK [.iload 4, .aload_n 0] 3 6 (L1 := [(0, vR x0), (1, vR x1), (3, vI x3), (4, vI x4)]) (st1 := [vR x0, vI x4]) (h1 := h) (P := True ∧ True ∧ True) (by decide +kernel) rfl rfl ⟨trivial, trivial, trivial⟩ ?_
    refine g_callV1 hK 6 26 (d1 := 0) (ci := 3) (i := x0) (vs := []) (rest := [vI x4]) (h1 := h) (r := vI (F_Ro_size x0 h)) my_yX3_size vw_X0_26 (by decide) (T_Ro_size (o := x0) (h := h) (ko := kx0) (hF := rfl)) kx0 rfl rfl (Nat.le_of_ble_eq_true rfl) (by decide +kernel) ?_
    refine g_icmp hK 9 .ge (37) 46 (t1 := 12) (t2 := 46) (by decide +kernel) (by decide) rfl rfl (fun (hc1 : x4 < F_Ro_size x0 h) => ?_) (fun (hc1 : ¬ (x4 < F_Ro_size x0 h)) => ?_)
    · have hF := ite_t hc1 hF
      refine g_seg hK [.iload 4, .iload_n 3, .isub, .aload_n 1] 12 17 (L1 := [(0, vR x0), (1, vR x1), (3, vI x3), (4, vI x4)]) (st1 := [vR x1, vI (wr (x4 - x3))]) (h1 := h) (P := True ∧ True ∧ True ∧ True ∧ True) (by decide +kernel) rfl rfl ⟨trivial, trivial, trivial, trivial, trivial⟩ ?_
      refine g_callV1 hK 17 26 (d1 := 0) (ci := 3) (i := x1) (vs := []) (rest := [vI (wr (x4 - x3))]) (h1 := h) (r := vI (F_Ro_size x1 h)) my_yX3_size vw_X0_26 (by decide) (T_Ro_size (o := x1) (h := h) (ko := kx1) (hF := rfl)) kx1 rfl rfl (Nat.le_of_ble_eq_true rfl) (by decide +kernel) ?_
      refine g_icmp hK 20 .ge (26) 46 (t1 := 23) (t2 := 46) (by decide +kernel) (by decide) rfl rfl (fun (hc2 : wr (x4 - x3) < F_Ro_size x1 h) => ?_) (fun (hc2 : ¬ (wr (x4 - x3) < F_Ro_size x1 h)) => ?_)
      · have hF := ite_t hc2 hF
        refine g_seg hK [.aload_n 0, .iload 4] 23 26 (L1 := [(0, vR x0), (1, vR x1), (3, vI x3), (4, vI x4)]) (st1 := [vI x4, vR x0]) (h1 := h) (P := True ∧ True ∧ True) (by decide +kernel) rfl rfl ⟨trivial, trivial, trivial⟩ ?_
        refine g_callV1 hK 26 30 (d1 := 0) (ci := 3) (i := x0) (vs := [vI x4]) (rest := []) (h1 := h) (r := vI (F_Ro_at x0 x4 h)) my_yX3_at vw_X0_30 (by decide) (T_Ro_at (o := x0) (p1 := x4) (h := h) (ko := kx0) (hF := rfl)) kx0 rfl rfl (Nat.le_of_ble_eq_true rfl) (by decide +kernel) ?_
        refine g_seg hK [.aload_n 1, .iload 4, .iload_n 3, .isub] 29 34 (L1 := [(0, vR x0), (1, vR x1), (3, vI x3), (4, vI x4)]) (st1 := [vI (wr (x4 - x3)), vR x1, vI (F_Ro_at x0 x4 h)]) (h1 := h) (P := True ∧ True ∧ True ∧ True ∧ True) (by decide +kernel) rfl rfl ⟨trivial, trivial, trivial, trivial, trivial⟩ ?_
        refine g_callV1 hK 34 30 (d1 := 0) (ci := 3) (i := x1) (vs := [vI (wr (x4 - x3))]) (rest := [vI (F_Ro_at x0 x4 h)]) (h1 := h) (r := vI (F_Ro_at x1 (wr (x4 - x3)) h)) my_yX3_at vw_X0_30 (by decide) (T_Ro_at (o := x1) (p1 := (wr (x4 - x3))) (h := h) (ko := kx1) (hF := rfl)) kx1 rfl rfl (Nat.le_of_ble_eq_true rfl) (by decide +kernel) ?_
        refine g_icmp hK 37 .ne (9) 46 (t1 := 40) (t2 := 46) (by decide +kernel) (by decide) rfl rfl (fun (hc3 : F_Ro_at x0 x4 h = F_Ro_at x1 (wr (x4 - x3)) h) => ?_) (fun (hc3 : ¬ (F_Ro_at x0 x4 h = F_Ro_at x1 (wr (x4 - x3)) h)) => ?_)
        · have hF := ite_t hc3 hF
          refine g_seg hK [.iinc 4 1] 40 43 (L1 := [(4, vI (wr (x4 + 1))), (0, vR x0), (1, vR x1), (3, vI x3)]) (st1 := []) (h1 := h) (P := True ∧ True) (by decide +kernel) rfl rfl ⟨trivial, trivial⟩ ?_
          refine g_goto hK 43 (-40) 3 (by decide +kernel) (by decide) ?_
          refine hK.2.1 _ _ ([(0, vR x0), (1, vR x1), (3, vI x3), (4, vI (wr (x4 + 1)))]) _ _ (sub_of [1, 2, 3, 0] rfl) ?_
          exact ih _ _ hF hE
        · have hF := ite_f hc3 hF
          cases hF
          exact hE
      · have hF := ite_f hc2 hF
        cases hF
        exact hE
    · have hF := ite_f hc1 hF
      cases hF
      exact hE
set_option maxHeartbeats 4000000 in
set_option maxRecDepth 100000 in
theorem T_C_followKept {p1 : Nat} {p2 : Nat} {p3 : Int} {p4 : Int} {h : MH} {r : Int} (kp1 : kd p1 = 5) (kp2 : kd p2 = 5) (hF : F_C_followKept p1 p2 p3 p4 h = some r) : CON 1 yX0_followKept cX0_followKept 5 (Option.some Jvm.ClassFile.FieldType.int) [vR p1, vR p2, vI p3, vI p4] h (some (vI r)) h := by
  refine con_of (own := RX0) (fl := flX0) (by decide +kernel) rfl flok_X0 rfl (Nat.le_of_ble_eq_true rfl) ?_
  intro K hK hR
  show K 0 [(0, vR p1), (1, vR p2), (2, vI p3), (3, vI p4)] [] h
  unfold F_C_followKept at hF
  refine g_seg hK [.iload_n 2, .istore 4] 0 3 (L1 := [(4, vI p3), (0, vR p1), (1, vR p2), (2, vI p3), (3, vI p4)]) (st1 := []) (h1 := h) (P := True ∧ True ∧ True) (by decide +kernel) rfl rfl ⟨trivial, trivial, trivial⟩ ?_
  refine hK.2.1 _ _ ([(0, vR p1), (1, vR p2), (3, vI p4), (4, vI p3)]) _ _ (sub_of [1, 2, 4, 0] rfl) ?_
  obtain ⟨x4_1, e2, hF⟩ := ob1_elim hF
  refine LT_C_followKept_L3 hK (kx0 := kp1) (kx1 := kp2) _ _ _ e2 ?_
  refine g_seg hK [.iload 4] 46 48 (L1 := [(0, vR p1), (1, vR p2), (3, vI p4), (4, vI x4_1)]) (st1 := [vI x4_1]) (h1 := h) (P := True ∧ True) (by decide +kernel) rfl rfl ⟨trivial, trivial⟩ ?_
  cases hF
  exact hR.1 48 _ _ _ (by decide +kernel) rfl ⟨rfl, rfl⟩
set_option maxHeartbeats 4000000 in
set_option maxRecDepth 100000 in
theorem LT_C_apartBySteps_L33 {K : KT} (hK : Rules RX0 cX0_apartBySteps 7 (Option.some Jvm.ClassFile.FieldType.int) flX0 2 K) {Post : Option MV → MH → Prop} (hR : R_ret cX0_apartBySteps (Option.some Jvm.ClassFile.FieldType.int) Post K) {x1 : Nat} {x2 : Nat} {x3 : Int} {x4 : Int} (kx1 : kd x1 = 5) (kx2 : kd x2 = 5) : ∀ (n : Nat) (x5 : Int) (h : MH) (out : Sum (Int × MH) (Int × MH)), F_C_apartBySteps_L33 x1 x2 x3 x4 n x5 h = some out → (∀ a : Int × MH, out = Sum.inl a → Post (some (vI a.1)) a.2) → (∀ q : Int × MH, out = Sum.inr q → K 101 [(0, vR 49), (1, vR x1), (2, vR x2), (3, vI x3), (4, vI x4), (5, vI q.1)] [] q.2) → K 33 [(0, vR 49), (1, vR x1), (2, vR x2), (3, vI x3), (4, vI x4), (5, vI x5)] [] h := by
  intro n
  induction n with
  | zero =>
    intro x5 h out hF
    cases hF
  | succ n ih =>
    intro x5 h out hF hRet hE
    unfold F_C_apartBySteps_L33 at hF
    refine g_seg hK [.iload 5, .iload 4] 33 37 (L1 := [(0, vR 49), (1, vR x1), (2, vR x2), (3, vI x3), (4, vI x4), (5, vI x5)]) (st1 := [vI x4, vI x5]) (h1 := h) (P := True ∧ True ∧ True) (by decide +kernel) rfl rfl ⟨trivial, trivial, trivial⟩ ?_
    refine g_icmp hK 37 .gt (64) 101 (t1 := 40) (t2 := 101) (by decide +kernel) (by decide) rfl rfl (fun (hc1 : x5 ≤ x4) => ?_) (fun (hc1 : ¬ (x5 ≤ x4)) => ?_)
    · have hF := ite_t hc1 hF
      refine g_seg hK [.aload_n 1, .aload_n 2, .aload_n 0, .iload 5, .iload 4] 40 47 (L1 := [(0, vR 49), (1, vR x1), (2, vR x2), (3, vI x3), (4, vI x4), (5, vI x5)]) (st1 := [vI x4, vI x5, vR 49, vR x2, vR x1]) (h1 := h) (P := True ∧ True ∧ True ∧ True ∧ True ∧ True) (by decide +kernel) rfl rfl ⟨trivial, trivial, trivial, trivial, trivial, trivial⟩ ?_
      refine g_callV1 hK 47 57 (d1 := 1) (ci := 0) (i := 49) (vs := [vI x5, vI x4]) (rest := [vR x2, vR x1]) (h1 := h) (r := vI (F_C_entry x5 x4 h)) my_yX0_entry vw_X0_57 (by decide) (T_C_entry (p1 := x5) (p2 := x4) (h := h) (hF := rfl)) rfl rfl rfl (Nat.le_of_ble_eq_true rfl) (by decide +kernel) ?_
      refine g_seg hK [.iload 5] 50 52 (L1 := [(0, vR 49), (1, vR x1), (2, vR x2), (3, vI x3), (4, vI x4), (5, vI x5)]) (st1 := [vI x5, vI (F_C_entry x5 x4 h), vR x2, vR x1]) (h1 := h) (P := True ∧ True) (by decide +kernel) rfl rfl ⟨trivial, trivial⟩ ?_
      obtain ⟨r2, e3, hF⟩ := ob1_elim hF
      refine g_callS1 hK 52 60 (d1 := 1) (vs := [vR x1, vR x2, vI (F_C_entry x5 x4 h), vI x5]) (rest := []) (h1 := h) (r := vI r2) my_yX0_followKept sw_X0_60 (by decide) (T_C_followKept (p1 := x1) (p2 := x2) (p3 := (F_C_entry x5 x4 h)) (p4 := x5) (h := h) (kp1 := kx1) (kp2 := kx2) (hF := e3)) rfl (Nat.le_of_ble_eq_true rfl) (by decide +kernel) ?_
      refine g_seg hK [.istore 6, .aload_n 0, .getfield 20, .bipush 29, .iload 5, .iadd, .iload 6] 55 68 (L1 := [(6, vI r2), (0, vR 49), (1, vR x1), (2, vR x2), (3, vI x3), (4, vI x4), (5, vI x5)]) (st1 := [vI r2, vI (wr (29 + x5)), vR 52]) (h1 := h) (P := True ∧ True ∧ kd 49 = 2 ∧ True ∧ True ∧ True ∧ True ∧ True) (by decide +kernel) rfl rfl ⟨trivial, trivial, rfl, trivial, trivial, trivial, trivial, trivial⟩ ?_
      refine g_callV0 hK 68 43 (d1 := 0) (ci := 3) (i := 52) (vs := [vI (wr (29 + x5)), vI r2]) (rest := []) (h1 := (F_Ro_change 52 (wr (29 + x5)) r2 h)) my_yX3_change vw_X0_43 (by decide) (T_Ro_change (o := 52) (p1 := (wr (29 + x5))) (p2 := r2) (h := h) (ko := rfl) (hF := rfl)) rfl rfl rfl (Nat.le_of_ble_eq_true rfl) (by decide +kernel) ?_
      refine g_seg hK [.iload 6, .aload_n 1] 71 74 (L1 := [(6, vI r2), (0, vR 49), (1, vR x1), (2, vR x2), (3, vI x3), (4, vI x4), (5, vI x5)]) (st1 := [vR x1, vI r2]) (h1 := (F_Ro_change 52 (wr (29 + x5)) r2 h)) (P := True ∧ True ∧ True) (by decide +kernel) rfl rfl ⟨trivial, trivial, trivial⟩ ?_
      refine g_callV1 hK 74 26 (d1 := 0) (ci := 3) (i := x1) (vs := []) (rest := [vI r2]) (h1 := (F_Ro_change 52 (wr (29 + x5)) r2 h)) (r := vI (F_Ro_size x1 (F_Ro_change 52 (wr (29 + x5)) r2 h))) my_yX3_size vw_X0_26 (by decide) (T_Ro_size (o := x1) (h := (F_Ro_change 52 (wr (29 + x5)) r2 h)) (ko := kx1) (hF := rfl)) kx1 rfl rfl (Nat.le_of_ble_eq_true rfl) (by decide +kernel) ?_
      obtain ⟨kj5, e6, hF⟩ := jk1_elim hF
      have j5 : ∀ (u4 : Unit), kj5 u4 = some out → K 95 [(0, vR 49), (1, vR x1), (2, vR x2), (3, vI x3), (4, vI x4), (5, vI x5)] [] (F_Ro_change 52 (wr (29 + x5)) r2 h) := by
        intro u4 hF
        have hF := (e6 u4).symm.trans hF
        refine g_seg hK [.iinc 5 2] 95 98 (L1 := [(5, vI (wr (x5 + 2))), (0, vR 49), (1, vR x1), (2, vR x2), (3, vI x3), (4, vI x4)]) (st1 := []) (h1 := (F_Ro_change 52 (wr (29 + x5)) r2 h)) (P := True ∧ True) (by decide +kernel) rfl rfl ⟨trivial, trivial⟩ ?_
        refine g_goto hK 98 (-65) 33 (by decide +kernel) (by decide) ?_
        refine hK.2.1 _ _ ([(0, vR 49), (1, vR x1), (2, vR x2), (3, vI x3), (4, vI x4), (5, vI (wr (x5 + 2)))]) _ _ (sub_of [1, 2, 3, 4, 5, 0] rfl) ?_
        exact ih _ _ _ hF hRet hE
      refine g_icmp hK 77 .lt (18) 95 (t1 := 95) (t2 := 80) (by decide +kernel) (by decide) rfl rfl (fun (hc7 : r2 < F_Ro_size x1 (F_Ro_change 52 (wr (29 + x5)) r2 h)) => ?_) (fun (hc7 : ¬ (r2 < F_Ro_size x1 (F_Ro_change 52 (wr (29 + x5)) r2 h))) => ?_)
      · have hF := ite_t hc7 hF
        refine hK.2.1 _ _ ([(0, vR 49), (1, vR x1), (2, vR x2), (3, vI x3), (4, vI x4), (5, vI x5)]) _ _ (sub_of [1, 2, 3, 4, 5, 6] rfl) ?_
        exact j5 _ hF
      · have hF := ite_f hc7 hF
        refine g_seg hK [.iload 6, .iload 5, .isub, .aload_n 2] 80 86 (L1 := [(6, vI r2), (0, vR 49), (1, vR x1), (2, vR x2), (3, vI x3), (4, vI x4), (5, vI x5)]) (st1 := [vR x2, vI (wr (r2 - x5))]) (h1 := (F_Ro_change 52 (wr (29 + x5)) r2 h)) (P := True ∧ True ∧ True ∧ True ∧ True) (by decide +kernel) rfl rfl ⟨trivial, trivial, trivial, trivial, trivial⟩ ?_
        refine g_callV1 hK 86 26 (d1 := 0) (ci := 3) (i := x2) (vs := []) (rest := [vI (wr (r2 - x5))]) (h1 := (F_Ro_change 52 (wr (29 + x5)) r2 h)) (r := vI (F_Ro_size x2 (F_Ro_change 52 (wr (29 + x5)) r2 h))) my_yX3_size vw_X0_26 (by decide) (T_Ro_size (o := x2) (h := (F_Ro_change 52 (wr (29 + x5)) r2 h)) (ko := kx2) (hF := rfl)) kx2 rfl rfl (Nat.le_of_ble_eq_true rfl) (by decide +kernel) ?_
        refine g_icmp hK 89 .lt (6) 95 (t1 := 95) (t2 := 92) (by decide +kernel) (by decide) rfl rfl (fun (hc8 : wr (r2 - x5) < F_Ro_size x2 (F_Ro_change 52 (wr (29 + x5)) r2 h)) => ?_) (fun (hc8 : ¬ (wr (r2 - x5) < F_Ro_size x2 (F_Ro_change 52 (wr (29 + x5)) r2 h))) => ?_)
        · have hF := ite_t hc8 hF
          refine hK.2.1 _ _ ([(0, vR 49), (1, vR x1), (2, vR x2), (3, vI x3), (4, vI x4), (5, vI x5)]) _ _ (sub_of [1, 2, 3, 4, 5, 6] rfl) ?_
          exact j5 _ hF
        · have hF := ite_f hc8 hF
          refine g_seg hK [.iload 4] 92 94 (L1 := [(6, vI r2), (0, vR 49), (1, vR x1), (2, vR x2), (3, vI x3), (4, vI x4), (5, vI x5)]) (st1 := [vI x4]) (h1 := (F_Ro_change 52 (wr (29 + x5)) r2 h)) (P := True ∧ True) (by decide +kernel) rfl rfl ⟨trivial, trivial⟩ ?_
          cases hF
          exact hR.1 94 _ _ _ (by decide +kernel) rfl (hRet _ rfl)
    · have hF := ite_f hc1 hF
      cases hF
      exact hE _ rfl
set_option maxHeartbeats 4000000 in
set_option maxRecDepth 100000 in
theorem LT_C_apartBySteps_L22 {K : KT} (hK : Rules RX0 cX0_apartBySteps 7 (Option.some Jvm.ClassFile.FieldType.int) flX0 2 K) {Post : Option MV → MH → Prop} (hR : R_ret cX0_apartBySteps (Option.some Jvm.ClassFile.FieldType.int) Post K) {x1 : Nat} {x2 : Nat} {x3 : Int} (kx1 : kd x1 = 5) (kx2 : kd x2 = 5) : ∀ (n : Nat) (x4 : Int) (h : MH) (out : Sum (Int × MH) (Int × MH)), F_C_apartBySteps_L22 x1 x2 x3 n x4 h = some out → (∀ a : Int × MH, out = Sum.inl a → Post (some (vI a.1)) a.2) → (∀ q : Int × MH, out = Sum.inr q → K 107 [(0, vR 49), (1, vR x1), (2, vR x2), (3, vI x3), (4, vI q.1)] [] q.2) → K 22 [(0, vR 49), (1, vR x1), (2, vR x2), (3, vI x3), (4, vI x4)] [] h := by
  intro n
  induction n with
  | zero =>
    intro x4 h out hF
    cases hF
  | succ n ih =>
    intro x4 h out hF hRet hE
    unfold F_C_apartBySteps_L22 at hF
    refine g_seg hK [.iload 4, .iload_n 3] 22 25 (L1 := [(0, vR 49), (1, vR x1), (2, vR x2), (3, vI x3), (4, vI x4)]) (st1 := [vI x3, vI x4]) (h1 := h) (P := True ∧ True ∧ True) (by decide +kernel) rfl rfl ⟨trivial, trivial, trivial⟩ ?_
    refine g_icmp hK 25 .gt (82) 107 (t1 := 28) (t2 := 107) (by decide +kernel) (by decide) rfl rfl (fun (hc1 : x4 ≤ x3) => ?_) (fun (hc1 : ¬ (x4 ≤ x3)) => ?_)
    · have hF := ite_t hc1 hF
      refine g_seg hK [.iload 4, .ineg, .istore 5] 28 33 (L1 := [(5, vI (wr (-x4))), (0, vR 49), (1, vR x1), (2, vR x2), (3, vI x3), (4, vI x4)]) (st1 := []) (h1 := h) (P := True ∧ True ∧ True ∧ True) (by decide +kernel) rfl rfl ⟨trivial, trivial, trivial, trivial⟩ ?_
      refine hK.2.1 _ _ ([(0, vR 49), (1, vR x1), (2, vR x2), (3, vI x3), (4, vI x4), (5, vI (wr (-x4)))]) _ _ (sub_of [1, 2, 3, 4, 5, 0] rfl) ?_
      obtain ⟨out6, e4, hr7, hx8⟩ := os_elim hF
      refine LT_C_apartBySteps_L33 hK hR (kx1 := kx1) (kx2 := kx2) _ _ _ out6 e4 ?_ ?_
      · intro a ha
        have hF := hr7 a ha
        cases hF
        exact hRet _ rfl
      · intro q5 hq
        have hF := hx8 q5 hq
        refine g_seg hK [.iinc 4 1] 101 104 (L1 := [(4, vI (wr (x4 + 1))), (0, vR 49), (1, vR x1), (2, vR x2), (3, vI x3), (5, vI q5.1)]) (st1 := []) (h1 := q5.2) (P := True ∧ True) (by decide +kernel) rfl rfl ⟨trivial, trivial⟩ ?_
        refine g_goto hK 104 (-82) 22 (by decide +kernel) (by decide) ?_
        refine hK.2.1 _ _ ([(0, vR 49), (1, vR x1), (2, vR x2), (3, vI x3), (4, vI (wr (x4 + 1)))]) _ _ (sub_of [1, 2, 3, 4, 0] rfl) ?_
        exact ih _ _ _ hF hRet hE
    · have hF := ite_f hc1 hF
      cases hF
      exact hE _ rfl
set_option maxHeartbeats 4000000 in
set_option maxRecDepth 100000 in
theorem T_C_apartBySteps {p1 : Nat} {p2 : Nat} {h : MH} {r : Int} {h' : MH} (kp1 : kd p1 = 5) (kp2 : kd p2 = 5) (hF : F_C_apartBySteps p1 p2 h = some (r, h')) : CON 2 yX0_apartBySteps cX0_apartBySteps 7 (Option.some Jvm.ClassFile.FieldType.int) [vR 49, vR p1, vR p2] h (some (vI r)) h' := by
  refine con_of (own := RX0) (fl := flX0) (by decide +kernel) rfl flok_X0 rfl (Nat.le_of_ble_eq_true rfl) ?_
  intro K hK hR
  show K 0 [(0, vR 49), (1, vR p1), (2, vR p2)] [] h
  unfold F_C_apartBySteps at hF
  refine g_seg hK [.aload_n 1] 0 1 (L1 := [(0, vR 49), (1, vR p1), (2, vR p2)]) (st1 := [vR p1]) (h1 := h) (P := True ∧ True) (by decide +kernel) rfl rfl ⟨trivial, trivial⟩ ?_
  refine g_callV1 hK 1 26 (d1 := 0) (ci := 3) (i := p1) (vs := []) (rest := []) (h1 := h) (r := vI (F_Ro_size p1 h)) my_yX3_size vw_X0_26 (by decide) (T_Ro_size (o := p1) (h := h) (ko := kp1) (hF := rfl)) kp1 rfl rfl (Nat.le_of_ble_eq_true rfl) (by decide +kernel) ?_
  refine g_seg hK [.aload_n 2] 4 5 (L1 := [(0, vR 49), (1, vR p1), (2, vR p2)]) (st1 := [vR p2, vI (F_Ro_size p1 h)]) (h1 := h) (P := True ∧ True) (by decide +kernel) rfl rfl ⟨trivial, trivial⟩ ?_
  refine g_callV1 hK 5 26 (d1 := 0) (ci := 3) (i := p2) (vs := []) (rest := [vI (F_Ro_size p1 h)]) (h1 := h) (r := vI (F_Ro_size p2 h)) my_yX3_size vw_X0_26 (by decide) (T_Ro_size (o := p2) (h := h) (ko := kp2) (hF := rfl)) kp2 rfl rfl (Nat.le_of_ble_eq_true rfl) (by decide +kernel) ?_
  refine g_seg hK [.iadd, .istore_n 3, .aload_n 0, .getfield 20, .bipush 59] 8 16 (L1 := [(3, vI (wr ((F_Ro_size p1 h) + (F_Ro_size p2 h)))), (0, vR 49), (1, vR p1), (2, vR p2)]) (st1 := [vI 59, vR 52]) (h1 := h) (P := True ∧ True ∧ True ∧ kd 49 = 2 ∧ True ∧ True) (by decide +kernel) rfl rfl ⟨trivial, trivial, trivial, rfl, trivial, trivial⟩ ?_
  obtain ⟨h1, e2, hF⟩ := ob1_elim hF
  refine g_callV0 hK 16 23 (d1 := 1) (ci := 3) (i := 52) (vs := [vI 59]) (rest := []) (h1 := h1) my_yX3_becomeZeros vw_X0_23 (by decide) (T_Ro_becomeZeros (o := 52) (p1 := 59) (h := h) (ko := rfl) (hF := e2)) rfl rfl rfl (Nat.le_of_ble_eq_true rfl) (by decide +kernel) ?_
  refine g_seg hK [.iconst 0, .istore 4] 19 22 (L1 := [(4, vI 0), (3, vI (wr ((F_Ro_size p1 h) + (F_Ro_size p2 h)))), (0, vR 49), (1, vR p1), (2, vR p2)]) (st1 := []) (h1 := h1) (P := True ∧ True ∧ True) (by decide +kernel) rfl rfl ⟨trivial, trivial, trivial⟩ ?_
  refine hK.2.1 _ _ ([(0, vR 49), (1, vR p1), (2, vR p2), (3, vI (wr ((F_Ro_size p1 h) + (F_Ro_size p2 h)))), (4, vI 0)]) _ _ (sub_of [2, 3, 4, 1, 0] rfl) ?_
  obtain ⟨out7, e5, hr8, hx9⟩ := os_elim hF
  refine LT_C_apartBySteps_L22 hK hR (kx1 := kp1) (kx2 := kp2) _ _ _ out7 e5 ?_ ?_
  · intro a ha
    have hF := hr8 a ha
    cases hF
    exact ⟨rfl, rfl⟩
  · intro q6 hq
    have hF := hx9 q6 hq
    refine g_seg hK [.iload_n 3] 107 108 (L1 := [(0, vR 49), (1, vR p1), (2, vR p2), (3, vI (wr ((F_Ro_size p1 h) + (F_Ro_size p2 h)))), (4, vI q6.1)]) (st1 := [vI (wr ((F_Ro_size p1 h) + (F_Ro_size p2 h)))]) (h1 := q6.2) (P := True ∧ True) (by decide +kernel) rfl rfl ⟨trivial, trivial⟩ ?_
    cases hF
    exact hR.1 108 _ _ _ (by decide +kernel) rfl ⟨rfl, rfl⟩
set_option maxHeartbeats 4000000 in
set_option maxRecDepth 100000 in
theorem T_X_distance {p1 : Int} {h : MH} {r : Int} {h' : MH} (hF : F_X_distance p1 h = some (r, h')) : CON 6 yX6_distance cX6_distance 2 (Option.some Jvm.ClassFile.FieldType.int) [vR 0, vI p1] h (some (vI r)) h' := by
  refine con_of (own := RX6) (fl := flX6) (by decide +kernel) rfl flok_X6 rfl (Nat.le_of_ble_eq_true rfl) ?_
  intro K hK hR
  show K 0 [(0, vR 0), (1, vI p1)] [] h
  unfold F_X_distance at hF
  refine g_seg hK [.iload_n 1] 0 1 (L1 := [(0, vR 0), (1, vI p1)]) (st1 := [vI p1]) (h1 := h) (P := True ∧ True) (by decide +kernel) rfl rfl ⟨trivial, trivial⟩ ?_
  refine g_ifz hK 1 .ne (8) 9 (t1 := 4) (t2 := 9) (by decide +kernel) (by decide) rfl rfl (fun (hc1 : p1 = 0) => ?_) (fun (hc1 : ¬ (p1 = 0)) => ?_)
  · have hF := ite_t hc1 hF
    refine g_seg hK [.aload_n 0] 4 5 (L1 := [(0, vR 0), (1, vI p1)]) (st1 := [vR 0]) (h1 := h) (P := True ∧ True) (by decide +kernel) rfl rfl ⟨trivial, trivial⟩ ?_
    obtain ⟨r2, h3, e4, hF⟩ := ob2_elim hF
    refine g_callV1 hK 5 109 (d1 := 5) (ci := 6) (i := 0) (vs := []) (rest := []) (h1 := h3) (r := vI r2) my_yX6_distanceNow vw_X6_109 (by decide) (T_X_distanceNow (h := h) (hF := e4)) rfl rfl rfl (Nat.le_of_ble_eq_true rfl) (by decide +kernel) ?_
    cases hF
    exact hR.1 8 _ _ _ (by decide +kernel) rfl ⟨rfl, rfl⟩
  · have hF := ite_f hc1 hF
    refine g_seg hK [.iload_n 1, .iconst 1] 9 11 (L1 := [(0, vR 0), (1, vI p1)]) (st1 := [vI 1, vI p1]) (h1 := h) (P := True ∧ True ∧ True) (by decide +kernel) rfl rfl ⟨trivial, trivial, trivial⟩ ?_
    refine g_icmp hK 11 .ne (27) 38 (t1 := 14) (t2 := 38) (by decide +kernel) (by decide) rfl rfl (fun (hc5 : p1 = 1) => ?_) (fun (hc5 : ¬ (p1 = 1)) => ?_)
    · have hF := ite_t hc5 hF
      refine g_seg hK [.aload_n 0, .getfield 45, .aload_n 0, .getfield 21, .iconst 0] 14 23 (L1 := [(0, vR 0), (1, vI p1)]) (st1 := [vI 0, vR 3, vR 49]) (h1 := h) (P := True ∧ kd 0 = 8 ∧ True ∧ kd 0 = 8 ∧ True ∧ True) (by decide +kernel) rfl rfl ⟨trivial, rfl, trivial, rfl, trivial, trivial⟩ ?_
      refine g_callV1 hK 23 88 (d1 := 0) (ci := 4) (i := 3) (vs := [vI 0]) (rest := [vR 49]) (h1 := h) (r := vR (F_St_text 3 0)) my_yX4_text vw_X6_88 (by decide) (T_St_text (o := 3) (p1 := 0) (h := h) (ks := rfl) (hF := rfl)) rfl rfl rfl (Nat.le_of_ble_eq_true rfl) (by decide +kernel) ?_
      refine g_seg hK [.aload_n 0, .getfield 21, .iconst 1] 26 31 (L1 := [(0, vR 0), (1, vI p1)]) (st1 := [vI 1, vR 3, vR (F_St_text 3 0), vR 49]) (h1 := h) (P := True ∧ kd 0 = 8 ∧ True ∧ True) (by decide +kernel) rfl rfl ⟨trivial, rfl, trivial, trivial⟩ ?_
      refine g_callV1 hK 31 88 (d1 := 0) (ci := 4) (i := 3) (vs := [vI 1]) (rest := [vR (F_St_text 3 0), vR 49]) (h1 := h) (r := vR (F_St_text 3 1)) my_yX4_text vw_X6_88 (by decide) (T_St_text (o := 3) (p1 := 1) (h := h) (ks := rfl) (hF := rfl)) rfl rfl rfl (Nat.le_of_ble_eq_true rfl) (by decide +kernel) ?_
      obtain ⟨r6, h7, e8, hF⟩ := ob2_elim hF
      refine g_callV1 hK 34 144 (d1 := 2) (ci := 0) (i := 49) (vs := [vR (F_St_text 3 0), vR (F_St_text 3 1)]) (rest := []) (h1 := h7) (r := vI r6) my_yX0_apartBySteps vw_X6_144 (by decide) (T_C_apartBySteps (p1 := (F_St_text 3 0)) (p2 := (F_St_text 3 1)) (h := h) (kp1 := (kd_St_text rfl)) (kp2 := (kd_St_text rfl)) (hF := e8)) rfl rfl rfl (Nat.le_of_ble_eq_true rfl) (by decide +kernel) ?_
      cases hF
      exact hR.1 37 _ _ _ (by decide +kernel) rfl ⟨rfl, rfl⟩
    · have hF := ite_f hc5 hF
      refine g_seg hK [.iconst (-1)] 38 39 (L1 := [(0, vR 0), (1, vI p1)]) (st1 := [vI (-1)]) (h1 := h) (P := True ∧ True) (by decide +kernel) rfl rfl ⟨trivial, trivial⟩ ?_
      cases hF
      exact hR.1 39 _ _ _ (by decide +kernel) rfl ⟨rfl, rfl⟩
set_option maxHeartbeats 4000000 in
set_option maxRecDepth 100000 in
theorem LT_V_hunkOf_L2 {K : KT} (hK : Rules RX5 cX5_hunkOf 3 (Option.some Jvm.ClassFile.FieldType.int) flX5 2 K) {Post : Option MV → MH → Prop} (hR : R_ret cX5_hunkOf (Option.some Jvm.ClassFile.FieldType.int) Post K) {x1 : Int} {h : MH} : ∀ (n : Nat) (x2 : Int) (out : Sum (Int) (Int)), F_V_hunkOf_L2 x1 h n x2 = some out → (∀ a : Int, out = Sum.inl a → Post (some (vI a)) h) → (∀ q : Int, out = Sum.inr q → K 36 [(0, vR 54), (1, vI x1), (2, vI q)] [] h) → K 2 [(0, vR 54), (1, vI x1), (2, vI x2)] [] h := by
  intro n
  induction n with
  | zero =>
    intro x2 out hF
    cases hF
  | succ n ih =>
    intro x2 out hF hRet hE
    unfold F_V_hunkOf_L2 at hF
    refine g_seg hK [.iload_n 2, .aload_n 0] 2 4 (L1 := [(0, vR 54), (1, vI x1), (2, vI x2)]) (st1 := [vR 54, vI x2]) (h1 := h) (P := True ∧ True ∧ True) (by decide +kernel) rfl rfl ⟨trivial, trivial, trivial⟩ ?_
    refine g_callV1 hK 4 64 (d1 := 1) (ci := 5) (i := 54) (vs := []) (rest := [vI x2]) (h1 := h) (r := vI (F_V_hunks h)) my_yX5_hunks vw_X5_64 (by decide) (T_V_hunks (h := h) (hF := rfl)) rfl rfl rfl (Nat.le_of_ble_eq_true rfl) (by decide +kernel) ?_
    refine g_icmp hK 7 .ge (29) 36 (t1 := 10) (t2 := 36) (by decide +kernel) (by decide) rfl rfl (fun (hc1 : x2 < F_V_hunks h) => ?_) (fun (hc1 : ¬ (x2 < F_V_hunks h)) => ?_)
    · have hF := ite_t hc1 hF
      refine g_seg hK [.aload_n 0, .iload_n 2] 10 12 (L1 := [(0, vR 54), (1, vI x1), (2, vI x2)]) (st1 := [vI x2, vR 54]) (h1 := h) (P := True ∧ True ∧ True) (by decide +kernel) rfl rfl ⟨trivial, trivial, trivial⟩ ?_
      refine g_callV1 hK 12 81 (d1 := 1) (ci := 5) (i := 54) (vs := [vI x2]) (rest := []) (h1 := h) (r := vI (F_V_top x2 h)) my_yX5_top vw_X5_81 (by decide) (T_V_top (p1 := x2) (h := h) (hF := rfl)) rfl rfl rfl (Nat.le_of_ble_eq_true rfl) (by decide +kernel) ?_
      refine g_seg hK [.iload_n 1] 15 16 (L1 := [(0, vR 54), (1, vI x1), (2, vI x2)]) (st1 := [vI x1, vI (F_V_top x2 h)]) (h1 := h) (P := True ∧ True) (by decide +kernel) rfl rfl ⟨trivial, trivial⟩ ?_
      obtain ⟨kj3, e4, hF⟩ := jk1_elim hF
      have j3 : ∀ (u2 : Unit), kj3 u2 = some out → K 30 [(0, vR 54), (1, vI x1), (2, vI x2)] [] h := by
        intro u2 hF
        have hF := (e4 u2).symm.trans hF
        refine g_seg hK [.iinc 2 1] 30 33 (L1 := [(2, vI (wr (x2 + 1))), (0, vR 54), (1, vI x1)]) (st1 := []) (h1 := h) (P := True ∧ True) (by decide +kernel) rfl rfl ⟨trivial, trivial⟩ ?_
        refine g_goto hK 33 (-31) 2 (by decide +kernel) (by decide) ?_
        refine hK.2.1 _ _ ([(0, vR 54), (1, vI x1), (2, vI (wr (x2 + 1)))]) _ _ (sub_of [1, 2, 0] rfl) ?_
        exact ih _ _ hF hRet hE
      refine g_icmp hK 16 .gt (14) 30 (t1 := 19) (t2 := 30) (by decide +kernel) (by decide) rfl rfl (fun (hc5 : F_V_top x2 h ≤ x1) => ?_) (fun (hc5 : ¬ (F_V_top x2 h ≤ x1)) => ?_)
      · have hF := ite_t hc5 hF
        refine g_seg hK [.iload_n 1, .aload_n 0, .iload_n 2] 19 22 (L1 := [(0, vR 54), (1, vI x1), (2, vI x2)]) (st1 := [vI x2, vR 54, vI x1]) (h1 := h) (P := True ∧ True ∧ True ∧ True) (by decide +kernel) rfl rfl ⟨trivial, trivial, trivial, trivial⟩ ?_
        refine g_callV1 hK 22 84 (d1 := 1) (ci := 5) (i := 54) (vs := [vI x2]) (rest := [vI x1]) (h1 := h) (r := vI (F_V_end x2 h)) my_yX5_end vw_X5_84 (by decide) (T_V_end (p1 := x2) (h := h) (hF := rfl)) rfl rfl rfl (Nat.le_of_ble_eq_true rfl) (by decide +kernel) ?_
        refine g_icmp hK 25 .ge (5) 30 (t1 := 28) (t2 := 30) (by decide +kernel) (by decide) rfl rfl (fun (hc6 : x1 < F_V_end x2 h) => ?_) (fun (hc6 : ¬ (x1 < F_V_end x2 h)) => ?_)
        · have hF := ite_t hc6 hF
          refine g_seg hK [.iload_n 2] 28 29 (L1 := [(0, vR 54), (1, vI x1), (2, vI x2)]) (st1 := [vI x2]) (h1 := h) (P := True ∧ True) (by decide +kernel) rfl rfl ⟨trivial, trivial⟩ ?_
          cases hF
          exact hR.1 29 _ _ _ (by decide +kernel) rfl (hRet _ rfl)
        · have hF := ite_f hc6 hF
          exact j3 _ hF
      · have hF := ite_f hc5 hF
        exact j3 _ hF
    · have hF := ite_f hc1 hF
      cases hF
      exact hE _ rfl
set_option maxHeartbeats 4000000 in
set_option maxRecDepth 100000 in
theorem T_V_hunkOf {p1 : Int} {h : MH} {r : Int} (hF : F_V_hunkOf p1 h = some r) : CON 2 yX5_hunkOf cX5_hunkOf 3 (Option.some Jvm.ClassFile.FieldType.int) [vR 54, vI p1] h (some (vI r)) h := by
  refine con_of (own := RX5) (fl := flX5) (by decide +kernel) rfl flok_X5 rfl (Nat.le_of_ble_eq_true rfl) ?_
  intro K hK hR
  show K 0 [(0, vR 54), (1, vI p1)] [] h
  unfold F_V_hunkOf at hF
  refine g_seg hK [.iconst 0, .istore_n 2] 0 2 (L1 := [(2, vI 0), (0, vR 54), (1, vI p1)]) (st1 := []) (h1 := h) (P := True ∧ True ∧ True) (by decide +kernel) rfl rfl ⟨trivial, trivial, trivial⟩ ?_
  refine hK.2.1 _ _ ([(0, vR 54), (1, vI p1), (2, vI 0)]) _ _ (sub_of [1, 2, 0] rfl) ?_
  obtain ⟨out4, e2, hr5, hx6⟩ := os_elim hF
  refine LT_V_hunkOf_L2 hK hR _ _ out4 e2 ?_ ?_
  · intro a ha
    have hF := hr5 a ha
    cases hF
    exact ⟨rfl, rfl⟩
  · intro q3 hq
    have hF := hx6 q3 hq
    refine g_seg hK [.bipush (-4)] 36 38 (L1 := [(0, vR 54), (1, vI p1), (2, vI q3)]) (st1 := [vI (-4)]) (h1 := h) (P := True ∧ True) (by decide +kernel) rfl rfl ⟨trivial, trivial⟩ ?_
    cases hF
    exact hR.1 38 _ _ _ (by decide +kernel) rfl ⟨rfl, rfl⟩
set_option maxHeartbeats 4000000 in
set_option maxRecDepth 100000 in
theorem T_X_view {p1 : Int} {p2 : Int} {h : MH} {r : Int} {h' : MH} (hF : F_X_view p1 p2 h = some (r, h')) : CON 6 yX6_view cX6_view 3 (Option.some Jvm.ClassFile.FieldType.int) [vR 0, vI p1, vI p2] h (some (vI r)) h' := by
  refine con_of (own := RX6) (fl := flX6) (by decide +kernel) rfl flok_X6 rfl (Nat.le_of_ble_eq_true rfl) ?_
  intro K hK hR
  show K 0 [(0, vR 0), (1, vI p1), (2, vI p2)] [] h
  unfold F_X_view at hF
  refine g_seg hK [.iload_n 1] 0 1 (L1 := [(0, vR 0), (1, vI p1), (2, vI p2)]) (st1 := [vI p1]) (h1 := h) (P := True ∧ True) (by decide +kernel) rfl rfl ⟨trivial, trivial⟩ ?_
  refine g_ifz hK 1 .lt (12) 13 (t1 := 13) (t2 := 4) (by decide +kernel) (by decide) rfl rfl (fun (hc1 : p1 < 0) => ?_) (fun (hc1 : ¬ (p1 < 0)) => ?_)
  · have hF := ite_t hc1 hF
    refine g_seg hK [.iconst (-1)] 13 14 (L1 := [(0, vR 0), (1, vI p1), (2, vI p2)]) (st1 := [vI (-1)]) (h1 := h) (P := True ∧ True) (by decide +kernel) rfl rfl ⟨trivial, trivial⟩ ?_
    cases hF
    exact hR.1 14 _ _ _ (by decide +kernel) rfl ⟨rfl, rfl⟩
  · have hF := ite_f hc1 hF
    refine g_seg hK [.iload_n 2] 4 5 (L1 := [(0, vR 0), (1, vI p1), (2, vI p2)]) (st1 := [vI p2]) (h1 := h) (P := True ∧ True) (by decide +kernel) rfl rfl ⟨trivial, trivial⟩ ?_
    refine g_ifz hK 5 .lt (8) 13 (t1 := 13) (t2 := 8) (by decide +kernel) (by decide) rfl rfl (fun (hc2 : p2 < 0) => ?_) (fun (hc2 : ¬ (p2 < 0)) => ?_)
    · have hF := ite_t hc2 hF
      refine g_seg hK [.iconst (-1)] 13 14 (L1 := [(0, vR 0), (1, vI p1), (2, vI p2)]) (st1 := [vI (-1)]) (h1 := h) (P := True ∧ True) (by decide +kernel) rfl rfl ⟨trivial, trivial⟩ ?_
      cases hF
      exact hR.1 14 _ _ _ (by decide +kernel) rfl ⟨rfl, rfl⟩
    · have hF := ite_f hc2 hF
      refine g_seg hK [.iload_n 2, .iconst 4] 8 10 (L1 := [(0, vR 0), (1, vI p1), (2, vI p2)]) (st1 := [vI 4, vI p2]) (h1 := h) (P := True ∧ True ∧ True) (by decide +kernel) rfl rfl ⟨trivial, trivial, trivial⟩ ?_
      refine g_icmp hK 10 .le (5) 15 (t1 := 15) (t2 := 13) (by decide +kernel) (by decide) rfl rfl (fun (hc3 : p2 ≤ 4) => ?_) (fun (hc3 : ¬ (p2 ≤ 4)) => ?_)
      · have hF := ite_t hc3 hF
        refine g_seg hK [.aload_n 0] 15 16 (L1 := [(0, vR 0), (1, vI p1), (2, vI p2)]) (st1 := [vR 0]) (h1 := h) (P := True ∧ True) (by decide +kernel) rfl rfl ⟨trivial, trivial⟩ ?_
        obtain ⟨h4, e5, hF⟩ := ob1_elim hF
        refine g_callV0 hK 16 118 (d1 := 5) (ci := 6) (i := 0) (vs := []) (rest := []) (h1 := h4) my_yX6_show vw_X6_118 (by decide) (T_X_show (h := h) (hF := e5)) rfl rfl rfl (Nat.le_of_ble_eq_true rfl) (by decide +kernel) ?_
        refine g_seg hK [.iload_n 1, .aload_n 0, .getfield 52] 19 24 (L1 := [(0, vR 0), (1, vI p1), (2, vI p2)]) (st1 := [vR 54, vI p1]) (h1 := h4) (P := True ∧ True ∧ kd 0 = 8 ∧ True) (by decide +kernel) rfl rfl ⟨trivial, trivial, rfl, trivial⟩ ?_
        refine g_callV1 hK 24 148 (d1 := 1) (ci := 5) (i := 54) (vs := []) (rest := [vI p1]) (h1 := h4) (r := vI (F_V_size h4)) my_yX5_size vw_X6_148 (by decide) (T_V_size (h := h4) (hF := rfl)) rfl rfl rfl (Nat.le_of_ble_eq_true rfl) (by decide +kernel) ?_
        refine g_icmp hK 27 .lt (6) 33 (t1 := 33) (t2 := 30) (by decide +kernel) (by decide) rfl rfl (fun (hc6 : p1 < F_V_size h4) => ?_) (fun (hc6 : ¬ (p1 < F_V_size h4)) => ?_)
        · have hF := ite_t hc6 hF
          refine g_seg hK [.iload_n 2] 33 34 (L1 := [(0, vR 0), (1, vI p1), (2, vI p2)]) (st1 := [vI p2]) (h1 := h4) (P := True ∧ True) (by decide +kernel) rfl rfl ⟨trivial, trivial⟩ ?_
          refine g_sw hK 34 100 0 3 #[30, 39, 48, 74] 30 (by decide +kernel) (by decide) ?_
          by_cases hc7 : p2 = 0
          · have hF := ite_t hc7 hF
            rw [show swT 34 100 0 3 [30, 39, 48, 74] p2 = 64 from by rw [hc7]; decide]
            refine g_seg hK [.aload_n 0, .getfield 52, .iload_n 1] 64 69 (L1 := [(0, vR 0), (1, vI p1), (2, vI p2)]) (st1 := [vI p1, vR 54]) (h1 := h4) (P := True ∧ kd 0 = 8 ∧ True ∧ True) (by decide +kernel) rfl rfl ⟨trivial, rfl, trivial, trivial⟩ ?_
            refine g_callV1 hK 69 149 (d1 := 1) (ci := 5) (i := 54) (vs := [vI p1]) (rest := []) (h1 := h4) (r := vI (F_V_kind p1 h4)) my_yX5_kind vw_X6_149 (by decide) (T_V_kind (p1 := p1) (h := h4) (hF := rfl)) rfl rfl rfl (Nat.le_of_ble_eq_true rfl) (by decide +kernel) ?_
            cases hF
            exact hR.1 72 _ _ _ (by decide +kernel) rfl ⟨rfl, rfl⟩
          · have hF := ite_f hc7 hF
            by_cases hc8 : p2 = 1
            · have hF := ite_t hc8 hF
              rw [show swT 34 100 0 3 [30, 39, 48, 74] p2 = 73 from by rw [hc8]; decide]
              refine g_seg hK [.aload_n 0, .getfield 52, .iload_n 1] 73 78 (L1 := [(0, vR 0), (1, vI p1), (2, vI p2)]) (st1 := [vI p1, vR 54]) (h1 := h4) (P := True ∧ kd 0 = 8 ∧ True ∧ True) (by decide +kernel) rfl rfl ⟨trivial, rfl, trivial, trivial⟩ ?_
              refine g_callV1 hK 78 152 (d1 := 1) (ci := 5) (i := 54) (vs := [vI p1]) (rest := []) (h1 := h4) (r := vI (F_V_sign p1 h4)) my_yX5_sign vw_X6_152 (by decide) (T_V_sign (p1 := p1) (h := h4) (hF := rfl)) rfl rfl rfl (Nat.le_of_ble_eq_true rfl) (by decide +kernel) ?_
              cases hF
              exact hR.1 81 _ _ _ (by decide +kernel) rfl ⟨rfl, rfl⟩
            · have hF := ite_f hc8 hF
              by_cases hc9 : p2 = 2
              · have hF := ite_t hc9 hF
                rw [show swT 34 100 0 3 [30, 39, 48, 74] p2 = 82 from by rw [hc9]; decide]
                refine g_seg hK [.aload_n 0, .getfield 52, .iload_n 1] 82 87 (L1 := [(0, vR 0), (1, vI p1), (2, vI p2)]) (st1 := [vI p1, vR 54]) (h1 := h4) (P := True ∧ kd 0 = 8 ∧ True ∧ True) (by decide +kernel) rfl rfl ⟨trivial, rfl, trivial, trivial⟩ ?_
                refine g_callV1 hK 87 149 (d1 := 1) (ci := 5) (i := 54) (vs := [vI p1]) (rest := []) (h1 := h4) (r := vI (F_V_kind p1 h4)) my_yX5_kind vw_X6_149 (by decide) (T_V_kind (p1 := p1) (h := h4) (hF := rfl)) rfl rfl rfl (Nat.le_of_ble_eq_true rfl) (by decide +kernel) ?_
                refine g_seg hK [.iconst 2] 90 91 (L1 := [(0, vR 0), (1, vI p1), (2, vI p2)]) (st1 := [vI 2, vI (F_V_kind p1 h4)]) (h1 := h4) (P := True ∧ True) (by decide +kernel) rfl rfl ⟨trivial, trivial⟩ ?_
                refine g_icmp hK 91 .ne (8) 99 (t1 := 94) (t2 := 99) (by decide +kernel) (by decide) rfl rfl (fun (hc10 : F_V_kind p1 h4 = 2) => ?_) (fun (hc10 : ¬ (F_V_kind p1 h4 = 2)) => ?_)
                · have hF := ite_t hc10 hF
                  refine g_seg hK [.bipush (-4)] 94 96 (L1 := [(0, vR 0), (1, vI p1), (2, vI p2)]) (st1 := [vI (-4)]) (h1 := h4) (P := True ∧ True) (by decide +kernel) rfl rfl ⟨trivial, trivial⟩ ?_
                  refine g_goto hK 96 (11) 107 (by decide +kernel) (by decide) ?_
                  cases hF
                  exact hR.1 107 _ _ _ (by decide +kernel) rfl ⟨rfl, rfl⟩
                · have hF := ite_f hc10 hF
                  refine g_seg hK [.aload_n 0, .getfield 52, .iload_n 1] 99 104 (L1 := [(0, vR 0), (1, vI p1), (2, vI p2)]) (st1 := [vI p1, vR 54]) (h1 := h4) (P := True ∧ kd 0 = 8 ∧ True ∧ True) (by decide +kernel) rfl rfl ⟨trivial, rfl, trivial, trivial⟩ ?_
                  obtain ⟨r11, e12, hF⟩ := ob1_elim hF
                  refine g_callV1 hK 104 155 (d1 := 2) (ci := 5) (i := 54) (vs := [vI p1]) (rest := []) (h1 := h4) (r := vI r11) my_yX5_oldAhead vw_X6_155 (by decide) (T_V_oldAhead (p1 := p1) (h := h4) (hF := e12)) rfl rfl rfl (Nat.le_of_ble_eq_true rfl) (by decide +kernel) ?_
                  cases hF
                  exact hR.1 107 _ _ _ (by decide +kernel) rfl ⟨rfl, rfl⟩
              · have hF := ite_f hc9 hF
                by_cases hc13 : p2 = 3
                · have hF := ite_t hc13 hF
                  rw [show swT 34 100 0 3 [30, 39, 48, 74] p2 = 108 from by rw [hc13]; decide]
                  refine g_seg hK [.aload_n 0, .getfield 52, .iload_n 1] 108 113 (L1 := [(0, vR 0), (1, vI p1), (2, vI p2)]) (st1 := [vI p1, vR 54]) (h1 := h4) (P := True ∧ kd 0 = 8 ∧ True ∧ True) (by decide +kernel) rfl rfl ⟨trivial, rfl, trivial, trivial⟩ ?_
                  refine g_callV1 hK 113 149 (d1 := 1) (ci := 5) (i := 54) (vs := [vI p1]) (rest := []) (h1 := h4) (r := vI (F_V_kind p1 h4)) my_yX5_kind vw_X6_149 (by decide) (T_V_kind (p1 := p1) (h := h4) (hF := rfl)) rfl rfl rfl (Nat.le_of_ble_eq_true rfl) (by decide +kernel) ?_
                  refine g_seg hK [.iconst 1] 116 117 (L1 := [(0, vR 0), (1, vI p1), (2, vI p2)]) (st1 := [vI 1, vI (F_V_kind p1 h4)]) (h1 := h4) (P := True ∧ True) (by decide +kernel) rfl rfl ⟨trivial, trivial⟩ ?_
                  refine g_icmp hK 117 .ne (8) 125 (t1 := 120) (t2 := 125) (by decide +kernel) (by decide) rfl rfl (fun (hc14 : F_V_kind p1 h4 = 1) => ?_) (fun (hc14 : ¬ (F_V_kind p1 h4 = 1)) => ?_)
                  · have hF := ite_t hc14 hF
                    refine g_seg hK [.bipush (-4)] 120 122 (L1 := [(0, vR 0), (1, vI p1), (2, vI p2)]) (st1 := [vI (-4)]) (h1 := h4) (P := True ∧ True) (by decide +kernel) rfl rfl ⟨trivial, trivial⟩ ?_
                    refine g_goto hK 122 (11) 133 (by decide +kernel) (by decide) ?_
                    cases hF
                    exact hR.1 133 _ _ _ (by decide +kernel) rfl ⟨rfl, rfl⟩
                  · have hF := ite_f hc14 hF
                    refine g_seg hK [.aload_n 0, .getfield 52, .iload_n 1] 125 130 (L1 := [(0, vR 0), (1, vI p1), (2, vI p2)]) (st1 := [vI p1, vR 54]) (h1 := h4) (P := True ∧ kd 0 = 8 ∧ True ∧ True) (by decide +kernel) rfl rfl ⟨trivial, rfl, trivial, trivial⟩ ?_
                    obtain ⟨r15, e16, hF⟩ := ob1_elim hF
                    refine g_callV1 hK 130 158 (d1 := 2) (ci := 5) (i := 54) (vs := [vI p1]) (rest := []) (h1 := h4) (r := vI r15) my_yX5_newAhead vw_X6_158 (by decide) (T_V_newAhead (p1 := p1) (h := h4) (hF := e16)) rfl rfl rfl (Nat.le_of_ble_eq_true rfl) (by decide +kernel) ?_
                    cases hF
                    exact hR.1 133 _ _ _ (by decide +kernel) rfl ⟨rfl, rfl⟩
                · have hF := ite_f hc13 hF
                  rw [show swT 34 100 0 3 [30, 39, 48, 74] p2 = 134 from by unfold swT; rw [if_pos (by omega)]; decide]
                  refine g_seg hK [.aload_n 0, .getfield 52, .iload_n 1] 134 139 (L1 := [(0, vR 0), (1, vI p1), (2, vI p2)]) (st1 := [vI p1, vR 54]) (h1 := h4) (P := True ∧ kd 0 = 8 ∧ True ∧ True) (by decide +kernel) rfl rfl ⟨trivial, rfl, trivial, trivial⟩ ?_
                  obtain ⟨r17, e18, hF⟩ := ob1_elim hF
                  refine g_callV1 hK 139 161 (d1 := 2) (ci := 5) (i := 54) (vs := [vI p1]) (rest := []) (h1 := h4) (r := vI r17) my_yX5_hunkOf vw_X6_161 (by decide) (T_V_hunkOf (p1 := p1) (h := h4) (hF := e18)) rfl rfl rfl (Nat.le_of_ble_eq_true rfl) (by decide +kernel) ?_
                  cases hF
                  exact hR.1 142 _ _ _ (by decide +kernel) rfl ⟨rfl, rfl⟩
        · have hF := ite_f hc6 hF
          refine g_seg hK [.bipush (-4)] 30 32 (L1 := [(0, vR 0), (1, vI p1), (2, vI p2)]) (st1 := [vI (-4)]) (h1 := h4) (P := True ∧ True) (by decide +kernel) rfl rfl ⟨trivial, trivial⟩ ?_
          cases hF
          exact hR.1 32 _ _ _ (by decide +kernel) rfl ⟨rfl, rfl⟩
      · have hF := ite_f hc3 hF
        refine g_seg hK [.iconst (-1)] 13 14 (L1 := [(0, vR 0), (1, vI p1), (2, vI p2)]) (st1 := [vI (-1)]) (h1 := h) (P := True ∧ True) (by decide +kernel) rfl rfl ⟨trivial, trivial⟩ ?_
        cases hF
        exact hR.1 14 _ _ _ (by decide +kernel) rfl ⟨rfl, rfl⟩
set_option maxHeartbeats 4000000 in
set_option maxRecDepth 100000 in
theorem T_V_worth {p1 : Int} {h : MH} {r : Int} (hF : F_V_worth p1 h = r) : CON 2 yX5_worth cX5_worth 2 (Option.some Jvm.ClassFile.FieldType.int) [vR 54, vI p1] h (some (vI r)) h := by
  refine con_of (own := RX5) (fl := flX5) (by decide +kernel) rfl flok_X5 rfl (Nat.le_of_ble_eq_true rfl) ?_
  intro K hK hR
  show K 0 [(0, vR 54), (1, vI p1)] [] h
  unfold F_V_worth at hF
  refine g_seg hK [.aload_n 0, .aload_n 0, .iload_n 1] 0 3 (L1 := [(0, vR 54), (1, vI p1)]) (st1 := [vI p1, vR 54, vR 54]) (h1 := h) (P := True ∧ True ∧ True ∧ True) (by decide +kernel) rfl rfl ⟨trivial, trivial, trivial, trivial⟩ ?_
  refine g_callV1 hK 3 81 (d1 := 1) (ci := 5) (i := 54) (vs := [vI p1]) (rest := [vR 54]) (h1 := h) (r := vI (F_V_top p1 h)) my_yX5_top vw_X5_81 (by decide) (T_V_top (p1 := p1) (h := h) (hF := rfl)) rfl rfl rfl (Nat.le_of_ble_eq_true rfl) (by decide +kernel) ?_
  refine g_seg hK [.aload_n 0, .iload_n 1] 6 8 (L1 := [(0, vR 54), (1, vI p1)]) (st1 := [vI p1, vR 54, vI (F_V_top p1 h), vR 54]) (h1 := h) (P := True ∧ True ∧ True) (by decide +kernel) rfl rfl ⟨trivial, trivial, trivial⟩ ?_
  refine g_callV1 hK 8 84 (d1 := 1) (ci := 5) (i := 54) (vs := [vI p1]) (rest := [vI (F_V_top p1 h), vR 54]) (h1 := h) (r := vI (F_V_end p1 h)) my_yX5_end vw_X5_84 (by decide) (T_V_end (p1 := p1) (h := h) (hF := rfl)) rfl rfl rfl (Nat.le_of_ble_eq_true rfl) (by decide +kernel) ?_
  refine g_callV1 hK 11 94 (d1 := 1) (ci := 5) (i := 54) (vs := [vI (F_V_top p1 h), vI (F_V_end p1 h)]) (rest := []) (h1 := h) (r := vI (F_V_worthAt (F_V_top p1 h) (F_V_end p1 h) h)) my_yX5_worthAt vw_X5_94 (by decide) (T_V_worthAt (p1 := (F_V_top p1 h)) (p2 := (F_V_end p1 h)) (h := h) (hF := rfl)) rfl rfl rfl (Nat.le_of_ble_eq_true rfl) (by decide +kernel) ?_
  cases hF
  exact hR.1 14 _ _ _ (by decide +kernel) rfl ⟨rfl, rfl⟩
set_option maxHeartbeats 4000000 in
set_option maxRecDepth 100000 in
theorem T_V_greatestWorth {p1 : Int} {h : MH} {r : Int} (hF : F_V_greatestWorth p1 h = some r) : CON 4 yX5_greatestWorth cX5_greatestWorth 3 (Option.some Jvm.ClassFile.FieldType.int) [vR 54, vI p1] h (some (vI r)) h := by
  refine con_of (own := RX5) (fl := flX5) (by decide +kernel) rfl flok_X5 rfl (Nat.le_of_ble_eq_true rfl) ?_
  intro K hK hR
  show K 0 [(0, vR 54), (1, vI p1)] [] h
  unfold F_V_greatestWorth at hF
  refine g_seg hK [.aload_n 0, .iload_n 1] 0 2 (L1 := [(0, vR 54), (1, vI p1)]) (st1 := [vI p1, vR 54]) (h1 := h) (P := True ∧ True ∧ True) (by decide +kernel) rfl rfl ⟨trivial, trivial, trivial⟩ ?_
  obtain ⟨r1, e2, hF⟩ := ob1_elim hF
  refine g_callV1 hK 2 74 (d1 := 3) (ci := 5) (i := 54) (vs := [vI p1]) (rest := []) (h1 := h) (r := vI r1) my_yX5_bestTop vw_X5_74 (by decide) (T_V_bestTop (p1 := p1) (h := h) (hF := e2)) rfl rfl rfl (Nat.le_of_ble_eq_true rfl) (by decide +kernel) ?_
  refine g_seg hK [.istore_n 2, .aload_n 0, .iload_n 2, .iload_n 2, .aload_n 0, .iload_n 1] 5 11 (L1 := [(2, vI r1), (0, vR 54), (1, vI p1)]) (st1 := [vI p1, vR 54, vI r1, vI r1, vR 54]) (h1 := h) (P := True ∧ True ∧ True ∧ True ∧ True ∧ True ∧ True) (by decide +kernel) rfl rfl ⟨trivial, trivial, trivial, trivial, trivial, trivial, trivial⟩ ?_
  refine g_callV1 hK 11 84 (d1 := 1) (ci := 5) (i := 54) (vs := [vI p1]) (rest := [vI r1, vI r1, vR 54]) (h1 := h) (r := vI (F_V_end p1 h)) my_yX5_end vw_X5_84 (by decide) (T_V_end (p1 := p1) (h := h) (hF := rfl)) rfl rfl rfl (Nat.le_of_ble_eq_true rfl) (by decide +kernel) ?_
  refine g_seg hK [.iadd, .aload_n 0, .iload_n 1] 14 17 (L1 := [(2, vI r1), (0, vR 54), (1, vI p1)]) (st1 := [vI p1, vR 54, vI (wr (r1 + (F_V_end p1 h))), vI r1, vR 54]) (h1 := h) (P := True ∧ True ∧ True ∧ True) (by decide +kernel) rfl rfl ⟨trivial, trivial, trivial, trivial⟩ ?_
  refine g_callV1 hK 17 81 (d1 := 1) (ci := 5) (i := 54) (vs := [vI p1]) (rest := [vI (wr (r1 + (F_V_end p1 h))), vI r1, vR 54]) (h1 := h) (r := vI (F_V_top p1 h)) my_yX5_top vw_X5_81 (by decide) (T_V_top (p1 := p1) (h := h) (hF := rfl)) rfl rfl rfl (Nat.le_of_ble_eq_true rfl) (by decide +kernel) ?_
  refine g_seg hK [.isub] 20 21 (L1 := [(2, vI r1), (0, vR 54), (1, vI p1)]) (st1 := [vI (wr ((wr (r1 + (F_V_end p1 h))) - (F_V_top p1 h))), vI r1, vR 54]) (h1 := h) (P := True ∧ True) (by decide +kernel) rfl rfl ⟨trivial, trivial⟩ ?_
  refine g_callV1 hK 21 94 (d1 := 1) (ci := 5) (i := 54) (vs := [vI r1, vI (wr ((wr (r1 + (F_V_end p1 h))) - (F_V_top p1 h)))]) (rest := []) (h1 := h) (r := vI (F_V_worthAt r1 (wr ((wr (r1 + (F_V_end p1 h))) - (F_V_top p1 h))) h)) my_yX5_worthAt vw_X5_94 (by decide) (T_V_worthAt (p1 := r1) (p2 := (wr ((wr (r1 + (F_V_end p1 h))) - (F_V_top p1 h)))) (h := h) (hF := rfl)) rfl rfl rfl (Nat.le_of_ble_eq_true rfl) (by decide +kernel) ?_
  cases hF
  exact hR.1 24 _ _ _ (by decide +kernel) rfl ⟨rfl, rfl⟩
end
section
set_option maxHeartbeats 4000000 in
set_option maxRecDepth 100000 in
theorem T_X_hunk {p1 : Int} {p2 : Int} {h : MH} {r : Int} {h' : MH} (hF : F_X_hunk p1 p2 h = some (r, h')) : CON 6 yX6_hunk cX6_hunk 3 (Option.some Jvm.ClassFile.FieldType.int) [vR 0, vI p1, vI p2] h (some (vI r)) h' := by
  refine con_of (own := RX6) (fl := flX6) (by decide +kernel) rfl flok_X6 rfl (Nat.le_of_ble_eq_true rfl) ?_
  intro K hK hR
  show K 0 [(0, vR 0), (1, vI p1), (2, vI p2)] [] h
  unfold F_X_hunk at hF
  refine g_seg hK [.iload_n 2] 0 1 (L1 := [(0, vR 0), (1, vI p1), (2, vI p2)]) (st1 := [vI p2]) (h1 := h) (P := True ∧ True) (by decide +kernel) rfl rfl ⟨trivial, trivial⟩ ?_
  refine g_ifz hK 1 .lt (9) 10 (t1 := 10) (t2 := 4) (by decide +kernel) (by decide) rfl rfl (fun (hc1 : p2 < 0) => ?_) (fun (hc1 : ¬ (p2 < 0)) => ?_)
  · have hF := ite_t hc1 hF
    refine g_seg hK [.iconst (-1)] 10 11 (L1 := [(0, vR 0), (1, vI p1), (2, vI p2)]) (st1 := [vI (-1)]) (h1 := h) (P := True ∧ True) (by decide +kernel) rfl rfl ⟨trivial, trivial⟩ ?_
    cases hF
    exact hR.1 11 _ _ _ (by decide +kernel) rfl ⟨rfl, rfl⟩
  · have hF := ite_f hc1 hF
    refine g_seg hK [.iload_n 2, .bipush 9] 4 7 (L1 := [(0, vR 0), (1, vI p1), (2, vI p2)]) (st1 := [vI 9, vI p2]) (h1 := h) (P := True ∧ True ∧ True) (by decide +kernel) rfl rfl ⟨trivial, trivial, trivial⟩ ?_
    refine g_icmp hK 7 .le (5) 12 (t1 := 12) (t2 := 10) (by decide +kernel) (by decide) rfl rfl (fun (hc2 : p2 ≤ 9) => ?_) (fun (hc2 : ¬ (p2 ≤ 9)) => ?_)
    · have hF := ite_t hc2 hF
      refine g_seg hK [.aload_n 0] 12 13 (L1 := [(0, vR 0), (1, vI p1), (2, vI p2)]) (st1 := [vR 0]) (h1 := h) (P := True ∧ True) (by decide +kernel) rfl rfl ⟨trivial, trivial⟩ ?_
      obtain ⟨h3, e4, hF⟩ := ob1_elim hF
      refine g_callV0 hK 13 118 (d1 := 5) (ci := 6) (i := 0) (vs := []) (rest := []) (h1 := h3) my_yX6_show vw_X6_118 (by decide) (T_X_show (h := h) (hF := e4)) rfl rfl rfl (Nat.le_of_ble_eq_true rfl) (by decide +kernel) ?_
      refine g_seg hK [.aload_n 0, .getfield 52, .iload_n 1] 16 21 (L1 := [(0, vR 0), (1, vI p1), (2, vI p2)]) (st1 := [vI p1, vR 54]) (h1 := h3) (P := True ∧ kd 0 = 8 ∧ True ∧ True) (by decide +kernel) rfl rfl ⟨trivial, rfl, trivial, trivial⟩ ?_
      refine g_callV1 hK 21 164 (d1 := 2) (ci := 5) (i := 54) (vs := [vI p1]) (rest := []) (h1 := h3) (r := vI (F_V_has p1 h3)) my_yX5_has vw_X6_164 (by decide) (T_V_has (p1 := p1) (h := h3) (hF := rfl)) rfl rfl rfl (Nat.le_of_ble_eq_true rfl) (by decide +kernel) ?_
      refine g_ifz hK 24 .ne (5) 29 (t1 := 27) (t2 := 29) (by decide +kernel) (by decide) rfl rfl (fun (hc5 : F_V_has p1 h3 = 0) => ?_) (fun (hc5 : ¬ (F_V_has p1 h3 = 0)) => ?_)
      · have hF := ite_t hc5 hF
        refine g_seg hK [.iconst (-1)] 27 28 (L1 := [(0, vR 0), (1, vI p1), (2, vI p2)]) (st1 := [vI (-1)]) (h1 := h3) (P := True ∧ True) (by decide +kernel) rfl rfl ⟨trivial, trivial⟩ ?_
        cases hF
        exact hR.1 28 _ _ _ (by decide +kernel) rfl ⟨rfl, rfl⟩
      · have hF := ite_f hc5 hF
        refine g_seg hK [.iload_n 2] 29 30 (L1 := [(0, vR 0), (1, vI p1), (2, vI p2)]) (st1 := [vI p2]) (h1 := h3) (P := True ∧ True) (by decide +kernel) rfl rfl ⟨trivial, trivial⟩ ?_
        refine g_sw hK 30 152 0 8 #[50, 59, 69, 79, 96, 106, 116, 125, 134] 50 (by decide +kernel) (by decide) ?_
        by_cases hc6 : p2 = 0
        · have hF := ite_t hc6 hF
          rw [show swT 30 152 0 8 [50, 59, 69, 79, 96, 106, 116, 125, 134] p2 = 80 from by rw [hc6]; decide]
          refine g_seg hK [.aload_n 0, .getfield 52, .iload_n 1] 80 85 (L1 := [(0, vR 0), (1, vI p1), (2, vI p2)]) (st1 := [vI p1, vR 54]) (h1 := h3) (P := True ∧ kd 0 = 8 ∧ True ∧ True) (by decide +kernel) rfl rfl ⟨trivial, rfl, trivial, trivial⟩ ?_
          refine g_callV1 hK 85 167 (d1 := 1) (ci := 5) (i := 54) (vs := [vI p1]) (rest := []) (h1 := h3) (r := vI (F_V_top p1 h3)) my_yX5_top vw_X6_167 (by decide) (T_V_top (p1 := p1) (h := h3) (hF := rfl)) rfl rfl rfl (Nat.le_of_ble_eq_true rfl) (by decide +kernel) ?_
          cases hF
          exact hR.1 88 _ _ _ (by decide +kernel) rfl ⟨rfl, rfl⟩
        · have hF := ite_f hc6 hF
          by_cases hc7 : p2 = 1
          · have hF := ite_t hc7 hF
            rw [show swT 30 152 0 8 [50, 59, 69, 79, 96, 106, 116, 125, 134] p2 = 89 from by rw [hc7]; decide]
            refine g_seg hK [.aload_n 0, .getfield 52, .iload_n 1, .iconst 1] 89 95 (L1 := [(0, vR 0), (1, vI p1), (2, vI p2)]) (st1 := [vI 1, vI p1, vR 54]) (h1 := h3) (P := True ∧ kd 0 = 8 ∧ True ∧ True ∧ True) (by decide +kernel) rfl rfl ⟨trivial, rfl, trivial, trivial, trivial⟩ ?_
            obtain ⟨r8, e9, hF⟩ := ob1_elim hF
            refine g_callV1 hK 95 170 (d1 := 2) (ci := 5) (i := 54) (vs := [vI p1, vI 1]) (rest := []) (h1 := h3) (r := vI r8) my_yX5_linesOf vw_X6_170 (by decide) (T_V_linesOf (p1 := p1) (p2 := 1) (h := h3) (hF := e9)) rfl rfl rfl (Nat.le_of_ble_eq_true rfl) (by decide +kernel) ?_
            cases hF
            exact hR.1 98 _ _ _ (by decide +kernel) rfl ⟨rfl, rfl⟩
          · have hF := ite_f hc7 hF
            by_cases hc10 : p2 = 2
            · have hF := ite_t hc10 hF
              rw [show swT 30 152 0 8 [50, 59, 69, 79, 96, 106, 116, 125, 134] p2 = 99 from by rw [hc10]; decide]
              refine g_seg hK [.aload_n 0, .getfield 52, .iload_n 1, .iconst 2] 99 105 (L1 := [(0, vR 0), (1, vI p1), (2, vI p2)]) (st1 := [vI 2, vI p1, vR 54]) (h1 := h3) (P := True ∧ kd 0 = 8 ∧ True ∧ True ∧ True) (by decide +kernel) rfl rfl ⟨trivial, rfl, trivial, trivial, trivial⟩ ?_
              obtain ⟨r11, e12, hF⟩ := ob1_elim hF
              refine g_callV1 hK 105 170 (d1 := 2) (ci := 5) (i := 54) (vs := [vI p1, vI 2]) (rest := []) (h1 := h3) (r := vI r11) my_yX5_linesOf vw_X6_170 (by decide) (T_V_linesOf (p1 := p1) (p2 := 2) (h := h3) (hF := e12)) rfl rfl rfl (Nat.le_of_ble_eq_true rfl) (by decide +kernel) ?_
              cases hF
              exact hR.1 108 _ _ _ (by decide +kernel) rfl ⟨rfl, rfl⟩
            · have hF := ite_f hc10 hF
              by_cases hc13 : p2 = 3
              · have hF := ite_t hc13 hF
                rw [show swT 30 152 0 8 [50, 59, 69, 79, 96, 106, 116, 125, 134] p2 = 109 from by rw [hc13]; decide]
                refine g_seg hK [.aload_n 0, .getfield 52, .iload_n 1] 109 114 (L1 := [(0, vR 0), (1, vI p1), (2, vI p2)]) (st1 := [vI p1, vR 54]) (h1 := h3) (P := True ∧ kd 0 = 8 ∧ True ∧ True) (by decide +kernel) rfl rfl ⟨trivial, rfl, trivial, trivial⟩ ?_
                refine g_callV1 hK 114 174 (d1 := 1) (ci := 5) (i := 54) (vs := [vI p1]) (rest := []) (h1 := h3) (r := vI (F_V_isPlain p1 h3)) my_yX5_isPlain vw_X6_174 (by decide) (T_V_isPlain (p1 := p1) (h := h3) (hF := rfl)) rfl rfl rfl (Nat.le_of_ble_eq_true rfl) (by decide +kernel) ?_
                refine g_ifz hK 117 .eq (7) 124 (t1 := 124) (t2 := 120) (by decide +kernel) (by decide) rfl rfl (fun (hc14 : F_V_isPlain p1 h3 = 0) => ?_) (fun (hc14 : ¬ (F_V_isPlain p1 h3 = 0)) => ?_)
                · have hF := ite_t hc14 hF
                  refine g_seg hK [.iconst 0] 124 125 (L1 := [(0, vR 0), (1, vI p1), (2, vI p2)]) (st1 := [vI 0]) (h1 := h3) (P := True ∧ True) (by decide +kernel) rfl rfl ⟨trivial, trivial⟩ ?_
                  cases hF
                  exact hR.1 125 _ _ _ (by decide +kernel) rfl ⟨rfl, rfl⟩
                · have hF := ite_f hc14 hF
                  refine g_seg hK [.iconst 1] 120 121 (L1 := [(0, vR 0), (1, vI p1), (2, vI p2)]) (st1 := [vI 1]) (h1 := h3) (P := True ∧ True) (by decide +kernel) rfl rfl ⟨trivial, trivial⟩ ?_
                  refine g_goto hK 121 (4) 125 (by decide +kernel) (by decide) ?_
                  cases hF
                  exact hR.1 125 _ _ _ (by decide +kernel) rfl ⟨rfl, rfl⟩
              · have hF := ite_f hc13 hF
                by_cases hc15 : p2 = 4
                · have hF := ite_t hc15 hF
                  rw [show swT 30 152 0 8 [50, 59, 69, 79, 96, 106, 116, 125, 134] p2 = 126 from by rw [hc15]; decide]
                  refine g_seg hK [.aload_n 0, .getfield 52, .iload_n 1, .iconst 0] 126 132 (L1 := [(0, vR 0), (1, vI p1), (2, vI p2)]) (st1 := [vI 0, vI p1, vR 54]) (h1 := h3) (P := True ∧ kd 0 = 8 ∧ True ∧ True ∧ True) (by decide +kernel) rfl rfl ⟨trivial, rfl, trivial, trivial, trivial⟩ ?_
                  obtain ⟨r16, e17, hF⟩ := ob1_elim hF
                  refine g_callV1 hK 132 177 (d1 := 2) (ci := 5) (i := 54) (vs := [vI p1, vI 0]) (rest := []) (h1 := h3) (r := vI r16) my_yX5_reach vw_X6_177 (by decide) (T_V_reach (p1 := p1) (p2 := 0) (h := h3) (hF := e17)) rfl rfl rfl (Nat.le_of_ble_eq_true rfl) (by decide +kernel) ?_
                  cases hF
                  exact hR.1 135 _ _ _ (by decide +kernel) rfl ⟨rfl, rfl⟩
                · have hF := ite_f hc15 hF
                  by_cases hc18 : p2 = 5
                  · have hF := ite_t hc18 hF
                    rw [show swT 30 152 0 8 [50, 59, 69, 79, 96, 106, 116, 125, 134] p2 = 136 from by rw [hc18]; decide]
                    refine g_seg hK [.aload_n 0, .getfield 52, .iload_n 1, .iconst 1] 136 142 (L1 := [(0, vR 0), (1, vI p1), (2, vI p2)]) (st1 := [vI 1, vI p1, vR 54]) (h1 := h3) (P := True ∧ kd 0 = 8 ∧ True ∧ True ∧ True) (by decide +kernel) rfl rfl ⟨trivial, rfl, trivial, trivial, trivial⟩ ?_
                    obtain ⟨r19, e20, hF⟩ := ob1_elim hF
                    refine g_callV1 hK 142 177 (d1 := 2) (ci := 5) (i := 54) (vs := [vI p1, vI 1]) (rest := []) (h1 := h3) (r := vI r19) my_yX5_reach vw_X6_177 (by decide) (T_V_reach (p1 := p1) (p2 := 1) (h := h3) (hF := e20)) rfl rfl rfl (Nat.le_of_ble_eq_true rfl) (by decide +kernel) ?_
                    cases hF
                    exact hR.1 145 _ _ _ (by decide +kernel) rfl ⟨rfl, rfl⟩
                  · have hF := ite_f hc18 hF
                    by_cases hc21 : p2 = 6
                    · have hF := ite_t hc21 hF
                      rw [show swT 30 152 0 8 [50, 59, 69, 79, 96, 106, 116, 125, 134] p2 = 146 from by rw [hc21]; decide]
                      refine g_seg hK [.aload_n 0, .getfield 52, .iload_n 1] 146 151 (L1 := [(0, vR 0), (1, vI p1), (2, vI p2)]) (st1 := [vI p1, vR 54]) (h1 := h3) (P := True ∧ kd 0 = 8 ∧ True ∧ True) (by decide +kernel) rfl rfl ⟨trivial, rfl, trivial, trivial⟩ ?_
                      refine g_callV1 hK 151 181 (d1 := 2) (ci := 5) (i := 54) (vs := [vI p1]) (rest := []) (h1 := h3) (r := vI (F_V_worth p1 h3)) my_yX5_worth vw_X6_181 (by decide) (T_V_worth (p1 := p1) (h := h3) (hF := rfl)) rfl rfl rfl (Nat.le_of_ble_eq_true rfl) (by decide +kernel) ?_
                      cases hF
                      exact hR.1 154 _ _ _ (by decide +kernel) rfl ⟨rfl, rfl⟩
                    · have hF := ite_f hc21 hF
                      by_cases hc22 : p2 = 7
                      · have hF := ite_t hc22 hF
                        rw [show swT 30 152 0 8 [50, 59, 69, 79, 96, 106, 116, 125, 134] p2 = 155 from by rw [hc22]; decide]
                        refine g_seg hK [.aload_n 0, .getfield 52, .iload_n 1] 155 160 (L1 := [(0, vR 0), (1, vI p1), (2, vI p2)]) (st1 := [vI p1, vR 54]) (h1 := h3) (P := True ∧ kd 0 = 8 ∧ True ∧ True) (by decide +kernel) rfl rfl ⟨trivial, rfl, trivial, trivial⟩ ?_
                        obtain ⟨r23, e24, hF⟩ := ob1_elim hF
                        refine g_callV1 hK 160 184 (d1 := 4) (ci := 5) (i := 54) (vs := [vI p1]) (rest := []) (h1 := h3) (r := vI r23) my_yX5_greatestWorth vw_X6_184 (by decide) (T_V_greatestWorth (p1 := p1) (h := h3) (hF := e24)) rfl rfl rfl (Nat.le_of_ble_eq_true rfl) (by decide +kernel) ?_
                        cases hF
                        exact hR.1 163 _ _ _ (by decide +kernel) rfl ⟨rfl, rfl⟩
                      · have hF := ite_f hc22 hF
                        by_cases hc25 : p2 = 8
                        · have hF := ite_t hc25 hF
                          rw [show swT 30 152 0 8 [50, 59, 69, 79, 96, 106, 116, 125, 134] p2 = 164 from by rw [hc25]; decide]
                          refine g_seg hK [.aload_n 0, .getfield 52, .iload_n 1, .aload_n 0, .getfield 21, .iconst 0] 164 174 (L1 := [(0, vR 0), (1, vI p1), (2, vI p2)]) (st1 := [vI 0, vR 3, vI p1, vR 54]) (h1 := h3) (P := True ∧ kd 0 = 8 ∧ True ∧ True ∧ kd 0 = 8 ∧ True ∧ True) (by decide +kernel) rfl rfl ⟨trivial, rfl, trivial, trivial, rfl, trivial, trivial⟩ ?_
                          refine g_callV1 hK 174 112 (d1 := 0) (ci := 4) (i := 3) (vs := [vI 0]) (rest := [vI p1, vR 54]) (h1 := h3) (r := vI (F_St_setting 3 0 h3)) my_yX4_setting vw_X6_112 (by decide) (T_St_setting (o := 3) (p1 := 0) (h := h3) (ks := rfl) (hF := rfl)) rfl rfl rfl (Nat.le_of_ble_eq_true rfl) (by decide +kernel) ?_
                          refine g_seg hK [.iconst 0] 177 178 (L1 := [(0, vR 0), (1, vI p1), (2, vI p2)]) (st1 := [vI 0, vI (F_St_setting 3 0 h3), vI p1, vR 54]) (h1 := h3) (P := True ∧ True) (by decide +kernel) rfl rfl ⟨trivial, trivial⟩ ?_
                          refine g_callV1 hK 178 187 (d1 := 3) (ci := 5) (i := 54) (vs := [vI p1, vI (F_St_setting 3 0 h3), vI 0]) (rest := []) (h1 := h3) (r := vI (F_V_around p1 (F_St_setting 3 0 h3) 0 h3)) my_yX5_around vw_X6_187 (by decide) (T_V_around (p1 := p1) (p2 := (F_St_setting 3 0 h3)) (p3 := 0) (h := h3) (hF := rfl)) rfl rfl rfl (Nat.le_of_ble_eq_true rfl) (by decide +kernel) ?_
                          cases hF
                          exact hR.1 181 _ _ _ (by decide +kernel) rfl ⟨rfl, rfl⟩
                        · have hF := ite_f hc25 hF
                          rw [show swT 30 152 0 8 [50, 59, 69, 79, 96, 106, 116, 125, 134] p2 = 182 from by unfold swT; rw [if_pos (by omega)]; decide]
                          refine g_seg hK [.aload_n 0, .getfield 52, .iload_n 1, .aload_n 0, .getfield 21, .iconst 0] 182 192 (L1 := [(0, vR 0), (1, vI p1), (2, vI p2)]) (st1 := [vI 0, vR 3, vI p1, vR 54]) (h1 := h3) (P := True ∧ kd 0 = 8 ∧ True ∧ True ∧ kd 0 = 8 ∧ True ∧ True) (by decide +kernel) rfl rfl ⟨trivial, rfl, trivial, trivial, rfl, trivial, trivial⟩ ?_
                          refine g_callV1 hK 192 112 (d1 := 0) (ci := 4) (i := 3) (vs := [vI 0]) (rest := [vI p1, vR 54]) (h1 := h3) (r := vI (F_St_setting 3 0 h3)) my_yX4_setting vw_X6_112 (by decide) (T_St_setting (o := 3) (p1 := 0) (h := h3) (ks := rfl) (hF := rfl)) rfl rfl rfl (Nat.le_of_ble_eq_true rfl) (by decide +kernel) ?_
                          refine g_seg hK [.iconst 1] 195 196 (L1 := [(0, vR 0), (1, vI p1), (2, vI p2)]) (st1 := [vI 1, vI (F_St_setting 3 0 h3), vI p1, vR 54]) (h1 := h3) (P := True ∧ True) (by decide +kernel) rfl rfl ⟨trivial, trivial⟩ ?_
                          refine g_callV1 hK 196 187 (d1 := 3) (ci := 5) (i := 54) (vs := [vI p1, vI (F_St_setting 3 0 h3), vI 1]) (rest := []) (h1 := h3) (r := vI (F_V_around p1 (F_St_setting 3 0 h3) 1 h3)) my_yX5_around vw_X6_187 (by decide) (T_V_around (p1 := p1) (p2 := (F_St_setting 3 0 h3)) (p3 := 1) (h := h3) (hF := rfl)) rfl rfl rfl (Nat.le_of_ble_eq_true rfl) (by decide +kernel) ?_
                          cases hF
                          exact hR.1 199 _ _ _ (by decide +kernel) rfl ⟨rfl, rfl⟩
    · have hF := ite_f hc2 hF
      refine g_seg hK [.iconst (-1)] 10 11 (L1 := [(0, vR 0), (1, vI p1), (2, vI p2)]) (st1 := [vI (-1)]) (h1 := h) (P := True ∧ True) (by decide +kernel) rfl rfl ⟨trivial, trivial⟩ ?_
      cases hF
      exact hR.1 11 _ _ _ (by decide +kernel) rfl ⟨rfl, rfl⟩
set_option maxHeartbeats 4000000 in
set_option maxRecDepth 100000 in
theorem T_V_hindrance {p1 : Int} {p2 : Int} {h : MH} {r : Int} (hF : F_V_hindrance p1 p2 h = r) : CON 2 yX5_hindrance cX5_hindrance 3 (Option.some Jvm.ClassFile.FieldType.int) [vR 54, vI p1, vI p2] h (some (vI r)) h := by
  refine con_of (own := RX5) (fl := flX5) (by decide +kernel) rfl flok_X5 rfl (Nat.le_of_ble_eq_true rfl) ?_
  intro K hK hR
  show K 0 [(0, vR 54), (1, vI p1), (2, vI p2)] [] h
  unfold F_V_hindrance at hF
  refine g_seg hK [.aload_n 0, .iload_n 1] 0 2 (L1 := [(0, vR 54), (1, vI p1), (2, vI p2)]) (st1 := [vI p1, vR 54]) (h1 := h) (P := True ∧ True ∧ True) (by decide +kernel) rfl rfl ⟨trivial, trivial, trivial⟩ ?_
  refine g_callV1 hK 2 71 (d1 := 1) (ci := 5) (i := 54) (vs := [vI p1]) (rest := []) (h1 := h) (r := vI (F_V_isPlain p1 h)) my_yX5_isPlain vw_X5_71 (by decide) (T_V_isPlain (p1 := p1) (h := h) (hF := rfl)) rfl rfl rfl (Nat.le_of_ble_eq_true rfl) (by decide +kernel) ?_
  refine g_ifz hK 5 .eq (21) 26 (t1 := 26) (t2 := 8) (by decide +kernel) (by decide) rfl rfl (fun (hc1 : F_V_isPlain p1 h = 0) => ?_) (fun (hc1 : ¬ (F_V_isPlain p1 h = 0)) => ?_)
  · have hF := ite_t hc1 hF
    refine g_seg hK [.iconst 1] 26 27 (L1 := [(0, vR 54), (1, vI p1), (2, vI p2)]) (st1 := [vI 1]) (h1 := h) (P := True ∧ True) (by decide +kernel) rfl rfl ⟨trivial, trivial⟩ ?_
    cases hF
    exact hR.1 27 _ _ _ (by decide +kernel) rfl ⟨rfl, rfl⟩
  · have hF := ite_f hc1 hF
    refine g_seg hK [.aload_n 0, .aload_n 0, .iload_n 1] 8 11 (L1 := [(0, vR 54), (1, vI p1), (2, vI p2)]) (st1 := [vI p1, vR 54, vR 54]) (h1 := h) (P := True ∧ True ∧ True ∧ True) (by decide +kernel) rfl rfl ⟨trivial, trivial, trivial, trivial⟩ ?_
    refine g_callV1 hK 11 81 (d1 := 1) (ci := 5) (i := 54) (vs := [vI p1]) (rest := [vR 54]) (h1 := h) (r := vI (F_V_top p1 h)) my_yX5_top vw_X5_81 (by decide) (T_V_top (p1 := p1) (h := h) (hF := rfl)) rfl rfl rfl (Nat.le_of_ble_eq_true rfl) (by decide +kernel) ?_
    refine g_seg hK [.aload_n 0, .iload_n 1] 14 16 (L1 := [(0, vR 54), (1, vI p1), (2, vI p2)]) (st1 := [vI p1, vR 54, vI (F_V_top p1 h), vR 54]) (h1 := h) (P := True ∧ True ∧ True) (by decide +kernel) rfl rfl ⟨trivial, trivial, trivial⟩ ?_
    refine g_callV1 hK 16 84 (d1 := 1) (ci := 5) (i := 54) (vs := [vI p1]) (rest := [vI (F_V_top p1 h), vR 54]) (h1 := h) (r := vI (F_V_end p1 h)) my_yX5_end vw_X5_84 (by decide) (T_V_end (p1 := p1) (h := h) (hF := rfl)) rfl rfl rfl (Nat.le_of_ble_eq_true rfl) (by decide +kernel) ?_
    refine g_seg hK [.iload_n 2] 19 20 (L1 := [(0, vR 54), (1, vI p1), (2, vI p2)]) (st1 := [vI p2, vI (F_V_end p1 h), vI (F_V_top p1 h), vR 54]) (h1 := h) (P := True ∧ True) (by decide +kernel) rfl rfl ⟨trivial, trivial⟩ ?_
    refine g_callV1 hK 20 109 (d1 := 1) (ci := 5) (i := 54) (vs := [vI (F_V_top p1 h), vI (F_V_end p1 h), vI p2]) (rest := []) (h1 := h) (r := vI (F_V_barAt (F_V_top p1 h) (F_V_end p1 h) p2 h)) my_yX5_barAt vw_X5_109 (by decide) (T_V_barAt (p1 := (F_V_top p1 h)) (p2 := (F_V_end p1 h)) (p3 := p2) (h := h) (hF := rfl)) rfl rfl rfl (Nat.le_of_ble_eq_true rfl) (by decide +kernel) ?_
    refine g_goto hK 23 (4) 27 (by decide +kernel) (by decide) ?_
    cases hF
    exact hR.1 27 _ _ _ (by decide +kernel) rfl ⟨rfl, rfl⟩
set_option maxHeartbeats 4000000 in
set_option maxRecDepth 100000 in
theorem T_X_whyNot {p1 : Int} {p2 : Int} {h : MH} {r : Int} {h' : MH} (hF : F_X_whyNot p1 p2 h = some (r, h')) : CON 6 yX6_whyNot cX6_whyNot 3 (Option.some Jvm.ClassFile.FieldType.int) [vR 0, vI p1, vI p2] h (some (vI r)) h' := by
  refine con_of (own := RX6) (fl := flX6) (by decide +kernel) rfl flok_X6 rfl (Nat.le_of_ble_eq_true rfl) ?_
  intro K hK hR
  show K 0 [(0, vR 0), (1, vI p1), (2, vI p2)] [] h
  unfold F_X_whyNot at hF
  refine g_seg hK [.aload_n 0] 0 1 (L1 := [(0, vR 0), (1, vI p1), (2, vI p2)]) (st1 := [vR 0]) (h1 := h) (P := True ∧ True) (by decide +kernel) rfl rfl ⟨trivial, trivial⟩ ?_
  obtain ⟨h1, e2, hF⟩ := ob1_elim hF
  refine g_callV0 hK 1 118 (d1 := 5) (ci := 6) (i := 0) (vs := []) (rest := []) (h1 := h1) my_yX6_show vw_X6_118 (by decide) (T_X_show (h := h) (hF := e2)) rfl rfl rfl (Nat.le_of_ble_eq_true rfl) (by decide +kernel) ?_
  refine g_seg hK [.aload_n 0, .getfield 52, .iload_n 1] 4 9 (L1 := [(0, vR 0), (1, vI p1), (2, vI p2)]) (st1 := [vI p1, vR 54]) (h1 := h1) (P := True ∧ kd 0 = 8 ∧ True ∧ True) (by decide +kernel) rfl rfl ⟨trivial, rfl, trivial, trivial⟩ ?_
  refine g_callV1 hK 9 164 (d1 := 2) (ci := 5) (i := 54) (vs := [vI p1]) (rest := []) (h1 := h1) (r := vI (F_V_has p1 h1)) my_yX5_has vw_X6_164 (by decide) (T_V_has (p1 := p1) (h := h1) (hF := rfl)) rfl rfl rfl (Nat.le_of_ble_eq_true rfl) (by decide +kernel) ?_
  refine g_ifz hK 12 .eq (15) 27 (t1 := 27) (t2 := 15) (by decide +kernel) (by decide) rfl rfl (fun (hc3 : F_V_has p1 h1 = 0) => ?_) (fun (hc3 : ¬ (F_V_has p1 h1 = 0)) => ?_)
  · have hF := ite_t hc3 hF
    refine g_seg hK [.iconst (-1)] 27 28 (L1 := [(0, vR 0), (1, vI p1), (2, vI p2)]) (st1 := [vI (-1)]) (h1 := h1) (P := True ∧ True) (by decide +kernel) rfl rfl ⟨trivial, trivial⟩ ?_
    cases hF
    exact hR.1 28 _ _ _ (by decide +kernel) rfl ⟨rfl, rfl⟩
  · have hF := ite_f hc3 hF
    refine g_seg hK [.aload_n 0, .getfield 52, .iload_n 1, .iload_n 2] 15 21 (L1 := [(0, vR 0), (1, vI p1), (2, vI p2)]) (st1 := [vI p2, vI p1, vR 54]) (h1 := h1) (P := True ∧ kd 0 = 8 ∧ True ∧ True ∧ True) (by decide +kernel) rfl rfl ⟨trivial, rfl, trivial, trivial, trivial⟩ ?_
    refine g_callV1 hK 21 191 (d1 := 2) (ci := 5) (i := 54) (vs := [vI p1, vI p2]) (rest := []) (h1 := h1) (r := vI (F_V_hindrance p1 p2 h1)) my_yX5_hindrance vw_X6_191 (by decide) (T_V_hindrance (p1 := p1) (p2 := p2) (h := h1) (hF := rfl)) rfl rfl rfl (Nat.le_of_ble_eq_true rfl) (by decide +kernel) ?_
    refine g_goto hK 24 (4) 28 (by decide +kernel) (by decide) ?_
    cases hF
    exact hR.1 28 _ _ _ (by decide +kernel) rfl ⟨rfl, rfl⟩
set_option maxHeartbeats 4000000 in
set_option maxRecDepth 100000 in
theorem T_St_laid {o : Nat} {h : MH} {r : Int} (ks : kd o = 6) (hF : F_St_laid o h = r) : CON 0 yX4_laid cX4_laid 1 (Option.some Jvm.ClassFile.FieldType.int) [vR o] h (some (vI r)) h := by
  refine con_of (own := RX4) (fl := flX4) (by decide +kernel) rfl flok_X4 rfl (Nat.le_of_ble_eq_true rfl) ?_
  intro K hK hR
  show K 0 [(0, vR o)] [] h
  unfold F_St_laid at hF
  refine g_seg hK [.aload_n 0, .getfield 33] 0 4 (L1 := [(0, vR o)]) (st1 := [vI (h o 5)]) (h1 := h) (P := True ∧ kd o = 6 ∧ True) (by decide +kernel) rfl rfl ⟨trivial, ks, trivial⟩ ?_
  cases hF
  exact hR.1 4 _ _ _ (by decide +kernel) rfl ⟨rfl, rfl⟩
set_option maxHeartbeats 4000000 in
set_option maxRecDepth 100000 in
theorem T_St_leftOut {o : Nat} {h : MH} {r : Int} (ks : kd o = 6) (hF : F_St_leftOut o h = r) : CON 0 yX4_leftOut cX4_leftOut 1 (Option.some Jvm.ClassFile.FieldType.int) [vR o] h (some (vI r)) h := by
  refine con_of (own := RX4) (fl := flX4) (by decide +kernel) rfl flok_X4 rfl (Nat.le_of_ble_eq_true rfl) ?_
  intro K hK hR
  show K 0 [(0, vR o)] [] h
  unfold F_St_leftOut at hF
  refine g_seg hK [.aload_n 0, .getfield 36] 0 4 (L1 := [(0, vR o)]) (st1 := [vI (h o 6)]) (h1 := h) (P := True ∧ kd o = 6 ∧ True) (by decide +kernel) rfl rfl ⟨trivial, ks, trivial⟩ ?_
  cases hF
  exact hR.1 4 _ _ _ (by decide +kernel) rfl ⟨rfl, rfl⟩
set_option maxHeartbeats 4000000 in
set_option maxRecDepth 100000 in
theorem T_Hi_size {h : MH} {r : Int} (hF : F_Hi_size h = r) : CON 0 yX1_size cX1_size 1 (Option.some Jvm.ClassFile.FieldType.int) [vR 17] h (some (vI r)) h := by
  refine con_of (own := RX1) (fl := flX1) (by decide +kernel) rfl flok_X1 rfl (Nat.le_of_ble_eq_true rfl) ?_
  intro K hK hR
  show K 0 [(0, vR 17)] [] h
  unfold F_Hi_size at hF
  refine g_seg hK [.aload_n 0, .getfield 17] 0 4 (L1 := [(0, vR 17)]) (st1 := [vI (h 17 1)]) (h1 := h) (P := True ∧ kd 17 = 3 ∧ True) (by decide +kernel) rfl rfl ⟨trivial, rfl, trivial⟩ ?_
  cases hF
  exact hR.1 4 _ _ _ (by decide +kernel) rfl ⟨rfl, rfl⟩
set_option maxHeartbeats 4000000 in
set_option maxRecDepth 100000 in
theorem T_X_heldNumber {p1 : Int} {h : MH} {r : Int} (hF : F_X_heldNumber p1 h = r) : CON 1 yX6_heldNumber cX6_heldNumber 2 (Option.some Jvm.ClassFile.FieldType.int) [vR 0, vI p1] h (some (vI r)) h := by
  refine con_of (own := RX6) (fl := flX6) (by decide +kernel) rfl flok_X6 rfl (Nat.le_of_ble_eq_true rfl) ?_
  intro K hK hR
  show K 0 [(0, vR 0), (1, vI p1)] [] h
  unfold F_X_heldNumber at hF
  refine g_seg hK [.iload_n 1] 0 1 (L1 := [(0, vR 0), (1, vI p1)]) (st1 := [vI p1]) (h1 := h) (P := True ∧ True) (by decide +kernel) rfl rfl ⟨trivial, trivial⟩ ?_
  refine g_sw hK 1 77 12 16 #[35, 43, 51, 60, 69] 35 (by decide +kernel) (by decide) ?_
  by_cases hc1 : p1 = 12
  · have hF := ite_t hc1 hF
    rw [show swT 1 77 12 16 [35, 43, 51, 60, 69] p1 = 36 from by rw [hc1]; decide]
    refine g_seg hK [.aload_n 0, .getfield 21] 36 40 (L1 := [(0, vR 0), (1, vI p1)]) (st1 := [vR 3]) (h1 := h) (P := True ∧ kd 0 = 8 ∧ True) (by decide +kernel) rfl rfl ⟨trivial, rfl, trivial⟩ ?_
    refine g_callV1 hK 40 255 (d1 := 0) (ci := 4) (i := 3) (vs := []) (rest := []) (h1 := h) (r := vI (F_St_laid 3 h)) my_yX4_laid vw_X6_255 (by decide) (T_St_laid (o := 3) (h := h) (ks := rfl) (hF := rfl)) rfl rfl rfl (Nat.le_of_ble_eq_true rfl) (by decide +kernel) ?_
    cases hF
    exact hR.1 43 _ _ _ (by decide +kernel) rfl ⟨rfl, rfl⟩
  · have hF := ite_f hc1 hF
    by_cases hc2 : p1 = 13
    · have hF := ite_t hc2 hF
      rw [show swT 1 77 12 16 [35, 43, 51, 60, 69] p1 = 44 from by rw [hc2]; decide]
      refine g_seg hK [.aload_n 0, .getfield 21] 44 48 (L1 := [(0, vR 0), (1, vI p1)]) (st1 := [vR 3]) (h1 := h) (P := True ∧ kd 0 = 8 ∧ True) (by decide +kernel) rfl rfl ⟨trivial, rfl, trivial⟩ ?_
      refine g_callV1 hK 48 256 (d1 := 0) (ci := 4) (i := 3) (vs := []) (rest := []) (h1 := h) (r := vI (F_St_leftOut 3 h)) my_yX4_leftOut vw_X6_256 (by decide) (T_St_leftOut (o := 3) (h := h) (ks := rfl) (hF := rfl)) rfl rfl rfl (Nat.le_of_ble_eq_true rfl) (by decide +kernel) ?_
      cases hF
      exact hR.1 51 _ _ _ (by decide +kernel) rfl ⟨rfl, rfl⟩
    · have hF := ite_f hc2 hF
      by_cases hc3 : p1 = 14
      · have hF := ite_t hc3 hF
        rw [show swT 1 77 12 16 [35, 43, 51, 60, 69] p1 = 52 from by rw [hc3]; decide]
        refine g_seg hK [.aload_n 0, .getfield 21, .iconst 0] 52 57 (L1 := [(0, vR 0), (1, vI p1)]) (st1 := [vI 0, vR 3]) (h1 := h) (P := True ∧ kd 0 = 8 ∧ True ∧ True) (by decide +kernel) rfl rfl ⟨trivial, rfl, trivial, trivial⟩ ?_
        refine g_callV1 hK 57 112 (d1 := 0) (ci := 4) (i := 3) (vs := [vI 0]) (rest := []) (h1 := h) (r := vI (F_St_setting 3 0 h)) my_yX4_setting vw_X6_112 (by decide) (T_St_setting (o := 3) (p1 := 0) (h := h) (ks := rfl) (hF := rfl)) rfl rfl rfl (Nat.le_of_ble_eq_true rfl) (by decide +kernel) ?_
        cases hF
        exact hR.1 60 _ _ _ (by decide +kernel) rfl ⟨rfl, rfl⟩
      · have hF := ite_f hc3 hF
        by_cases hc4 : p1 = 15
        · have hF := ite_t hc4 hF
          rw [show swT 1 77 12 16 [35, 43, 51, 60, 69] p1 = 61 from by rw [hc4]; decide]
          refine g_seg hK [.aload_n 0, .getfield 21, .iconst 1] 61 66 (L1 := [(0, vR 0), (1, vI p1)]) (st1 := [vI 1, vR 3]) (h1 := h) (P := True ∧ kd 0 = 8 ∧ True ∧ True) (by decide +kernel) rfl rfl ⟨trivial, rfl, trivial, trivial⟩ ?_
          refine g_callV1 hK 66 112 (d1 := 0) (ci := 4) (i := 3) (vs := [vI 1]) (rest := []) (h1 := h) (r := vI (F_St_setting 3 1 h)) my_yX4_setting vw_X6_112 (by decide) (T_St_setting (o := 3) (p1 := 1) (h := h) (ks := rfl) (hF := rfl)) rfl rfl rfl (Nat.le_of_ble_eq_true rfl) (by decide +kernel) ?_
          cases hF
          exact hR.1 69 _ _ _ (by decide +kernel) rfl ⟨rfl, rfl⟩
        · have hF := ite_f hc4 hF
          by_cases hc5 : p1 = 16
          · have hF := ite_t hc5 hF
            rw [show swT 1 77 12 16 [35, 43, 51, 60, 69] p1 = 70 from by rw [hc5]; decide]
            refine g_seg hK [.aload_n 0, .getfield 14] 70 74 (L1 := [(0, vR 0), (1, vI p1)]) (st1 := [vR 1]) (h1 := h) (P := True ∧ kd 0 = 8 ∧ True) (by decide +kernel) rfl rfl ⟨trivial, rfl, trivial⟩ ?_
            refine g_callV1 hK 74 63 (d1 := 0) (ci := 3) (i := 1) (vs := []) (rest := []) (h1 := h) (r := vI (F_Ro_size 1 h)) my_yX3_size vw_X6_63 (by decide) (T_Ro_size (o := 1) (h := h) (ko := rfl) (hF := rfl)) rfl rfl rfl (Nat.le_of_ble_eq_true rfl) (by decide +kernel) ?_
            cases hF
            exact hR.1 77 _ _ _ (by decide +kernel) rfl ⟨rfl, rfl⟩
          · have hF := ite_f hc5 hF
            rw [show swT 1 77 12 16 [35, 43, 51, 60, 69] p1 = 78 from by unfold swT; rw [if_pos (by omega)]; decide]
            refine g_seg hK [.aload_n 0, .getfield 35] 78 82 (L1 := [(0, vR 0), (1, vI p1)]) (st1 := [vR 17]) (h1 := h) (P := True ∧ kd 0 = 8 ∧ True) (by decide +kernel) rfl rfl ⟨trivial, rfl, trivial⟩ ?_
            refine g_callV1 hK 82 220 (d1 := 0) (ci := 1) (i := 17) (vs := []) (rest := []) (h1 := h) (r := vI (F_Hi_size h)) my_yX1_size vw_X6_220 (by decide) (T_Hi_size (h := h) (hF := rfl)) rfl rfl rfl (Nat.le_of_ble_eq_true rfl) (by decide +kernel) ?_
            cases hF
            exact hR.1 85 _ _ _ (by decide +kernel) rfl ⟨rfl, rfl⟩
set_option maxHeartbeats 4000000 in
set_option maxRecDepth 100000 in
theorem T_V_linesOfKind {p1 : Int} {h : MH} {r : Int} (hF : F_V_linesOfKind p1 h = some r) : CON 2 yX5_linesOfKind cX5_linesOfKind 2 (Option.some Jvm.ClassFile.FieldType.int) [vR 54, vI p1] h (some (vI r)) h := by
  refine con_of (own := RX5) (fl := flX5) (by decide +kernel) rfl flok_X5 rfl (Nat.le_of_ble_eq_true rfl) ?_
  intro K hK hR
  show K 0 [(0, vR 54), (1, vI p1)] [] h
  unfold F_V_linesOfKind at hF
  refine g_seg hK [.aload_n 0, .iconst 0, .aload_n 0] 0 3 (L1 := [(0, vR 54), (1, vI p1)]) (st1 := [vR 54, vI 0, vR 54]) (h1 := h) (P := True ∧ True ∧ True ∧ True) (by decide +kernel) rfl rfl ⟨trivial, trivial, trivial, trivial⟩ ?_
  refine g_callV1 hK 3 59 (d1 := 1) (ci := 5) (i := 54) (vs := []) (rest := [vI 0, vR 54]) (h1 := h) (r := vI (F_V_size h)) my_yX5_size vw_X5_59 (by decide) (T_V_size (h := h) (hF := rfl)) rfl rfl rfl (Nat.le_of_ble_eq_true rfl) (by decide +kernel) ?_
  refine g_seg hK [.iload_n 1] 6 7 (L1 := [(0, vR 54), (1, vI p1)]) (st1 := [vI p1, vI (F_V_size h), vI 0, vR 54]) (h1 := h) (P := True ∧ True) (by decide +kernel) rfl rfl ⟨trivial, trivial⟩ ?_
  obtain ⟨r1, e2, hF⟩ := ob1_elim hF
  refine g_callV1 hK 7 97 (d1 := 1) (ci := 5) (i := 54) (vs := [vI 0, vI (F_V_size h), vI p1]) (rest := []) (h1 := h) (r := vI r1) my_yX5_linesWithin vw_X5_97 (by decide) (T_V_linesWithin (p1 := 0) (p2 := (F_V_size h)) (p3 := p1) (h := h) (hF := e2)) rfl rfl rfl (Nat.le_of_ble_eq_true rfl) (by decide +kernel) ?_
  cases hF
  exact hR.1 10 _ _ _ (by decide +kernel) rfl ⟨rfl, rfl⟩
set_option maxHeartbeats 4000000 in
set_option maxRecDepth 100000 in
theorem LT_V_plainHunks_L4 {K : KT} (hK : Rules RX5 cX5_plainHunks 3 (Option.some Jvm.ClassFile.FieldType.int) flX5 2 K) {h : MH} : ∀ (n : Nat) (x1 : Int) (x2 : Int) (x1' : Int) (x2' : Int), F_V_plainHunks_L4 h n x1 x2 = some (x1', x2') → K 34 [(0, vR 54), (1, vI x1'), (2, vI x2')] [] h → K 4 [(0, vR 54), (1, vI x1), (2, vI x2)] [] h := by
  intro n
  induction n with
  | zero =>
    intro x1 x2 x1' x2' hF
    cases hF
  | succ n ih =>
    intro x1 x2 x1' x2' hF hE
    unfold F_V_plainHunks_L4 at hF
    refine g_seg hK [.iload_n 2, .aload_n 0] 4 6 (L1 := [(0, vR 54), (1, vI x1), (2, vI x2)]) (st1 := [vR 54, vI x2]) (h1 := h) (P := True ∧ True ∧ True) (by decide +kernel) rfl rfl ⟨trivial, trivial, trivial⟩ ?_
    refine g_callV1 hK 6 64 (d1 := 1) (ci := 5) (i := 54) (vs := []) (rest := [vI x2]) (h1 := h) (r := vI (F_V_hunks h)) my_yX5_hunks vw_X5_64 (by decide) (T_V_hunks (h := h) (hF := rfl)) rfl rfl rfl (Nat.le_of_ble_eq_true rfl) (by decide +kernel) ?_
    refine g_icmp hK 9 .ge (25) 34 (t1 := 12) (t2 := 34) (by decide +kernel) (by decide) rfl rfl (fun (hc1 : x2 < F_V_hunks h) => ?_) (fun (hc1 : ¬ (x2 < F_V_hunks h)) => ?_)
    · have hF := ite_t hc1 hF
      refine g_seg hK [.iload_n 1, .aload_n 0, .iload_n 2] 12 15 (L1 := [(0, vR 54), (1, vI x1), (2, vI x2)]) (st1 := [vI x2, vR 54, vI x1]) (h1 := h) (P := True ∧ True ∧ True ∧ True) (by decide +kernel) rfl rfl ⟨trivial, trivial, trivial, trivial⟩ ?_
      refine g_callV1 hK 15 71 (d1 := 1) (ci := 5) (i := 54) (vs := [vI x2]) (rest := [vI x1]) (h1 := h) (r := vI (F_V_isPlain x2 h)) my_yX5_isPlain vw_X5_71 (by decide) (T_V_isPlain (p1 := x2) (h := h) (hF := rfl)) rfl rfl rfl (Nat.le_of_ble_eq_true rfl) (by decide +kernel) ?_
      obtain ⟨s2, e5, hF⟩ := jn1_elim hF
      have j3 : K 26 [(0, vR 54), (2, vI x2)] [vI s2, vI x1] h := by
        refine g_seg hK [.iadd, .istore_n 1, .iinc 2 1] 26 31 (L1 := [(2, vI (wr (x2 + 1))), (1, vI (wr (x1 + s2))), (0, vR 54)]) (st1 := []) (h1 := h) (P := True ∧ True ∧ True ∧ True) (by decide +kernel) rfl rfl ⟨trivial, trivial, trivial, trivial⟩ ?_
        refine g_goto hK 31 (-27) 4 (by decide +kernel) (by decide) ?_
        refine hK.2.1 _ _ ([(0, vR 54), (1, vI (wr (x1 + s2))), (2, vI (wr (x2 + 1)))]) _ _ (sub_of [2, 1, 0] rfl) ?_
        exact ih _ _ _ _ hF hE
      clear hF
      have hF := e5
      refine g_ifz hK 18 .eq (7) 25 (t1 := 25) (t2 := 21) (by decide +kernel) (by decide) rfl rfl (fun (hc4 : F_V_isPlain x2 h = 0) => ?_) (fun (hc4 : ¬ (F_V_isPlain x2 h = 0)) => ?_)
      · have hF := ite_t hc4 hF
        refine g_seg hK [.iconst 0] 25 26 (L1 := [(0, vR 54), (1, vI x1), (2, vI x2)]) (st1 := [vI 0, vI x1]) (h1 := h) (P := True ∧ True) (by decide +kernel) rfl rfl ⟨trivial, trivial⟩ ?_
        refine hK.2.1 _ _ ([(0, vR 54), (2, vI x2)]) _ _ (sub_of [0, 2] rfl) ?_
        cases hF
        exact j3
      · have hF := ite_f hc4 hF
        refine g_seg hK [.iconst 1] 21 22 (L1 := [(0, vR 54), (1, vI x1), (2, vI x2)]) (st1 := [vI 1, vI x1]) (h1 := h) (P := True ∧ True) (by decide +kernel) rfl rfl ⟨trivial, trivial⟩ ?_
        refine g_goto hK 22 (4) 26 (by decide +kernel) (by decide) ?_
        refine hK.2.1 _ _ ([(0, vR 54), (2, vI x2)]) _ _ (sub_of [0, 2] rfl) ?_
        cases hF
        exact j3
    · have hF := ite_f hc1 hF
      cases hF
      exact hE
set_option maxHeartbeats 4000000 in
set_option maxRecDepth 100000 in
theorem T_V_plainHunks {h : MH} {r : Int} (hF : F_V_plainHunks h = some r) : CON 2 yX5_plainHunks cX5_plainHunks 3 (Option.some Jvm.ClassFile.FieldType.int) [vR 54] h (some (vI r)) h := by
  refine con_of (own := RX5) (fl := flX5) (by decide +kernel) rfl flok_X5 rfl (Nat.le_of_ble_eq_true rfl) ?_
  intro K hK hR
  show K 0 [(0, vR 54)] [] h
  unfold F_V_plainHunks at hF
  refine g_seg hK [.iconst 0, .istore_n 1, .iconst 0, .istore_n 2] 0 4 (L1 := [(2, vI 0), (1, vI 0), (0, vR 54)]) (st1 := []) (h1 := h) (P := True ∧ True ∧ True ∧ True ∧ True) (by decide +kernel) rfl rfl ⟨trivial, trivial, trivial, trivial, trivial⟩ ?_
  refine hK.2.1 _ _ ([(0, vR 54), (1, vI 0), (2, vI 0)]) _ _ (sub_of [2, 1, 0] rfl) ?_
  obtain ⟨x1_1, x2_2, e3, hF⟩ := ob2_elim hF
  refine LT_V_plainHunks_L4 hK _ _ _ _ _ e3 ?_
  refine g_seg hK [.iload_n 1] 34 35 (L1 := [(0, vR 54), (1, vI x1_1), (2, vI x2_2)]) (st1 := [vI x1_1]) (h1 := h) (P := True ∧ True) (by decide +kernel) rfl rfl ⟨trivial, trivial⟩ ?_
  cases hF
  exact hR.1 35 _ _ _ (by decide +kernel) rfl ⟨rfl, rfl⟩
set_option maxHeartbeats 4000000 in
set_option maxRecDepth 100000 in
theorem LT_V_slidingHunks_L4 {K : KT} (hK : Rules RX5 cX5_slidingHunks 3 (Option.some Jvm.ClassFile.FieldType.int) flX5 3 K) {h : MH} : ∀ (n : Nat) (x1 : Int) (x2 : Int) (x1' : Int) (x2' : Int), F_V_slidingHunks_L4 h n x1 x2 = some (x1', x2') → K 42 [(0, vR 54), (1, vI x1'), (2, vI x2')] [] h → K 4 [(0, vR 54), (1, vI x1), (2, vI x2)] [] h := by
  intro n
  induction n with
  | zero =>
    intro x1 x2 x1' x2' hF
    cases hF
  | succ n ih =>
    intro x1 x2 x1' x2' hF hE
    unfold F_V_slidingHunks_L4 at hF
    refine g_seg hK [.iload_n 2, .aload_n 0] 4 6 (L1 := [(0, vR 54), (1, vI x1), (2, vI x2)]) (st1 := [vR 54, vI x2]) (h1 := h) (P := True ∧ True ∧ True) (by decide +kernel) rfl rfl ⟨trivial, trivial, trivial⟩ ?_
    refine g_callV1 hK 6 64 (d1 := 1) (ci := 5) (i := 54) (vs := []) (rest := [vI x2]) (h1 := h) (r := vI (F_V_hunks h)) my_yX5_hunks vw_X5_64 (by decide) (T_V_hunks (h := h) (hF := rfl)) rfl rfl rfl (Nat.le_of_ble_eq_true rfl) (by decide +kernel) ?_
    refine g_icmp hK 9 .ge (33) 42 (t1 := 12) (t2 := 42) (by decide +kernel) (by decide) rfl rfl (fun (hc1 : x2 < F_V_hunks h) => ?_) (fun (hc1 : ¬ (x2 < F_V_hunks h)) => ?_)
    · have hF := ite_t hc1 hF
      refine g_seg hK [.iload_n 1, .aload_n 0, .iload_n 2, .iconst 0] 12 16 (L1 := [(0, vR 54), (1, vI x1), (2, vI x2)]) (st1 := [vI 0, vI x2, vR 54, vI x1]) (h1 := h) (P := True ∧ True ∧ True ∧ True ∧ True) (by decide +kernel) rfl rfl ⟨trivial, trivial, trivial, trivial, trivial⟩ ?_
      obtain ⟨r2, e3, hF⟩ := ob1_elim hF
      refine g_callV1 hK 16 90 (d1 := 2) (ci := 5) (i := 54) (vs := [vI x2, vI 0]) (rest := [vI x1]) (h1 := h) (r := vI r2) my_yX5_reach vw_X5_90 (by decide) (T_V_reach (p1 := x2) (p2 := 0) (h := h) (hF := e3)) rfl rfl rfl (Nat.le_of_ble_eq_true rfl) (by decide +kernel) ?_
      refine g_seg hK [.aload_n 0, .iload_n 2, .iconst 1] 19 22 (L1 := [(0, vR 54), (1, vI x1), (2, vI x2)]) (st1 := [vI 1, vI x2, vR 54, vI r2, vI x1]) (h1 := h) (P := True ∧ True ∧ True ∧ True) (by decide +kernel) rfl rfl ⟨trivial, trivial, trivial, trivial⟩ ?_
      obtain ⟨r4, e5, hF⟩ := ob1_elim hF
      refine g_callV1 hK 22 90 (d1 := 2) (ci := 5) (i := 54) (vs := [vI x2, vI 1]) (rest := [vI r2, vI x1]) (h1 := h) (r := vI r4) my_yX5_reach vw_X5_90 (by decide) (T_V_reach (p1 := x2) (p2 := 1) (h := h) (hF := e5)) rfl rfl rfl (Nat.le_of_ble_eq_true rfl) (by decide +kernel) ?_
      refine g_seg hK [.iadd] 25 26 (L1 := [(0, vR 54), (1, vI x1), (2, vI x2)]) (st1 := [vI (wr (r2 + r4)), vI x1]) (h1 := h) (P := True ∧ True) (by decide +kernel) rfl rfl ⟨trivial, trivial⟩ ?_
      obtain ⟨s6, e9, hF⟩ := jn1_elim hF
      have j7 : K 34 [(0, vR 54), (2, vI x2)] [vI s6, vI x1] h := by
        refine g_seg hK [.iadd, .istore_n 1, .iinc 2 1] 34 39 (L1 := [(2, vI (wr (x2 + 1))), (1, vI (wr (x1 + s6))), (0, vR 54)]) (st1 := []) (h1 := h) (P := True ∧ True ∧ True ∧ True) (by decide +kernel) rfl rfl ⟨trivial, trivial, trivial, trivial⟩ ?_
        refine g_goto hK 39 (-35) 4 (by decide +kernel) (by decide) ?_
        refine hK.2.1 _ _ ([(0, vR 54), (1, vI (wr (x1 + s6))), (2, vI (wr (x2 + 1)))]) _ _ (sub_of [2, 1, 0] rfl) ?_
        exact ih _ _ _ _ hF hE
      clear hF
      have hF := e9
      refine g_ifz hK 26 .le (7) 33 (t1 := 33) (t2 := 29) (by decide +kernel) (by decide) rfl rfl (fun (hc8 : wr (r2 + r4) ≤ 0) => ?_) (fun (hc8 : ¬ (wr (r2 + r4) ≤ 0)) => ?_)
      · have hF := ite_t hc8 hF
        refine g_seg hK [.iconst 0] 33 34 (L1 := [(0, vR 54), (1, vI x1), (2, vI x2)]) (st1 := [vI 0, vI x1]) (h1 := h) (P := True ∧ True) (by decide +kernel) rfl rfl ⟨trivial, trivial⟩ ?_
        refine hK.2.1 _ _ ([(0, vR 54), (2, vI x2)]) _ _ (sub_of [0, 2] rfl) ?_
        cases hF
        exact j7
      · have hF := ite_f hc8 hF
        refine g_seg hK [.iconst 1] 29 30 (L1 := [(0, vR 54), (1, vI x1), (2, vI x2)]) (st1 := [vI 1, vI x1]) (h1 := h) (P := True ∧ True) (by decide +kernel) rfl rfl ⟨trivial, trivial⟩ ?_
        refine g_goto hK 30 (4) 34 (by decide +kernel) (by decide) ?_
        refine hK.2.1 _ _ ([(0, vR 54), (2, vI x2)]) _ _ (sub_of [0, 2] rfl) ?_
        cases hF
        exact j7
    · have hF := ite_f hc1 hF
      cases hF
      exact hE
set_option maxHeartbeats 4000000 in
set_option maxRecDepth 100000 in
theorem T_V_slidingHunks {h : MH} {r : Int} (hF : F_V_slidingHunks h = some r) : CON 3 yX5_slidingHunks cX5_slidingHunks 3 (Option.some Jvm.ClassFile.FieldType.int) [vR 54] h (some (vI r)) h := by
  refine con_of (own := RX5) (fl := flX5) (by decide +kernel) rfl flok_X5 rfl (Nat.le_of_ble_eq_true rfl) ?_
  intro K hK hR
  show K 0 [(0, vR 54)] [] h
  unfold F_V_slidingHunks at hF
  refine g_seg hK [.iconst 0, .istore_n 1, .iconst 0, .istore_n 2] 0 4 (L1 := [(2, vI 0), (1, vI 0), (0, vR 54)]) (st1 := []) (h1 := h) (P := True ∧ True ∧ True ∧ True ∧ True) (by decide +kernel) rfl rfl ⟨trivial, trivial, trivial, trivial, trivial⟩ ?_
  refine hK.2.1 _ _ ([(0, vR 54), (1, vI 0), (2, vI 0)]) _ _ (sub_of [2, 1, 0] rfl) ?_
  obtain ⟨x1_1, x2_2, e3, hF⟩ := ob2_elim hF
  refine LT_V_slidingHunks_L4 hK _ _ _ _ _ e3 ?_
  refine g_seg hK [.iload_n 1] 42 43 (L1 := [(0, vR 54), (1, vI x1_1), (2, vI x2_2)]) (st1 := [vI x1_1]) (h1 := h) (P := True ∧ True) (by decide +kernel) rfl rfl ⟨trivial, trivial⟩ ?_
  cases hF
  exact hR.1 43 _ _ _ (by decide +kernel) rfl ⟨rfl, rfl⟩
set_option maxHeartbeats 4000000 in
set_option maxRecDepth 100000 in
theorem LT_V_worthOfAll_L4 {K : KT} (hK : Rules RX5 cX5_worthOfAll 3 (Option.some Jvm.ClassFile.FieldType.int) flX5 3 K) {h : MH} : ∀ (n : Nat) (x1 : Int) (x2 : Int) (x1' : Int) (x2' : Int), F_V_worthOfAll_L4 h n x1 x2 = some (x1', x2') → K 26 [(0, vR 54), (1, vI x1'), (2, vI x2')] [] h → K 4 [(0, vR 54), (1, vI x1), (2, vI x2)] [] h := by
  intro n
  induction n with
  | zero =>
    intro x1 x2 x1' x2' hF
    cases hF
  | succ n ih =>
    intro x1 x2 x1' x2' hF hE
    unfold F_V_worthOfAll_L4 at hF
    refine g_seg hK [.iload_n 2, .aload_n 0] 4 6 (L1 := [(0, vR 54), (1, vI x1), (2, vI x2)]) (st1 := [vR 54, vI x2]) (h1 := h) (P := True ∧ True ∧ True) (by decide +kernel) rfl rfl ⟨trivial, trivial, trivial⟩ ?_
    refine g_callV1 hK 6 64 (d1 := 1) (ci := 5) (i := 54) (vs := []) (rest := [vI x2]) (h1 := h) (r := vI (F_V_hunks h)) my_yX5_hunks vw_X5_64 (by decide) (T_V_hunks (h := h) (hF := rfl)) rfl rfl rfl (Nat.le_of_ble_eq_true rfl) (by decide +kernel) ?_
    refine g_icmp hK 9 .ge (17) 26 (t1 := 12) (t2 := 26) (by decide +kernel) (by decide) rfl rfl (fun (hc1 : x2 < F_V_hunks h) => ?_) (fun (hc1 : ¬ (x2 < F_V_hunks h)) => ?_)
    · have hF := ite_t hc1 hF
      refine g_seg hK [.iload_n 1, .aload_n 0, .iload_n 2] 12 15 (L1 := [(0, vR 54), (1, vI x1), (2, vI x2)]) (st1 := [vI x2, vR 54, vI x1]) (h1 := h) (P := True ∧ True ∧ True ∧ True) (by decide +kernel) rfl rfl ⟨trivial, trivial, trivial, trivial⟩ ?_
      refine g_callV1 hK 15 106 (d1 := 2) (ci := 5) (i := 54) (vs := [vI x2]) (rest := [vI x1]) (h1 := h) (r := vI (F_V_worth x2 h)) my_yX5_worth vw_X5_106 (by decide) (T_V_worth (p1 := x2) (h := h) (hF := rfl)) rfl rfl rfl (Nat.le_of_ble_eq_true rfl) (by decide +kernel) ?_
      refine g_seg hK [.iadd, .istore_n 1, .iinc 2 1] 18 23 (L1 := [(2, vI (wr (x2 + 1))), (1, vI (wr (x1 + (F_V_worth x2 h)))), (0, vR 54)]) (st1 := []) (h1 := h) (P := True ∧ True ∧ True ∧ True) (by decide +kernel) rfl rfl ⟨trivial, trivial, trivial, trivial⟩ ?_
      refine g_goto hK 23 (-19) 4 (by decide +kernel) (by decide) ?_
      refine hK.2.1 _ _ ([(0, vR 54), (1, vI (wr (x1 + (F_V_worth x2 h)))), (2, vI (wr (x2 + 1)))]) _ _ (sub_of [2, 1, 0] rfl) ?_
      exact ih _ _ _ _ hF hE
    · have hF := ite_f hc1 hF
      cases hF
      exact hE
set_option maxHeartbeats 4000000 in
set_option maxRecDepth 100000 in
theorem T_V_worthOfAll {h : MH} {r : Int} (hF : F_V_worthOfAll h = some r) : CON 3 yX5_worthOfAll cX5_worthOfAll 3 (Option.some Jvm.ClassFile.FieldType.int) [vR 54] h (some (vI r)) h := by
  refine con_of (own := RX5) (fl := flX5) (by decide +kernel) rfl flok_X5 rfl (Nat.le_of_ble_eq_true rfl) ?_
  intro K hK hR
  show K 0 [(0, vR 54)] [] h
  unfold F_V_worthOfAll at hF
  refine g_seg hK [.iconst 0, .istore_n 1, .iconst 0, .istore_n 2] 0 4 (L1 := [(2, vI 0), (1, vI 0), (0, vR 54)]) (st1 := []) (h1 := h) (P := True ∧ True ∧ True ∧ True ∧ True) (by decide +kernel) rfl rfl ⟨trivial, trivial, trivial, trivial, trivial⟩ ?_
  refine hK.2.1 _ _ ([(0, vR 54), (1, vI 0), (2, vI 0)]) _ _ (sub_of [2, 1, 0] rfl) ?_
  obtain ⟨x1_1, x2_2, e3, hF⟩ := ob2_elim hF
  refine LT_V_worthOfAll_L4 hK _ _ _ _ _ e3 ?_
  refine g_seg hK [.iload_n 1] 26 27 (L1 := [(0, vR 54), (1, vI x1_1), (2, vI x2_2)]) (st1 := [vI x1_1]) (h1 := h) (P := True ∧ True) (by decide +kernel) rfl rfl ⟨trivial, trivial⟩ ?_
  cases hF
  exact hR.1 27 _ _ _ (by decide +kernel) rfl ⟨rfl, rfl⟩
set_option maxHeartbeats 4000000 in
set_option maxRecDepth 100000 in
theorem LT_V_longestKept_L6 {K : KT} (hK : Rules RX5 cX5_longestKept 4 (Option.some Jvm.ClassFile.FieldType.int) flX5 2 K) {h : MH} : ∀ (n : Nat) (x1 : Int) (x2 : Int) (x3 : Int) (x1' : Int) (x2' : Int) (x3' : Int), F_V_longestKept_L6 h n x1 x2 x3 = some (x1', x2', x3') → K 42 [(0, vR 54), (1, vI x1'), (2, vI x2'), (3, vI x3')] [] h → K 6 [(0, vR 54), (1, vI x1), (2, vI x2), (3, vI x3)] [] h := by
  intro n
  induction n with
  | zero =>
    intro x1 x2 x3 x1' x2' x3' hF
    cases hF
  | succ n ih =>
    intro x1 x2 x3 x1' x2' x3' hF hE
    unfold F_V_longestKept_L6 at hF
    refine g_seg hK [.iload_n 3, .aload_n 0] 6 8 (L1 := [(0, vR 54), (1, vI x1), (2, vI x2), (3, vI x3)]) (st1 := [vR 54, vI x3]) (h1 := h) (P := True ∧ True ∧ True) (by decide +kernel) rfl rfl ⟨trivial, trivial, trivial⟩ ?_
    refine g_callV1 hK 8 59 (d1 := 1) (ci := 5) (i := 54) (vs := []) (rest := [vI x3]) (h1 := h) (r := vI (F_V_size h)) my_yX5_size vw_X5_59 (by decide) (T_V_size (h := h) (hF := rfl)) rfl rfl rfl (Nat.le_of_ble_eq_true rfl) (by decide +kernel) ?_
    refine g_icmp hK 11 .ge (31) 42 (t1 := 14) (t2 := 42) (by decide +kernel) (by decide) rfl rfl (fun (hc1 : x3 < F_V_size h) => ?_) (fun (hc1 : ¬ (x3 < F_V_size h)) => ?_)
    · have hF := ite_t hc1 hF
      refine g_seg hK [.aload_n 0, .iload_n 3] 14 16 (L1 := [(0, vR 54), (1, vI x1), (2, vI x2), (3, vI x3)]) (st1 := [vI x3, vR 54]) (h1 := h) (P := True ∧ True ∧ True) (by decide +kernel) rfl rfl ⟨trivial, trivial, trivial⟩ ?_
      refine g_callV1 hK 16 60 (d1 := 1) (ci := 5) (i := 54) (vs := [vI x3]) (rest := []) (h1 := h) (r := vI (F_V_inHunk x3 h)) my_yX5_inHunk vw_X5_60 (by decide) (T_V_inHunk (p1 := x3) (h := h) (hF := rfl)) rfl rfl rfl (Nat.le_of_ble_eq_true rfl) (by decide +kernel) ?_
      obtain ⟨s2, e5, hF⟩ := jn1_elim hF
      have j3 : K 29 [(0, vR 54), (1, vI x1), (3, vI x3)] [vI s2] h := by
        refine g_seg hK [.istore_n 2, .iload_n 1, .iload_n 2] 29 32 (L1 := [(2, vI s2), (0, vR 54), (1, vI x1), (3, vI x3)]) (st1 := [vI s2, vI x1]) (h1 := h) (P := True ∧ True ∧ True ∧ True) (by decide +kernel) rfl rfl ⟨trivial, trivial, trivial, trivial⟩ ?_
        refine g_mmax hK 32 101 (by decide) mw_X5_101 (Nat.le_of_ble_eq_true rfl) (by decide +kernel) ?_
        refine g_seg hK [.istore_n 1, .iinc 3 1] 35 39 (L1 := [(3, vI (wr (x3 + 1))), (1, vI (imax x1 s2)), (2, vI s2), (0, vR 54)]) (st1 := []) (h1 := h) (P := True ∧ True ∧ True) (by decide +kernel) rfl rfl ⟨trivial, trivial, trivial⟩ ?_
        refine g_goto hK 39 (-33) 6 (by decide +kernel) (by decide) ?_
        refine hK.2.1 _ _ ([(0, vR 54), (1, vI (imax x1 s2)), (2, vI s2), (3, vI (wr (x3 + 1)))]) _ _ (sub_of [3, 1, 2, 0] rfl) ?_
        exact ih _ _ _ _ _ _ hF hE
      clear hF
      have hF := e5
      refine g_ifz hK 19 .eq (7) 26 (t1 := 26) (t2 := 22) (by decide +kernel) (by decide) rfl rfl (fun (hc4 : F_V_inHunk x3 h = 0) => ?_) (fun (hc4 : ¬ (F_V_inHunk x3 h = 0)) => ?_)
      · have hF := ite_t hc4 hF
        refine g_seg hK [.iload_n 2, .iconst 1, .iadd] 26 29 (L1 := [(0, vR 54), (1, vI x1), (2, vI x2), (3, vI x3)]) (st1 := [vI (wr (x2 + 1))]) (h1 := h) (P := True ∧ True ∧ True ∧ True) (by decide +kernel) rfl rfl ⟨trivial, trivial, trivial, trivial⟩ ?_
        refine hK.2.1 _ _ ([(0, vR 54), (1, vI x1), (3, vI x3)]) _ _ (sub_of [0, 1, 3] rfl) ?_
        cases hF
        exact j3
      · have hF := ite_f hc4 hF
        refine g_seg hK [.iconst 0] 22 23 (L1 := [(0, vR 54), (1, vI x1), (2, vI x2), (3, vI x3)]) (st1 := [vI 0]) (h1 := h) (P := True ∧ True) (by decide +kernel) rfl rfl ⟨trivial, trivial⟩ ?_
        refine g_goto hK 23 (6) 29 (by decide +kernel) (by decide) ?_
        refine hK.2.1 _ _ ([(0, vR 54), (1, vI x1), (3, vI x3)]) _ _ (sub_of [0, 1, 3] rfl) ?_
        cases hF
        exact j3
    · have hF := ite_f hc1 hF
      cases hF
      exact hE
set_option maxHeartbeats 4000000 in
set_option maxRecDepth 100000 in
theorem T_V_longestKept {h : MH} {r : Int} (hF : F_V_longestKept h = some r) : CON 2 yX5_longestKept cX5_longestKept 4 (Option.some Jvm.ClassFile.FieldType.int) [vR 54] h (some (vI r)) h := by
  refine con_of (own := RX5) (fl := flX5) (by decide +kernel) rfl flok_X5 rfl (Nat.le_of_ble_eq_true rfl) ?_
  intro K hK hR
  show K 0 [(0, vR 54)] [] h
  unfold F_V_longestKept at hF
  refine g_seg hK [.iconst 0, .istore_n 1, .iconst 0, .istore_n 2, .iconst 0, .istore_n 3] 0 6 (L1 := [(3, vI 0), (2, vI 0), (1, vI 0), (0, vR 54)]) (st1 := []) (h1 := h) (P := True ∧ True ∧ True ∧ True ∧ True ∧ True ∧ True) (by decide +kernel) rfl rfl ⟨trivial, trivial, trivial, trivial, trivial, trivial, trivial⟩ ?_
  refine hK.2.1 _ _ ([(0, vR 54), (1, vI 0), (2, vI 0), (3, vI 0)]) _ _ (sub_of [3, 2, 1, 0] rfl) ?_
  obtain ⟨x1_1, x2_2, x3_3, e4, hF⟩ := ob3_elim hF
  refine LT_V_longestKept_L6 hK _ _ _ _ _ _ _ e4 ?_
  refine g_seg hK [.iload_n 1] 42 43 (L1 := [(0, vR 54), (1, vI x1_1), (2, vI x2_2), (3, vI x3_3)]) (st1 := [vI x1_1]) (h1 := h) (P := True ∧ True) (by decide +kernel) rfl rfl ⟨trivial, trivial⟩ ?_
  cases hF
  exact hR.1 43 _ _ _ (by decide +kernel) rfl ⟨rfl, rfl⟩
set_option maxHeartbeats 4000000 in
set_option maxRecDepth 100000 in
theorem T_X_shownNumber {p1 : Int} {h : MH} {r : Int} (hF : F_X_shownNumber p1 h = some r) : CON 4 yX6_shownNumber cX6_shownNumber 2 (Option.some Jvm.ClassFile.FieldType.int) [vR 0, vI p1] h (some (vI r)) h := by
  refine con_of (own := RX6) (fl := flX6) (by decide +kernel) rfl flok_X6 rfl (Nat.le_of_ble_eq_true rfl) ?_
  intro K hK hR
  show K 0 [(0, vR 0), (1, vI p1)] [] h
  unfold F_X_shownNumber at hF
  refine g_seg hK [.iload_n 1] 0 1 (L1 := [(0, vR 0), (1, vI p1)]) (st1 := [vI p1]) (h1 := h) (P := True ∧ True) (by decide +kernel) rfl rfl ⟨trivial, trivial⟩ ?_
  refine g_sw hK 1 114 3 10 #[47, 55, 64, 73, 82, 90, 98, 106] 47 (by decide +kernel) (by decide) ?_
  by_cases hc1 : p1 = 3
  · have hF := ite_t hc1 hF
    rw [show swT 1 114 3 10 [47, 55, 64, 73, 82, 90, 98, 106] p1 = 48 from by rw [hc1]; decide]
    refine g_seg hK [.aload_n 0, .getfield 52] 48 52 (L1 := [(0, vR 0), (1, vI p1)]) (st1 := [vR 54]) (h1 := h) (P := True ∧ kd 0 = 8 ∧ True) (by decide +kernel) rfl rfl ⟨trivial, rfl, trivial⟩ ?_
    refine g_callV1 hK 52 148 (d1 := 1) (ci := 5) (i := 54) (vs := []) (rest := []) (h1 := h) (r := vI (F_V_size h)) my_yX5_size vw_X6_148 (by decide) (T_V_size (h := h) (hF := rfl)) rfl rfl rfl (Nat.le_of_ble_eq_true rfl) (by decide +kernel) ?_
    cases hF
    exact hR.1 55 _ _ _ (by decide +kernel) rfl ⟨rfl, rfl⟩
  · have hF := ite_f hc1 hF
    by_cases hc2 : p1 = 4
    · have hF := ite_t hc2 hF
      rw [show swT 1 114 3 10 [47, 55, 64, 73, 82, 90, 98, 106] p1 = 56 from by rw [hc2]; decide]
      refine g_seg hK [.aload_n 0, .getfield 52, .iconst 0] 56 61 (L1 := [(0, vR 0), (1, vI p1)]) (st1 := [vI 0, vR 54]) (h1 := h) (P := True ∧ kd 0 = 8 ∧ True ∧ True) (by decide +kernel) rfl rfl ⟨trivial, rfl, trivial, trivial⟩ ?_
      obtain ⟨r3, e4, hF⟩ := ob1_elim hF
      refine g_callV1 hK 61 240 (d1 := 2) (ci := 5) (i := 54) (vs := [vI 0]) (rest := []) (h1 := h) (r := vI r3) my_yX5_linesOfKind vw_X6_240 (by decide) (T_V_linesOfKind (p1 := 0) (h := h) (hF := e4)) rfl rfl rfl (Nat.le_of_ble_eq_true rfl) (by decide +kernel) ?_
      cases hF
      exact hR.1 64 _ _ _ (by decide +kernel) rfl ⟨rfl, rfl⟩
    · have hF := ite_f hc2 hF
      by_cases hc5 : p1 = 5
      · have hF := ite_t hc5 hF
        rw [show swT 1 114 3 10 [47, 55, 64, 73, 82, 90, 98, 106] p1 = 65 from by rw [hc5]; decide]
        refine g_seg hK [.aload_n 0, .getfield 52, .iconst 1] 65 70 (L1 := [(0, vR 0), (1, vI p1)]) (st1 := [vI 1, vR 54]) (h1 := h) (P := True ∧ kd 0 = 8 ∧ True ∧ True) (by decide +kernel) rfl rfl ⟨trivial, rfl, trivial, trivial⟩ ?_
        obtain ⟨r6, e7, hF⟩ := ob1_elim hF
        refine g_callV1 hK 70 240 (d1 := 2) (ci := 5) (i := 54) (vs := [vI 1]) (rest := []) (h1 := h) (r := vI r6) my_yX5_linesOfKind vw_X6_240 (by decide) (T_V_linesOfKind (p1 := 1) (h := h) (hF := e7)) rfl rfl rfl (Nat.le_of_ble_eq_true rfl) (by decide +kernel) ?_
        cases hF
        exact hR.1 73 _ _ _ (by decide +kernel) rfl ⟨rfl, rfl⟩
      · have hF := ite_f hc5 hF
        by_cases hc8 : p1 = 6
        · have hF := ite_t hc8 hF
          rw [show swT 1 114 3 10 [47, 55, 64, 73, 82, 90, 98, 106] p1 = 74 from by rw [hc8]; decide]
          refine g_seg hK [.aload_n 0, .getfield 52, .iconst 2] 74 79 (L1 := [(0, vR 0), (1, vI p1)]) (st1 := [vI 2, vR 54]) (h1 := h) (P := True ∧ kd 0 = 8 ∧ True ∧ True) (by decide +kernel) rfl rfl ⟨trivial, rfl, trivial, trivial⟩ ?_
          obtain ⟨r9, e10, hF⟩ := ob1_elim hF
          refine g_callV1 hK 79 240 (d1 := 2) (ci := 5) (i := 54) (vs := [vI 2]) (rest := []) (h1 := h) (r := vI r9) my_yX5_linesOfKind vw_X6_240 (by decide) (T_V_linesOfKind (p1 := 2) (h := h) (hF := e10)) rfl rfl rfl (Nat.le_of_ble_eq_true rfl) (by decide +kernel) ?_
          cases hF
          exact hR.1 82 _ _ _ (by decide +kernel) rfl ⟨rfl, rfl⟩
        · have hF := ite_f hc8 hF
          by_cases hc11 : p1 = 7
          · have hF := ite_t hc11 hF
            rw [show swT 1 114 3 10 [47, 55, 64, 73, 82, 90, 98, 106] p1 = 83 from by rw [hc11]; decide]
            refine g_seg hK [.aload_n 0, .getfield 52] 83 87 (L1 := [(0, vR 0), (1, vI p1)]) (st1 := [vR 54]) (h1 := h) (P := True ∧ kd 0 = 8 ∧ True) (by decide +kernel) rfl rfl ⟨trivial, rfl, trivial⟩ ?_
            refine g_callV1 hK 87 135 (d1 := 1) (ci := 5) (i := 54) (vs := []) (rest := []) (h1 := h) (r := vI (F_V_hunks h)) my_yX5_hunks vw_X6_135 (by decide) (T_V_hunks (h := h) (hF := rfl)) rfl rfl rfl (Nat.le_of_ble_eq_true rfl) (by decide +kernel) ?_
            cases hF
            exact hR.1 90 _ _ _ (by decide +kernel) rfl ⟨rfl, rfl⟩
          · have hF := ite_f hc11 hF
            by_cases hc12 : p1 = 8
            · have hF := ite_t hc12 hF
              rw [show swT 1 114 3 10 [47, 55, 64, 73, 82, 90, 98, 106] p1 = 91 from by rw [hc12]; decide]
              refine g_seg hK [.aload_n 0, .getfield 52] 91 95 (L1 := [(0, vR 0), (1, vI p1)]) (st1 := [vR 54]) (h1 := h) (P := True ∧ kd 0 = 8 ∧ True) (by decide +kernel) rfl rfl ⟨trivial, rfl, trivial⟩ ?_
              obtain ⟨r13, e14, hF⟩ := ob1_elim hF
              refine g_callV1 hK 95 243 (d1 := 2) (ci := 5) (i := 54) (vs := []) (rest := []) (h1 := h) (r := vI r13) my_yX5_plainHunks vw_X6_243 (by decide) (T_V_plainHunks (h := h) (hF := e14)) rfl rfl rfl (Nat.le_of_ble_eq_true rfl) (by decide +kernel) ?_
              cases hF
              exact hR.1 98 _ _ _ (by decide +kernel) rfl ⟨rfl, rfl⟩
            · have hF := ite_f hc12 hF
              by_cases hc15 : p1 = 9
              · have hF := ite_t hc15 hF
                rw [show swT 1 114 3 10 [47, 55, 64, 73, 82, 90, 98, 106] p1 = 99 from by rw [hc15]; decide]
                refine g_seg hK [.aload_n 0, .getfield 52] 99 103 (L1 := [(0, vR 0), (1, vI p1)]) (st1 := [vR 54]) (h1 := h) (P := True ∧ kd 0 = 8 ∧ True) (by decide +kernel) rfl rfl ⟨trivial, rfl, trivial⟩ ?_
                obtain ⟨r16, e17, hF⟩ := ob1_elim hF
                refine g_callV1 hK 103 246 (d1 := 3) (ci := 5) (i := 54) (vs := []) (rest := []) (h1 := h) (r := vI r16) my_yX5_slidingHunks vw_X6_246 (by decide) (T_V_slidingHunks (h := h) (hF := e17)) rfl rfl rfl (Nat.le_of_ble_eq_true rfl) (by decide +kernel) ?_
                cases hF
                exact hR.1 106 _ _ _ (by decide +kernel) rfl ⟨rfl, rfl⟩
              · have hF := ite_f hc15 hF
                by_cases hc18 : p1 = 10
                · have hF := ite_t hc18 hF
                  rw [show swT 1 114 3 10 [47, 55, 64, 73, 82, 90, 98, 106] p1 = 107 from by rw [hc18]; decide]
                  refine g_seg hK [.aload_n 0, .getfield 52] 107 111 (L1 := [(0, vR 0), (1, vI p1)]) (st1 := [vR 54]) (h1 := h) (P := True ∧ kd 0 = 8 ∧ True) (by decide +kernel) rfl rfl ⟨trivial, rfl, trivial⟩ ?_
                  obtain ⟨r19, e20, hF⟩ := ob1_elim hF
                  refine g_callV1 hK 111 249 (d1 := 3) (ci := 5) (i := 54) (vs := []) (rest := []) (h1 := h) (r := vI r19) my_yX5_worthOfAll vw_X6_249 (by decide) (T_V_worthOfAll (h := h) (hF := e20)) rfl rfl rfl (Nat.le_of_ble_eq_true rfl) (by decide +kernel) ?_
                  cases hF
                  exact hR.1 114 _ _ _ (by decide +kernel) rfl ⟨rfl, rfl⟩
                · have hF := ite_f hc18 hF
                  rw [show swT 1 114 3 10 [47, 55, 64, 73, 82, 90, 98, 106] p1 = 115 from by unfold swT; rw [if_pos (by omega)]; decide]
                  refine g_seg hK [.aload_n 0, .getfield 52] 115 119 (L1 := [(0, vR 0), (1, vI p1)]) (st1 := [vR 54]) (h1 := h) (P := True ∧ kd 0 = 8 ∧ True) (by decide +kernel) rfl rfl ⟨trivial, rfl, trivial⟩ ?_
                  obtain ⟨r21, e22, hF⟩ := ob1_elim hF
                  refine g_callV1 hK 119 252 (d1 := 2) (ci := 5) (i := 54) (vs := []) (rest := []) (h1 := h) (r := vI r21) my_yX5_longestKept vw_X6_252 (by decide) (T_V_longestKept (h := h) (hF := e22)) rfl rfl rfl (Nat.le_of_ble_eq_true rfl) (by decide +kernel) ?_
                  cases hF
                  exact hR.1 122 _ _ _ (by decide +kernel) rfl ⟨rfl, rfl⟩
set_option maxHeartbeats 4000000 in
set_option maxRecDepth 100000 in
theorem T_X_count {p1 : Int} {h : MH} {r : Int} {h' : MH} (hF : F_X_count p1 h = some (r, h')) : CON 6 yX6_count cX6_count 2 (Option.some Jvm.ClassFile.FieldType.int) [vR 0, vI p1] h (some (vI r)) h' := by
  refine con_of (own := RX6) (fl := flX6) (by decide +kernel) rfl flok_X6 rfl (Nat.le_of_ble_eq_true rfl) ?_
  intro K hK hR
  show K 0 [(0, vR 0), (1, vI p1)] [] h
  unfold F_X_count at hF
  refine g_seg hK [.iload_n 1] 0 1 (L1 := [(0, vR 0), (1, vI p1)]) (st1 := [vI p1]) (h1 := h) (P := True ∧ True) (by decide +kernel) rfl rfl ⟨trivial, trivial⟩ ?_
  refine g_ifz hK 1 .lt (9) 10 (t1 := 10) (t2 := 4) (by decide +kernel) (by decide) rfl rfl (fun (hc1 : p1 < 0) => ?_) (fun (hc1 : ¬ (p1 < 0)) => ?_)
  · have hF := ite_t hc1 hF
    refine g_seg hK [.iconst (-1)] 10 11 (L1 := [(0, vR 0), (1, vI p1)]) (st1 := [vI (-1)]) (h1 := h) (P := True ∧ True) (by decide +kernel) rfl rfl ⟨trivial, trivial⟩ ?_
    cases hF
    exact hR.1 11 _ _ _ (by decide +kernel) rfl ⟨rfl, rfl⟩
  · have hF := ite_f hc1 hF
    refine g_seg hK [.iload_n 1, .bipush 17] 4 7 (L1 := [(0, vR 0), (1, vI p1)]) (st1 := [vI 17, vI p1]) (h1 := h) (P := True ∧ True ∧ True) (by decide +kernel) rfl rfl ⟨trivial, trivial, trivial⟩ ?_
    refine g_icmp hK 7 .le (5) 12 (t1 := 12) (t2 := 10) (by decide +kernel) (by decide) rfl rfl (fun (hc2 : p1 ≤ 17) => ?_) (fun (hc2 : ¬ (p1 ≤ 17)) => ?_)
    · have hF := ite_t hc2 hF
      refine g_seg hK [.iload_n 1] 12 13 (L1 := [(0, vR 0), (1, vI p1)]) (st1 := [vI p1]) (h1 := h) (P := True ∧ True) (by decide +kernel) rfl rfl ⟨trivial, trivial⟩ ?_
      refine g_callS1 hK 13 77 (d1 := 0) (vs := [vI p1]) (rest := []) (h1 := h) (r := vI (F_X_isText p1)) my_yX6_isText sw_X6_77 (by decide) (T_X_isText (p1 := p1) (h := h) (hF := rfl)) rfl (Nat.le_of_ble_eq_true rfl) (by decide +kernel) ?_
      refine g_ifz hK 16 .eq (15) 31 (t1 := 31) (t2 := 19) (by decide +kernel) (by decide) rfl rfl (fun (hc3 : F_X_isText p1 = 0) => ?_) (fun (hc3 : ¬ (F_X_isText p1 = 0)) => ?_)
      · have hF := ite_t hc3 hF
        refine g_seg hK [.iload_n 1, .bipush 11] 31 34 (L1 := [(0, vR 0), (1, vI p1)]) (st1 := [vI 11, vI p1]) (h1 := h) (P := True ∧ True ∧ True) (by decide +kernel) rfl rfl ⟨trivial, trivial, trivial⟩ ?_
        refine g_icmp hK 34 .le (9) 43 (t1 := 43) (t2 := 37) (by decide +kernel) (by decide) rfl rfl (fun (hc4 : p1 ≤ 11) => ?_) (fun (hc4 : ¬ (p1 ≤ 11)) => ?_)
        · have hF := ite_t hc4 hF
          refine g_seg hK [.aload_n 0] 43 44 (L1 := [(0, vR 0), (1, vI p1)]) (st1 := [vR 0]) (h1 := h) (P := True ∧ True) (by decide +kernel) rfl rfl ⟨trivial, trivial⟩ ?_
          obtain ⟨h5, e6, hF⟩ := ob1_elim hF
          refine g_callV0 hK 44 118 (d1 := 5) (ci := 6) (i := 0) (vs := []) (rest := []) (h1 := h5) my_yX6_show vw_X6_118 (by decide) (T_X_show (h := h) (hF := e6)) rfl rfl rfl (Nat.le_of_ble_eq_true rfl) (by decide +kernel) ?_
          refine g_seg hK [.aload_n 0, .iload_n 1] 47 49 (L1 := [(0, vR 0), (1, vI p1)]) (st1 := [vI p1, vR 0]) (h1 := h5) (P := True ∧ True ∧ True) (by decide +kernel) rfl rfl ⟨trivial, trivial, trivial⟩ ?_
          obtain ⟨r7, e8, hF⟩ := ob1_elim hF
          refine g_callV1 hK 49 197 (d1 := 4) (ci := 6) (i := 0) (vs := [vI p1]) (rest := []) (h1 := h5) (r := vI r7) my_yX6_shownNumber vw_X6_197 (by decide) (T_X_shownNumber (p1 := p1) (h := h5) (hF := e8)) rfl rfl rfl (Nat.le_of_ble_eq_true rfl) (by decide +kernel) ?_
          cases hF
          exact hR.1 52 _ _ _ (by decide +kernel) rfl ⟨rfl, rfl⟩
        · have hF := ite_f hc4 hF
          refine g_seg hK [.aload_n 0, .iload_n 1] 37 39 (L1 := [(0, vR 0), (1, vI p1)]) (st1 := [vI p1, vR 0]) (h1 := h) (P := True ∧ True ∧ True) (by decide +kernel) rfl rfl ⟨trivial, trivial, trivial⟩ ?_
          refine g_callV1 hK 39 194 (d1 := 1) (ci := 6) (i := 0) (vs := [vI p1]) (rest := []) (h1 := h) (r := vI (F_X_heldNumber p1 h)) my_yX6_heldNumber vw_X6_194 (by decide) (T_X_heldNumber (p1 := p1) (h := h) (hF := rfl)) rfl rfl rfl (Nat.le_of_ble_eq_true rfl) (by decide +kernel) ?_
          cases hF
          exact hR.1 42 _ _ _ (by decide +kernel) rfl ⟨rfl, rfl⟩
      · have hF := ite_f hc3 hF
        refine g_seg hK [.aload_n 0, .getfield 21, .iload_n 1] 19 24 (L1 := [(0, vR 0), (1, vI p1)]) (st1 := [vI p1, vR 3]) (h1 := h) (P := True ∧ kd 0 = 8 ∧ True ∧ True) (by decide +kernel) rfl rfl ⟨trivial, rfl, trivial, trivial⟩ ?_
        refine g_callV1 hK 24 88 (d1 := 0) (ci := 4) (i := 3) (vs := [vI p1]) (rest := []) (h1 := h) (r := vR (F_St_text 3 p1)) my_yX4_text vw_X6_88 (by decide) (T_St_text (o := 3) (p1 := p1) (h := h) (ks := rfl) (hF := rfl)) rfl rfl rfl (Nat.le_of_ble_eq_true rfl) (by decide +kernel) ?_
        refine g_callV1 hK 27 63 (d1 := 0) (ci := 3) (i := F_St_text 3 p1) (vs := []) (rest := []) (h1 := h) (r := vI (F_Ro_size (F_St_text 3 p1) h)) my_yX3_size vw_X6_63 (by decide) (T_Ro_size (o := (F_St_text 3 p1)) (h := h) (ko := (kd_St_text rfl)) (hF := rfl)) (kd_St_text rfl) rfl rfl (Nat.le_of_ble_eq_true rfl) (by decide +kernel) ?_
        cases hF
        exact hR.1 30 _ _ _ (by decide +kernel) rfl ⟨rfl, rfl⟩
    · have hF := ite_f hc2 hF
      refine g_seg hK [.iconst (-1)] 10 11 (L1 := [(0, vR 0), (1, vI p1)]) (st1 := [vI (-1)]) (h1 := h) (P := True ∧ True) (by decide +kernel) rfl rfl ⟨trivial, trivial⟩ ?_
      cases hF
      exact hR.1 11 _ _ _ (by decide +kernel) rfl ⟨rfl, rfl⟩
set_option maxHeartbeats 4000000 in
set_option maxRecDepth 100000 in
theorem T_X_alike {h : MH} {r : UInt64} {h' : MH} (hF : F_X_alike h = some (r, h')) : CON 4 yX6_alike cX6_alike 3 (Option.some Jvm.ClassFile.FieldType.double) [vR 0] h (some (vD r)) h' := by
  refine con_of (own := RX6) (fl := flX6) (by decide +kernel) rfl flok_X6 rfl (Nat.le_of_ble_eq_true rfl) ?_
  intro K hK hR
  show K 0 [(0, vR 0)] [] h
  unfold F_X_alike at hF
  refine g_seg hK [.aload_n 0, .getfield 21, .iconst 0] 0 5 (L1 := [(0, vR 0)]) (st1 := [vI 0, vR 3]) (h1 := h) (P := True ∧ kd 0 = 8 ∧ True ∧ True) (by decide +kernel) rfl rfl ⟨trivial, rfl, trivial, trivial⟩ ?_
  refine g_callV1 hK 5 88 (d1 := 0) (ci := 4) (i := 3) (vs := [vI 0]) (rest := []) (h1 := h) (r := vR (F_St_text 3 0)) my_yX4_text vw_X6_88 (by decide) (T_St_text (o := 3) (p1 := 0) (h := h) (ks := rfl) (hF := rfl)) rfl rfl rfl (Nat.le_of_ble_eq_true rfl) (by decide +kernel) ?_
  refine g_callV1 hK 8 63 (d1 := 0) (ci := 3) (i := F_St_text 3 0) (vs := []) (rest := []) (h1 := h) (r := vI (F_Ro_size (F_St_text 3 0) h)) my_yX3_size vw_X6_63 (by decide) (T_Ro_size (o := (F_St_text 3 0)) (h := h) (ko := (kd_St_text rfl)) (hF := rfl)) (kd_St_text rfl) rfl rfl (Nat.le_of_ble_eq_true rfl) (by decide +kernel) ?_
  refine g_seg hK [.aload_n 0, .getfield 21, .iconst 1] 11 16 (L1 := [(0, vR 0)]) (st1 := [vI 1, vR 3, vI (F_Ro_size (F_St_text 3 0) h)]) (h1 := h) (P := True ∧ kd 0 = 8 ∧ True ∧ True) (by decide +kernel) rfl rfl ⟨trivial, rfl, trivial, trivial⟩ ?_
  refine g_callV1 hK 16 88 (d1 := 0) (ci := 4) (i := 3) (vs := [vI 1]) (rest := [vI (F_Ro_size (F_St_text 3 0) h)]) (h1 := h) (r := vR (F_St_text 3 1)) my_yX4_text vw_X6_88 (by decide) (T_St_text (o := 3) (p1 := 1) (h := h) (ks := rfl) (hF := rfl)) rfl rfl rfl (Nat.le_of_ble_eq_true rfl) (by decide +kernel) ?_
  refine g_callV1 hK 19 63 (d1 := 0) (ci := 3) (i := F_St_text 3 1) (vs := []) (rest := [vI (F_Ro_size (F_St_text 3 0) h)]) (h1 := h) (r := vI (F_Ro_size (F_St_text 3 1) h)) my_yX3_size vw_X6_63 (by decide) (T_Ro_size (o := (F_St_text 3 1)) (h := h) (ko := (kd_St_text rfl)) (hF := rfl)) (kd_St_text rfl) rfl rfl (Nat.le_of_ble_eq_true rfl) (by decide +kernel) ?_
  refine g_seg hK [.iadd, .istore_n 1, .iload_n 1] 22 25 (L1 := [(1, vI (wr ((F_Ro_size (F_St_text 3 0) h) + (F_Ro_size (F_St_text 3 1) h)))), (0, vR 0)]) (st1 := [vI (wr ((F_Ro_size (F_St_text 3 0) h) + (F_Ro_size (F_St_text 3 1) h)))]) (h1 := h) (P := True ∧ True ∧ True ∧ True) (by decide +kernel) rfl rfl ⟨trivial, trivial, trivial, trivial⟩ ?_
  refine g_ifz hK 25 .ne (5) 30 (t1 := 28) (t2 := 30) (by decide +kernel) (by decide) rfl rfl (fun (hc1 : wr ((F_Ro_size (F_St_text 3 0) h) + (F_Ro_size (F_St_text 3 1) h)) = 0) => ?_) (fun (hc1 : ¬ (wr ((F_Ro_size (F_St_text 3 0) h) + (F_Ro_size (F_St_text 3 1) h)) = 0)) => ?_)
  · have hF := ite_t hc1 hF
    refine g_seg hK [.dconst 1] 28 29 (L1 := [(1, vI (wr ((F_Ro_size (F_St_text 3 0) h) + (F_Ro_size (F_St_text 3 1) h)))), (0, vR 0)]) (st1 := [vD FP.dconst1]) (h1 := h) (P := True ∧ True) (by decide +kernel) rfl rfl ⟨trivial, trivial⟩ ?_
    cases hF
    exact hR.2.2.2.1 29 _ _ _ (by decide +kernel) rfl ⟨rfl, rfl⟩
  · have hF := ite_f hc1 hF
    refine g_seg hK [.aload_n 0, .getfield 45, .aload_n 0, .getfield 21, .iconst 0] 30 39 (L1 := [(1, vI (wr ((F_Ro_size (F_St_text 3 0) h) + (F_Ro_size (F_St_text 3 1) h)))), (0, vR 0)]) (st1 := [vI 0, vR 3, vR 49]) (h1 := h) (P := True ∧ kd 0 = 8 ∧ True ∧ kd 0 = 8 ∧ True ∧ True) (by decide +kernel) rfl rfl ⟨trivial, rfl, trivial, rfl, trivial, trivial⟩ ?_
    refine g_callV1 hK 39 88 (d1 := 0) (ci := 4) (i := 3) (vs := [vI 0]) (rest := [vR 49]) (h1 := h) (r := vR (F_St_text 3 0)) my_yX4_text vw_X6_88 (by decide) (T_St_text (o := 3) (p1 := 0) (h := h) (ks := rfl) (hF := rfl)) rfl rfl rfl (Nat.le_of_ble_eq_true rfl) (by decide +kernel) ?_
    refine g_seg hK [.aload_n 0, .getfield 21, .iconst 1] 42 47 (L1 := [(1, vI (wr ((F_Ro_size (F_St_text 3 0) h) + (F_Ro_size (F_St_text 3 1) h)))), (0, vR 0)]) (st1 := [vI 1, vR 3, vR (F_St_text 3 0), vR 49]) (h1 := h) (P := True ∧ kd 0 = 8 ∧ True ∧ True) (by decide +kernel) rfl rfl ⟨trivial, rfl, trivial, trivial⟩ ?_
    refine g_callV1 hK 47 88 (d1 := 0) (ci := 4) (i := 3) (vs := [vI 1]) (rest := [vR (F_St_text 3 0), vR 49]) (h1 := h) (r := vR (F_St_text 3 1)) my_yX4_text vw_X6_88 (by decide) (T_St_text (o := 3) (p1 := 1) (h := h) (ks := rfl) (hF := rfl)) rfl rfl rfl (Nat.le_of_ble_eq_true rfl) (by decide +kernel) ?_
    obtain ⟨r2, h3, e4, hF⟩ := ob2_elim hF
    refine g_callV1 hK 50 200 (d1 := 3) (ci := 0) (i := 49) (vs := [vR (F_St_text 3 0), vR (F_St_text 3 1)]) (rest := []) (h1 := h3) (r := vI r2) my_yX0_keptOf vw_X6_200 (by decide) (T_C_keptOf (p1 := (F_St_text 3 0)) (p2 := (F_St_text 3 1)) (h := h) (kp1 := (kd_St_text rfl)) (kp2 := (kd_St_text rfl)) (hF := e4)) rfl rfl rfl (Nat.le_of_ble_eq_true rfl) (by decide +kernel) ?_
    refine g_seg hK [.istore_n 2, .iconst 2, .iload_n 2, .imul, .i2d, .iload_n 1, .i2d] 53 60 (L1 := [(2, vI r2), (1, vI (wr ((F_Ro_size (F_St_text 3 0) h) + (F_Ro_size (F_St_text 3 1) h)))), (0, vR 0)]) (st1 := [vD (FP.i2d (Int32.ofInt (wr ((F_Ro_size (F_St_text 3 0) h) + (F_Ro_size (F_St_text 3 1) h))))), vD (FP.i2d (Int32.ofInt (wr (2 * r2))))]) (h1 := h3) (P := True ∧ True ∧ True ∧ True ∧ True ∧ True ∧ True ∧ True) (by decide +kernel) rfl rfl ⟨trivial, trivial, trivial, trivial, trivial, trivial, trivial, trivial⟩ ?_
    obtain ⟨hg5, hF⟩ := gd_elim hF
    refine g_seg hK [.ddiv] 60 61 (L1 := [(2, vI r2), (1, vI (wr ((F_Ro_size (F_St_text 3 0) h) + (F_Ro_size (F_St_text 3 1) h)))), (0, vR 0)]) (st1 := [vD (FP.ddiv (FP.i2d (Int32.ofInt (wr (2 * r2)))) (FP.i2d (Int32.ofInt (wr ((F_Ro_size (F_St_text 3 0) h) + (F_Ro_size (F_St_text 3 1) h))))))]) (h1 := h3) (P := vf_n64 (FP.ddiv (FP.i2d (Int32.ofInt (wr (2 * r2)))) (FP.i2d (Int32.ofInt (wr ((F_Ro_size (F_St_text 3 0) h) + (F_Ro_size (F_St_text 3 1) h)))))) ∧ True) (by decide +kernel) rfl rfl ⟨hg5, trivial⟩ ?_
    cases hF
    exact hR.2.2.2.1 61 _ _ _ (by decide +kernel) rfl ⟨rfl, rfl⟩
set_option maxHeartbeats 4000000 in
set_option maxRecDepth 100000 in
theorem T_La_placeOf {p1 : Int} {h : MH} {r : Int} (hF : F_La_placeOf p1 h = r) : CON 1 yX2_placeOf cX2_placeOf 2 (Option.some Jvm.ClassFile.FieldType.int) [vR 65, vI p1] h (some (vI r)) h := by
  refine con_of (own := RX2) (fl := flX2) (by decide +kernel) rfl flok_X2 rfl (Nat.le_of_ble_eq_true rfl) ?_
  intro K hK hR
  show K 0 [(0, vR 65), (1, vI p1)] [] h
  unfold F_La_placeOf at hF
  refine g_seg hK [.aload_n 0, .getfield 26, .iload_n 1] 0 5 (L1 := [(0, vR 65), (1, vI p1)]) (st1 := [vI p1, vR 72]) (h1 := h) (P := True ∧ kd 65 = 4 ∧ True ∧ True) (by decide +kernel) rfl rfl ⟨trivial, rfl, trivial, trivial⟩ ?_
  refine g_callV1 hK 5 65 (d1 := 0) (ci := 3) (i := 72) (vs := [vI p1]) (rest := []) (h1 := h) (r := vI (F_Ro_at 72 p1 h)) my_yX3_at vw_X2_65 (by decide) (T_Ro_at (o := 72) (p1 := p1) (h := h) (ko := rfl) (hF := rfl)) rfl rfl rfl (Nat.le_of_ble_eq_true rfl) (by decide +kernel) ?_
  cases hF
  exact hR.1 8 _ _ _ (by decide +kernel) rfl ⟨rfl, rfl⟩
set_option maxHeartbeats 4000000 in
set_option maxRecDepth 100000 in
theorem T_La_lowerOf {p1 : Int} {h : MH} {r : Int} (hF : F_La_lowerOf p1 h = r) : CON 1 yX2_lowerOf cX2_lowerOf 2 (Option.some Jvm.ClassFile.FieldType.int) [vR 65, vI p1] h (some (vI r)) h := by
  refine con_of (own := RX2) (fl := flX2) (by decide +kernel) rfl flok_X2 rfl (Nat.le_of_ble_eq_true rfl) ?_
  intro K hK hR
  show K 0 [(0, vR 65), (1, vI p1)] [] h
  unfold F_La_lowerOf at hF
  refine g_seg hK [.aload_n 0, .getfield 29, .iload_n 1] 0 5 (L1 := [(0, vR 65), (1, vI p1)]) (st1 := [vI p1, vR 74]) (h1 := h) (P := True ∧ kd 65 = 4 ∧ True ∧ True) (by decide +kernel) rfl rfl ⟨trivial, rfl, trivial, trivial⟩ ?_
  refine g_callV1 hK 5 65 (d1 := 0) (ci := 3) (i := 74) (vs := [vI p1]) (rest := []) (h1 := h) (r := vI (F_Ro_at 74 p1 h)) my_yX3_at vw_X2_65 (by decide) (T_Ro_at (o := 74) (p1 := p1) (h := h) (ko := rfl) (hF := rfl)) rfl rfl rfl (Nat.le_of_ble_eq_true rfl) (by decide +kernel) ?_
  cases hF
  exact hR.1 8 _ _ _ (by decide +kernel) rfl ⟨rfl, rfl⟩
set_option maxHeartbeats 4000000 in
set_option maxRecDepth 100000 in
theorem T_X_ifLaid {p1 : Int} {p2 : Int} {p3 : Int} {h : MH} {r : Int} {h' : MH} (hF : F_X_ifLaid p1 p2 p3 h = some (r, h')) : CON 6 yX6_ifLaid cX6_ifLaid 5 (Option.some Jvm.ClassFile.FieldType.int) [vR 0, vI p1, vI p2, vI p3] h (some (vI r)) h' := by
  refine con_of (own := RX6) (fl := flX6) (by decide +kernel) rfl flok_X6 rfl (Nat.le_of_ble_eq_true rfl) ?_
  intro K hK hR
  show K 0 [(0, vR 0), (1, vI p1), (2, vI p2), (3, vI p3)] [] h
  unfold F_X_ifLaid at hF
  refine g_seg hK [.iload_n 3] 0 1 (L1 := [(0, vR 0), (1, vI p1), (2, vI p2), (3, vI p3)]) (st1 := [vI p3]) (h1 := h) (P := True ∧ True) (by decide +kernel) rfl rfl ⟨trivial, trivial⟩ ?_
  obtain ⟨kj2, e10, hF⟩ := jk1_elim hF
  have j2 : ∀ (u1 : Unit), kj2 u1 = some (r, h') → K 11 [(0, vR 0), (1, vI p1), (2, vI p2), (3, vI p3)] [] h := by
    intro u1 hF
    have hF := (e10 u1).symm.trans hF
    refine g_seg hK [.aload_n 0] 11 12 (L1 := [(0, vR 0), (1, vI p1), (2, vI p2), (3, vI p3)]) (st1 := [vR 0]) (h1 := h) (P := True ∧ True) (by decide +kernel) rfl rfl ⟨trivial, trivial⟩ ?_
    obtain ⟨h3, e4, hF⟩ := ob1_elim hF
    refine g_callV0 hK 12 118 (d1 := 5) (ci := 6) (i := 0) (vs := []) (rest := []) (h1 := h3) my_yX6_show vw_X6_118 (by decide) (T_X_show (h := h) (hF := e4)) rfl rfl rfl (Nat.le_of_ble_eq_true rfl) (by decide +kernel) ?_
    refine g_seg hK [.aload_n 0, .getfield 52, .iload_n 1] 15 20 (L1 := [(0, vR 0), (1, vI p1), (2, vI p2), (3, vI p3)]) (st1 := [vI p1, vR 54]) (h1 := h3) (P := True ∧ kd 0 = 8 ∧ True ∧ True) (by decide +kernel) rfl rfl ⟨trivial, rfl, trivial, trivial⟩ ?_
    refine g_callV1 hK 20 164 (d1 := 2) (ci := 5) (i := 54) (vs := [vI p1]) (rest := []) (h1 := h3) (r := vI (F_V_has p1 h3)) my_yX5_has vw_X6_164 (by decide) (T_V_has (p1 := p1) (h := h3) (hF := rfl)) rfl rfl rfl (Nat.le_of_ble_eq_true rfl) (by decide +kernel) ?_
    refine g_ifz hK 23 .ne (5) 28 (t1 := 26) (t2 := 28) (by decide +kernel) (by decide) rfl rfl (fun (hc5 : F_V_has p1 h3 = 0) => ?_) (fun (hc5 : ¬ (F_V_has p1 h3 = 0)) => ?_)
    · have hF := ite_t hc5 hF
      refine g_seg hK [.iconst (-1)] 26 27 (L1 := [(0, vR 0), (1, vI p1), (2, vI p2), (3, vI p3)]) (st1 := [vI (-1)]) (h1 := h3) (P := True ∧ True) (by decide +kernel) rfl rfl ⟨trivial, trivial⟩ ?_
      cases hF
      exact hR.1 27 _ _ _ (by decide +kernel) rfl ⟨rfl, rfl⟩
    · have hF := ite_f hc5 hF
      refine g_seg hK [.aload_n 0, .getfield 59, .aload_n 0, .getfield 52, .aload_n 0, .getfield 21, .iconst 2] 28 41 (L1 := [(0, vR 0), (1, vI p1), (2, vI p2), (3, vI p3)]) (st1 := [vI 2, vR 3, vR 54, vR 65]) (h1 := h3) (P := True ∧ kd 0 = 8 ∧ True ∧ kd 0 = 8 ∧ True ∧ kd 0 = 8 ∧ True ∧ True) (by decide +kernel) rfl rfl ⟨trivial, rfl, trivial, rfl, trivial, rfl, trivial, trivial⟩ ?_
      refine g_callV1 hK 41 88 (d1 := 0) (ci := 4) (i := 3) (vs := [vI 2]) (rest := [vR 54, vR 65]) (h1 := h3) (r := vR (F_St_text 3 2)) my_yX4_text vw_X6_88 (by decide) (T_St_text (o := 3) (p1 := 2) (h := h3) (ks := rfl) (hF := rfl)) rfl rfl rfl (Nat.le_of_ble_eq_true rfl) (by decide +kernel) ?_
      refine g_seg hK [.aload_n 0, .getfield 21, .iconst 0] 44 49 (L1 := [(0, vR 0), (1, vI p1), (2, vI p2), (3, vI p3)]) (st1 := [vI 0, vR 3, vR (F_St_text 3 2), vR 54, vR 65]) (h1 := h3) (P := True ∧ kd 0 = 8 ∧ True ∧ True) (by decide +kernel) rfl rfl ⟨trivial, rfl, trivial, trivial⟩ ?_
      refine g_callV1 hK 49 112 (d1 := 0) (ci := 4) (i := 3) (vs := [vI 0]) (rest := [vR (F_St_text 3 2), vR 54, vR 65]) (h1 := h3) (r := vI (F_St_setting 3 0 h3)) my_yX4_setting vw_X6_112 (by decide) (T_St_setting (o := 3) (p1 := 0) (h := h3) (ks := rfl) (hF := rfl)) rfl rfl rfl (Nat.le_of_ble_eq_true rfl) (by decide +kernel) ?_
      refine g_seg hK [.iload_n 2] 52 53 (L1 := [(0, vR 0), (1, vI p1), (2, vI p2), (3, vI p3)]) (st1 := [vI p2, vI (F_St_setting 3 0 h3), vR (F_St_text 3 2), vR 54, vR 65]) (h1 := h3) (P := True ∧ True) (by decide +kernel) rfl rfl ⟨trivial, trivial⟩ ?_
      obtain ⟨h6, e7, hF⟩ := ob1_elim hF
      refine g_callV0 hK 53 121 (d1 := 5) (ci := 2) (i := 65) (vs := [vR 54, vR (F_St_text 3 2), vI (F_St_setting 3 0 h3), vI p2]) (rest := []) (h1 := h6) my_yX2_layAll vw_X6_121 (by decide) (T_La_layAll (p2 := (F_St_text 3 2)) (p3 := (F_St_setting 3 0 h3)) (p4 := p2) (h := h3) (kp2 := (kd_St_text rfl)) (hF := e7)) rfl rfl rfl (Nat.le_of_ble_eq_true rfl) (by decide +kernel) ?_
      refine g_seg hK [.aload_n 0, .getfield 59, .iload_n 1] 56 61 (L1 := [(0, vR 0), (1, vI p1), (2, vI p2), (3, vI p3)]) (st1 := [vI p1, vR 65]) (h1 := h6) (P := True ∧ kd 0 = 8 ∧ True ∧ True) (by decide +kernel) rfl rfl ⟨trivial, rfl, trivial, trivial⟩ ?_
      refine g_callV1 hK 61 203 (d1 := 1) (ci := 2) (i := 65) (vs := [vI p1]) (rest := []) (h1 := h6) (r := vI (F_La_placeOf p1 h6)) my_yX2_placeOf vw_X6_203 (by decide) (T_La_placeOf (p1 := p1) (h := h6) (hF := rfl)) rfl rfl rfl (Nat.le_of_ble_eq_true rfl) (by decide +kernel) ?_
      refine g_seg hK [.istore 4, .iload 4, .bipush (-4)] 64 70 (L1 := [(4, vI (F_La_placeOf p1 h6)), (0, vR 0), (1, vI p1), (2, vI p2), (3, vI p3)]) (st1 := [vI (-4), vI (F_La_placeOf p1 h6)]) (h1 := h6) (P := True ∧ True ∧ True ∧ True) (by decide +kernel) rfl rfl ⟨trivial, trivial, trivial, trivial⟩ ?_
      refine g_icmp hK 70 .ne (6) 76 (t1 := 73) (t2 := 76) (by decide +kernel) (by decide) rfl rfl (fun (hc8 : F_La_placeOf p1 h6 = (-4)) => ?_) (fun (hc8 : ¬ (F_La_placeOf p1 h6 = (-4))) => ?_)
      · have hF := ite_t hc8 hF
        refine g_seg hK [.bipush (-4)] 73 75 (L1 := [(4, vI (F_La_placeOf p1 h6)), (0, vR 0), (1, vI p1), (2, vI p2), (3, vI p3)]) (st1 := [vI (-4)]) (h1 := h6) (P := True ∧ True) (by decide +kernel) rfl rfl ⟨trivial, trivial⟩ ?_
        cases hF
        exact hR.1 75 _ _ _ (by decide +kernel) rfl ⟨rfl, rfl⟩
      · have hF := ite_f hc8 hF
        refine g_seg hK [.iload_n 3] 76 77 (L1 := [(4, vI (F_La_placeOf p1 h6)), (0, vR 0), (1, vI p1), (2, vI p2), (3, vI p3)]) (st1 := [vI p3]) (h1 := h6) (P := True ∧ True) (by decide +kernel) rfl rfl ⟨trivial, trivial⟩ ?_
        refine g_ifz hK 77 .ne (8) 85 (t1 := 80) (t2 := 85) (by decide +kernel) (by decide) rfl rfl (fun (hc9 : p3 = 0) => ?_) (fun (hc9 : ¬ (p3 = 0)) => ?_)
        · have hF := ite_t hc9 hF
          refine g_seg hK [.iload 4] 80 82 (L1 := [(4, vI (F_La_placeOf p1 h6)), (0, vR 0), (1, vI p1), (2, vI p2), (3, vI p3)]) (st1 := [vI (F_La_placeOf p1 h6)]) (h1 := h6) (P := True ∧ True) (by decide +kernel) rfl rfl ⟨trivial, trivial⟩ ?_
          refine g_goto hK 82 (14) 96 (by decide +kernel) (by decide) ?_
          cases hF
          exact hR.1 96 _ _ _ (by decide +kernel) rfl ⟨rfl, rfl⟩
        · have hF := ite_f hc9 hF
          refine g_seg hK [.aload_n 0, .getfield 59, .iload_n 1] 85 90 (L1 := [(4, vI (F_La_placeOf p1 h6)), (0, vR 0), (1, vI p1), (2, vI p2), (3, vI p3)]) (st1 := [vI p1, vR 65]) (h1 := h6) (P := True ∧ kd 0 = 8 ∧ True ∧ True) (by decide +kernel) rfl rfl ⟨trivial, rfl, trivial, trivial⟩ ?_
          refine g_callV1 hK 90 206 (d1 := 1) (ci := 2) (i := 65) (vs := [vI p1]) (rest := []) (h1 := h6) (r := vI (F_La_lowerOf p1 h6)) my_yX2_lowerOf vw_X6_206 (by decide) (T_La_lowerOf (p1 := p1) (h := h6) (hF := rfl)) rfl rfl rfl (Nat.le_of_ble_eq_true rfl) (by decide +kernel) ?_
          refine g_seg hK [.bipush 100, .iadd] 93 96 (L1 := [(4, vI (F_La_placeOf p1 h6)), (0, vR 0), (1, vI p1), (2, vI p2), (3, vI p3)]) (st1 := [vI (wr ((F_La_lowerOf p1 h6) + 100))]) (h1 := h6) (P := True ∧ True ∧ True) (by decide +kernel) rfl rfl ⟨trivial, trivial, trivial⟩ ?_
          cases hF
          exact hR.1 96 _ _ _ (by decide +kernel) rfl ⟨rfl, rfl⟩
  refine g_ifz hK 1 .eq (10) 11 (t1 := 11) (t2 := 4) (by decide +kernel) (by decide) rfl rfl (fun (hc11 : p3 = 0) => ?_) (fun (hc11 : ¬ (p3 = 0)) => ?_)
  · have hF := ite_t hc11 hF
    exact j2 _ hF
  · have hF := ite_f hc11 hF
    refine g_seg hK [.iload_n 3, .iconst 1] 4 6 (L1 := [(0, vR 0), (1, vI p1), (2, vI p2), (3, vI p3)]) (st1 := [vI 1, vI p3]) (h1 := h) (P := True ∧ True ∧ True) (by decide +kernel) rfl rfl ⟨trivial, trivial, trivial⟩ ?_
    refine g_icmp hK 6 .eq (5) 11 (t1 := 11) (t2 := 9) (by decide +kernel) (by decide) rfl rfl (fun (hc12 : p3 = 1) => ?_) (fun (hc12 : ¬ (p3 = 1)) => ?_)
    · have hF := ite_t hc12 hF
      exact j2 _ hF
    · have hF := ite_f hc12 hF
      refine g_seg hK [.iconst (-1)] 9 10 (L1 := [(0, vR 0), (1, vI p1), (2, vI p2), (3, vI p3)]) (st1 := [vI (-1)]) (h1 := h) (P := True ∧ True) (by decide +kernel) rfl rfl ⟨trivial, trivial⟩ ?_
      cases hF
      exact hR.1 10 _ _ _ (by decide +kernel) rfl ⟨rfl, rfl⟩
set_option maxHeartbeats 4000000 in
set_option maxRecDepth 100000 in
theorem T_Ro_isEmpty {o : Nat} {h : MH} {r : Int} (ko : kd o = 5) (hF : F_Ro_isEmpty o h = r) : CON 0 yX3_isEmpty cX3_isEmpty 1 (Option.some Jvm.ClassFile.FieldType.boolean) [vR o] h (some (vI r)) h := by
  refine con_of (own := RX3) (fl := flX3) (by decide +kernel) rfl flok_X3 rfl (Nat.le_of_ble_eq_true rfl) ?_
  intro K hK hR
  show K 0 [(0, vR o)] [] h
  unfold F_Ro_isEmpty at hF
  refine g_seg hK [.aload_n 0, .getfield 7] 0 4 (L1 := [(0, vR o)]) (st1 := [vI (h o 1)]) (h1 := h) (P := True ∧ kd o = 5 ∧ True) (by decide +kernel) rfl rfl ⟨trivial, ko, trivial⟩ ?_
  refine g_ifz hK 4 .ne (7) 11 (t1 := 7) (t2 := 11) (by decide +kernel) (by decide) rfl rfl (fun (hc1 : h o 1 = 0) => ?_) (fun (hc1 : ¬ (h o 1 = 0)) => ?_)
  · have hF := ite_t hc1 hF
    refine g_seg hK [.iconst 1] 7 8 (L1 := [(0, vR o)]) (st1 := [vI 1]) (h1 := h) (P := True ∧ True) (by decide +kernel) rfl rfl ⟨trivial, trivial⟩ ?_
    refine g_goto hK 8 (4) 12 (by decide +kernel) (by decide) ?_
    cases hF
    exact hR.2.1 12 _ _ _ (by decide +kernel) rfl (by decide) ⟨rfl, rfl⟩
  · have hF := ite_f hc1 hF
    refine g_seg hK [.iconst 0] 11 12 (L1 := [(0, vR o)]) (st1 := [vI 0]) (h1 := h) (P := True ∧ True) (by decide +kernel) rfl rfl ⟨trivial, trivial⟩ ?_
    cases hF
    exact hR.2.1 12 _ _ _ (by decide +kernel) rfl (by decide) ⟨rfl, rfl⟩
set_option maxHeartbeats 4000000 in
set_option maxRecDepth 100000 in
theorem LT_X_least_L27 {K : KT} (hK : Rules RX6 cX6_least 6 (Option.some Jvm.ClassFile.FieldType.int) flX6 5 K) {x1 : Nat} (kx1 : kd x1 = 5) : ∀ (n : Nat) (x2 : Int) (x3 : Int) (x4 : Int) (h : MH) (x2' : Int) (x3' : Int) (x4' : Int) (h' : MH), F_X_least_L27 x1 n x2 x3 x4 h = some (x2', x3', x4', h') → K 92 [(0, vR 0), (1, vR x1), (2, vI x2'), (3, vI x3'), (4, vI x4')] [] h' → K 27 [(0, vR 0), (1, vR x1), (2, vI x2), (3, vI x3), (4, vI x4)] [] h := by
  intro n
  induction n with
  | zero =>
    intro x2 x3 x4 h x2' x3' x4' h' hF
    cases hF
  | succ n ih =>
    intro x2 x3 x4 h x2' x3' x4' h' hF hE
    unfold F_X_least_L27 at hF
    refine g_seg hK [.iload 4, .aload_n 1] 27 30 (L1 := [(0, vR 0), (1, vR x1), (2, vI x2), (3, vI x3), (4, vI x4)]) (st1 := [vR x1, vI x4]) (h1 := h) (P := True ∧ True ∧ True) (by decide +kernel) rfl rfl ⟨trivial, trivial, trivial⟩ ?_
    refine g_callV1 hK 30 63 (d1 := 0) (ci := 3) (i := x1) (vs := []) (rest := [vI x4]) (h1 := h) (r := vI (F_Ro_size x1 h)) my_yX3_size vw_X6_63 (by decide) (T_Ro_size (o := x1) (h := h) (ko := kx1) (hF := rfl)) kx1 rfl rfl (Nat.le_of_ble_eq_true rfl) (by decide +kernel) ?_
    refine g_icmp hK 33 .ge (59) 92 (t1 := 36) (t2 := 92) (by decide +kernel) (by decide) rfl rfl (fun (hc1 : x4 < F_Ro_size x1 h) => ?_) (fun (hc1 : ¬ (x4 < F_Ro_size x1 h)) => ?_)
    · have hF := ite_t hc1 hF
      refine g_seg hK [.aload_n 0, .getfield 39, .aload_n 1] 36 41 (L1 := [(0, vR 0), (1, vR x1), (2, vI x2), (3, vI x3), (4, vI x4)]) (st1 := [vR x1, vR 47]) (h1 := h) (P := True ∧ kd 0 = 8 ∧ True ∧ True) (by decide +kernel) rfl rfl ⟨trivial, rfl, trivial, trivial⟩ ?_
      obtain ⟨h2, e3, hF⟩ := ob1_elim hF
      refine g_callV0 hK 41 105 (d1 := 1) (ci := 3) (i := 47) (vs := [vR x1]) (rest := []) (h1 := h2) my_yX3_become vw_X6_105 (by decide) (T_Ro_become (o := 47) (p1 := x1) (h := h) (ko := rfl) (kp1 := kx1) (hF := e3)) rfl rfl rfl (Nat.le_of_ble_eq_true rfl) (by decide +kernel) ?_
      refine g_seg hK [.aload_n 0, .getfield 39, .iload 4] 44 50 (L1 := [(0, vR 0), (1, vR x1), (2, vI x2), (3, vI x3), (4, vI x4)]) (st1 := [vI x4, vR 47]) (h1 := h2) (P := True ∧ kd 0 = 8 ∧ True ∧ True) (by decide +kernel) rfl rfl ⟨trivial, rfl, trivial, trivial⟩ ?_
      obtain ⟨h4, e5, hF⟩ := ob1_elim hF
      refine g_callV0 hK 50 102 (d1 := 1) (ci := 3) (i := 47) (vs := [vI x4]) (rest := []) (h1 := h4) my_yX3_putOut vw_X6_102 (by decide) (T_Ro_putOut (o := 47) (p1 := x4) (h := h2) (ko := rfl) (hF := e5)) rfl rfl rfl (Nat.le_of_ble_eq_true rfl) (by decide +kernel) ?_
      refine g_seg hK [.aload_n 0, .getfield 45, .aload_n 0, .getfield 39, .aload_n 0, .getfield 21, .iconst 1] 53 66 (L1 := [(0, vR 0), (1, vR x1), (2, vI x2), (3, vI x3), (4, vI x4)]) (st1 := [vI 1, vR 3, vR 47, vR 49]) (h1 := h4) (P := True ∧ kd 0 = 8 ∧ True ∧ kd 0 = 8 ∧ True ∧ kd 0 = 8 ∧ True ∧ True) (by decide +kernel) rfl rfl ⟨trivial, rfl, trivial, rfl, trivial, rfl, trivial, trivial⟩ ?_
      refine g_callV1 hK 66 88 (d1 := 0) (ci := 4) (i := 3) (vs := [vI 1]) (rest := [vR 47, vR 49]) (h1 := h4) (r := vR (F_St_text 3 1)) my_yX4_text vw_X6_88 (by decide) (T_St_text (o := 3) (p1 := 1) (h := h4) (ks := rfl) (hF := rfl)) rfl rfl rfl (Nat.le_of_ble_eq_true rfl) (by decide +kernel) ?_
      obtain ⟨r6, h7, e8, hF⟩ := ob2_elim hF
      refine g_callV1 hK 69 213 (d1 := 4) (ci := 0) (i := 49) (vs := [vR 47, vR (F_St_text 3 1)]) (rest := []) (h1 := h7) (r := vI r6) my_yX0_apart vw_X6_213 (by decide) (T_C_apart (p1 := 47) (p2 := (F_St_text 3 1)) (h := h4) (kp1 := rfl) (kp2 := (kd_St_text rfl)) (hF := e8)) rfl rfl rfl (Nat.le_of_ble_eq_true rfl) (by decide +kernel) ?_
      refine g_seg hK [.istore 5, .iload 5, .iload_n 3] 72 77 (L1 := [(5, vI r6), (0, vR 0), (1, vR x1), (2, vI x2), (3, vI x3), (4, vI x4)]) (st1 := [vI x3, vI r6]) (h1 := h7) (P := True ∧ True ∧ True ∧ True) (by decide +kernel) rfl rfl ⟨trivial, trivial, trivial, trivial⟩ ?_
      obtain ⟨x2_9, x3_10, e13, hF⟩ := jn2_elim hF
      have j11 : K 86 [(0, vR 0), (1, vR x1), (2, vI x2_9), (3, vI x3_10), (4, vI x4)] [] h7 := by
        refine g_seg hK [.iinc 4 1] 86 89 (L1 := [(4, vI (wr (x4 + 1))), (0, vR 0), (1, vR x1), (2, vI x2_9), (3, vI x3_10)]) (st1 := []) (h1 := h7) (P := True ∧ True) (by decide +kernel) rfl rfl ⟨trivial, trivial⟩ ?_
        refine g_goto hK 89 (-62) 27 (by decide +kernel) (by decide) ?_
        refine hK.2.1 _ _ ([(0, vR 0), (1, vR x1), (2, vI x2_9), (3, vI x3_10), (4, vI (wr (x4 + 1)))]) _ _ (sub_of [1, 2, 3, 4, 0] rfl) ?_
        exact ih _ _ _ _ _ _ _ _ hF hE
      clear hF
      have hF := e13
      refine g_icmp hK 77 .ge (9) 86 (t1 := 80) (t2 := 86) (by decide +kernel) (by decide) rfl rfl (fun (hc12 : r6 < x3) => ?_) (fun (hc12 : ¬ (r6 < x3)) => ?_)
      · have hF := ite_t hc12 hF
        refine g_seg hK [.iload 5, .istore_n 3, .iload 4, .istore_n 2] 80 86 (L1 := [(2, vI x4), (3, vI r6), (5, vI r6), (0, vR 0), (1, vR x1), (4, vI x4)]) (st1 := []) (h1 := h7) (P := True ∧ True ∧ True ∧ True ∧ True) (by decide +kernel) rfl rfl ⟨trivial, trivial, trivial, trivial, trivial⟩ ?_
        refine hK.2.1 _ _ ([(0, vR 0), (1, vR x1), (2, vI x4), (3, vI r6), (4, vI x4)]) _ _ (sub_of [3, 4, 0, 1, 5] rfl) ?_
        cases hF
        exact j11
      · have hF := ite_f hc12 hF
        refine hK.2.1 _ _ ([(0, vR 0), (1, vR x1), (2, vI x2), (3, vI x3), (4, vI x4)]) _ _ (sub_of [1, 2, 3, 4, 5] rfl) ?_
        cases hF
        exact j11
    · have hF := ite_f hc1 hF
      cases hF
      exact hE
set_option maxHeartbeats 4000000 in
set_option maxRecDepth 100000 in
theorem T_X_least {h : MH} {r : Int} {h' : MH} (hF : F_X_least h = some (r, h')) : CON 5 yX6_least cX6_least 6 (Option.some Jvm.ClassFile.FieldType.int) [vR 0] h (some (vI r)) h' := by
  refine con_of (own := RX6) (fl := flX6) (by decide +kernel) rfl flok_X6 rfl (Nat.le_of_ble_eq_true rfl) ?_
  intro K hK hR
  show K 0 [(0, vR 0)] [] h
  unfold F_X_least at hF
  refine g_seg hK [.aload_n 0, .getfield 21, .iconst 0] 0 5 (L1 := [(0, vR 0)]) (st1 := [vI 0, vR 3]) (h1 := h) (P := True ∧ kd 0 = 8 ∧ True ∧ True) (by decide +kernel) rfl rfl ⟨trivial, rfl, trivial, trivial⟩ ?_
  refine g_callV1 hK 5 88 (d1 := 0) (ci := 4) (i := 3) (vs := [vI 0]) (rest := []) (h1 := h) (r := vR (F_St_text 3 0)) my_yX4_text vw_X6_88 (by decide) (T_St_text (o := 3) (p1 := 0) (h := h) (ks := rfl) (hF := rfl)) rfl rfl rfl (Nat.le_of_ble_eq_true rfl) (by decide +kernel) ?_
  refine g_seg hK [.astore_n 1, .aload_n 1] 8 10 (L1 := [(1, vR (F_St_text 3 0)), (0, vR 0)]) (st1 := [vR (F_St_text 3 0)]) (h1 := h) (P := True ∧ True ∧ True) (by decide +kernel) rfl rfl ⟨trivial, trivial, trivial⟩ ?_
  refine g_callV1 hK 10 209 (d1 := 0) (ci := 3) (i := F_St_text 3 0) (vs := []) (rest := []) (h1 := h) (r := vI (F_Ro_isEmpty (F_St_text 3 0) h)) my_yX3_isEmpty vw_X6_209 (by decide) (T_Ro_isEmpty (o := (F_St_text 3 0)) (h := h) (ko := (kd_St_text rfl)) (hF := rfl)) (kd_St_text rfl) rfl rfl (Nat.le_of_ble_eq_true rfl) (by decide +kernel) ?_
  refine g_ifz hK 13 .eq (6) 19 (t1 := 19) (t2 := 16) (by decide +kernel) (by decide) rfl rfl (fun (hc1 : F_Ro_isEmpty (F_St_text 3 0) h = 0) => ?_) (fun (hc1 : ¬ (F_Ro_isEmpty (F_St_text 3 0) h = 0)) => ?_)
  · have hF := ite_t hc1 hF
    refine g_seg hK [.iconst 0, .istore_n 2, .bipush 29, .istore_n 3, .iconst 0, .istore 4] 19 27 (L1 := [(4, vI 0), (3, vI 29), (2, vI 0), (1, vR (F_St_text 3 0)), (0, vR 0)]) (st1 := []) (h1 := h) (P := True ∧ True ∧ True ∧ True ∧ True ∧ True ∧ True) (by decide +kernel) rfl rfl ⟨trivial, trivial, trivial, trivial, trivial, trivial, trivial⟩ ?_
    refine hK.2.1 _ _ ([(0, vR 0), (1, vR (F_St_text 3 0)), (2, vI 0), (3, vI 29), (4, vI 0)]) _ _ (sub_of [4, 3, 2, 1, 0] rfl) ?_
    obtain ⟨x2_2, x3_3, x4_4, h5, e6, hF⟩ := ob4_elim hF
    refine LT_X_least_L27 hK (kx1 := (kd_St_text rfl)) _ _ _ _ _ _ _ _ _ e6 ?_
    refine g_seg hK [.iload_n 2] 92 93 (L1 := [(0, vR 0), (1, vR (F_St_text 3 0)), (2, vI x2_2), (3, vI x3_3), (4, vI x4_4)]) (st1 := [vI x2_2]) (h1 := h5) (P := True ∧ True) (by decide +kernel) rfl rfl ⟨trivial, trivial⟩ ?_
    cases hF
    exact hR.1 93 _ _ _ (by decide +kernel) rfl ⟨rfl, rfl⟩
  · have hF := ite_f hc1 hF
    refine g_seg hK [.bipush (-2)] 16 18 (L1 := [(1, vR (F_St_text 3 0)), (0, vR 0)]) (st1 := [vI (-2)]) (h1 := h) (P := True ∧ True) (by decide +kernel) rfl rfl ⟨trivial, trivial⟩ ?_
    cases hF
    exact hR.1 18 _ _ _ (by decide +kernel) rfl ⟨rfl, rfl⟩
set_option maxHeartbeats 4000000 in
set_option maxRecDepth 100000 in
theorem T_Hi_isEmpty {h : MH} {r : Int} (hF : F_Hi_isEmpty h = r) : CON 0 yX1_isEmpty cX1_isEmpty 1 (Option.some Jvm.ClassFile.FieldType.boolean) [vR 17] h (some (vI r)) h := by
  refine con_of (own := RX1) (fl := flX1) (by decide +kernel) rfl flok_X1 rfl (Nat.le_of_ble_eq_true rfl) ?_
  intro K hK hR
  show K 0 [(0, vR 17)] [] h
  unfold F_Hi_isEmpty at hF
  refine g_seg hK [.aload_n 0, .getfield 17] 0 4 (L1 := [(0, vR 17)]) (st1 := [vI (h 17 1)]) (h1 := h) (P := True ∧ kd 17 = 3 ∧ True) (by decide +kernel) rfl rfl ⟨trivial, rfl, trivial⟩ ?_
  refine g_ifz hK 4 .ne (7) 11 (t1 := 7) (t2 := 11) (by decide +kernel) (by decide) rfl rfl (fun (hc1 : h 17 1 = 0) => ?_) (fun (hc1 : ¬ (h 17 1 = 0)) => ?_)
  · have hF := ite_t hc1 hF
    refine g_seg hK [.iconst 1] 7 8 (L1 := [(0, vR 17)]) (st1 := [vI 1]) (h1 := h) (P := True ∧ True) (by decide +kernel) rfl rfl ⟨trivial, trivial⟩ ?_
    refine g_goto hK 8 (4) 12 (by decide +kernel) (by decide) ?_
    cases hF
    exact hR.2.1 12 _ _ _ (by decide +kernel) rfl (by decide) ⟨rfl, rfl⟩
  · have hF := ite_f hc1 hF
    refine g_seg hK [.iconst 0] 11 12 (L1 := [(0, vR 17)]) (st1 := [vI 0]) (h1 := h) (P := True ∧ True) (by decide +kernel) rfl rfl ⟨trivial, trivial⟩ ?_
    cases hF
    exact hR.2.1 12 _ _ _ (by decide +kernel) rfl (by decide) ⟨rfl, rfl⟩
set_option maxHeartbeats 4000000 in
set_option maxRecDepth 100000 in
theorem T_Hi_takeBack {p1 : Nat} {h : MH} {h' : MH} (kp1 : kd p1 = 6) (hF : F_Hi_takeBack p1 h = some h') : CON 4 yX1_takeBack cX1_takeBack 2 none [vR 17, vR p1] h none h' := by
  refine con_of (own := RX1) (fl := flX1) (by decide +kernel) rfl flok_X1 rfl (Nat.le_of_ble_eq_true rfl) ?_
  intro K hK hR
  show K 0 [(0, vR 17), (1, vR p1)] [] h
  unfold F_Hi_takeBack at hF
  refine g_seg hK [.aload_n 0, .getfield 17] 0 4 (L1 := [(0, vR 17), (1, vR p1)]) (st1 := [vI (h 17 1)]) (h1 := h) (P := True ∧ kd 17 = 3 ∧ True) (by decide +kernel) rfl rfl ⟨trivial, rfl, trivial⟩ ?_
  refine g_ifz hK 4 .le (25) 29 (t1 := 29) (t2 := 7) (by decide +kernel) (by decide) rfl rfl (fun (hc1 : h 17 1 ≤ 0) => ?_) (fun (hc1 : ¬ (h 17 1 ≤ 0)) => ?_)
  · have hF := ite_t hc1 hF
    cases hF
    exact hR.2.2.2.2 29 _ _ (by decide +kernel) rfl ⟨rfl, rfl⟩
  · have hF := ite_f hc1 hF
    refine g_seg hK [.aload_n 0, .dup, .getfield 17, .iconst 1, .isub, .putfield 17, .aload_n 0, .aload_n 0, .getfield 17] 7 22 (L1 := [(0, vR 17), (1, vR p1)]) (st1 := [vI ((up h 17 1 (wr ((h 17 1) - 1))) 17 1), vR 17]) (h1 := (up h 17 1 (wr ((h 17 1) - 1)))) (P := True ∧ True ∧ kd 17 = 3 ∧ True ∧ True ∧ kd 17 = 3 ∧ True ∧ True ∧ kd 17 = 3 ∧ True) (by decide +kernel) rfl rfl ⟨trivial, trivial, rfl, trivial, trivial, rfl, trivial, trivial, rfl, trivial⟩ ?_
    refine g_callV1 hK 22 25 (d1 := 0) (ci := 1) (i := 17) (vs := [vI ((up h 17 1 (wr ((h 17 1) - 1))) 17 1)]) (rest := []) (h1 := (up h 17 1 (wr ((h 17 1) - 1)))) (r := vO (F_Hi_slot ((up h 17 1 (wr ((h 17 1) - 1))) 17 1))) my_yX1_slot vw_X1_25 (by decide) (T_Hi_slot (p1 := ((up h 17 1 (wr ((h 17 1) - 1))) 17 1)) (h := (up h 17 1 (wr ((h 17 1) - 1)))) (hF := rfl)) rfl rfl rfl (Nat.le_of_ble_eq_true rfl) (by decide +kernel) ?_
    refine g_seg hK [.aload_n 1] 25 26 (L1 := [(0, vR 17), (1, vR p1)]) (st1 := [vR p1, vO (F_Hi_slot ((up h 17 1 (wr ((h 17 1) - 1))) 17 1))]) (h1 := (up h 17 1 (wr ((h 17 1) - 1)))) (P := True ∧ True) (by decide +kernel) rfl rfl ⟨trivial, trivial⟩ ?_
    obtain ⟨h2, e3, hF⟩ := ob1_elim hF
    refine g_callS0 hK 26 29 (d1 := 3) (vs := [vO (F_Hi_slot ((up h 17 1 (wr ((h 17 1) - 1))) 17 1)), vR p1]) (rest := []) (h1 := h2) my_yX1_copy sw_X1_29 (by decide) (T_Hi_copy (p1 := (F_Hi_slot ((up h 17 1 (wr ((h 17 1) - 1))) 17 1))) (p2 := (some p1)) (h := (up h 17 1 (wr ((h 17 1) - 1)))) (kp1 := (kd_Hi_slot _)) (kp2 := (fun i e => by cases e; exact kp1)) (hF := e3)) rfl (Nat.le_of_ble_eq_true rfl) (by decide +kernel) ?_
    cases hF
    exact hR.2.2.2.2 29 _ _ (by decide +kernel) rfl ⟨rfl, rfl⟩
set_option maxHeartbeats 4000000 in
set_option maxRecDepth 100000 in
theorem T_X_undo {h : MH} {r : Int} {h' : MH} (hF : F_X_undo h = some (r, h')) : CON 5 yX6_undo cX6_undo 1 (Option.some Jvm.ClassFile.FieldType.int) [vR 0] h (some (vI r)) h' := by
  refine con_of (own := RX6) (fl := flX6) (by decide +kernel) rfl flok_X6 rfl (Nat.le_of_ble_eq_true rfl) ?_
  intro K hK hR
  show K 0 [(0, vR 0)] [] h
  unfold F_X_undo at hF
  refine g_seg hK [.aload_n 0, .getfield 35] 0 4 (L1 := [(0, vR 0)]) (st1 := [vR 17]) (h1 := h) (P := True ∧ kd 0 = 8 ∧ True) (by decide +kernel) rfl rfl ⟨trivial, rfl, trivial⟩ ?_
  refine g_callV1 hK 4 216 (d1 := 0) (ci := 1) (i := 17) (vs := []) (rest := []) (h1 := h) (r := vI (F_Hi_isEmpty h)) my_yX1_isEmpty vw_X6_216 (by decide) (T_Hi_isEmpty (h := h) (hF := rfl)) rfl rfl rfl (Nat.le_of_ble_eq_true rfl) (by decide +kernel) ?_
  refine g_ifz hK 7 .eq (6) 13 (t1 := 13) (t2 := 10) (by decide +kernel) (by decide) rfl rfl (fun (hc1 : F_Hi_isEmpty h = 0) => ?_) (fun (hc1 : ¬ (F_Hi_isEmpty h = 0)) => ?_)
  · have hF := ite_t hc1 hF
    refine g_seg hK [.aload_n 0, .getfield 35, .aload_n 0, .getfield 21] 13 21 (L1 := [(0, vR 0)]) (st1 := [vR 3, vR 17]) (h1 := h) (P := True ∧ kd 0 = 8 ∧ True ∧ kd 0 = 8 ∧ True) (by decide +kernel) rfl rfl ⟨trivial, rfl, trivial, rfl, trivial⟩ ?_
    obtain ⟨h2, e3, hF⟩ := ob1_elim hF
    refine g_callV0 hK 21 217 (d1 := 4) (ci := 1) (i := 17) (vs := [vR 3]) (rest := []) (h1 := h2) my_yX1_takeBack vw_X6_217 (by decide) (T_Hi_takeBack (p1 := 3) (h := h) (kp1 := rfl) (hF := e3)) rfl rfl rfl (Nat.le_of_ble_eq_true rfl) (by decide +kernel) ?_
    refine g_seg hK [.aload_n 0, .getfield 35] 24 28 (L1 := [(0, vR 0)]) (st1 := [vR 17]) (h1 := h2) (P := True ∧ kd 0 = 8 ∧ True) (by decide +kernel) rfl rfl ⟨trivial, rfl, trivial⟩ ?_
    refine g_callV1 hK 28 220 (d1 := 0) (ci := 1) (i := 17) (vs := []) (rest := []) (h1 := h2) (r := vI (F_Hi_size h2)) my_yX1_size vw_X6_220 (by decide) (T_Hi_size (h := h2) (hF := rfl)) rfl rfl rfl (Nat.le_of_ble_eq_true rfl) (by decide +kernel) ?_
    cases hF
    exact hR.1 31 _ _ _ (by decide +kernel) rfl ⟨rfl, rfl⟩
  · have hF := ite_f hc1 hF
    refine g_seg hK [.bipush (-2)] 10 12 (L1 := [(0, vR 0)]) (st1 := [vI (-2)]) (h1 := h) (P := True ∧ True) (by decide +kernel) rfl rfl ⟨trivial, trivial⟩ ?_
    cases hF
    exact hR.1 12 _ _ _ (by decide +kernel) rfl ⟨rfl, rfl⟩
set_option maxHeartbeats 4000000 in
set_option maxRecDepth 100000 in
theorem T_X_save {h : MH} {r : Int} {h' : MH} (hF : F_X_save h = some (r, h')) : CON 6 yX6_save cX6_save 1 (Option.some Jvm.ClassFile.FieldType.int) [vR 0] h (some (vI r)) h' := by
  refine con_of (own := RX6) (fl := flX6) (by decide +kernel) rfl flok_X6 rfl (Nat.le_of_ble_eq_true rfl) ?_
  intro K hK hR
  show K 0 [(0, vR 0)] [] h
  unfold F_X_save at hF
  refine g_seg hK [.aload_n 0, .getfield 25, .aload_n 0, .getfield 21] 0 8 (L1 := [(0, vR 0)]) (st1 := [vR 3, vR 10]) (h1 := h) (P := True ∧ kd 0 = 8 ∧ True ∧ kd 0 = 8 ∧ True) (by decide +kernel) rfl rfl ⟨trivial, rfl, trivial, rfl, trivial⟩ ?_
  obtain ⟨h1, e2, hF⟩ := ob1_elim hF
  refine g_callV0 hK 8 221 (d1 := 2) (ci := 4) (i := 10) (vs := [vR 3]) (rest := []) (h1 := h1) my_yX4_become vw_X6_221 (by decide) (T_St_become (o := 10) (p1 := 3) (h := h) (ks := rfl) (kp1 := rfl) (hF := e2)) rfl rfl rfl (Nat.le_of_ble_eq_true rfl) (by decide +kernel) ?_
  refine g_seg hK [.aload_n 0, .iconst 1, .putfield 28, .aload_n 0] 11 17 (L1 := [(0, vR 0)]) (st1 := [vR 0]) (h1 := (up h1 0 3 1)) (P := True ∧ True ∧ (kd 0 = 8 ∧ (1 = 0 ∨ 1 = 1)) ∧ True ∧ True) (by decide +kernel) rfl rfl ⟨trivial, trivial, ⟨rfl, by decide⟩, trivial, trivial⟩ ?_
  obtain ⟨r3, h4, e5, hF⟩ := ob2_elim hF
  refine g_callV1 hK 17 109 (d1 := 5) (ci := 6) (i := 0) (vs := []) (rest := []) (h1 := h4) (r := vI r3) my_yX6_distanceNow vw_X6_109 (by decide) (T_X_distanceNow (h := (up h1 0 3 1)) (hF := e5)) rfl rfl rfl (Nat.le_of_ble_eq_true rfl) (by decide +kernel) ?_
  cases hF
  exact hR.1 20 _ _ _ (by decide +kernel) rfl ⟨rfl, rfl⟩
set_option maxHeartbeats 4000000 in
set_option maxRecDepth 100000 in
theorem T_X_restore {h : MH} {r : Int} {h' : MH} (hF : F_X_restore h = some (r, h')) : CON 6 yX6_restore cX6_restore 1 (Option.some Jvm.ClassFile.FieldType.int) [vR 0] h (some (vI r)) h' := by
  refine con_of (own := RX6) (fl := flX6) (by decide +kernel) rfl flok_X6 rfl (Nat.le_of_ble_eq_true rfl) ?_
  intro K hK hR
  show K 0 [(0, vR 0)] [] h
  unfold F_X_restore at hF
  refine g_seg hK [.aload_n 0, .getfield 28] 0 4 (L1 := [(0, vR 0)]) (st1 := [vI (h 0 3)]) (h1 := h) (P := True ∧ kd 0 = 8 ∧ True) (by decide +kernel) rfl rfl ⟨trivial, rfl, trivial⟩ ?_
  refine g_ifz hK 4 .ne (6) 10 (t1 := 7) (t2 := 10) (by decide +kernel) (by decide) rfl rfl (fun (hc1 : h 0 3 = 0) => ?_) (fun (hc1 : ¬ (h 0 3 = 0)) => ?_)
  · have hF := ite_t hc1 hF
    refine g_seg hK [.bipush (-2)] 7 9 (L1 := [(0, vR 0)]) (st1 := [vI (-2)]) (h1 := h) (P := True ∧ True) (by decide +kernel) rfl rfl ⟨trivial, trivial⟩ ?_
    cases hF
    exact hR.1 9 _ _ _ (by decide +kernel) rfl ⟨rfl, rfl⟩
  · have hF := ite_f hc1 hF
    refine g_seg hK [.aload_n 0, .getfield 35, .aload_n 0, .getfield 21] 10 18 (L1 := [(0, vR 0)]) (st1 := [vR 3, vR 17]) (h1 := h) (P := True ∧ kd 0 = 8 ∧ True ∧ kd 0 = 8 ∧ True) (by decide +kernel) rfl rfl ⟨trivial, rfl, trivial, rfl, trivial⟩ ?_
    obtain ⟨h2, e3, hF⟩ := ob1_elim hF
    refine g_callV0 hK 18 84 (d1 := 5) (ci := 1) (i := 17) (vs := [vR 3]) (rest := []) (h1 := h2) my_yX1_record vw_X6_84 (by decide) (T_Hi_record (p1 := 3) (h := h) (kp1 := rfl) (hF := e3)) rfl rfl rfl (Nat.le_of_ble_eq_true rfl) (by decide +kernel) ?_
    refine g_seg hK [.aload_n 0, .getfield 21, .aload_n 0, .getfield 25] 21 29 (L1 := [(0, vR 0)]) (st1 := [vR 10, vR 3]) (h1 := h2) (P := True ∧ kd 0 = 8 ∧ True ∧ kd 0 = 8 ∧ True) (by decide +kernel) rfl rfl ⟨trivial, rfl, trivial, rfl, trivial⟩ ?_
    obtain ⟨h4, e5, hF⟩ := ob1_elim hF
    refine g_callV0 hK 29 221 (d1 := 2) (ci := 4) (i := 3) (vs := [vR 10]) (rest := []) (h1 := h4) my_yX4_become vw_X6_221 (by decide) (T_St_become (o := 3) (p1 := 10) (h := h2) (ks := rfl) (kp1 := rfl) (hF := e5)) rfl rfl rfl (Nat.le_of_ble_eq_true rfl) (by decide +kernel) ?_
    refine g_seg hK [.aload_n 0] 32 33 (L1 := [(0, vR 0)]) (st1 := [vR 0]) (h1 := h4) (P := True ∧ True) (by decide +kernel) rfl rfl ⟨trivial, trivial⟩ ?_
    obtain ⟨r6, h7, e8, hF⟩ := ob2_elim hF
    refine g_callV1 hK 33 109 (d1 := 5) (ci := 6) (i := 0) (vs := []) (rest := []) (h1 := h7) (r := vI r6) my_yX6_distanceNow vw_X6_109 (by decide) (T_X_distanceNow (h := h4) (hF := e8)) rfl rfl rfl (Nat.le_of_ble_eq_true rfl) (by decide +kernel) ?_
    cases hF
    exact hR.1 36 _ _ _ (by decide +kernel) rfl ⟨rfl, rfl⟩
set_option maxHeartbeats 4000000 in
set_option maxRecDepth 100000 in
theorem T_L_low {p1 : Int} {p2 : Int} {h : MH} {r : Int} (hF : F_L_low p1 p2 = some r) : CON 0 yL_low cL_low 2 (Option.some Jvm.ClassFile.FieldType.int) [vI p1, vI p2] h (some (vI r)) h := by
  refine con_of (own := RX9) (fl := flX9) (by decide +kernel) rfl flok_X9 rfl (Nat.le_of_ble_eq_true rfl) ?_
  intro K hK hR
  show K 0 [(0, vI p1), (1, vI p2)] [] h
  unfold F_L_low at hF
  refine g_seg hK [.iload_n 0] 0 1 (L1 := [(0, vI p1), (1, vI p2)]) (st1 := [vI p1]) (h1 := h) (P := True ∧ True) (by decide +kernel) rfl rfl ⟨trivial, trivial⟩ ?_
  refine g_ldi hK 1 3 rfl (by decide +kernel) rfl ?_
  refine g_seg hK [.iand, .iload_n 1] 3 5 (L1 := [(0, vI p1), (1, vI p2)]) (st1 := [vI p2, vI (andv p1 2147483647)]) (h1 := h) (P := True ∧ True ∧ True) (by decide +kernel) rfl rfl ⟨trivial, trivial, trivial⟩ ?_
  obtain ⟨hg1, hF⟩ := gd_elim hF
  refine g_seg hK [.irem] 5 6 (L1 := [(0, vI p1), (1, vI p2)]) (st1 := [vI (remv (andv p1 2147483647) p2)]) (h1 := h) (P := (¬ p2 = 0) ∧ True) (by decide +kernel) rfl rfl ⟨hg1, trivial⟩ ?_
  cases hF
  exact hR.1 6 _ _ _ (by decide +kernel) rfl ⟨rfl, rfl⟩
set_option maxHeartbeats 4000000 in
set_option maxRecDepth 100000 in
theorem LT_L_isView_L25 {K : KT} (hK : Rules RX9 cL_isView 13 (Option.some Jvm.ClassFile.FieldType.boolean) flX9 7 K) {Post : Option MV → MH → Prop} (hR : R_ret cL_isView (Option.some Jvm.ClassFile.FieldType.boolean) Post K) {x7 : Int} : ∀ (n : Nat) (x1 : Int) (x2 : Int) (x3 : Int) (x4 : Int) (x5 : Int) (x6 : Int) (x8 : Int) (h : MH) (out : Sum (Int × MH) (Int × Int × Int × Int × Int × Int × Int × MH)), F_L_isView_L25 x7 n x1 x2 x3 x4 x5 x6 x8 h = some out → (∀ a : Int × MH, out = Sum.inl a → Post (some (vI a.1)) a.2) → (∀ q : Int × Int × Int × Int × Int × Int × Int × MH, out = Sum.inr q → K 321 [(0, vR 0), (1, vI q.1), (2, vI q.2.1), (3, vI q.2.2.1), (4, vI q.2.2.2.1), (5, vI q.2.2.2.2.1), (6, vI q.2.2.2.2.2.1), (7, vI x7), (8, vI q.2.2.2.2.2.2.1)] [] q.2.2.2.2.2.2.2) → K 25 [(0, vR 0), (1, vI x1), (2, vI x2), (3, vI x3), (4, vI x4), (5, vI x5), (6, vI x6), (7, vI x7), (8, vI x8)] [] h := by
  intro n
  induction n with
  | zero =>
    intro x1 x2 x3 x4 x5 x6 x8 h out hF
    cases hF
  | succ n ih =>
    intro x1 x2 x3 x4 x5 x6 x8 h out hF hRet hE
    unfold F_L_isView_L25 at hF
    refine g_seg hK [.iload 8, .iload 7] 25 29 (L1 := [(0, vR 0), (1, vI x1), (2, vI x2), (3, vI x3), (4, vI x4), (5, vI x5), (6, vI x6), (7, vI x7), (8, vI x8)]) (st1 := [vI x7, vI x8]) (h1 := h) (P := True ∧ True ∧ True) (by decide +kernel) rfl rfl ⟨trivial, trivial, trivial⟩ ?_
    refine g_icmp hK 29 .ge (292) 321 (t1 := 32) (t2 := 321) (by decide +kernel) (by decide) rfl rfl (fun (hc1 : x8 < x7) => ?_) (fun (hc1 : ¬ (x8 < x7)) => ?_)
    · have hF := ite_t hc1 hF
      refine g_seg hK [.iload 8, .bipush 28] 32 36 (L1 := [(0, vR 0), (1, vI x1), (2, vI x2), (3, vI x3), (4, vI x4), (5, vI x5), (6, vI x6), (7, vI x7), (8, vI x8)]) (st1 := [vI 28, vI x8]) (h1 := h) (P := True ∧ True ∧ True) (by decide +kernel) rfl rfl ⟨trivial, trivial, trivial⟩ ?_
      refine g_icmp hK 36 .ge (285) 321 (t1 := 39) (t2 := 321) (by decide +kernel) (by decide) rfl rfl (fun (hc2 : x8 < 28) => ?_) (fun (hc2 : ¬ (x8 < 28)) => ?_)
      · have hF := ite_t hc2 hF
        refine g_seg hK [.aload_n 0, .iload 8, .iconst 0] 39 43 (L1 := [(0, vR 0), (1, vI x1), (2, vI x2), (3, vI x3), (4, vI x4), (5, vI x5), (6, vI x6), (7, vI x7), (8, vI x8)]) (st1 := [vI 0, vI x8, vR 0]) (h1 := h) (P := True ∧ True ∧ True ∧ True) (by decide +kernel) rfl rfl ⟨trivial, trivial, trivial, trivial⟩ ?_
        obtain ⟨r3, h4, e5, hF⟩ := ob2_elim hF
        refine g_callV1 hK 43 14 (d1 := 6) (ci := 6) (i := 0) (vs := [vI x8, vI 0]) (rest := []) (h1 := h4) (r := vI r3) my_yX6_view vw_X9_14 (by decide) (T_X_view (p1 := x8) (p2 := 0) (h := h) (hF := e5)) rfl rfl rfl (Nat.le_of_ble_eq_true rfl) (by decide +kernel) ?_
        refine g_seg hK [.istore 9, .aload_n 0, .iload 8, .iconst 1] 46 52 (L1 := [(9, vI r3), (0, vR 0), (1, vI x1), (2, vI x2), (3, vI x3), (4, vI x4), (5, vI x5), (6, vI x6), (7, vI x7), (8, vI x8)]) (st1 := [vI 1, vI x8, vR 0]) (h1 := h4) (P := True ∧ True ∧ True ∧ True ∧ True) (by decide +kernel) rfl rfl ⟨trivial, trivial, trivial, trivial, trivial⟩ ?_
        obtain ⟨r6, h7, e8, hF⟩ := ob2_elim hF
        refine g_callV1 hK 52 14 (d1 := 6) (ci := 6) (i := 0) (vs := [vI x8, vI 1]) (rest := []) (h1 := h7) (r := vI r6) my_yX6_view vw_X9_14 (by decide) (T_X_view (p1 := x8) (p2 := 1) (h := h4) (hF := e8)) rfl rfl rfl (Nat.le_of_ble_eq_true rfl) (by decide +kernel) ?_
        refine g_seg hK [.istore 10, .iload 9] 55 59 (L1 := [(10, vI r6), (9, vI r3), (0, vR 0), (1, vI x1), (2, vI x2), (3, vI x3), (4, vI x4), (5, vI x5), (6, vI x6), (7, vI x7), (8, vI x8)]) (st1 := [vI r3]) (h1 := h7) (P := True ∧ True ∧ True) (by decide +kernel) rfl rfl ⟨trivial, trivial, trivial⟩ ?_
        obtain ⟨kj13, e90, hF⟩ := jk2_elim hF
        have j13 : ∀ (s11 : Int) (h12 : MH), kj13 s11 h12 = some out → K 84 [(0, vR 0), (1, vI x1), (2, vI x2), (3, vI x3), (4, vI x4), (5, vI x5), (6, vI x6), (7, vI x7), (8, vI x8), (9, vI r3), (10, vI r6)] [vI s11] h12 := by
          intro s11 h12 hF
          have hF := (e90 s11 h12).symm.trans hF
          refine g_seg hK [.istore 11, .iload 6, .iload 11] 84 90 (L1 := [(11, vI s11), (0, vR 0), (1, vI x1), (2, vI x2), (3, vI x3), (4, vI x4), (5, vI x5), (6, vI x6), (7, vI x7), (8, vI x8), (9, vI r3), (10, vI r6)]) (st1 := [vI s11, vI x6]) (h1 := h12) (P := True ∧ True ∧ True ∧ True) (by decide +kernel) rfl rfl ⟨trivial, trivial, trivial, trivial⟩ ?_
          obtain ⟨s14, e89, hF⟩ := jn1_elim hF
          have j15 : K 98 [(0, vR 0), (1, vI x1), (2, vI x2), (3, vI x3), (4, vI x4), (5, vI x5), (7, vI x7), (8, vI x8), (9, vI r3), (10, vI r6), (11, vI s11)] [vI s14, vI x6] h12 := by
            refine g_seg hK [.iadd, .istore 6, .iload 9] 98 103 (L1 := [(6, vI (wr (x6 + s14))), (0, vR 0), (1, vI x1), (2, vI x2), (3, vI x3), (4, vI x4), (5, vI x5), (7, vI x7), (8, vI x8), (9, vI r3), (10, vI r6), (11, vI s11)]) (st1 := [vI r3]) (h1 := h12) (P := True ∧ True ∧ True ∧ True) (by decide +kernel) rfl rfl ⟨trivial, trivial, trivial, trivial⟩ ?_
            obtain ⟨kj21, e51, hF⟩ := jk2_elim hF
            have j21 : ∀ (s19 : Int) (h20 : MH), kj21 s19 h20 = some out → K 217 [(0, vR 0), (1, vI x1), (2, vI x2), (3, vI x3), (4, vI x4), (5, vI x5), (6, vI (wr (x6 + s14))), (7, vI x7), (8, vI x8), (9, vI r3), (11, vI s11)] [vI s19] h20 := by
              intro s19 h20 hF
              have hF := (e51 s19 h20).symm.trans hF
              refine g_seg hK [.istore 12, .iload 12] 217 221 (L1 := [(12, vI s19), (0, vR 0), (1, vI x1), (2, vI x2), (3, vI x3), (4, vI x4), (5, vI x5), (6, vI (wr (x6 + s14))), (7, vI x7), (8, vI x8), (9, vI r3), (11, vI s11)]) (st1 := [vI s19]) (h1 := h20) (P := True ∧ True ∧ True) (by decide +kernel) rfl rfl ⟨trivial, trivial, trivial⟩ ?_
              refine g_ifz hK 221 .eq (20) 241 (t1 := 241) (t2 := 224) (by decide +kernel) (by decide) rfl rfl (fun (hc22 : s19 = 0) => ?_) (fun (hc22 : ¬ (s19 = 0)) => ?_)
              · have hF := ite_t hc22 hF
                refine g_seg hK [.iconst 0] 241 242 (L1 := [(12, vI s19), (0, vR 0), (1, vI x1), (2, vI x2), (3, vI x3), (4, vI x4), (5, vI x5), (6, vI (wr (x6 + s14))), (7, vI x7), (8, vI x8), (9, vI r3), (11, vI s11)]) (st1 := [vI 0]) (h1 := h20) (P := True ∧ True) (by decide +kernel) rfl rfl ⟨trivial, trivial⟩ ?_
                cases hF
                exact hR.2.1 242 _ _ _ (by decide +kernel) rfl (by decide) (hRet _ rfl)
              · have hF := ite_f hc22 hF
                refine g_seg hK [.iload 11] 224 226 (L1 := [(12, vI s19), (0, vR 0), (1, vI x1), (2, vI x2), (3, vI x3), (4, vI x4), (5, vI x5), (6, vI (wr (x6 + s14))), (7, vI x7), (8, vI x8), (9, vI r3), (11, vI s11)]) (st1 := [vI s11]) (h1 := h20) (P := True ∧ True) (by decide +kernel) rfl rfl ⟨trivial, trivial⟩ ?_
                obtain ⟨kj24, e45, hF⟩ := jk1_elim hF
                have j24 : ∀ (h23 : MH), kj24 h23 = some out → K 243 [(0, vR 0), (1, vI x1), (2, vI x2), (3, vI x3), (4, vI x4), (5, vI x5), (6, vI (wr (x6 + s14))), (7, vI x7), (8, vI x8), (9, vI r3)] [] h23 := by
                  intro h23 hF
                  have hF := (e45 h23).symm.trans hF
                  refine g_seg hK [.iload_n 1, .iload 9, .iconst 2] 243 247 (L1 := [(0, vR 0), (1, vI x1), (2, vI x2), (3, vI x3), (4, vI x4), (5, vI x5), (6, vI (wr (x6 + s14))), (7, vI x7), (8, vI x8), (9, vI r3)]) (st1 := [vI 2, vI r3, vI x1]) (h1 := h23) (P := True ∧ True ∧ True ∧ True) (by decide +kernel) rfl rfl ⟨trivial, trivial, trivial, trivial⟩ ?_
                  obtain ⟨s25, e44, hF⟩ := jn1_elim hF
                  have j26 : K 255 [(0, vR 0), (2, vI x2), (3, vI x3), (4, vI x4), (5, vI x5), (6, vI (wr (x6 + s14))), (7, vI x7), (8, vI x8), (9, vI r3)] [vI s25, vI x1] h23 := by
                    refine g_seg hK [.iadd, .istore_n 1, .iload_n 2, .iload 9, .iconst 1] 255 261 (L1 := [(1, vI (wr (x1 + s25))), (0, vR 0), (2, vI x2), (3, vI x3), (4, vI x4), (5, vI x5), (6, vI (wr (x6 + s14))), (7, vI x7), (8, vI x8), (9, vI r3)]) (st1 := [vI 1, vI r3, vI x2]) (h1 := h23) (P := True ∧ True ∧ True ∧ True ∧ True ∧ True) (by decide +kernel) rfl rfl ⟨trivial, trivial, trivial, trivial, trivial, trivial⟩ ?_
                    obtain ⟨s28, e43, hF⟩ := jn1_elim hF
                    have j29 : K 269 [(0, vR 0), (1, vI (wr (x1 + s25))), (3, vI x3), (4, vI x4), (5, vI x5), (6, vI (wr (x6 + s14))), (7, vI x7), (8, vI x8), (9, vI r3)] [vI s28, vI x2] h23 := by
                      refine g_seg hK [.iadd, .istore_n 2, .iload_n 3, .iload 9] 269 274 (L1 := [(2, vI (wr (x2 + s28))), (0, vR 0), (1, vI (wr (x1 + s25))), (3, vI x3), (4, vI x4), (5, vI x5), (6, vI (wr (x6 + s14))), (7, vI x7), (8, vI x8), (9, vI r3)]) (st1 := [vI r3, vI x3]) (h1 := h23) (P := True ∧ True ∧ True ∧ True ∧ True) (by decide +kernel) rfl rfl ⟨trivial, trivial, trivial, trivial, trivial⟩ ?_
                      obtain ⟨s31, e42, hF⟩ := jn1_elim hF
                      have j32 : K 282 [(0, vR 0), (1, vI (wr (x1 + s25))), (2, vI (wr (x2 + s28))), (4, vI x4), (5, vI x5), (6, vI (wr (x6 + s14))), (7, vI x7), (8, vI x8), (9, vI r3)] [vI s31, vI x3] h23 := by
                        refine g_seg hK [.iadd, .istore_n 3, .iload 9] 282 286 (L1 := [(3, vI (wr (x3 + s31))), (0, vR 0), (1, vI (wr (x1 + s25))), (2, vI (wr (x2 + s28))), (4, vI x4), (5, vI x5), (6, vI (wr (x6 + s14))), (7, vI x7), (8, vI x8), (9, vI r3)]) (st1 := [vI r3]) (h1 := h23) (P := True ∧ True ∧ True ∧ True) (by decide +kernel) rfl rfl ⟨trivial, trivial, trivial, trivial⟩ ?_
                        obtain ⟨s34, e41, hF⟩ := jn1_elim hF
                        have j35 : K 297 [(0, vR 0), (1, vI (wr (x1 + s25))), (2, vI (wr (x2 + s28))), (3, vI (wr (x3 + s31))), (5, vI x5), (6, vI (wr (x6 + s14))), (7, vI x7), (8, vI x8)] [vI s34] h23 := by
                          refine g_seg hK [.istore 4, .iload 4, .iload 5] 297 303 (L1 := [(4, vI s34), (0, vR 0), (1, vI (wr (x1 + s25))), (2, vI (wr (x2 + s28))), (3, vI (wr (x3 + s31))), (5, vI x5), (6, vI (wr (x6 + s14))), (7, vI x7), (8, vI x8)]) (st1 := [vI x5, vI s34]) (h1 := h23) (P := True ∧ True ∧ True ∧ True) (by decide +kernel) rfl rfl ⟨trivial, trivial, trivial, trivial⟩ ?_
                          obtain ⟨s37, e40, hF⟩ := jn1_elim hF
                          have j38 : K 313 [(0, vR 0), (1, vI (wr (x1 + s25))), (2, vI (wr (x2 + s28))), (3, vI (wr (x3 + s31))), (4, vI s34), (6, vI (wr (x6 + s14))), (7, vI x7), (8, vI x8)] [vI s37] h23 := by
                            refine g_seg hK [.istore 5, .iinc 8 1] 313 318 (L1 := [(8, vI (wr (x8 + 1))), (5, vI s37), (0, vR 0), (1, vI (wr (x1 + s25))), (2, vI (wr (x2 + s28))), (3, vI (wr (x3 + s31))), (4, vI s34), (6, vI (wr (x6 + s14))), (7, vI x7)]) (st1 := []) (h1 := h23) (P := True ∧ True ∧ True) (by decide +kernel) rfl rfl ⟨trivial, trivial, trivial⟩ ?_
                            refine g_goto hK 318 (-293) 25 (by decide +kernel) (by decide) ?_
                            refine hK.2.1 _ _ ([(0, vR 0), (1, vI (wr (x1 + s25))), (2, vI (wr (x2 + s28))), (3, vI (wr (x3 + s31))), (4, vI s34), (5, vI s37), (6, vI (wr (x6 + s14))), (7, vI x7), (8, vI (wr (x8 + 1)))]) _ _ (sub_of [2, 3, 4, 5, 6, 1, 7, 8, 0] rfl) ?_
                            exact ih _ _ _ _ _ _ _ _ _ hF hRet hE
                          clear hF
                          have hF := e40
                          refine g_icmp hK 303 .le (8) 311 (t1 := 311) (t2 := 306) (by decide +kernel) (by decide) rfl rfl (fun (hc39 : s34 ≤ x5) => ?_) (fun (hc39 : ¬ (s34 ≤ x5)) => ?_)
                          · have hF := ite_t hc39 hF
                            refine g_seg hK [.iload 5] 311 313 (L1 := [(4, vI s34), (0, vR 0), (1, vI (wr (x1 + s25))), (2, vI (wr (x2 + s28))), (3, vI (wr (x3 + s31))), (5, vI x5), (6, vI (wr (x6 + s14))), (7, vI x7), (8, vI x8)]) (st1 := [vI x5]) (h1 := h23) (P := True ∧ True) (by decide +kernel) rfl rfl ⟨trivial, trivial⟩ ?_
                            refine hK.2.1 _ _ ([(0, vR 0), (1, vI (wr (x1 + s25))), (2, vI (wr (x2 + s28))), (3, vI (wr (x3 + s31))), (4, vI s34), (6, vI (wr (x6 + s14))), (7, vI x7), (8, vI x8)]) _ _ (sub_of [1, 2, 3, 4, 0, 6, 7, 8] rfl) ?_
                            cases hF
                            exact j38
                          · have hF := ite_f hc39 hF
                            refine g_seg hK [.iload 4] 306 308 (L1 := [(4, vI s34), (0, vR 0), (1, vI (wr (x1 + s25))), (2, vI (wr (x2 + s28))), (3, vI (wr (x3 + s31))), (5, vI x5), (6, vI (wr (x6 + s14))), (7, vI x7), (8, vI x8)]) (st1 := [vI s34]) (h1 := h23) (P := True ∧ True) (by decide +kernel) rfl rfl ⟨trivial, trivial⟩ ?_
                            refine g_goto hK 308 (5) 313 (by decide +kernel) (by decide) ?_
                            refine hK.2.1 _ _ ([(0, vR 0), (1, vI (wr (x1 + s25))), (2, vI (wr (x2 + s28))), (3, vI (wr (x3 + s31))), (4, vI s34), (6, vI (wr (x6 + s14))), (7, vI x7), (8, vI x8)]) _ _ (sub_of [1, 2, 3, 4, 0, 6, 7, 8] rfl) ?_
                            cases hF
                            exact j38
                        clear hF
                        have hF := e41
                        refine g_ifz hK 286 .ne (10) 296 (t1 := 289) (t2 := 296) (by decide +kernel) (by decide) rfl rfl (fun (hc36 : r3 = 0) => ?_) (fun (hc36 : ¬ (r3 = 0)) => ?_)
                        · have hF := ite_t hc36 hF
                          refine g_seg hK [.iload 4, .iconst 1, .iadd] 289 293 (L1 := [(3, vI (wr (x3 + s31))), (0, vR 0), (1, vI (wr (x1 + s25))), (2, vI (wr (x2 + s28))), (4, vI x4), (5, vI x5), (6, vI (wr (x6 + s14))), (7, vI x7), (8, vI x8), (9, vI r3)]) (st1 := [vI (wr (x4 + 1))]) (h1 := h23) (P := True ∧ True ∧ True ∧ True) (by decide +kernel) rfl rfl ⟨trivial, trivial, trivial, trivial⟩ ?_
                          refine g_goto hK 293 (4) 297 (by decide +kernel) (by decide) ?_
                          refine hK.2.1 _ _ ([(0, vR 0), (1, vI (wr (x1 + s25))), (2, vI (wr (x2 + s28))), (3, vI (wr (x3 + s31))), (5, vI x5), (6, vI (wr (x6 + s14))), (7, vI x7), (8, vI x8)]) _ _ (sub_of [1, 2, 3, 0, 5, 6, 7, 8] rfl) ?_
                          cases hF
                          exact j35
                        · have hF := ite_f hc36 hF
                          refine g_seg hK [.iconst 0] 296 297 (L1 := [(3, vI (wr (x3 + s31))), (0, vR 0), (1, vI (wr (x1 + s25))), (2, vI (wr (x2 + s28))), (4, vI x4), (5, vI x5), (6, vI (wr (x6 + s14))), (7, vI x7), (8, vI x8), (9, vI r3)]) (st1 := [vI 0]) (h1 := h23) (P := True ∧ True) (by decide +kernel) rfl rfl ⟨trivial, trivial⟩ ?_
                          refine hK.2.1 _ _ ([(0, vR 0), (1, vI (wr (x1 + s25))), (2, vI (wr (x2 + s28))), (3, vI (wr (x3 + s31))), (5, vI x5), (6, vI (wr (x6 + s14))), (7, vI x7), (8, vI x8)]) _ _ (sub_of [1, 2, 3, 0, 5, 6, 7, 8] rfl) ?_
                          cases hF
                          exact j35
                      clear hF
                      have hF := e42
                      refine g_ifz hK 274 .ne (7) 281 (t1 := 277) (t2 := 281) (by decide +kernel) (by decide) rfl rfl (fun (hc33 : r3 = 0) => ?_) (fun (hc33 : ¬ (r3 = 0)) => ?_)
                      · have hF := ite_t hc33 hF
                        refine g_seg hK [.iconst 1] 277 278 (L1 := [(2, vI (wr (x2 + s28))), (0, vR 0), (1, vI (wr (x1 + s25))), (3, vI x3), (4, vI x4), (5, vI x5), (6, vI (wr (x6 + s14))), (7, vI x7), (8, vI x8), (9, vI r3)]) (st1 := [vI 1, vI x3]) (h1 := h23) (P := True ∧ True) (by decide +kernel) rfl rfl ⟨trivial, trivial⟩ ?_
                        refine g_goto hK 278 (4) 282 (by decide +kernel) (by decide) ?_
                        refine hK.2.1 _ _ ([(0, vR 0), (1, vI (wr (x1 + s25))), (2, vI (wr (x2 + s28))), (4, vI x4), (5, vI x5), (6, vI (wr (x6 + s14))), (7, vI x7), (8, vI x8), (9, vI r3)]) _ _ (sub_of [1, 2, 0, 4, 5, 6, 7, 8, 9] rfl) ?_
                        cases hF
                        exact j32
                      · have hF := ite_f hc33 hF
                        refine g_seg hK [.iconst 0] 281 282 (L1 := [(2, vI (wr (x2 + s28))), (0, vR 0), (1, vI (wr (x1 + s25))), (3, vI x3), (4, vI x4), (5, vI x5), (6, vI (wr (x6 + s14))), (7, vI x7), (8, vI x8), (9, vI r3)]) (st1 := [vI 0, vI x3]) (h1 := h23) (P := True ∧ True) (by decide +kernel) rfl rfl ⟨trivial, trivial⟩ ?_
                        refine hK.2.1 _ _ ([(0, vR 0), (1, vI (wr (x1 + s25))), (2, vI (wr (x2 + s28))), (4, vI x4), (5, vI x5), (6, vI (wr (x6 + s14))), (7, vI x7), (8, vI x8), (9, vI r3)]) _ _ (sub_of [1, 2, 0, 4, 5, 6, 7, 8, 9] rfl) ?_
                        cases hF
                        exact j32
                    clear hF
                    have hF := e43
                    refine g_icmp hK 261 .ne (7) 268 (t1 := 264) (t2 := 268) (by decide +kernel) (by decide) rfl rfl (fun (hc30 : r3 = 1) => ?_) (fun (hc30 : ¬ (r3 = 1)) => ?_)
                    · have hF := ite_t hc30 hF
                      refine g_seg hK [.iconst 0] 264 265 (L1 := [(1, vI (wr (x1 + s25))), (0, vR 0), (2, vI x2), (3, vI x3), (4, vI x4), (5, vI x5), (6, vI (wr (x6 + s14))), (7, vI x7), (8, vI x8), (9, vI r3)]) (st1 := [vI 0, vI x2]) (h1 := h23) (P := True ∧ True) (by decide +kernel) rfl rfl ⟨trivial, trivial⟩ ?_
                      refine g_goto hK 265 (4) 269 (by decide +kernel) (by decide) ?_
                      refine hK.2.1 _ _ ([(0, vR 0), (1, vI (wr (x1 + s25))), (3, vI x3), (4, vI x4), (5, vI x5), (6, vI (wr (x6 + s14))), (7, vI x7), (8, vI x8), (9, vI r3)]) _ _ (sub_of [1, 0, 3, 4, 5, 6, 7, 8, 9] rfl) ?_
                      cases hF
                      exact j29
                    · have hF := ite_f hc30 hF
                      refine g_seg hK [.iconst 1] 268 269 (L1 := [(1, vI (wr (x1 + s25))), (0, vR 0), (2, vI x2), (3, vI x3), (4, vI x4), (5, vI x5), (6, vI (wr (x6 + s14))), (7, vI x7), (8, vI x8), (9, vI r3)]) (st1 := [vI 1, vI x2]) (h1 := h23) (P := True ∧ True) (by decide +kernel) rfl rfl ⟨trivial, trivial⟩ ?_
                      refine hK.2.1 _ _ ([(0, vR 0), (1, vI (wr (x1 + s25))), (3, vI x3), (4, vI x4), (5, vI x5), (6, vI (wr (x6 + s14))), (7, vI x7), (8, vI x8), (9, vI r3)]) _ _ (sub_of [1, 0, 3, 4, 5, 6, 7, 8, 9] rfl) ?_
                      cases hF
                      exact j29
                  clear hF
                  have hF := e44
                  refine g_icmp hK 247 .ne (7) 254 (t1 := 250) (t2 := 254) (by decide +kernel) (by decide) rfl rfl (fun (hc27 : r3 = 2) => ?_) (fun (hc27 : ¬ (r3 = 2)) => ?_)
                  · have hF := ite_t hc27 hF
                    refine g_seg hK [.iconst 0] 250 251 (L1 := [(0, vR 0), (1, vI x1), (2, vI x2), (3, vI x3), (4, vI x4), (5, vI x5), (6, vI (wr (x6 + s14))), (7, vI x7), (8, vI x8), (9, vI r3)]) (st1 := [vI 0, vI x1]) (h1 := h23) (P := True ∧ True) (by decide +kernel) rfl rfl ⟨trivial, trivial⟩ ?_
                    refine g_goto hK 251 (4) 255 (by decide +kernel) (by decide) ?_
                    refine hK.2.1 _ _ ([(0, vR 0), (2, vI x2), (3, vI x3), (4, vI x4), (5, vI x5), (6, vI (wr (x6 + s14))), (7, vI x7), (8, vI x8), (9, vI r3)]) _ _ (sub_of [0, 2, 3, 4, 5, 6, 7, 8, 9] rfl) ?_
                    cases hF
                    exact j26
                  · have hF := ite_f hc27 hF
                    refine g_seg hK [.iconst 1] 254 255 (L1 := [(0, vR 0), (1, vI x1), (2, vI x2), (3, vI x3), (4, vI x4), (5, vI x5), (6, vI (wr (x6 + s14))), (7, vI x7), (8, vI x8), (9, vI r3)]) (st1 := [vI 1, vI x1]) (h1 := h23) (P := True ∧ True) (by decide +kernel) rfl rfl ⟨trivial, trivial⟩ ?_
                    refine hK.2.1 _ _ ([(0, vR 0), (2, vI x2), (3, vI x3), (4, vI x4), (5, vI x5), (6, vI (wr (x6 + s14))), (7, vI x7), (8, vI x8), (9, vI r3)]) _ _ (sub_of [0, 2, 3, 4, 5, 6, 7, 8, 9] rfl) ?_
                    cases hF
                    exact j26
                refine g_ifz hK 226 .eq (17) 243 (t1 := 243) (t2 := 229) (by decide +kernel) (by decide) rfl rfl (fun (hc46 : s11 = 0) => ?_) (fun (hc46 : ¬ (s11 = 0)) => ?_)
                · have hF := ite_t hc46 hF
                  refine hK.2.1 _ _ ([(0, vR 0), (1, vI x1), (2, vI x2), (3, vI x3), (4, vI x4), (5, vI x5), (6, vI (wr (x6 + s14))), (7, vI x7), (8, vI x8), (9, vI r3)]) _ _ (sub_of [1, 2, 3, 4, 5, 6, 7, 8, 9, 10] rfl) ?_
                  exact j24 _ hF
                · have hF := ite_f hc46 hF
                  refine g_seg hK [.aload_n 0, .iload 6, .iconst 0] 229 233 (L1 := [(12, vI s19), (0, vR 0), (1, vI x1), (2, vI x2), (3, vI x3), (4, vI x4), (5, vI x5), (6, vI (wr (x6 + s14))), (7, vI x7), (8, vI x8), (9, vI r3), (11, vI s11)]) (st1 := [vI 0, vI (wr (x6 + s14)), vR 0]) (h1 := h20) (P := True ∧ True ∧ True ∧ True) (by decide +kernel) rfl rfl ⟨trivial, trivial, trivial, trivial⟩ ?_
                  obtain ⟨r47, h48, e49, hF⟩ := ob2_elim hF
                  refine g_callV1 hK 233 21 (d1 := 6) (ci := 6) (i := 0) (vs := [vI (wr (x6 + s14)), vI 0]) (rest := []) (h1 := h48) (r := vI r47) my_yX6_hunk vw_X9_21 (by decide) (T_X_hunk (p1 := (wr (x6 + s14))) (p2 := 0) (h := h20) (hF := e49)) rfl rfl rfl (Nat.le_of_ble_eq_true rfl) (by decide +kernel) ?_
                  refine g_seg hK [.iload 8] 236 238 (L1 := [(12, vI s19), (0, vR 0), (1, vI x1), (2, vI x2), (3, vI x3), (4, vI x4), (5, vI x5), (6, vI (wr (x6 + s14))), (7, vI x7), (8, vI x8), (9, vI r3), (11, vI s11)]) (st1 := [vI x8, vI r47]) (h1 := h48) (P := True ∧ True) (by decide +kernel) rfl rfl ⟨trivial, trivial⟩ ?_
                  refine g_icmp hK 238 .eq (5) 243 (t1 := 243) (t2 := 241) (by decide +kernel) (by decide) rfl rfl (fun (hc50 : r47 = x8) => ?_) (fun (hc50 : ¬ (r47 = x8)) => ?_)
                  · have hF := ite_t hc50 hF
                    refine hK.2.1 _ _ ([(0, vR 0), (1, vI x1), (2, vI x2), (3, vI x3), (4, vI x4), (5, vI x5), (6, vI (wr (x6 + s14))), (7, vI x7), (8, vI x8), (9, vI r3)]) _ _ (sub_of [1, 2, 3, 4, 5, 6, 7, 8, 9, 10] rfl) ?_
                    exact j24 _ hF
                  · have hF := ite_f hc50 hF
                    refine g_seg hK [.iconst 0] 241 242 (L1 := [(12, vI s19), (0, vR 0), (1, vI x1), (2, vI x2), (3, vI x3), (4, vI x4), (5, vI x5), (6, vI (wr (x6 + s14))), (7, vI x7), (8, vI x8), (9, vI r3), (11, vI s11)]) (st1 := [vI 0]) (h1 := h48) (P := True ∧ True) (by decide +kernel) rfl rfl ⟨trivial, trivial⟩ ?_
                    cases hF
                    exact hR.2.1 242 _ _ _ (by decide +kernel) rfl (by decide) (hRet _ rfl)
            obtain ⟨kj18, e52, hF⟩ := jk1_elim hF
            have j18 : ∀ (h17 : MH), kj18 h17 = some out → K 216 [(0, vR 0), (1, vI x1), (2, vI x2), (3, vI x3), (4, vI x4), (5, vI x5), (6, vI (wr (x6 + s14))), (7, vI x7), (8, vI x8), (9, vI r3), (11, vI s11)] [] h17 := by
              intro h17 hF
              have hF := (e52 h17).symm.trans hF
              refine g_seg hK [.iconst 0] 216 217 (L1 := [(0, vR 0), (1, vI x1), (2, vI x2), (3, vI x3), (4, vI x4), (5, vI x5), (6, vI (wr (x6 + s14))), (7, vI x7), (8, vI x8), (9, vI r3), (11, vI s11)]) (st1 := [vI 0]) (h1 := h17) (P := True ∧ True) (by decide +kernel) rfl rfl ⟨trivial, trivial⟩ ?_
              exact j21 _ _ hF
            refine g_ifz hK 103 .lt (113) 216 (t1 := 216) (t2 := 106) (by decide +kernel) (by decide) rfl rfl (fun (hc53 : r3 < 0) => ?_) (fun (hc53 : ¬ (r3 < 0)) => ?_)
            · have hF := ite_t hc53 hF
              refine hK.2.1 _ _ ([(0, vR 0), (1, vI x1), (2, vI x2), (3, vI x3), (4, vI x4), (5, vI x5), (6, vI (wr (x6 + s14))), (7, vI x7), (8, vI x8), (9, vI r3), (11, vI s11)]) _ _ (sub_of [1, 2, 3, 4, 5, 6, 0, 7, 8, 9, 11] rfl) ?_
              exact j18 _ hF
            · have hF := ite_f hc53 hF
              refine g_seg hK [.iload 9, .iconst 3] 106 109 (L1 := [(6, vI (wr (x6 + s14))), (0, vR 0), (1, vI x1), (2, vI x2), (3, vI x3), (4, vI x4), (5, vI x5), (7, vI x7), (8, vI x8), (9, vI r3), (10, vI r6), (11, vI s11)]) (st1 := [vI 3, vI r3]) (h1 := h12) (P := True ∧ True ∧ True) (by decide +kernel) rfl rfl ⟨trivial, trivial, trivial⟩ ?_
              refine g_icmp hK 109 .ge (107) 216 (t1 := 112) (t2 := 216) (by decide +kernel) (by decide) rfl rfl (fun (hc54 : r3 < 3) => ?_) (fun (hc54 : ¬ (r3 < 3)) => ?_)
              · have hF := ite_t hc54 hF
                refine g_seg hK [.aload_n 0, .iload 8, .iconst 2] 112 116 (L1 := [(6, vI (wr (x6 + s14))), (0, vR 0), (1, vI x1), (2, vI x2), (3, vI x3), (4, vI x4), (5, vI x5), (7, vI x7), (8, vI x8), (9, vI r3), (10, vI r6), (11, vI s11)]) (st1 := [vI 2, vI x8, vR 0]) (h1 := h12) (P := True ∧ True ∧ True ∧ True) (by decide +kernel) rfl rfl ⟨trivial, trivial, trivial, trivial⟩ ?_
                obtain ⟨r55, h56, e57, hF⟩ := ob2_elim hF
                refine g_callV1 hK 116 14 (d1 := 6) (ci := 6) (i := 0) (vs := [vI x8, vI 2]) (rest := []) (h1 := h56) (r := vI r55) my_yX6_view vw_X9_14 (by decide) (T_X_view (p1 := x8) (p2 := 2) (h := h12) (hF := e57)) rfl rfl rfl (Nat.le_of_ble_eq_true rfl) (by decide +kernel) ?_
                refine g_seg hK [.iload 9, .iconst 2] 119 122 (L1 := [(6, vI (wr (x6 + s14))), (0, vR 0), (1, vI x1), (2, vI x2), (3, vI x3), (4, vI x4), (5, vI x5), (7, vI x7), (8, vI x8), (9, vI r3), (10, vI r6), (11, vI s11)]) (st1 := [vI 2, vI r3, vI r55]) (h1 := h56) (P := True ∧ True ∧ True) (by decide +kernel) rfl rfl ⟨trivial, trivial, trivial⟩ ?_
                obtain ⟨s58, e88, hF⟩ := jn1_elim hF
                have j59 : K 131 [(0, vR 0), (1, vI x1), (2, vI x2), (3, vI x3), (4, vI x4), (5, vI x5), (6, vI (wr (x6 + s14))), (7, vI x7), (8, vI x8), (9, vI r3), (10, vI r6), (11, vI s11)] [vI s58, vI r55] h56 := by
                  refine g_icmp hK 131 .ne (85) 216 (t1 := 134) (t2 := 216) (by decide +kernel) (by decide) rfl rfl (fun (hc61 : r55 = s58) => ?_) (fun (hc61 : ¬ (r55 = s58)) => ?_)
                  · have hF := ite_t hc61 hF
                    refine g_seg hK [.aload_n 0, .iload 8, .iconst 3] 134 138 (L1 := [(0, vR 0), (1, vI x1), (2, vI x2), (3, vI x3), (4, vI x4), (5, vI x5), (6, vI (wr (x6 + s14))), (7, vI x7), (8, vI x8), (9, vI r3), (10, vI r6), (11, vI s11)]) (st1 := [vI 3, vI x8, vR 0]) (h1 := h56) (P := True ∧ True ∧ True ∧ True) (by decide +kernel) rfl rfl ⟨trivial, trivial, trivial, trivial⟩ ?_
                    obtain ⟨r62, h63, e64, hF⟩ := ob2_elim hF
                    refine g_callV1 hK 138 14 (d1 := 6) (ci := 6) (i := 0) (vs := [vI x8, vI 3]) (rest := []) (h1 := h63) (r := vI r62) my_yX6_view vw_X9_14 (by decide) (T_X_view (p1 := x8) (p2 := 3) (h := h56) (hF := e64)) rfl rfl rfl (Nat.le_of_ble_eq_true rfl) (by decide +kernel) ?_
                    refine g_seg hK [.iload 9, .iconst 1] 141 144 (L1 := [(0, vR 0), (1, vI x1), (2, vI x2), (3, vI x3), (4, vI x4), (5, vI x5), (6, vI (wr (x6 + s14))), (7, vI x7), (8, vI x8), (9, vI r3), (10, vI r6), (11, vI s11)]) (st1 := [vI 1, vI r3, vI r62]) (h1 := h63) (P := True ∧ True ∧ True) (by decide +kernel) rfl rfl ⟨trivial, trivial, trivial⟩ ?_
                    obtain ⟨s65, e87, hF⟩ := jn1_elim hF
                    have j66 : K 153 [(0, vR 0), (1, vI x1), (2, vI x2), (3, vI x3), (4, vI x4), (5, vI x5), (6, vI (wr (x6 + s14))), (7, vI x7), (8, vI x8), (9, vI r3), (10, vI r6), (11, vI s11)] [vI s65, vI r62] h63 := by
                      refine g_icmp hK 153 .ne (63) 216 (t1 := 156) (t2 := 216) (by decide +kernel) (by decide) rfl rfl (fun (hc68 : r62 = s65) => ?_) (fun (hc68 : ¬ (r62 = s65)) => ?_)
                      · have hF := ite_t hc68 hF
                        refine g_seg hK [.aload_n 0, .iload 8, .iconst 4] 156 160 (L1 := [(0, vR 0), (1, vI x1), (2, vI x2), (3, vI x3), (4, vI x4), (5, vI x5), (6, vI (wr (x6 + s14))), (7, vI x7), (8, vI x8), (9, vI r3), (10, vI r6), (11, vI s11)]) (st1 := [vI 4, vI x8, vR 0]) (h1 := h63) (P := True ∧ True ∧ True ∧ True) (by decide +kernel) rfl rfl ⟨trivial, trivial, trivial, trivial⟩ ?_
                        obtain ⟨r69, h70, e71, hF⟩ := ob2_elim hF
                        refine g_callV1 hK 160 14 (d1 := 6) (ci := 6) (i := 0) (vs := [vI x8, vI 4]) (rest := []) (h1 := h70) (r := vI r69) my_yX6_view vw_X9_14 (by decide) (T_X_view (p1 := x8) (p2 := 4) (h := h63) (hF := e71)) rfl rfl rfl (Nat.le_of_ble_eq_true rfl) (by decide +kernel) ?_
                        refine g_seg hK [.iload 9] 163 165 (L1 := [(0, vR 0), (1, vI x1), (2, vI x2), (3, vI x3), (4, vI x4), (5, vI x5), (6, vI (wr (x6 + s14))), (7, vI x7), (8, vI x8), (9, vI r3), (10, vI r6), (11, vI s11)]) (st1 := [vI r3, vI r69]) (h1 := h70) (P := True ∧ True) (by decide +kernel) rfl rfl ⟨trivial, trivial⟩ ?_
                        obtain ⟨s72, e86, hF⟩ := jn1_elim hF
                        have j73 : K 175 [(0, vR 0), (1, vI x1), (2, vI x2), (3, vI x3), (4, vI x4), (5, vI x5), (6, vI (wr (x6 + s14))), (7, vI x7), (8, vI x8), (9, vI r3), (10, vI r6), (11, vI s11)] [vI s72, vI r69] h70 := by
                          refine g_icmp hK 175 .ne (41) 216 (t1 := 178) (t2 := 216) (by decide +kernel) (by decide) rfl rfl (fun (hc75 : r69 = s72) => ?_) (fun (hc75 : ¬ (r69 = s72)) => ?_)
                          · have hF := ite_t hc75 hF
                            refine g_seg hK [.iload 9, .iconst 2] 178 181 (L1 := [(0, vR 0), (1, vI x1), (2, vI x2), (3, vI x3), (4, vI x4), (5, vI x5), (6, vI (wr (x6 + s14))), (7, vI x7), (8, vI x8), (9, vI r3), (10, vI r6), (11, vI s11)]) (st1 := [vI 2, vI r3]) (h1 := h70) (P := True ∧ True ∧ True) (by decide +kernel) rfl rfl ⟨trivial, trivial, trivial⟩ ?_
                            obtain ⟨kj77, e83, hF⟩ := jk1_elim hF
                            have j77 : ∀ (u76 : Unit), kj77 u76 = some out → K 195 [(0, vR 0), (1, vI x1), (2, vI x2), (3, vI x3), (4, vI x4), (5, vI x5), (6, vI (wr (x6 + s14))), (7, vI x7), (8, vI x8), (9, vI r3), (10, vI r6), (11, vI s11)] [] h70 := by
                              intro u76 hF
                              have hF := (e83 u76).symm.trans hF
                              refine g_seg hK [.iload 9, .iconst 1] 195 198 (L1 := [(0, vR 0), (1, vI x1), (2, vI x2), (3, vI x3), (4, vI x4), (5, vI x5), (6, vI (wr (x6 + s14))), (7, vI x7), (8, vI x8), (9, vI r3), (10, vI r6), (11, vI s11)]) (st1 := [vI 1, vI r3]) (h1 := h70) (P := True ∧ True ∧ True) (by decide +kernel) rfl rfl ⟨trivial, trivial, trivial⟩ ?_
                              obtain ⟨kj79, e80, hF⟩ := jk1_elim hF
                              have j79 : ∀ (u78 : Unit), kj79 u78 = some out → K 212 [(0, vR 0), (1, vI x1), (2, vI x2), (3, vI x3), (4, vI x4), (5, vI x5), (6, vI (wr (x6 + s14))), (7, vI x7), (8, vI x8), (9, vI r3), (11, vI s11)] [] h70 := by
                                intro u78 hF
                                have hF := (e80 u78).symm.trans hF
                                refine g_seg hK [.iconst 1] 212 213 (L1 := [(0, vR 0), (1, vI x1), (2, vI x2), (3, vI x3), (4, vI x4), (5, vI x5), (6, vI (wr (x6 + s14))), (7, vI x7), (8, vI x8), (9, vI r3), (11, vI s11)]) (st1 := [vI 1]) (h1 := h70) (P := True ∧ True) (by decide +kernel) rfl rfl ⟨trivial, trivial⟩ ?_
                                refine g_goto hK 213 (4) 217 (by decide +kernel) (by decide) ?_
                                exact j21 _ _ hF
                              refine g_icmp hK 198 .eq (14) 212 (t1 := 212) (t2 := 201) (by decide +kernel) (by decide) rfl rfl (fun (hc81 : r3 = 1) => ?_) (fun (hc81 : ¬ (r3 = 1)) => ?_)
                              · have hF := ite_t hc81 hF
                                refine hK.2.1 _ _ ([(0, vR 0), (1, vI x1), (2, vI x2), (3, vI x3), (4, vI x4), (5, vI x5), (6, vI (wr (x6 + s14))), (7, vI x7), (8, vI x8), (9, vI r3), (11, vI s11)]) _ _ (sub_of [0, 1, 2, 3, 4, 5, 6, 7, 8, 9, 11] rfl) ?_
                                exact j79 _ hF
                              · have hF := ite_f hc81 hF
                                refine g_seg hK [.aload_n 0, .iconst 1, .iload_n 2] 201 204 (L1 := [(0, vR 0), (1, vI x1), (2, vI x2), (3, vI x3), (4, vI x4), (5, vI x5), (6, vI (wr (x6 + s14))), (7, vI x7), (8, vI x8), (9, vI r3), (10, vI r6), (11, vI s11)]) (st1 := [vI x2, vI 1, vR 0]) (h1 := h70) (P := True ∧ True ∧ True ∧ True) (by decide +kernel) rfl rfl ⟨trivial, trivial, trivial, trivial⟩ ?_
                                refine g_callV1 hK 204 18 (d1 := 1) (ci := 6) (i := 0) (vs := [vI 1, vI x2]) (rest := []) (h1 := h70) (r := vI (F_X_line 1 x2 h70)) my_yX6_line vw_X9_18 (by decide) (T_X_line (p1 := 1) (p2 := x2) (h := h70) (hF := rfl)) rfl rfl rfl (Nat.le_of_ble_eq_true rfl) (by decide +kernel) ?_
                                refine g_seg hK [.iload 10] 207 209 (L1 := [(0, vR 0), (1, vI x1), (2, vI x2), (3, vI x3), (4, vI x4), (5, vI x5), (6, vI (wr (x6 + s14))), (7, vI x7), (8, vI x8), (9, vI r3), (10, vI r6), (11, vI s11)]) (st1 := [vI r6, vI (F_X_line 1 x2 h70)]) (h1 := h70) (P := True ∧ True) (by decide +kernel) rfl rfl ⟨trivial, trivial⟩ ?_
                                refine g_icmp hK 209 .ne (7) 216 (t1 := 212) (t2 := 216) (by decide +kernel) (by decide) rfl rfl (fun (hc82 : F_X_line 1 x2 h70 = r6) => ?_) (fun (hc82 : ¬ (F_X_line 1 x2 h70 = r6)) => ?_)
                                · have hF := ite_t hc82 hF
                                  refine hK.2.1 _ _ ([(0, vR 0), (1, vI x1), (2, vI x2), (3, vI x3), (4, vI x4), (5, vI x5), (6, vI (wr (x6 + s14))), (7, vI x7), (8, vI x8), (9, vI r3), (11, vI s11)]) _ _ (sub_of [0, 1, 2, 3, 4, 5, 6, 7, 8, 9, 11] rfl) ?_
                                  exact j79 _ hF
                                · have hF := ite_f hc82 hF
                                  refine hK.2.1 _ _ ([(0, vR 0), (1, vI x1), (2, vI x2), (3, vI x3), (4, vI x4), (5, vI x5), (6, vI (wr (x6 + s14))), (7, vI x7), (8, vI x8), (9, vI r3), (11, vI s11)]) _ _ (sub_of [0, 1, 2, 3, 4, 5, 6, 7, 8, 9, 11] rfl) ?_
                                  exact j18 _ hF
                            refine g_icmp hK 181 .eq (14) 195 (t1 := 195) (t2 := 184) (by decide +kernel) (by decide) rfl rfl (fun (hc84 : r3 = 2) => ?_) (fun (hc84 : ¬ (r3 = 2)) => ?_)
                            · have hF := ite_t hc84 hF
                              exact j77 _ hF
                            · have hF := ite_f hc84 hF
                              refine g_seg hK [.aload_n 0, .iconst 0, .iload_n 1] 184 187 (L1 := [(0, vR 0), (1, vI x1), (2, vI x2), (3, vI x3), (4, vI x4), (5, vI x5), (6, vI (wr (x6 + s14))), (7, vI x7), (8, vI x8), (9, vI r3), (10, vI r6), (11, vI s11)]) (st1 := [vI x1, vI 0, vR 0]) (h1 := h70) (P := True ∧ True ∧ True ∧ True) (by decide +kernel) rfl rfl ⟨trivial, trivial, trivial, trivial⟩ ?_
                              refine g_callV1 hK 187 18 (d1 := 1) (ci := 6) (i := 0) (vs := [vI 0, vI x1]) (rest := []) (h1 := h70) (r := vI (F_X_line 0 x1 h70)) my_yX6_line vw_X9_18 (by decide) (T_X_line (p1 := 0) (p2 := x1) (h := h70) (hF := rfl)) rfl rfl rfl (Nat.le_of_ble_eq_true rfl) (by decide +kernel) ?_
                              refine g_seg hK [.iload 10] 190 192 (L1 := [(0, vR 0), (1, vI x1), (2, vI x2), (3, vI x3), (4, vI x4), (5, vI x5), (6, vI (wr (x6 + s14))), (7, vI x7), (8, vI x8), (9, vI r3), (10, vI r6), (11, vI s11)]) (st1 := [vI r6, vI (F_X_line 0 x1 h70)]) (h1 := h70) (P := True ∧ True) (by decide +kernel) rfl rfl ⟨trivial, trivial⟩ ?_
                              refine g_icmp hK 192 .ne (24) 216 (t1 := 195) (t2 := 216) (by decide +kernel) (by decide) rfl rfl (fun (hc85 : F_X_line 0 x1 h70 = r6) => ?_) (fun (hc85 : ¬ (F_X_line 0 x1 h70 = r6)) => ?_)
                              · have hF := ite_t hc85 hF
                                exact j77 _ hF
                              · have hF := ite_f hc85 hF
                                refine hK.2.1 _ _ ([(0, vR 0), (1, vI x1), (2, vI x2), (3, vI x3), (4, vI x4), (5, vI x5), (6, vI (wr (x6 + s14))), (7, vI x7), (8, vI x8), (9, vI r3), (11, vI s11)]) _ _ (sub_of [0, 1, 2, 3, 4, 5, 6, 7, 8, 9, 11] rfl) ?_
                                exact j18 _ hF
                          · have hF := ite_f hc75 hF
                            refine hK.2.1 _ _ ([(0, vR 0), (1, vI x1), (2, vI x2), (3, vI x3), (4, vI x4), (5, vI x5), (6, vI (wr (x6 + s14))), (7, vI x7), (8, vI x8), (9, vI r3), (11, vI s11)]) _ _ (sub_of [0, 1, 2, 3, 4, 5, 6, 7, 8, 9, 11] rfl) ?_
                            exact j18 _ hF
                        clear hF
                        have hF := e86
                        refine g_ifz hK 165 .ne (8) 173 (t1 := 168) (t2 := 173) (by decide +kernel) (by decide) rfl rfl (fun (hc74 : r3 = 0) => ?_) (fun (hc74 : ¬ (r3 = 0)) => ?_)
                        · have hF := ite_t hc74 hF
                          refine g_seg hK [.bipush (-4)] 168 170 (L1 := [(0, vR 0), (1, vI x1), (2, vI x2), (3, vI x3), (4, vI x4), (5, vI x5), (6, vI (wr (x6 + s14))), (7, vI x7), (8, vI x8), (9, vI r3), (10, vI r6), (11, vI s11)]) (st1 := [vI (-4), vI r69]) (h1 := h70) (P := True ∧ True) (by decide +kernel) rfl rfl ⟨trivial, trivial⟩ ?_
                          refine g_goto hK 170 (5) 175 (by decide +kernel) (by decide) ?_
                          cases hF
                          exact j73
                        · have hF := ite_f hc74 hF
                          refine g_seg hK [.iload 6] 173 175 (L1 := [(0, vR 0), (1, vI x1), (2, vI x2), (3, vI x3), (4, vI x4), (5, vI x5), (6, vI (wr (x6 + s14))), (7, vI x7), (8, vI x8), (9, vI r3), (10, vI r6), (11, vI s11)]) (st1 := [vI (wr (x6 + s14)), vI r69]) (h1 := h70) (P := True ∧ True) (by decide +kernel) rfl rfl ⟨trivial, trivial⟩ ?_
                          cases hF
                          exact j73
                      · have hF := ite_f hc68 hF
                        refine hK.2.1 _ _ ([(0, vR 0), (1, vI x1), (2, vI x2), (3, vI x3), (4, vI x4), (5, vI x5), (6, vI (wr (x6 + s14))), (7, vI x7), (8, vI x8), (9, vI r3), (11, vI s11)]) _ _ (sub_of [0, 1, 2, 3, 4, 5, 6, 7, 8, 9, 11] rfl) ?_
                        exact j18 _ hF
                    clear hF
                    have hF := e87
                    refine g_icmp hK 144 .ne (8) 152 (t1 := 147) (t2 := 152) (by decide +kernel) (by decide) rfl rfl (fun (hc67 : r3 = 1) => ?_) (fun (hc67 : ¬ (r3 = 1)) => ?_)
                    · have hF := ite_t hc67 hF
                      refine g_seg hK [.bipush (-4)] 147 149 (L1 := [(0, vR 0), (1, vI x1), (2, vI x2), (3, vI x3), (4, vI x4), (5, vI x5), (6, vI (wr (x6 + s14))), (7, vI x7), (8, vI x8), (9, vI r3), (10, vI r6), (11, vI s11)]) (st1 := [vI (-4), vI r62]) (h1 := h63) (P := True ∧ True) (by decide +kernel) rfl rfl ⟨trivial, trivial⟩ ?_
                      refine g_goto hK 149 (4) 153 (by decide +kernel) (by decide) ?_
                      cases hF
                      exact j66
                    · have hF := ite_f hc67 hF
                      refine g_seg hK [.iload_n 2] 152 153 (L1 := [(0, vR 0), (1, vI x1), (2, vI x2), (3, vI x3), (4, vI x4), (5, vI x5), (6, vI (wr (x6 + s14))), (7, vI x7), (8, vI x8), (9, vI r3), (10, vI r6), (11, vI s11)]) (st1 := [vI x2, vI r62]) (h1 := h63) (P := True ∧ True) (by decide +kernel) rfl rfl ⟨trivial, trivial⟩ ?_
                      cases hF
                      exact j66
                  · have hF := ite_f hc61 hF
                    refine hK.2.1 _ _ ([(0, vR 0), (1, vI x1), (2, vI x2), (3, vI x3), (4, vI x4), (5, vI x5), (6, vI (wr (x6 + s14))), (7, vI x7), (8, vI x8), (9, vI r3), (11, vI s11)]) _ _ (sub_of [0, 1, 2, 3, 4, 5, 6, 7, 8, 9, 11] rfl) ?_
                    exact j18 _ hF
                clear hF
                have hF := e88
                refine g_icmp hK 122 .ne (8) 130 (t1 := 125) (t2 := 130) (by decide +kernel) (by decide) rfl rfl (fun (hc60 : r3 = 2) => ?_) (fun (hc60 : ¬ (r3 = 2)) => ?_)
                · have hF := ite_t hc60 hF
                  refine g_seg hK [.bipush (-4)] 125 127 (L1 := [(6, vI (wr (x6 + s14))), (0, vR 0), (1, vI x1), (2, vI x2), (3, vI x3), (4, vI x4), (5, vI x5), (7, vI x7), (8, vI x8), (9, vI r3), (10, vI r6), (11, vI s11)]) (st1 := [vI (-4), vI r55]) (h1 := h56) (P := True ∧ True) (by decide +kernel) rfl rfl ⟨trivial, trivial⟩ ?_
                  refine g_goto hK 127 (4) 131 (by decide +kernel) (by decide) ?_
                  refine hK.2.1 _ _ ([(0, vR 0), (1, vI x1), (2, vI x2), (3, vI x3), (4, vI x4), (5, vI x5), (6, vI (wr (x6 + s14))), (7, vI x7), (8, vI x8), (9, vI r3), (10, vI r6), (11, vI s11)]) _ _ (sub_of [1, 2, 3, 4, 5, 6, 0, 7, 8, 9, 10, 11] rfl) ?_
                  cases hF
                  exact j59
                · have hF := ite_f hc60 hF
                  refine g_seg hK [.iload_n 1] 130 131 (L1 := [(6, vI (wr (x6 + s14))), (0, vR 0), (1, vI x1), (2, vI x2), (3, vI x3), (4, vI x4), (5, vI x5), (7, vI x7), (8, vI x8), (9, vI r3), (10, vI r6), (11, vI s11)]) (st1 := [vI x1, vI r55]) (h1 := h56) (P := True ∧ True) (by decide +kernel) rfl rfl ⟨trivial, trivial⟩ ?_
                  refine hK.2.1 _ _ ([(0, vR 0), (1, vI x1), (2, vI x2), (3, vI x3), (4, vI x4), (5, vI x5), (6, vI (wr (x6 + s14))), (7, vI x7), (8, vI x8), (9, vI r3), (10, vI r6), (11, vI s11)]) _ _ (sub_of [1, 2, 3, 4, 5, 6, 0, 7, 8, 9, 10, 11] rfl) ?_
                  cases hF
                  exact j59
              · have hF := ite_f hc54 hF
                refine hK.2.1 _ _ ([(0, vR 0), (1, vI x1), (2, vI x2), (3, vI x3), (4, vI x4), (5, vI x5), (6, vI (wr (x6 + s14))), (7, vI x7), (8, vI x8), (9, vI r3), (11, vI s11)]) _ _ (sub_of [1, 2, 3, 4, 5, 6, 0, 7, 8, 9, 11] rfl) ?_
                exact j18 _ hF
          clear hF
          have hF := e89
          refine g_ifz hK 90 .eq (7) 97 (t1 := 97) (t2 := 93) (by decide +kernel) (by decide) rfl rfl (fun (hc16 : s11 = 0) => ?_) (fun (hc16 : ¬ (s11 = 0)) => ?_)
          · have hF := ite_t hc16 hF
            refine g_seg hK [.iconst 0] 97 98 (L1 := [(11, vI s11), (0, vR 0), (1, vI x1), (2, vI x2), (3, vI x3), (4, vI x4), (5, vI x5), (6, vI x6), (7, vI x7), (8, vI x8), (9, vI r3), (10, vI r6)]) (st1 := [vI 0, vI x6]) (h1 := h12) (P := True ∧ True) (by decide +kernel) rfl rfl ⟨trivial, trivial⟩ ?_
            refine hK.2.1 _ _ ([(0, vR 0), (1, vI x1), (2, vI x2), (3, vI x3), (4, vI x4), (5, vI x5), (7, vI x7), (8, vI x8), (9, vI r3), (10, vI r6), (11, vI s11)]) _ _ (sub_of [1, 2, 3, 4, 5, 6, 8, 9, 10, 11, 0] rfl) ?_
            cases hF
            exact j15
          · have hF := ite_f hc16 hF
            refine g_seg hK [.iconst 1] 93 94 (L1 := [(11, vI s11), (0, vR 0), (1, vI x1), (2, vI x2), (3, vI x3), (4, vI x4), (5, vI x5), (6, vI x6), (7, vI x7), (8, vI x8), (9, vI r3), (10, vI r6)]) (st1 := [vI 1, vI x6]) (h1 := h12) (P := True ∧ True) (by decide +kernel) rfl rfl ⟨trivial, trivial⟩ ?_
            refine g_goto hK 94 (4) 98 (by decide +kernel) (by decide) ?_
            refine hK.2.1 _ _ ([(0, vR 0), (1, vI x1), (2, vI x2), (3, vI x3), (4, vI x4), (5, vI x5), (7, vI x7), (8, vI x8), (9, vI r3), (10, vI r6), (11, vI s11)]) _ _ (sub_of [1, 2, 3, 4, 5, 6, 8, 9, 10, 11, 0] rfl) ?_
            cases hF
            exact j15
        obtain ⟨kj10, e91, hF⟩ := jk1_elim hF
        have j10 : ∀ (h9 : MH), kj10 h9 = some out → K 83 [(0, vR 0), (1, vI x1), (2, vI x2), (3, vI x3), (4, vI x4), (5, vI x5), (6, vI x6), (7, vI x7), (8, vI x8), (9, vI r3), (10, vI r6)] [] h9 := by
          intro h9 hF
          have hF := (e91 h9).symm.trans hF
          refine g_seg hK [.iconst 0] 83 84 (L1 := [(0, vR 0), (1, vI x1), (2, vI x2), (3, vI x3), (4, vI x4), (5, vI x5), (6, vI x6), (7, vI x7), (8, vI x8), (9, vI r3), (10, vI r6)]) (st1 := [vI 0]) (h1 := h9) (P := True ∧ True) (by decide +kernel) rfl rfl ⟨trivial, trivial⟩ ?_
          exact j13 _ _ hF
        refine g_ifz hK 59 .le (24) 83 (t1 := 83) (t2 := 62) (by decide +kernel) (by decide) rfl rfl (fun (hc92 : r3 ≤ 0) => ?_) (fun (hc92 : ¬ (r3 ≤ 0)) => ?_)
        · have hF := ite_t hc92 hF
          refine hK.2.1 _ _ ([(0, vR 0), (1, vI x1), (2, vI x2), (3, vI x3), (4, vI x4), (5, vI x5), (6, vI x6), (7, vI x7), (8, vI x8), (9, vI r3), (10, vI r6)]) _ _ (sub_of [2, 3, 4, 5, 6, 7, 8, 9, 10, 1, 0] rfl) ?_
          exact j10 _ hF
        · have hF := ite_f hc92 hF
          refine g_seg hK [.iload 8] 62 64 (L1 := [(10, vI r6), (9, vI r3), (0, vR 0), (1, vI x1), (2, vI x2), (3, vI x3), (4, vI x4), (5, vI x5), (6, vI x6), (7, vI x7), (8, vI x8)]) (st1 := [vI x8]) (h1 := h7) (P := True ∧ True) (by decide +kernel) rfl rfl ⟨trivial, trivial⟩ ?_
          obtain ⟨kj94, e95, hF⟩ := jk1_elim hF
          have j94 : ∀ (h93 : MH), kj94 h93 = some out → K 79 [(0, vR 0), (1, vI x1), (2, vI x2), (3, vI x3), (4, vI x4), (5, vI x5), (6, vI x6), (7, vI x7), (8, vI x8), (9, vI r3), (10, vI r6)] [] h93 := by
            intro h93 hF
            have hF := (e95 h93).symm.trans hF
            refine g_seg hK [.iconst 1] 79 80 (L1 := [(0, vR 0), (1, vI x1), (2, vI x2), (3, vI x3), (4, vI x4), (5, vI x5), (6, vI x6), (7, vI x7), (8, vI x8), (9, vI r3), (10, vI r6)]) (st1 := [vI 1]) (h1 := h93) (P := True ∧ True) (by decide +kernel) rfl rfl ⟨trivial, trivial⟩ ?_
            refine g_goto hK 80 (4) 84 (by decide +kernel) (by decide) ?_
            exact j13 _ _ hF
          refine g_ifz hK 64 .eq (15) 79 (t1 := 79) (t2 := 67) (by decide +kernel) (by decide) rfl rfl (fun (hc96 : x8 = 0) => ?_) (fun (hc96 : ¬ (x8 = 0)) => ?_)
          · have hF := ite_t hc96 hF
            refine hK.2.1 _ _ ([(0, vR 0), (1, vI x1), (2, vI x2), (3, vI x3), (4, vI x4), (5, vI x5), (6, vI x6), (7, vI x7), (8, vI x8), (9, vI r3), (10, vI r6)]) _ _ (sub_of [2, 3, 4, 5, 6, 7, 8, 9, 10, 1, 0] rfl) ?_
            exact j94 _ hF
          · have hF := ite_f hc96 hF
            refine g_seg hK [.aload_n 0, .iload 8, .iconst 1, .isub, .iconst 0] 67 73 (L1 := [(10, vI r6), (9, vI r3), (0, vR 0), (1, vI x1), (2, vI x2), (3, vI x3), (4, vI x4), (5, vI x5), (6, vI x6), (7, vI x7), (8, vI x8)]) (st1 := [vI 0, vI (wr (x8 - 1)), vR 0]) (h1 := h7) (P := True ∧ True ∧ True ∧ True ∧ True ∧ True) (by decide +kernel) rfl rfl ⟨trivial, trivial, trivial, trivial, trivial, trivial⟩ ?_
            obtain ⟨r97, h98, e99, hF⟩ := ob2_elim hF
            refine g_callV1 hK 73 14 (d1 := 6) (ci := 6) (i := 0) (vs := [vI (wr (x8 - 1)), vI 0]) (rest := []) (h1 := h98) (r := vI r97) my_yX6_view vw_X9_14 (by decide) (T_X_view (p1 := (wr (x8 - 1))) (p2 := 0) (h := h7) (hF := e99)) rfl rfl rfl (Nat.le_of_ble_eq_true rfl) (by decide +kernel) ?_
            refine g_ifz hK 76 .ne (7) 83 (t1 := 79) (t2 := 83) (by decide +kernel) (by decide) rfl rfl (fun (hc100 : r97 = 0) => ?_) (fun (hc100 : ¬ (r97 = 0)) => ?_)
            · have hF := ite_t hc100 hF
              refine hK.2.1 _ _ ([(0, vR 0), (1, vI x1), (2, vI x2), (3, vI x3), (4, vI x4), (5, vI x5), (6, vI x6), (7, vI x7), (8, vI x8), (9, vI r3), (10, vI r6)]) _ _ (sub_of [2, 3, 4, 5, 6, 7, 8, 9, 10, 1, 0] rfl) ?_
              exact j94 _ hF
            · have hF := ite_f hc100 hF
              refine hK.2.1 _ _ ([(0, vR 0), (1, vI x1), (2, vI x2), (3, vI x3), (4, vI x4), (5, vI x5), (6, vI x6), (7, vI x7), (8, vI x8), (9, vI r3), (10, vI r6)]) _ _ (sub_of [2, 3, 4, 5, 6, 7, 8, 9, 10, 1, 0] rfl) ?_
              exact j10 _ hF
      · have hF := ite_f hc2 hF
        cases hF
        exact hE _ rfl
    · have hF := ite_f hc1 hF
      cases hF
      exact hE _ rfl
set_option maxHeartbeats 4000000 in
set_option maxRecDepth 100000 in
theorem T_L_isView {h : MH} {r : Int} {h' : MH} (hF : F_L_isView h = some (r, h')) : CON 7 yL_isView cL_isView 13 (Option.some Jvm.ClassFile.FieldType.boolean) [vR 0] h (some (vI r)) h' := by
  refine con_of (own := RX9) (fl := flX9) (by decide +kernel) rfl flok_X9 rfl (Nat.le_of_ble_eq_true rfl) ?_
  intro K hK hR
  show K 0 [(0, vR 0)] [] h
  unfold F_L_isView at hF
  refine g_seg hK [.iconst 0, .istore_n 1, .iconst 0, .istore_n 2, .iconst 0, .istore_n 3, .iconst 0, .istore 4, .iconst 0, .istore 5, .iconst (-1), .istore 6, .aload_n 0, .iconst 3] 0 17 (L1 := [(6, vI (-1)), (5, vI 0), (4, vI 0), (3, vI 0), (2, vI 0), (1, vI 0), (0, vR 0)]) (st1 := [vI 3, vR 0]) (h1 := h) (P := True ∧ True ∧ True ∧ True ∧ True ∧ True ∧ True ∧ True ∧ True ∧ True ∧ True ∧ True ∧ True ∧ True ∧ True) (by decide +kernel) rfl rfl ⟨trivial, trivial, trivial, trivial, trivial, trivial, trivial, trivial, trivial, trivial, trivial, trivial, trivial, trivial, trivial⟩ ?_
  obtain ⟨r1, h2, e3, hF⟩ := ob2_elim hF
  refine g_callV1 hK 17 8 (d1 := 6) (ci := 6) (i := 0) (vs := [vI 3]) (rest := []) (h1 := h2) (r := vI r1) my_yX6_count vw_X9_8 (by decide) (T_X_count (p1 := 3) (h := h) (hF := e3)) rfl rfl rfl (Nat.le_of_ble_eq_true rfl) (by decide +kernel) ?_
  refine g_seg hK [.istore 7, .iconst 0, .istore 8] 20 25 (L1 := [(8, vI 0), (7, vI r1), (6, vI (-1)), (5, vI 0), (4, vI 0), (3, vI 0), (2, vI 0), (1, vI 0), (0, vR 0)]) (st1 := []) (h1 := h2) (P := True ∧ True ∧ True ∧ True) (by decide +kernel) rfl rfl ⟨trivial, trivial, trivial, trivial⟩ ?_
  refine hK.2.1 _ _ ([(0, vR 0), (1, vI 0), (2, vI 0), (3, vI 0), (4, vI 0), (5, vI 0), (6, vI (-1)), (7, vI r1), (8, vI 0)]) _ _ (sub_of [8, 7, 6, 5, 4, 3, 2, 1, 0] rfl) ?_
  obtain ⟨out14, e12, hr15, hx16⟩ := os_elim hF
  refine LT_L_isView_L25 hK hR _ _ _ _ _ _ _ _ _ out14 e12 ?_ ?_
  · intro a ha
    have hF := hr15 a ha
    cases hF
    exact ⟨rfl, rfl⟩
  · intro q13 hq
    have hF := hx16 q13 hq
    refine g_seg hK [.iload 7, .iload_n 3, .isub, .istore 8, .iload_n 1, .aload_n 0, .iconst 0] 321 330 (L1 := [(8, vI (wr (r1 - q13.2.2.1))), (0, vR 0), (1, vI q13.1), (2, vI q13.2.1), (3, vI q13.2.2.1), (4, vI q13.2.2.2.1), (5, vI q13.2.2.2.2.1), (6, vI q13.2.2.2.2.2.1), (7, vI r1)]) (st1 := [vI 0, vR 0, vI q13.1]) (h1 := q13.2.2.2.2.2.2.2) (P := True ∧ True ∧ True ∧ True ∧ True ∧ True ∧ True ∧ True) (by decide +kernel) rfl rfl ⟨trivial, trivial, trivial, trivial, trivial, trivial, trivial, trivial⟩ ?_
    obtain ⟨r17, h18, e19, hF⟩ := ob2_elim hF
    refine g_callV1 hK 330 8 (d1 := 6) (ci := 6) (i := 0) (vs := [vI 0]) (rest := [vI q13.1]) (h1 := h18) (r := vI r17) my_yX6_count vw_X9_8 (by decide) (T_X_count (p1 := 0) (h := q13.2.2.2.2.2.2.2) (hF := e19)) rfl rfl rfl (Nat.le_of_ble_eq_true rfl) (by decide +kernel) ?_
    obtain ⟨kj24, e48, hF⟩ := jk2_elim hF
    have j24 : ∀ (s22 : Int) (h23 : MH), kj24 s22 h23 = some (r, h') → K 408 [(0, vR 0), (1, vI q13.1), (2, vI q13.2.1), (3, vI q13.2.2.1), (7, vI r1), (8, vI (wr (r1 - q13.2.2.1)))] [vI s22] h23 := by
      intro s22 h23 hF
      have hF := (e48 s22 h23).symm.trans hF
      refine g_seg hK [.istore 9, .iload 9] 408 412 (L1 := [(9, vI s22), (0, vR 0), (1, vI q13.1), (2, vI q13.2.1), (3, vI q13.2.2.1), (7, vI r1), (8, vI (wr (r1 - q13.2.2.1)))]) (st1 := [vI s22]) (h1 := h23) (P := True ∧ True ∧ True) (by decide +kernel) rfl rfl ⟨trivial, trivial, trivial⟩ ?_
      refine g_ifz hK 412 .eq (68) 480 (t1 := 480) (t2 := 415) (by decide +kernel) (by decide) rfl rfl (fun (hc25 : s22 = 0) => ?_) (fun (hc25 : ¬ (s22 = 0)) => ?_)
      · have hF := ite_t hc25 hF
        refine g_seg hK [.iconst 0] 480 481 (L1 := [(9, vI s22), (0, vR 0), (1, vI q13.1), (2, vI q13.2.1), (3, vI q13.2.2.1), (7, vI r1), (8, vI (wr (r1 - q13.2.2.1)))]) (st1 := [vI 0]) (h1 := h23) (P := True ∧ True) (by decide +kernel) rfl rfl ⟨trivial, trivial⟩ ?_
        cases hF
        exact hR.2.1 481 _ _ _ (by decide +kernel) rfl (by decide) ⟨rfl, rfl⟩
      · have hF := ite_f hc25 hF
        refine g_seg hK [.aload_n 0, .iconst 0] 415 417 (L1 := [(9, vI s22), (0, vR 0), (1, vI q13.1), (2, vI q13.2.1), (3, vI q13.2.2.1), (7, vI r1), (8, vI (wr (r1 - q13.2.2.1)))]) (st1 := [vI 0, vR 0]) (h1 := h23) (P := True ∧ True ∧ True) (by decide +kernel) rfl rfl ⟨trivial, trivial, trivial⟩ ?_
        obtain ⟨r26, h27, e28, hF⟩ := ob2_elim hF
        refine g_callV1 hK 417 24 (d1 := 6) (ci := 6) (i := 0) (vs := [vI 0]) (rest := []) (h1 := h27) (r := vI r26) my_yX6_distance vw_X9_24 (by decide) (T_X_distance (p1 := 0) (h := h23) (hF := e28)) rfl rfl rfl (Nat.le_of_ble_eq_true rfl) (by decide +kernel) ?_
        refine g_seg hK [.iload 8] 420 422 (L1 := [(9, vI s22), (0, vR 0), (1, vI q13.1), (2, vI q13.2.1), (3, vI q13.2.2.1), (7, vI r1), (8, vI (wr (r1 - q13.2.2.1)))]) (st1 := [vI (wr (r1 - q13.2.2.1)), vI r26]) (h1 := h27) (P := True ∧ True) (by decide +kernel) rfl rfl ⟨trivial, trivial⟩ ?_
        refine g_icmp hK 422 .ne (58) 480 (t1 := 425) (t2 := 480) (by decide +kernel) (by decide) rfl rfl (fun (hc29 : r26 = wr (r1 - q13.2.2.1)) => ?_) (fun (hc29 : ¬ (r26 = wr (r1 - q13.2.2.1))) => ?_)
        · have hF := ite_t hc29 hF
          refine g_seg hK [.aload_n 0, .iconst 1] 425 427 (L1 := [(9, vI s22), (0, vR 0), (1, vI q13.1), (2, vI q13.2.1), (3, vI q13.2.2.1), (7, vI r1), (8, vI (wr (r1 - q13.2.2.1)))]) (st1 := [vI 1, vR 0]) (h1 := h27) (P := True ∧ True ∧ True) (by decide +kernel) rfl rfl ⟨trivial, trivial, trivial⟩ ?_
          obtain ⟨r30, h31, e32, hF⟩ := ob2_elim hF
          refine g_callV1 hK 427 24 (d1 := 6) (ci := 6) (i := 0) (vs := [vI 1]) (rest := []) (h1 := h31) (r := vI r30) my_yX6_distance vw_X9_24 (by decide) (T_X_distance (p1 := 1) (h := h27) (hF := e32)) rfl rfl rfl (Nat.le_of_ble_eq_true rfl) (by decide +kernel) ?_
          refine g_seg hK [.iload 8] 430 432 (L1 := [(9, vI s22), (0, vR 0), (1, vI q13.1), (2, vI q13.2.1), (3, vI q13.2.2.1), (7, vI r1), (8, vI (wr (r1 - q13.2.2.1)))]) (st1 := [vI (wr (r1 - q13.2.2.1)), vI r30]) (h1 := h31) (P := True ∧ True) (by decide +kernel) rfl rfl ⟨trivial, trivial⟩ ?_
          refine g_icmp hK 432 .ne (48) 480 (t1 := 435) (t2 := 480) (by decide +kernel) (by decide) rfl rfl (fun (hc33 : r30 = wr (r1 - q13.2.2.1)) => ?_) (fun (hc33 : ¬ (r30 = wr (r1 - q13.2.2.1))) => ?_)
          · have hF := ite_t hc33 hF
            refine g_seg hK [.aload_n 0, .iload 7, .iconst 0] 435 439 (L1 := [(9, vI s22), (0, vR 0), (1, vI q13.1), (2, vI q13.2.1), (3, vI q13.2.2.1), (7, vI r1), (8, vI (wr (r1 - q13.2.2.1)))]) (st1 := [vI 0, vI r1, vR 0]) (h1 := h31) (P := True ∧ True ∧ True ∧ True) (by decide +kernel) rfl rfl ⟨trivial, trivial, trivial, trivial⟩ ?_
            obtain ⟨r34, h35, e36, hF⟩ := ob2_elim hF
            refine g_callV1 hK 439 14 (d1 := 6) (ci := 6) (i := 0) (vs := [vI r1, vI 0]) (rest := []) (h1 := h35) (r := vI r34) my_yX6_view vw_X9_14 (by decide) (T_X_view (p1 := r1) (p2 := 0) (h := h31) (hF := e36)) rfl rfl rfl (Nat.le_of_ble_eq_true rfl) (by decide +kernel) ?_
            refine g_seg hK [.bipush (-4)] 442 444 (L1 := [(9, vI s22), (0, vR 0), (1, vI q13.1), (2, vI q13.2.1), (3, vI q13.2.2.1), (7, vI r1), (8, vI (wr (r1 - q13.2.2.1)))]) (st1 := [vI (-4), vI r34]) (h1 := h35) (P := True ∧ True) (by decide +kernel) rfl rfl ⟨trivial, trivial⟩ ?_
            refine g_icmp hK 444 .ne (36) 480 (t1 := 447) (t2 := 480) (by decide +kernel) (by decide) rfl rfl (fun (hc37 : r34 = (-4)) => ?_) (fun (hc37 : ¬ (r34 = (-4))) => ?_)
            · have hF := ite_t hc37 hF
              refine g_seg hK [.aload_n 0] 447 448 (L1 := [(9, vI s22), (0, vR 0), (1, vI q13.1), (2, vI q13.2.1), (3, vI q13.2.2.1), (7, vI r1), (8, vI (wr (r1 - q13.2.2.1)))]) (st1 := [vR 0]) (h1 := h35) (P := True ∧ True) (by decide +kernel) rfl rfl ⟨trivial, trivial⟩ ?_
              obtain ⟨r38, h39, e40, hF⟩ := ob2_elim hF
              refine g_callV1 hK 448 27 (d1 := 4) (ci := 6) (i := 0) (vs := []) (rest := []) (h1 := h39) (r := vD r38) my_yX6_alike vw_X9_27 (by decide) (T_X_alike (h := h35) (hF := e40)) rfl rfl rfl (Nat.le_of_ble_eq_true rfl) (by decide +kernel) ?_
              refine g_seg hK [.iload_n 1, .iload_n 2, .iadd] 451 454 (L1 := [(9, vI s22), (0, vR 0), (1, vI q13.1), (2, vI q13.2.1), (3, vI q13.2.2.1), (7, vI r1), (8, vI (wr (r1 - q13.2.2.1)))]) (st1 := [vI (wr (q13.1 + q13.2.1)), vD r38]) (h1 := h39) (P := True ∧ True ∧ True ∧ True) (by decide +kernel) rfl rfl ⟨trivial, trivial, trivial, trivial⟩ ?_
              obtain ⟨kj42, e44, hF⟩ := jk1_elim hF
              have j42 : ∀ (s41 : UInt64), kj42 s41 = some (r, h') → K 472 [] [vD s41, vD r38] h39 := by
                intro s41 hF
                have hF := (e44 s41).symm.trans hF
                refine g_seg hK [.dcmp .l] 472 473 (L1 := []) (st1 := [vI ((Op.cmpValue (FP.dcmp r38 s41) .l).toInt)]) (h1 := h39) (P := True ∧ True) (by decide +kernel) rfl rfl ⟨trivial, trivial⟩ ?_
                refine g_ifz hK 473 .ne (7) 480 (t1 := 476) (t2 := 480) (by decide +kernel) (by decide) rfl rfl (fun (hc43 : (Op.cmpValue (FP.dcmp r38 s41) .l).toInt = 0) => ?_) (fun (hc43 : ¬ ((Op.cmpValue (FP.dcmp r38 s41) .l).toInt = 0)) => ?_)
                · have hF := ite_t hc43 hF
                  refine g_seg hK [.iconst 1] 476 477 (L1 := []) (st1 := [vI 1]) (h1 := h39) (P := True ∧ True) (by decide +kernel) rfl rfl ⟨trivial, trivial⟩ ?_
                  refine g_goto hK 477 (4) 481 (by decide +kernel) (by decide) ?_
                  cases hF
                  exact hR.2.1 481 _ _ _ (by decide +kernel) rfl (by decide) ⟨rfl, rfl⟩
                · have hF := ite_f hc43 hF
                  refine g_seg hK [.iconst 0] 480 481 (L1 := []) (st1 := [vI 0]) (h1 := h39) (P := True ∧ True) (by decide +kernel) rfl rfl ⟨trivial, trivial⟩ ?_
                  cases hF
                  exact hR.2.1 481 _ _ _ (by decide +kernel) rfl (by decide) ⟨rfl, rfl⟩
              refine g_ifz hK 454 .ne (7) 461 (t1 := 457) (t2 := 461) (by decide +kernel) (by decide) rfl rfl (fun (hc45 : wr (q13.1 + q13.2.1) = 0) => ?_) (fun (hc45 : ¬ (wr (q13.1 + q13.2.1) = 0)) => ?_)
              · have hF := ite_t hc45 hF
                refine g_seg hK [.dconst 1] 457 458 (L1 := [(9, vI s22), (0, vR 0), (1, vI q13.1), (2, vI q13.2.1), (3, vI q13.2.2.1), (7, vI r1), (8, vI (wr (r1 - q13.2.2.1)))]) (st1 := [vD FP.dconst1, vD r38]) (h1 := h39) (P := True ∧ True) (by decide +kernel) rfl rfl ⟨trivial, trivial⟩ ?_
                refine g_goto hK 458 (14) 472 (by decide +kernel) (by decide) ?_
                refine hK.2.1 _ _ ([]) _ _ (sub_of [] rfl) ?_
                exact j42 _ hF
              · have hF := ite_f hc45 hF
                refine g_seg hK [.iconst 2, .iload_n 3, .imul, .i2d, .dconst 1] 461 466 (L1 := [(9, vI s22), (0, vR 0), (1, vI q13.1), (2, vI q13.2.1), (3, vI q13.2.2.1), (7, vI r1), (8, vI (wr (r1 - q13.2.2.1)))]) (st1 := [vD FP.dconst1, vD (FP.i2d (Int32.ofInt (wr (2 * q13.2.2.1)))), vD r38]) (h1 := h39) (P := True ∧ True ∧ True ∧ True ∧ True ∧ True) (by decide +kernel) rfl rfl ⟨trivial, trivial, trivial, trivial, trivial, trivial⟩ ?_
                obtain ⟨hg46, hF⟩ := gd_elim hF
                refine g_seg hK [.dmul, .iload_n 1, .iload_n 2, .iadd, .i2d] 466 471 (L1 := [(9, vI s22), (0, vR 0), (1, vI q13.1), (2, vI q13.2.1), (3, vI q13.2.2.1), (7, vI r1), (8, vI (wr (r1 - q13.2.2.1)))]) (st1 := [vD (FP.i2d (Int32.ofInt (wr (q13.1 + q13.2.1)))), vD (FP.dmul (FP.i2d (Int32.ofInt (wr (2 * q13.2.2.1)))) FP.dconst1), vD r38]) (h1 := h39) (P := vf_n64 (FP.dmul (FP.i2d (Int32.ofInt (wr (2 * q13.2.2.1)))) FP.dconst1) ∧ True ∧ True ∧ True ∧ True ∧ True) (by decide +kernel) rfl rfl ⟨hg46, trivial, trivial, trivial, trivial, trivial⟩ ?_
                obtain ⟨hg47, hF⟩ := gd_elim hF
                refine g_seg hK [.ddiv] 471 472 (L1 := [(9, vI s22), (0, vR 0), (1, vI q13.1), (2, vI q13.2.1), (3, vI q13.2.2.1), (7, vI r1), (8, vI (wr (r1 - q13.2.2.1)))]) (st1 := [vD (FP.ddiv (FP.dmul (FP.i2d (Int32.ofInt (wr (2 * q13.2.2.1)))) FP.dconst1) (FP.i2d (Int32.ofInt (wr (q13.1 + q13.2.1))))), vD r38]) (h1 := h39) (P := vf_n64 (FP.ddiv (FP.dmul (FP.i2d (Int32.ofInt (wr (2 * q13.2.2.1)))) FP.dconst1) (FP.i2d (Int32.ofInt (wr (q13.1 + q13.2.1))))) ∧ True) (by decide +kernel) rfl rfl ⟨hg47, trivial⟩ ?_
                refine hK.2.1 _ _ ([]) _ _ (sub_of [] rfl) ?_
                exact j42 _ hF
            · have hF := ite_f hc37 hF
              refine g_seg hK [.iconst 0] 480 481 (L1 := [(9, vI s22), (0, vR 0), (1, vI q13.1), (2, vI q13.2.1), (3, vI q13.2.2.1), (7, vI r1), (8, vI (wr (r1 - q13.2.2.1)))]) (st1 := [vI 0]) (h1 := h35) (P := True ∧ True) (by decide +kernel) rfl rfl ⟨trivial, trivial⟩ ?_
              cases hF
              exact hR.2.1 481 _ _ _ (by decide +kernel) rfl (by decide) ⟨rfl, rfl⟩
          · have hF := ite_f hc33 hF
            refine g_seg hK [.iconst 0] 480 481 (L1 := [(9, vI s22), (0, vR 0), (1, vI q13.1), (2, vI q13.2.1), (3, vI q13.2.2.1), (7, vI r1), (8, vI (wr (r1 - q13.2.2.1)))]) (st1 := [vI 0]) (h1 := h31) (P := True ∧ True) (by decide +kernel) rfl rfl ⟨trivial, trivial⟩ ?_
            cases hF
            exact hR.2.1 481 _ _ _ (by decide +kernel) rfl (by decide) ⟨rfl, rfl⟩
        · have hF := ite_f hc29 hF
          refine g_seg hK [.iconst 0] 480 481 (L1 := [(9, vI s22), (0, vR 0), (1, vI q13.1), (2, vI q13.2.1), (3, vI q13.2.2.1), (7, vI r1), (8, vI (wr (r1 - q13.2.2.1)))]) (st1 := [vI 0]) (h1 := h27) (P := True ∧ True) (by decide +kernel) rfl rfl ⟨trivial, trivial⟩ ?_
          cases hF
          exact hR.2.1 481 _ _ _ (by decide +kernel) rfl (by decide) ⟨rfl, rfl⟩
    obtain ⟨kj21, e49, hF⟩ := jk1_elim hF
    have j21 : ∀ (h20 : MH), kj21 h20 = some (r, h') → K 407 [(0, vR 0), (1, vI q13.1), (2, vI q13.2.1), (3, vI q13.2.2.1), (7, vI r1), (8, vI (wr (r1 - q13.2.2.1)))] [] h20 := by
      intro h20 hF
      have hF := (e49 h20).symm.trans hF
      refine g_seg hK [.iconst 0] 407 408 (L1 := [(0, vR 0), (1, vI q13.1), (2, vI q13.2.1), (3, vI q13.2.2.1), (7, vI r1), (8, vI (wr (r1 - q13.2.2.1)))]) (st1 := [vI 0]) (h1 := h20) (P := True ∧ True) (by decide +kernel) rfl rfl ⟨trivial, trivial⟩ ?_
      exact j24 _ _ hF
    refine g_icmp hK 333 .ne (74) 407 (t1 := 336) (t2 := 407) (by decide +kernel) (by decide) rfl rfl (fun (hc50 : q13.1 = r17) => ?_) (fun (hc50 : ¬ (q13.1 = r17)) => ?_)
    · have hF := ite_t hc50 hF
      refine g_seg hK [.iload_n 2, .aload_n 0, .iconst 1] 336 339 (L1 := [(8, vI (wr (r1 - q13.2.2.1))), (0, vR 0), (1, vI q13.1), (2, vI q13.2.1), (3, vI q13.2.2.1), (4, vI q13.2.2.2.1), (5, vI q13.2.2.2.2.1), (6, vI q13.2.2.2.2.2.1), (7, vI r1)]) (st1 := [vI 1, vR 0, vI q13.2.1]) (h1 := h18) (P := True ∧ True ∧ True ∧ True) (by decide +kernel) rfl rfl ⟨trivial, trivial, trivial, trivial⟩ ?_
      obtain ⟨r51, h52, e53, hF⟩ := ob2_elim hF
      refine g_callV1 hK 339 8 (d1 := 6) (ci := 6) (i := 0) (vs := [vI 1]) (rest := [vI q13.2.1]) (h1 := h52) (r := vI r51) my_yX6_count vw_X9_8 (by decide) (T_X_count (p1 := 1) (h := h18) (hF := e53)) rfl rfl rfl (Nat.le_of_ble_eq_true rfl) (by decide +kernel) ?_
      refine g_icmp hK 342 .ne (65) 407 (t1 := 345) (t2 := 407) (by decide +kernel) (by decide) rfl rfl (fun (hc54 : q13.2.1 = r51) => ?_) (fun (hc54 : ¬ (q13.2.1 = r51)) => ?_)
      · have hF := ite_t hc54 hF
        refine g_seg hK [.iload_n 3, .aload_n 0, .iconst 4] 345 348 (L1 := [(8, vI (wr (r1 - q13.2.2.1))), (0, vR 0), (1, vI q13.1), (2, vI q13.2.1), (3, vI q13.2.2.1), (4, vI q13.2.2.2.1), (5, vI q13.2.2.2.2.1), (6, vI q13.2.2.2.2.2.1), (7, vI r1)]) (st1 := [vI 4, vR 0, vI q13.2.2.1]) (h1 := h52) (P := True ∧ True ∧ True ∧ True) (by decide +kernel) rfl rfl ⟨trivial, trivial, trivial, trivial⟩ ?_
        obtain ⟨r55, h56, e57, hF⟩ := ob2_elim hF
        refine g_callV1 hK 348 8 (d1 := 6) (ci := 6) (i := 0) (vs := [vI 4]) (rest := [vI q13.2.2.1]) (h1 := h56) (r := vI r55) my_yX6_count vw_X9_8 (by decide) (T_X_count (p1 := 4) (h := h52) (hF := e57)) rfl rfl rfl (Nat.le_of_ble_eq_true rfl) (by decide +kernel) ?_
        refine g_icmp hK 351 .ne (56) 407 (t1 := 354) (t2 := 407) (by decide +kernel) (by decide) rfl rfl (fun (hc58 : q13.2.2.1 = r55) => ?_) (fun (hc58 : ¬ (q13.2.2.1 = r55)) => ?_)
        · have hF := ite_t hc58 hF
          refine g_seg hK [.iload 7, .iload_n 2, .isub, .aload_n 0, .iconst 5] 354 360 (L1 := [(8, vI (wr (r1 - q13.2.2.1))), (0, vR 0), (1, vI q13.1), (2, vI q13.2.1), (3, vI q13.2.2.1), (4, vI q13.2.2.2.1), (5, vI q13.2.2.2.2.1), (6, vI q13.2.2.2.2.2.1), (7, vI r1)]) (st1 := [vI 5, vR 0, vI (wr (r1 - q13.2.1))]) (h1 := h56) (P := True ∧ True ∧ True ∧ True ∧ True ∧ True) (by decide +kernel) rfl rfl ⟨trivial, trivial, trivial, trivial, trivial, trivial⟩ ?_
          obtain ⟨r59, h60, e61, hF⟩ := ob2_elim hF
          refine g_callV1 hK 360 8 (d1 := 6) (ci := 6) (i := 0) (vs := [vI 5]) (rest := [vI (wr (r1 - q13.2.1))]) (h1 := h60) (r := vI r59) my_yX6_count vw_X9_8 (by decide) (T_X_count (p1 := 5) (h := h56) (hF := e61)) rfl rfl rfl (Nat.le_of_ble_eq_true rfl) (by decide +kernel) ?_
          refine g_icmp hK 363 .ne (44) 407 (t1 := 366) (t2 := 407) (by decide +kernel) (by decide) rfl rfl (fun (hc62 : wr (r1 - q13.2.1) = r59) => ?_) (fun (hc62 : ¬ (wr (r1 - q13.2.1) = r59)) => ?_)
          · have hF := ite_t hc62 hF
            refine g_seg hK [.iload 7, .iload_n 1, .isub, .aload_n 0, .bipush 6] 366 373 (L1 := [(8, vI (wr (r1 - q13.2.2.1))), (0, vR 0), (1, vI q13.1), (2, vI q13.2.1), (3, vI q13.2.2.1), (4, vI q13.2.2.2.1), (5, vI q13.2.2.2.2.1), (6, vI q13.2.2.2.2.2.1), (7, vI r1)]) (st1 := [vI 6, vR 0, vI (wr (r1 - q13.1))]) (h1 := h60) (P := True ∧ True ∧ True ∧ True ∧ True ∧ True) (by decide +kernel) rfl rfl ⟨trivial, trivial, trivial, trivial, trivial, trivial⟩ ?_
            obtain ⟨r63, h64, e65, hF⟩ := ob2_elim hF
            refine g_callV1 hK 373 8 (d1 := 6) (ci := 6) (i := 0) (vs := [vI 6]) (rest := [vI (wr (r1 - q13.1))]) (h1 := h64) (r := vI r63) my_yX6_count vw_X9_8 (by decide) (T_X_count (p1 := 6) (h := h60) (hF := e65)) rfl rfl rfl (Nat.le_of_ble_eq_true rfl) (by decide +kernel) ?_
            refine g_icmp hK 376 .ne (31) 407 (t1 := 379) (t2 := 407) (by decide +kernel) (by decide) rfl rfl (fun (hc66 : wr (r1 - q13.1) = r63) => ?_) (fun (hc66 : ¬ (wr (r1 - q13.1) = r63)) => ?_)
            · have hF := ite_t hc66 hF
              refine g_seg hK [.iload 6, .iconst 1, .iadd, .aload_n 0, .bipush 7] 379 386 (L1 := [(8, vI (wr (r1 - q13.2.2.1))), (0, vR 0), (1, vI q13.1), (2, vI q13.2.1), (3, vI q13.2.2.1), (4, vI q13.2.2.2.1), (5, vI q13.2.2.2.2.1), (6, vI q13.2.2.2.2.2.1), (7, vI r1)]) (st1 := [vI 7, vR 0, vI (wr (q13.2.2.2.2.2.1 + 1))]) (h1 := h64) (P := True ∧ True ∧ True ∧ True ∧ True ∧ True) (by decide +kernel) rfl rfl ⟨trivial, trivial, trivial, trivial, trivial, trivial⟩ ?_
              obtain ⟨r67, h68, e69, hF⟩ := ob2_elim hF
              refine g_callV1 hK 386 8 (d1 := 6) (ci := 6) (i := 0) (vs := [vI 7]) (rest := [vI (wr (q13.2.2.2.2.2.1 + 1))]) (h1 := h68) (r := vI r67) my_yX6_count vw_X9_8 (by decide) (T_X_count (p1 := 7) (h := h64) (hF := e69)) rfl rfl rfl (Nat.le_of_ble_eq_true rfl) (by decide +kernel) ?_
              refine g_icmp hK 389 .ne (18) 407 (t1 := 392) (t2 := 407) (by decide +kernel) (by decide) rfl rfl (fun (hc70 : wr (q13.2.2.2.2.2.1 + 1) = r67) => ?_) (fun (hc70 : ¬ (wr (q13.2.2.2.2.2.1 + 1) = r67)) => ?_)
              · have hF := ite_t hc70 hF
                refine g_seg hK [.iload 5, .aload_n 0, .bipush 11] 392 397 (L1 := [(8, vI (wr (r1 - q13.2.2.1))), (0, vR 0), (1, vI q13.1), (2, vI q13.2.1), (3, vI q13.2.2.1), (4, vI q13.2.2.2.1), (5, vI q13.2.2.2.2.1), (6, vI q13.2.2.2.2.2.1), (7, vI r1)]) (st1 := [vI 11, vR 0, vI q13.2.2.2.2.1]) (h1 := h68) (P := True ∧ True ∧ True ∧ True) (by decide +kernel) rfl rfl ⟨trivial, trivial, trivial, trivial⟩ ?_
                obtain ⟨r71, h72, e73, hF⟩ := ob2_elim hF
                refine g_callV1 hK 397 8 (d1 := 6) (ci := 6) (i := 0) (vs := [vI 11]) (rest := [vI q13.2.2.2.2.1]) (h1 := h72) (r := vI r71) my_yX6_count vw_X9_8 (by decide) (T_X_count (p1 := 11) (h := h68) (hF := e73)) rfl rfl rfl (Nat.le_of_ble_eq_true rfl) (by decide +kernel) ?_
                refine g_icmp hK 400 .ne (7) 407 (t1 := 403) (t2 := 407) (by decide +kernel) (by decide) rfl rfl (fun (hc74 : q13.2.2.2.2.1 = r71) => ?_) (fun (hc74 : ¬ (q13.2.2.2.2.1 = r71)) => ?_)
                · have hF := ite_t hc74 hF
                  refine g_seg hK [.iconst 1] 403 404 (L1 := [(8, vI (wr (r1 - q13.2.2.1))), (0, vR 0), (1, vI q13.1), (2, vI q13.2.1), (3, vI q13.2.2.1), (4, vI q13.2.2.2.1), (5, vI q13.2.2.2.2.1), (6, vI q13.2.2.2.2.2.1), (7, vI r1)]) (st1 := [vI 1]) (h1 := h72) (P := True ∧ True) (by decide +kernel) rfl rfl ⟨trivial, trivial⟩ ?_
                  refine g_goto hK 404 (4) 408 (by decide +kernel) (by decide) ?_
                  refine hK.2.1 _ _ ([(0, vR 0), (1, vI q13.1), (2, vI q13.2.1), (3, vI q13.2.2.1), (7, vI r1), (8, vI (wr (r1 - q13.2.2.1)))]) _ _ (sub_of [1, 2, 3, 4, 8, 0] rfl) ?_
                  exact j24 _ _ hF
                · have hF := ite_f hc74 hF
                  refine hK.2.1 _ _ ([(0, vR 0), (1, vI q13.1), (2, vI q13.2.1), (3, vI q13.2.2.1), (7, vI r1), (8, vI (wr (r1 - q13.2.2.1)))]) _ _ (sub_of [1, 2, 3, 4, 8, 0] rfl) ?_
                  exact j21 _ hF
              · have hF := ite_f hc70 hF
                refine hK.2.1 _ _ ([(0, vR 0), (1, vI q13.1), (2, vI q13.2.1), (3, vI q13.2.2.1), (7, vI r1), (8, vI (wr (r1 - q13.2.2.1)))]) _ _ (sub_of [1, 2, 3, 4, 8, 0] rfl) ?_
                exact j21 _ hF
            · have hF := ite_f hc66 hF
              refine hK.2.1 _ _ ([(0, vR 0), (1, vI q13.1), (2, vI q13.2.1), (3, vI q13.2.2.1), (7, vI r1), (8, vI (wr (r1 - q13.2.2.1)))]) _ _ (sub_of [1, 2, 3, 4, 8, 0] rfl) ?_
              exact j21 _ hF
          · have hF := ite_f hc62 hF
            refine hK.2.1 _ _ ([(0, vR 0), (1, vI q13.1), (2, vI q13.2.1), (3, vI q13.2.2.1), (7, vI r1), (8, vI (wr (r1 - q13.2.2.1)))]) _ _ (sub_of [1, 2, 3, 4, 8, 0] rfl) ?_
            exact j21 _ hF
        · have hF := ite_f hc58 hF
          refine hK.2.1 _ _ ([(0, vR 0), (1, vI q13.1), (2, vI q13.2.1), (3, vI q13.2.2.1), (7, vI r1), (8, vI (wr (r1 - q13.2.2.1)))]) _ _ (sub_of [1, 2, 3, 4, 8, 0] rfl) ?_
          exact j21 _ hF
      · have hF := ite_f hc54 hF
        refine hK.2.1 _ _ ([(0, vR 0), (1, vI q13.1), (2, vI q13.2.1), (3, vI q13.2.2.1), (7, vI r1), (8, vI (wr (r1 - q13.2.2.1)))]) _ _ (sub_of [1, 2, 3, 4, 8, 0] rfl) ?_
        exact j21 _ hF
    · have hF := ite_f hc50 hF
      refine hK.2.1 _ _ ([(0, vR 0), (1, vI q13.1), (2, vI q13.2.1), (3, vI q13.2.2.1), (7, vI r1), (8, vI (wr (r1 - q13.2.2.1)))]) _ _ (sub_of [1, 2, 3, 4, 8, 0] rfl) ?_
      exact j21 _ hF
end
section
set_option maxHeartbeats 4000000 in
set_option maxRecDepth 100000 in
theorem LT_L_isHunk_L184 {K : KT} (hK : Rules RX9 cL_isHunk 14 (Option.some Jvm.ClassFile.FieldType.boolean) flX9 7 K) {Post : Option MV → MH → Prop} (hR : R_ret cL_isHunk (Option.some Jvm.ClassFile.FieldType.boolean) Post K) {x1 : Int} {x2 : Int} {x5 : Int} {x8 : Int} : ∀ (n : Nat) (x9 : Int) (x10 : Int) (h : MH) (out : Sum (Int × MH) (Int × Int × MH)), F_L_isHunk_L184 x1 x2 x5 x8 n x9 x10 h = some out → (∀ a : Int × MH, out = Sum.inl a → Post (some (vI a.1)) a.2) → (∀ q : Int × Int × MH, out = Sum.inr q → K 427 [(0, vR 0), (1, vI x1), (2, vI x2), (5, vI x5), (8, vI x8), (9, vI q.1), (10, vI q.2.1)] [] q.2.2) → K 184 [(0, vR 0), (1, vI x1), (2, vI x2), (5, vI x5), (8, vI x8), (9, vI x9), (10, vI x10)] [] h := by
  intro n
  induction n with
  | zero =>
    intro x9 x10 h out hF
    cases hF
  | succ n ih =>
    intro x9 x10 h out hF hRet hE
    unfold F_L_isHunk_L184 at hF
    refine g_seg hK [.iload 10, .iload_n 2, .iload 8, .iadd] 184 190 (L1 := [(0, vR 0), (1, vI x1), (2, vI x2), (5, vI x5), (8, vI x8), (9, vI x9), (10, vI x10)]) (st1 := [vI (wr (x2 + x8)), vI x10]) (h1 := h) (P := True ∧ True ∧ True ∧ True ∧ True) (by decide +kernel) rfl rfl ⟨trivial, trivial, trivial, trivial, trivial⟩ ?_
    refine g_icmp hK 190 .gt (237) 427 (t1 := 193) (t2 := 427) (by decide +kernel) (by decide) rfl rfl (fun (hc1 : x10 ≤ wr (x2 + x8)) => ?_) (fun (hc1 : ¬ (x10 ≤ wr (x2 + x8))) => ?_)
    · have hF := ite_t hc1 hF
      refine g_seg hK [.iload 10, .bipush 28] 193 197 (L1 := [(0, vR 0), (1, vI x1), (2, vI x2), (5, vI x5), (8, vI x8), (9, vI x9), (10, vI x10)]) (st1 := [vI 28, vI x10]) (h1 := h) (P := True ∧ True ∧ True) (by decide +kernel) rfl rfl ⟨trivial, trivial, trivial⟩ ?_
      refine g_icmp hK 197 .ge (230) 427 (t1 := 200) (t2 := 427) (by decide +kernel) (by decide) rfl rfl (fun (hc2 : x10 < 28) => ?_) (fun (hc2 : ¬ (x10 < 28)) => ?_)
      · have hF := ite_t hc2 hF
        refine g_seg hK [.iload 10, .iload_n 2] 200 203 (L1 := [(0, vR 0), (1, vI x1), (2, vI x2), (5, vI x5), (8, vI x8), (9, vI x9), (10, vI x10)]) (st1 := [vI x2, vI x10]) (h1 := h) (P := True ∧ True ∧ True) (by decide +kernel) rfl rfl ⟨trivial, trivial, trivial⟩ ?_
        obtain ⟨kj5, e49, hF⟩ := jk2_elim hF
        have j5 : ∀ (s3 : Int) (h4 : MH), kj5 s3 h4 = some out → K 294 [(0, vR 0), (1, vI x1), (2, vI x2), (5, vI x5), (8, vI x8), (9, vI x9), (10, vI x10)] [vI s3] h4 := by
          intro s3 h4 hF
          have hF := (e49 s3 h4).symm.trans hF
          refine g_seg hK [.istore 11, .aload_n 0, .iload 10, .iload 5, .iadd, .iconst 1, .isub, .iconst 1] 294 305 (L1 := [(11, vI s3), (0, vR 0), (1, vI x1), (2, vI x2), (5, vI x5), (8, vI x8), (9, vI x9), (10, vI x10)]) (st1 := [vI 1, vI (wr ((wr (x10 + x5)) - 1)), vR 0]) (h1 := h4) (P := True ∧ True ∧ True ∧ True ∧ True ∧ True ∧ True ∧ True ∧ True) (by decide +kernel) rfl rfl ⟨trivial, trivial, trivial, trivial, trivial, trivial, trivial, trivial, trivial⟩ ?_
          obtain ⟨r6, h7, e8, hF⟩ := ob2_elim hF
          refine g_callV1 hK 305 14 (d1 := 6) (ci := 6) (i := 0) (vs := [vI (wr ((wr (x10 + x5)) - 1)), vI 1]) (rest := []) (h1 := h7) (r := vI r6) my_yX6_view vw_X9_14 (by decide) (T_X_view (p1 := (wr ((wr (x10 + x5)) - 1))) (p2 := 1) (h := h4) (hF := e8)) rfl rfl rfl (Nat.le_of_ble_eq_true rfl) (by decide +kernel) ?_
          refine g_seg hK [.istore 12, .iload 10] 308 312 (L1 := [(12, vI r6), (11, vI s3), (0, vR 0), (1, vI x1), (2, vI x2), (5, vI x5), (8, vI x8), (9, vI x9), (10, vI x10)]) (st1 := [vI x10]) (h1 := h7) (P := True ∧ True ∧ True) (by decide +kernel) rfl rfl ⟨trivial, trivial, trivial⟩ ?_
          obtain ⟨kj13, e42, hF⟩ := jk2_elim hF
          have j13 : ∀ (s11 : Int) (h12 : MH), kj13 s11 h12 = some out → K 334 [(0, vR 0), (1, vI x1), (2, vI x2), (5, vI x5), (8, vI x8), (9, vI x9), (10, vI x10), (11, vI s3), (12, vI r6)] [vI s11] h12 := by
            intro s11 h12 hF
            have hF := (e42 s11 h12).symm.trans hF
            refine g_seg hK [.iload 12, .bipush 6] 334 338 (L1 := [(0, vR 0), (1, vI x1), (2, vI x2), (5, vI x5), (8, vI x8), (9, vI x9), (10, vI x10), (11, vI s3), (12, vI r6)]) (st1 := [vI 6, vI r6, vI s11]) (h1 := h12) (P := True ∧ True ∧ True) (by decide +kernel) rfl rfl ⟨trivial, trivial, trivial⟩ ?_
            obtain ⟨s14, e41, hF⟩ := jn1_elim hF
            have j15 : K 346 [(0, vR 0), (1, vI x1), (2, vI x2), (5, vI x5), (8, vI x8), (9, vI x9), (10, vI x10), (11, vI s3), (12, vI r6)] [vI s14, vI s11] h12 := by
              refine g_seg hK [.iadd, .aload_n 0, .iload 10, .iconst 1] 346 351 (L1 := [(0, vR 0), (1, vI x1), (2, vI x2), (5, vI x5), (8, vI x8), (9, vI x9), (10, vI x10), (11, vI s3), (12, vI r6)]) (st1 := [vI 1, vI x10, vR 0, vI (wr (s11 + s14))]) (h1 := h12) (P := True ∧ True ∧ True ∧ True ∧ True) (by decide +kernel) rfl rfl ⟨trivial, trivial, trivial, trivial, trivial⟩ ?_
              obtain ⟨r17, h18, e19, hF⟩ := ob2_elim hF
              refine g_callV1 hK 351 14 (d1 := 6) (ci := 6) (i := 0) (vs := [vI x10, vI 1]) (rest := [vI (wr (s11 + s14))]) (h1 := h18) (r := vI r17) my_yX6_view vw_X9_14 (by decide) (T_X_view (p1 := x10) (p2 := 1) (h := h12) (hF := e19)) rfl rfl rfl (Nat.le_of_ble_eq_true rfl) (by decide +kernel) ?_
              refine g_seg hK [.bipush 7] 354 356 (L1 := [(0, vR 0), (1, vI x1), (2, vI x2), (5, vI x5), (8, vI x8), (9, vI x9), (10, vI x10), (11, vI s3), (12, vI r6)]) (st1 := [vI 7, vI r17, vI (wr (s11 + s14))]) (h1 := h18) (P := True ∧ True) (by decide +kernel) rfl rfl ⟨trivial, trivial⟩ ?_
              obtain ⟨s20, e40, hF⟩ := jn1_elim hF
              have j21 : K 364 [(0, vR 0), (1, vI x1), (2, vI x2), (5, vI x5), (8, vI x8), (9, vI x9), (10, vI x10), (11, vI s3), (12, vI r6)] [vI s20, vI (wr (s11 + s14))] h18 := by
                refine g_seg hK [.iadd, .iload 12, .bipush 8] 364 369 (L1 := [(0, vR 0), (1, vI x1), (2, vI x2), (5, vI x5), (8, vI x8), (9, vI x9), (10, vI x10), (11, vI s3), (12, vI r6)]) (st1 := [vI 8, vI r6, vI (wr ((wr (s11 + s14)) + s20))]) (h1 := h18) (P := True ∧ True ∧ True ∧ True) (by decide +kernel) rfl rfl ⟨trivial, trivial, trivial, trivial⟩ ?_
                obtain ⟨s23, e39, hF⟩ := jn1_elim hF
                have j24 : K 377 [(0, vR 0), (1, vI x1), (2, vI x2), (5, vI x5), (8, vI x8), (9, vI x9), (10, vI x10), (11, vI s3)] [vI s23, vI (wr ((wr (s11 + s14)) + s20))] h18 := by
                  refine g_seg hK [.iadd, .istore 13, .iload 13, .iload 9] 377 384 (L1 := [(13, vI (wr ((wr ((wr (s11 + s14)) + s20)) + s23))), (0, vR 0), (1, vI x1), (2, vI x2), (5, vI x5), (8, vI x8), (9, vI x9), (10, vI x10), (11, vI s3)]) (st1 := [vI x9, vI (wr ((wr ((wr (s11 + s14)) + s20)) + s23))]) (h1 := h18) (P := True ∧ True ∧ True ∧ True ∧ True) (by decide +kernel) rfl rfl ⟨trivial, trivial, trivial, trivial, trivial⟩ ?_
                  obtain ⟨s26, e38, hF⟩ := jn1_elim hF
                  have j27 : K 394 [(0, vR 0), (1, vI x1), (2, vI x2), (5, vI x5), (8, vI x8), (10, vI x10), (11, vI s3), (13, vI (wr ((wr ((wr (s11 + s14)) + s20)) + s23)))] [vI s26] h18 := by
                    refine g_seg hK [.istore 9, .iload 11] 394 398 (L1 := [(9, vI s26), (0, vR 0), (1, vI x1), (2, vI x2), (5, vI x5), (8, vI x8), (10, vI x10), (11, vI s3), (13, vI (wr ((wr ((wr (s11 + s14)) + s20)) + s23)))]) (st1 := [vI s3]) (h1 := h18) (P := True ∧ True ∧ True) (by decide +kernel) rfl rfl ⟨trivial, trivial, trivial⟩ ?_
                    refine g_ifz hK 398 .eq (21) 419 (t1 := 419) (t2 := 401) (by decide +kernel) (by decide) rfl rfl (fun (hc29 : s3 = 0) => ?_) (fun (hc29 : ¬ (s3 = 0)) => ?_)
                    · have hF := ite_t hc29 hF
                      refine g_seg hK [.iconst 0] 419 420 (L1 := [(9, vI s26), (0, vR 0), (1, vI x1), (2, vI x2), (5, vI x5), (8, vI x8), (10, vI x10), (11, vI s3), (13, vI (wr ((wr ((wr (s11 + s14)) + s20)) + s23)))]) (st1 := [vI 0]) (h1 := h18) (P := True ∧ True) (by decide +kernel) rfl rfl ⟨trivial, trivial⟩ ?_
                      cases hF
                      exact hR.2.1 420 _ _ _ (by decide +kernel) rfl (by decide) (hRet _ rfl)
                    · have hF := ite_f hc29 hF
                      refine g_seg hK [.iload 10, .iload_n 2] 401 404 (L1 := [(9, vI s26), (0, vR 0), (1, vI x1), (2, vI x2), (5, vI x5), (8, vI x8), (10, vI x10), (11, vI s3), (13, vI (wr ((wr ((wr (s11 + s14)) + s20)) + s23)))]) (st1 := [vI x2, vI x10]) (h1 := h18) (P := True ∧ True ∧ True) (by decide +kernel) rfl rfl ⟨trivial, trivial, trivial⟩ ?_
                      obtain ⟨kj31, e32, hF⟩ := jk1_elim hF
                      have j31 : ∀ (h30 : MH), kj31 h30 = some out → K 421 [(0, vR 0), (1, vI x1), (2, vI x2), (5, vI x5), (8, vI x8), (9, vI s26), (10, vI x10)] [] h30 := by
                        intro h30 hF
                        have hF := (e32 h30).symm.trans hF
                        refine g_seg hK [.iinc 10 1] 421 424 (L1 := [(10, vI (wr (x10 + 1))), (0, vR 0), (1, vI x1), (2, vI x2), (5, vI x5), (8, vI x8), (9, vI s26)]) (st1 := []) (h1 := h30) (P := True ∧ True) (by decide +kernel) rfl rfl ⟨trivial, trivial⟩ ?_
                        refine g_goto hK 424 (-240) 184 (by decide +kernel) (by decide) ?_
                        refine hK.2.1 _ _ ([(0, vR 0), (1, vI x1), (2, vI x2), (5, vI x5), (8, vI x8), (9, vI s26), (10, vI (wr (x10 + 1)))]) _ _ (sub_of [1, 2, 3, 4, 5, 6, 0] rfl) ?_
                        exact ih _ _ _ _ hF hRet hE
                      refine g_icmp hK 404 .ne (17) 421 (t1 := 407) (t2 := 421) (by decide +kernel) (by decide) rfl rfl (fun (hc33 : x10 = x2) => ?_) (fun (hc33 : ¬ (x10 = x2)) => ?_)
                      · have hF := ite_t hc33 hF
                        refine g_seg hK [.aload_n 0, .iload_n 1, .bipush 6] 407 411 (L1 := [(9, vI s26), (0, vR 0), (1, vI x1), (2, vI x2), (5, vI x5), (8, vI x8), (10, vI x10), (11, vI s3), (13, vI (wr ((wr ((wr (s11 + s14)) + s20)) + s23)))]) (st1 := [vI 6, vI x1, vR 0]) (h1 := h18) (P := True ∧ True ∧ True ∧ True) (by decide +kernel) rfl rfl ⟨trivial, trivial, trivial, trivial⟩ ?_
                        obtain ⟨r34, h35, e36, hF⟩ := ob2_elim hF
                        refine g_callV1 hK 411 21 (d1 := 6) (ci := 6) (i := 0) (vs := [vI x1, vI 6]) (rest := []) (h1 := h35) (r := vI r34) my_yX6_hunk vw_X9_21 (by decide) (T_X_hunk (p1 := x1) (p2 := 6) (h := h18) (hF := e36)) rfl rfl rfl (Nat.le_of_ble_eq_true rfl) (by decide +kernel) ?_
                        refine g_seg hK [.iload 13] 414 416 (L1 := [(9, vI s26), (0, vR 0), (1, vI x1), (2, vI x2), (5, vI x5), (8, vI x8), (10, vI x10), (11, vI s3), (13, vI (wr ((wr ((wr (s11 + s14)) + s20)) + s23)))]) (st1 := [vI (wr ((wr ((wr (s11 + s14)) + s20)) + s23)), vI r34]) (h1 := h35) (P := True ∧ True) (by decide +kernel) rfl rfl ⟨trivial, trivial⟩ ?_
                        refine g_icmp hK 416 .eq (5) 421 (t1 := 421) (t2 := 419) (by decide +kernel) (by decide) rfl rfl (fun (hc37 : r34 = wr ((wr ((wr (s11 + s14)) + s20)) + s23)) => ?_) (fun (hc37 : ¬ (r34 = wr ((wr ((wr (s11 + s14)) + s20)) + s23))) => ?_)
                        · have hF := ite_t hc37 hF
                          refine hK.2.1 _ _ ([(0, vR 0), (1, vI x1), (2, vI x2), (5, vI x5), (8, vI x8), (9, vI s26), (10, vI x10)]) _ _ (sub_of [1, 2, 3, 4, 5, 0, 6] rfl) ?_
                          exact j31 _ hF
                        · have hF := ite_f hc37 hF
                          refine g_seg hK [.iconst 0] 419 420 (L1 := [(9, vI s26), (0, vR 0), (1, vI x1), (2, vI x2), (5, vI x5), (8, vI x8), (10, vI x10), (11, vI s3), (13, vI (wr ((wr ((wr (s11 + s14)) + s20)) + s23)))]) (st1 := [vI 0]) (h1 := h35) (P := True ∧ True) (by decide +kernel) rfl rfl ⟨trivial, trivial⟩ ?_
                          cases hF
                          exact hR.2.1 420 _ _ _ (by decide +kernel) rfl (by decide) (hRet _ rfl)
                      · have hF := ite_f hc33 hF
                        refine hK.2.1 _ _ ([(0, vR 0), (1, vI x1), (2, vI x2), (5, vI x5), (8, vI x8), (9, vI s26), (10, vI x10)]) _ _ (sub_of [1, 2, 3, 4, 5, 0, 6] rfl) ?_
                        exact j31 _ hF
                  clear hF
                  have hF := e38
                  refine g_icmp hK 384 .le (8) 392 (t1 := 392) (t2 := 387) (by decide +kernel) (by decide) rfl rfl (fun (hc28 : wr ((wr ((wr (s11 + s14)) + s20)) + s23) ≤ x9) => ?_) (fun (hc28 : ¬ (wr ((wr ((wr (s11 + s14)) + s20)) + s23) ≤ x9)) => ?_)
                  · have hF := ite_t hc28 hF
                    refine g_seg hK [.iload 9] 392 394 (L1 := [(13, vI (wr ((wr ((wr (s11 + s14)) + s20)) + s23))), (0, vR 0), (1, vI x1), (2, vI x2), (5, vI x5), (8, vI x8), (9, vI x9), (10, vI x10), (11, vI s3)]) (st1 := [vI x9]) (h1 := h18) (P := True ∧ True) (by decide +kernel) rfl rfl ⟨trivial, trivial⟩ ?_
                    refine hK.2.1 _ _ ([(0, vR 0), (1, vI x1), (2, vI x2), (5, vI x5), (8, vI x8), (10, vI x10), (11, vI s3), (13, vI (wr ((wr ((wr (s11 + s14)) + s20)) + s23)))]) _ _ (sub_of [1, 2, 3, 4, 5, 7, 8, 0] rfl) ?_
                    cases hF
                    exact j27
                  · have hF := ite_f hc28 hF
                    refine g_seg hK [.iload 13] 387 389 (L1 := [(13, vI (wr ((wr ((wr (s11 + s14)) + s20)) + s23))), (0, vR 0), (1, vI x1), (2, vI x2), (5, vI x5), (8, vI x8), (9, vI x9), (10, vI x10), (11, vI s3)]) (st1 := [vI (wr ((wr ((wr (s11 + s14)) + s20)) + s23))]) (h1 := h18) (P := True ∧ True) (by decide +kernel) rfl rfl ⟨trivial, trivial⟩ ?_
                    refine g_goto hK 389 (5) 394 (by decide +kernel) (by decide) ?_
                    refine hK.2.1 _ _ ([(0, vR 0), (1, vI x1), (2, vI x2), (5, vI x5), (8, vI x8), (10, vI x10), (11, vI s3), (13, vI (wr ((wr ((wr (s11 + s14)) + s20)) + s23)))]) _ _ (sub_of [1, 2, 3, 4, 5, 7, 8, 0] rfl) ?_
                    cases hF
                    exact j27
                clear hF
                have hF := e39
                refine g_icmp hK 369 .ne (7) 376 (t1 := 372) (t2 := 376) (by decide +kernel) (by decide) rfl rfl (fun (hc25 : r6 = 8) => ?_) (fun (hc25 : ¬ (r6 = 8)) => ?_)
                · have hF := ite_t hc25 hF
                  refine g_seg hK [.iconst 3] 372 373 (L1 := [(0, vR 0), (1, vI x1), (2, vI x2), (5, vI x5), (8, vI x8), (9, vI x9), (10, vI x10), (11, vI s3), (12, vI r6)]) (st1 := [vI 3, vI (wr ((wr (s11 + s14)) + s20))]) (h1 := h18) (P := True ∧ True) (by decide +kernel) rfl rfl ⟨trivial, trivial⟩ ?_
                  refine g_goto hK 373 (4) 377 (by decide +kernel) (by decide) ?_
                  refine hK.2.1 _ _ ([(0, vR 0), (1, vI x1), (2, vI x2), (5, vI x5), (8, vI x8), (9, vI x9), (10, vI x10), (11, vI s3)]) _ _ (sub_of [0, 1, 2, 3, 4, 5, 6, 7] rfl) ?_
                  cases hF
                  exact j24
                · have hF := ite_f hc25 hF
                  refine g_seg hK [.iconst 0] 376 377 (L1 := [(0, vR 0), (1, vI x1), (2, vI x2), (5, vI x5), (8, vI x8), (9, vI x9), (10, vI x10), (11, vI s3), (12, vI r6)]) (st1 := [vI 0, vI (wr ((wr (s11 + s14)) + s20))]) (h1 := h18) (P := True ∧ True) (by decide +kernel) rfl rfl ⟨trivial, trivial⟩ ?_
                  refine hK.2.1 _ _ ([(0, vR 0), (1, vI x1), (2, vI x2), (5, vI x5), (8, vI x8), (9, vI x9), (10, vI x10), (11, vI s3)]) _ _ (sub_of [0, 1, 2, 3, 4, 5, 6, 7] rfl) ?_
                  cases hF
                  exact j24
              clear hF
              have hF := e40
              refine g_icmp hK 356 .ne (7) 363 (t1 := 359) (t2 := 363) (by decide +kernel) (by decide) rfl rfl (fun (hc22 : r17 = 7) => ?_) (fun (hc22 : ¬ (r17 = 7)) => ?_)
              · have hF := ite_t hc22 hF
                refine g_seg hK [.iconst 1] 359 360 (L1 := [(0, vR 0), (1, vI x1), (2, vI x2), (5, vI x5), (8, vI x8), (9, vI x9), (10, vI x10), (11, vI s3), (12, vI r6)]) (st1 := [vI 1, vI (wr (s11 + s14))]) (h1 := h18) (P := True ∧ True) (by decide +kernel) rfl rfl ⟨trivial, trivial⟩ ?_
                refine g_goto hK 360 (4) 364 (by decide +kernel) (by decide) ?_
                cases hF
                exact j21
              · have hF := ite_f hc22 hF
                refine g_seg hK [.iconst 0] 363 364 (L1 := [(0, vR 0), (1, vI x1), (2, vI x2), (5, vI x5), (8, vI x8), (9, vI x9), (10, vI x10), (11, vI s3), (12, vI r6)]) (st1 := [vI 0, vI (wr (s11 + s14))]) (h1 := h18) (P := True ∧ True) (by decide +kernel) rfl rfl ⟨trivial, trivial⟩ ?_
                cases hF
                exact j21
            clear hF
            have hF := e41
            refine g_icmp hK 338 .ne (7) 345 (t1 := 341) (t2 := 345) (by decide +kernel) (by decide) rfl rfl (fun (hc16 : r6 = 6) => ?_) (fun (hc16 : ¬ (r6 = 6)) => ?_)
            · have hF := ite_t hc16 hF
              refine g_seg hK [.iconst 2] 341 342 (L1 := [(0, vR 0), (1, vI x1), (2, vI x2), (5, vI x5), (8, vI x8), (9, vI x9), (10, vI x10), (11, vI s3), (12, vI r6)]) (st1 := [vI 2, vI s11]) (h1 := h12) (P := True ∧ True) (by decide +kernel) rfl rfl ⟨trivial, trivial⟩ ?_
              refine g_goto hK 342 (4) 346 (by decide +kernel) (by decide) ?_
              cases hF
              exact j15
            · have hF := ite_f hc16 hF
              refine g_seg hK [.iconst 0] 345 346 (L1 := [(0, vR 0), (1, vI x1), (2, vI x2), (5, vI x5), (8, vI x8), (9, vI x9), (10, vI x10), (11, vI s3), (12, vI r6)]) (st1 := [vI 0, vI s11]) (h1 := h12) (P := True ∧ True) (by decide +kernel) rfl rfl ⟨trivial, trivial⟩ ?_
              cases hF
              exact j15
          obtain ⟨kj10, e43, hF⟩ := jk1_elim hF
          have j10 : ∀ (h9 : MH), kj10 h9 = some out → K 329 [(0, vR 0), (1, vI x1), (2, vI x2), (5, vI x5), (8, vI x8), (9, vI x9), (10, vI x10), (11, vI s3), (12, vI r6)] [] h9 := by
            intro h9 hF
            have hF := (e43 h9).symm.trans hF
            refine g_seg hK [.iconst 4] 329 330 (L1 := [(0, vR 0), (1, vI x1), (2, vI x2), (5, vI x5), (8, vI x8), (9, vI x9), (10, vI x10), (11, vI s3), (12, vI r6)]) (st1 := [vI 4]) (h1 := h9) (P := True ∧ True) (by decide +kernel) rfl rfl ⟨trivial, trivial⟩ ?_
            refine g_goto hK 330 (4) 334 (by decide +kernel) (by decide) ?_
            exact j13 _ _ hF
          refine g_ifz hK 312 .eq (17) 329 (t1 := 329) (t2 := 315) (by decide +kernel) (by decide) rfl rfl (fun (hc44 : x10 = 0) => ?_) (fun (hc44 : ¬ (x10 = 0)) => ?_)
          · have hF := ite_t hc44 hF
            refine hK.2.1 _ _ ([(0, vR 0), (1, vI x1), (2, vI x2), (5, vI x5), (8, vI x8), (9, vI x9), (10, vI x10), (11, vI s3), (12, vI r6)]) _ _ (sub_of [2, 3, 4, 5, 6, 7, 8, 1, 0] rfl) ?_
            exact j10 _ hF
          · have hF := ite_f hc44 hF
            refine g_seg hK [.aload_n 0, .iload 10, .iconst 1, .isub, .iconst 1] 315 321 (L1 := [(12, vI r6), (11, vI s3), (0, vR 0), (1, vI x1), (2, vI x2), (5, vI x5), (8, vI x8), (9, vI x9), (10, vI x10)]) (st1 := [vI 1, vI (wr (x10 - 1)), vR 0]) (h1 := h7) (P := True ∧ True ∧ True ∧ True ∧ True ∧ True) (by decide +kernel) rfl rfl ⟨trivial, trivial, trivial, trivial, trivial, trivial⟩ ?_
            obtain ⟨r45, h46, e47, hF⟩ := ob2_elim hF
            refine g_callV1 hK 321 14 (d1 := 6) (ci := 6) (i := 0) (vs := [vI (wr (x10 - 1)), vI 1]) (rest := []) (h1 := h46) (r := vI r45) my_yX6_view vw_X9_14 (by decide) (T_X_view (p1 := (wr (x10 - 1))) (p2 := 1) (h := h7) (hF := e47)) rfl rfl rfl (Nat.le_of_ble_eq_true rfl) (by decide +kernel) ?_
            refine g_seg hK [.bipush 6] 324 326 (L1 := [(12, vI r6), (11, vI s3), (0, vR 0), (1, vI x1), (2, vI x2), (5, vI x5), (8, vI x8), (9, vI x9), (10, vI x10)]) (st1 := [vI 6, vI r45]) (h1 := h46) (P := True ∧ True) (by decide +kernel) rfl rfl ⟨trivial, trivial⟩ ?_
            refine g_icmp hK 326 .ne (7) 333 (t1 := 329) (t2 := 333) (by decide +kernel) (by decide) rfl rfl (fun (hc48 : r45 = 6) => ?_) (fun (hc48 : ¬ (r45 = 6)) => ?_)
            · have hF := ite_t hc48 hF
              refine hK.2.1 _ _ ([(0, vR 0), (1, vI x1), (2, vI x2), (5, vI x5), (8, vI x8), (9, vI x9), (10, vI x10), (11, vI s3), (12, vI r6)]) _ _ (sub_of [2, 3, 4, 5, 6, 7, 8, 1, 0] rfl) ?_
              exact j10 _ hF
            · have hF := ite_f hc48 hF
              refine g_seg hK [.iconst 0] 333 334 (L1 := [(12, vI r6), (11, vI s3), (0, vR 0), (1, vI x1), (2, vI x2), (5, vI x5), (8, vI x8), (9, vI x9), (10, vI x10)]) (st1 := [vI 0]) (h1 := h46) (P := True ∧ True) (by decide +kernel) rfl rfl ⟨trivial, trivial⟩ ?_
              refine hK.2.1 _ _ ([(0, vR 0), (1, vI x1), (2, vI x2), (5, vI x5), (8, vI x8), (9, vI x9), (10, vI x10), (11, vI s3), (12, vI r6)]) _ _ (sub_of [2, 3, 4, 5, 6, 7, 8, 1, 0] rfl) ?_
              exact j13 _ _ hF
        refine g_icmp hK 203 .ge (41) 244 (t1 := 206) (t2 := 244) (by decide +kernel) (by decide) rfl rfl (fun (hc50 : x10 < x2) => ?_) (fun (hc50 : ¬ (x10 < x2)) => ?_)
        · have hF := ite_t hc50 hF
          refine g_seg hK [.aload_n 0, .iload 10, .iconst 0] 206 210 (L1 := [(0, vR 0), (1, vI x1), (2, vI x2), (5, vI x5), (8, vI x8), (9, vI x9), (10, vI x10)]) (st1 := [vI 0, vI x10, vR 0]) (h1 := h) (P := True ∧ True ∧ True ∧ True) (by decide +kernel) rfl rfl ⟨trivial, trivial, trivial, trivial⟩ ?_
          obtain ⟨r51, h52, e53, hF⟩ := ob2_elim hF
          refine g_callV1 hK 210 14 (d1 := 6) (ci := 6) (i := 0) (vs := [vI x10, vI 0]) (rest := []) (h1 := h52) (r := vI r51) my_yX6_view vw_X9_14 (by decide) (T_X_view (p1 := x10) (p2 := 0) (h := h) (hF := e53)) rfl rfl rfl (Nat.le_of_ble_eq_true rfl) (by decide +kernel) ?_
          obtain ⟨kj55, e56, hF⟩ := jk1_elim hF
          have j55 : ∀ (h54 : MH), kj55 h54 = some out → K 240 [(0, vR 0), (1, vI x1), (2, vI x2), (5, vI x5), (8, vI x8), (9, vI x9), (10, vI x10)] [] h54 := by
            intro h54 hF
            have hF := (e56 h54).symm.trans hF
            refine g_seg hK [.iconst 0] 240 241 (L1 := [(0, vR 0), (1, vI x1), (2, vI x2), (5, vI x5), (8, vI x8), (9, vI x9), (10, vI x10)]) (st1 := [vI 0]) (h1 := h54) (P := True ∧ True) (by decide +kernel) rfl rfl ⟨trivial, trivial⟩ ?_
            refine g_goto hK 241 (53) 294 (by decide +kernel) (by decide) ?_
            exact j5 _ _ hF
          refine g_ifz hK 213 .ne (27) 240 (t1 := 216) (t2 := 240) (by decide +kernel) (by decide) rfl rfl (fun (hc57 : r51 = 0) => ?_) (fun (hc57 : ¬ (r51 = 0)) => ?_)
          · have hF := ite_t hc57 hF
            refine g_seg hK [.aload_n 0, .iload 10, .iconst 1] 216 220 (L1 := [(0, vR 0), (1, vI x1), (2, vI x2), (5, vI x5), (8, vI x8), (9, vI x9), (10, vI x10)]) (st1 := [vI 1, vI x10, vR 0]) (h1 := h52) (P := True ∧ True ∧ True ∧ True) (by decide +kernel) rfl rfl ⟨trivial, trivial, trivial, trivial⟩ ?_
            obtain ⟨r58, h59, e60, hF⟩ := ob2_elim hF
            refine g_callV1 hK 220 14 (d1 := 6) (ci := 6) (i := 0) (vs := [vI x10, vI 1]) (rest := []) (h1 := h59) (r := vI r58) my_yX6_view vw_X9_14 (by decide) (T_X_view (p1 := x10) (p2 := 1) (h := h52) (hF := e60)) rfl rfl rfl (Nat.le_of_ble_eq_true rfl) (by decide +kernel) ?_
            refine g_seg hK [.aload_n 0, .iload 10, .iload 5, .iadd, .iconst 1] 223 230 (L1 := [(0, vR 0), (1, vI x1), (2, vI x2), (5, vI x5), (8, vI x8), (9, vI x9), (10, vI x10)]) (st1 := [vI 1, vI (wr (x10 + x5)), vR 0, vI r58]) (h1 := h59) (P := True ∧ True ∧ True ∧ True ∧ True ∧ True) (by decide +kernel) rfl rfl ⟨trivial, trivial, trivial, trivial, trivial, trivial⟩ ?_
            obtain ⟨r61, h62, e63, hF⟩ := ob2_elim hF
            refine g_callV1 hK 230 14 (d1 := 6) (ci := 6) (i := 0) (vs := [vI (wr (x10 + x5)), vI 1]) (rest := [vI r58]) (h1 := h62) (r := vI r61) my_yX6_view vw_X9_14 (by decide) (T_X_view (p1 := (wr (x10 + x5))) (p2 := 1) (h := h59) (hF := e63)) rfl rfl rfl (Nat.le_of_ble_eq_true rfl) (by decide +kernel) ?_
            refine g_icmp hK 233 .ne (7) 240 (t1 := 236) (t2 := 240) (by decide +kernel) (by decide) rfl rfl (fun (hc64 : r58 = r61) => ?_) (fun (hc64 : ¬ (r58 = r61)) => ?_)
            · have hF := ite_t hc64 hF
              refine g_seg hK [.iconst 1] 236 237 (L1 := [(0, vR 0), (1, vI x1), (2, vI x2), (5, vI x5), (8, vI x8), (9, vI x9), (10, vI x10)]) (st1 := [vI 1]) (h1 := h62) (P := True ∧ True) (by decide +kernel) rfl rfl ⟨trivial, trivial⟩ ?_
              refine g_goto hK 237 (57) 294 (by decide +kernel) (by decide) ?_
              exact j5 _ _ hF
            · have hF := ite_f hc64 hF
              exact j55 _ hF
          · have hF := ite_f hc57 hF
            exact j55 _ hF
        · have hF := ite_f hc50 hF
          refine g_seg hK [.iload 10, .iload_n 2] 244 247 (L1 := [(0, vR 0), (1, vI x1), (2, vI x2), (5, vI x5), (8, vI x8), (9, vI x9), (10, vI x10)]) (st1 := [vI x2, vI x10]) (h1 := h) (P := True ∧ True ∧ True) (by decide +kernel) rfl rfl ⟨trivial, trivial, trivial⟩ ?_
          obtain ⟨kj66, e67, hF⟩ := jk1_elim hF
          have j66 : ∀ (h65 : MH), kj66 h65 = some out → K 289 [(0, vR 0), (1, vI x1), (2, vI x2), (5, vI x5), (8, vI x8), (9, vI x9), (10, vI x10)] [] h65 := by
            intro h65 hF
            have hF := (e67 h65).symm.trans hF
            refine g_seg hK [.iconst 1] 289 290 (L1 := [(0, vR 0), (1, vI x1), (2, vI x2), (5, vI x5), (8, vI x8), (9, vI x9), (10, vI x10)]) (st1 := [vI 1]) (h1 := h65) (P := True ∧ True) (by decide +kernel) rfl rfl ⟨trivial, trivial⟩ ?_
            refine g_goto hK 290 (4) 294 (by decide +kernel) (by decide) ?_
            exact j5 _ _ hF
          refine g_icmp hK 247 .eq (42) 289 (t1 := 289) (t2 := 250) (by decide +kernel) (by decide) rfl rfl (fun (hc68 : x10 = x2) => ?_) (fun (hc68 : ¬ (x10 = x2)) => ?_)
          · have hF := ite_t hc68 hF
            exact j66 _ hF
          · have hF := ite_f hc68 hF
            refine g_seg hK [.aload_n 0, .iload 10, .iload 5, .iadd, .iconst 1, .isub, .iconst 0] 250 259 (L1 := [(0, vR 0), (1, vI x1), (2, vI x2), (5, vI x5), (8, vI x8), (9, vI x9), (10, vI x10)]) (st1 := [vI 0, vI (wr ((wr (x10 + x5)) - 1)), vR 0]) (h1 := h) (P := True ∧ True ∧ True ∧ True ∧ True ∧ True ∧ True ∧ True) (by decide +kernel) rfl rfl ⟨trivial, trivial, trivial, trivial, trivial, trivial, trivial, trivial⟩ ?_
            obtain ⟨r69, h70, e71, hF⟩ := ob2_elim hF
            refine g_callV1 hK 259 14 (d1 := 6) (ci := 6) (i := 0) (vs := [vI (wr ((wr (x10 + x5)) - 1)), vI 0]) (rest := []) (h1 := h70) (r := vI r69) my_yX6_view vw_X9_14 (by decide) (T_X_view (p1 := (wr ((wr (x10 + x5)) - 1))) (p2 := 0) (h := h) (hF := e71)) rfl rfl rfl (Nat.le_of_ble_eq_true rfl) (by decide +kernel) ?_
            obtain ⟨kj73, e74, hF⟩ := jk1_elim hF
            have j73 : ∀ (h72 : MH), kj73 h72 = some out → K 293 [(0, vR 0), (1, vI x1), (2, vI x2), (5, vI x5), (8, vI x8), (9, vI x9), (10, vI x10)] [] h72 := by
              intro h72 hF
              have hF := (e74 h72).symm.trans hF
              refine g_seg hK [.iconst 0] 293 294 (L1 := [(0, vR 0), (1, vI x1), (2, vI x2), (5, vI x5), (8, vI x8), (9, vI x9), (10, vI x10)]) (st1 := [vI 0]) (h1 := h72) (P := True ∧ True) (by decide +kernel) rfl rfl ⟨trivial, trivial⟩ ?_
              exact j5 _ _ hF
            refine g_ifz hK 262 .ne (31) 293 (t1 := 265) (t2 := 293) (by decide +kernel) (by decide) rfl rfl (fun (hc75 : r69 = 0) => ?_) (fun (hc75 : ¬ (r69 = 0)) => ?_)
            · have hF := ite_t hc75 hF
              refine g_seg hK [.aload_n 0, .iload 10, .iload 5, .iadd, .iconst 1, .isub, .iconst 1] 265 274 (L1 := [(0, vR 0), (1, vI x1), (2, vI x2), (5, vI x5), (8, vI x8), (9, vI x9), (10, vI x10)]) (st1 := [vI 1, vI (wr ((wr (x10 + x5)) - 1)), vR 0]) (h1 := h70) (P := True ∧ True ∧ True ∧ True ∧ True ∧ True ∧ True ∧ True) (by decide +kernel) rfl rfl ⟨trivial, trivial, trivial, trivial, trivial, trivial, trivial, trivial⟩ ?_
              obtain ⟨r76, h77, e78, hF⟩ := ob2_elim hF
              refine g_callV1 hK 274 14 (d1 := 6) (ci := 6) (i := 0) (vs := [vI (wr ((wr (x10 + x5)) - 1)), vI 1]) (rest := []) (h1 := h77) (r := vI r76) my_yX6_view vw_X9_14 (by decide) (T_X_view (p1 := (wr ((wr (x10 + x5)) - 1))) (p2 := 1) (h := h70) (hF := e78)) rfl rfl rfl (Nat.le_of_ble_eq_true rfl) (by decide +kernel) ?_
              refine g_seg hK [.aload_n 0, .iload 10, .iconst 1, .isub, .iconst 1] 277 283 (L1 := [(0, vR 0), (1, vI x1), (2, vI x2), (5, vI x5), (8, vI x8), (9, vI x9), (10, vI x10)]) (st1 := [vI 1, vI (wr (x10 - 1)), vR 0, vI r76]) (h1 := h77) (P := True ∧ True ∧ True ∧ True ∧ True ∧ True) (by decide +kernel) rfl rfl ⟨trivial, trivial, trivial, trivial, trivial, trivial⟩ ?_
              obtain ⟨r79, h80, e81, hF⟩ := ob2_elim hF
              refine g_callV1 hK 283 14 (d1 := 6) (ci := 6) (i := 0) (vs := [vI (wr (x10 - 1)), vI 1]) (rest := [vI r76]) (h1 := h80) (r := vI r79) my_yX6_view vw_X9_14 (by decide) (T_X_view (p1 := (wr (x10 - 1))) (p2 := 1) (h := h77) (hF := e81)) rfl rfl rfl (Nat.le_of_ble_eq_true rfl) (by decide +kernel) ?_
              refine g_icmp hK 286 .ne (7) 293 (t1 := 289) (t2 := 293) (by decide +kernel) (by decide) rfl rfl (fun (hc82 : r76 = r79) => ?_) (fun (hc82 : ¬ (r76 = r79)) => ?_)
              · have hF := ite_t hc82 hF
                exact j66 _ hF
              · have hF := ite_f hc82 hF
                exact j73 _ hF
            · have hF := ite_f hc75 hF
              exact j73 _ hF
      · have hF := ite_f hc2 hF
        cases hF
        exact hE _ rfl
    · have hF := ite_f hc1 hF
      cases hF
      exact hE _ rfl
set_option maxHeartbeats 4000000 in
set_option maxRecDepth 100000 in
theorem LT_L_isHunk_L495 {K : KT} (hK : Rules RX9 cL_isHunk 14 (Option.some Jvm.ClassFile.FieldType.boolean) flX9 7 K) {x2 : Int} {x10 : Int} : ∀ (n : Nat) (x12 : Int) (x13 : Int) (h : MH) (x12' : Int) (x13' : Int) (h' : MH), F_L_isHunk_L495 x2 x10 n x12 x13 h = some (x12', x13', h') → K 583 [(0, vR 0), (2, vI x2), (10, vI x10), (12, vI x12'), (13, vI x13')] [] h' → K 495 [(0, vR 0), (2, vI x2), (10, vI x10), (12, vI x12), (13, vI x13)] [] h := by
  intro n
  induction n with
  | zero =>
    intro x12 x13 h x12' x13' h' hF
    cases hF
  | succ n ih =>
    intro x12 x13 h x12' x13' h' hF hE
    unfold F_L_isHunk_L495 at hF
    refine g_seg hK [.iload 13, .iconst 3] 495 498 (L1 := [(0, vR 0), (2, vI x2), (10, vI x10), (12, vI x12), (13, vI x13)]) (st1 := [vI 3, vI x13]) (h1 := h) (P := True ∧ True ∧ True) (by decide +kernel) rfl rfl ⟨trivial, trivial, trivial⟩ ?_
    refine g_icmp hK 498 .gt (85) 583 (t1 := 501) (t2 := 583) (by decide +kernel) (by decide) rfl rfl (fun (hc1 : x13 ≤ 3) => ?_) (fun (hc1 : ¬ (x13 ≤ 3)) => ?_)
    · have hF := ite_t hc1 hF
      refine g_seg hK [.iload 12] 501 503 (L1 := [(0, vR 0), (2, vI x2), (10, vI x10), (12, vI x12), (13, vI x13)]) (st1 := [vI x12]) (h1 := h) (P := True ∧ True) (by decide +kernel) rfl rfl ⟨trivial, trivial⟩ ?_
      refine g_ifz hK 503 .eq (80) 583 (t1 := 583) (t2 := 506) (by decide +kernel) (by decide) rfl rfl (fun (hc2 : x12 = 0) => ?_) (fun (hc2 : ¬ (x12 = 0)) => ?_)
      · have hF := ite_t hc2 hF
        cases hF
        exact hE
      · have hF := ite_f hc2 hF
        refine g_seg hK [.iload 13, .iload 10] 506 510 (L1 := [(0, vR 0), (2, vI x2), (10, vI x10), (12, vI x12), (13, vI x13)]) (st1 := [vI x10, vI x13]) (h1 := h) (P := True ∧ True ∧ True) (by decide +kernel) rfl rfl ⟨trivial, trivial, trivial⟩ ?_
        obtain ⟨s3, e31, hF⟩ := jn1_elim hF
        have j4 : K 518 [(0, vR 0), (2, vI x2), (10, vI x10), (13, vI x13)] [vI s3] h := by
          refine g_seg hK [.iload 13, .aload_n 0, .bipush 14] 518 523 (L1 := [(0, vR 0), (2, vI x2), (10, vI x10), (13, vI x13)]) (st1 := [vI 14, vR 0, vI x13, vI s3]) (h1 := h) (P := True ∧ True ∧ True ∧ True) (by decide +kernel) rfl rfl ⟨trivial, trivial, trivial, trivial⟩ ?_
          obtain ⟨r6, h7, e8, hF⟩ := ob2_elim hF
          refine g_callV1 hK 523 8 (d1 := 6) (ci := 6) (i := 0) (vs := [vI 14]) (rest := [vI x13, vI s3]) (h1 := h7) (r := vI r6) my_yX6_count vw_X9_8 (by decide) (T_X_count (p1 := 14) (h := h) (hF := e8)) rfl rfl rfl (Nat.le_of_ble_eq_true rfl) (by decide +kernel) ?_
          obtain ⟨kj13, e18, hF⟩ := jk2_elim hF
          have j13 : ∀ (s11 : Int) (h12 : MH), kj13 s11 h12 = some (x12', x13', h') → K 567 [(0, vR 0), (2, vI x2), (10, vI x10), (13, vI x13)] [vI s11, vI s3] h12 := by
            intro s11 h12 hF
            have hF := (e18 s11 h12).symm.trans hF
            obtain ⟨s14, e17, hF⟩ := jn1_elim hF
            have j15 : K 575 [(0, vR 0), (2, vI x2), (10, vI x10), (13, vI x13)] [vI s14] h12 := by
              refine g_seg hK [.istore 12, .iinc 13 1] 575 580 (L1 := [(13, vI (wr (x13 + 1))), (12, vI s14), (0, vR 0), (2, vI x2), (10, vI x10)]) (st1 := []) (h1 := h12) (P := True ∧ True ∧ True) (by decide +kernel) rfl rfl ⟨trivial, trivial, trivial⟩ ?_
              refine g_goto hK 580 (-85) 495 (by decide +kernel) (by decide) ?_
              refine hK.2.1 _ _ ([(0, vR 0), (2, vI x2), (10, vI x10), (12, vI s14), (13, vI (wr (x13 + 1)))]) _ _ (sub_of [2, 3, 4, 1, 0] rfl) ?_
              exact ih _ _ _ _ _ _ hF hE
            clear hF
            have hF := e17
            refine g_icmp hK 567 .ne (7) 574 (t1 := 570) (t2 := 574) (by decide +kernel) (by decide) rfl rfl (fun (hc16 : s3 = s11) => ?_) (fun (hc16 : ¬ (s3 = s11)) => ?_)
            · have hF := ite_t hc16 hF
              refine g_seg hK [.iconst 1] 570 571 (L1 := [(0, vR 0), (2, vI x2), (10, vI x10), (13, vI x13)]) (st1 := [vI 1]) (h1 := h12) (P := True ∧ True) (by decide +kernel) rfl rfl ⟨trivial, trivial⟩ ?_
              refine g_goto hK 571 (4) 575 (by decide +kernel) (by decide) ?_
              cases hF
              exact j15
            · have hF := ite_f hc16 hF
              refine g_seg hK [.iconst 0] 574 575 (L1 := [(0, vR 0), (2, vI x2), (10, vI x10), (13, vI x13)]) (st1 := [vI 0]) (h1 := h12) (P := True ∧ True) (by decide +kernel) rfl rfl ⟨trivial, trivial⟩ ?_
              cases hF
              exact j15
          obtain ⟨kj10, e19, hF⟩ := jk1_elim hF
          have j10 : ∀ (h9 : MH), kj10 h9 = some (x12', x13', h') → K 566 [(0, vR 0), (2, vI x2), (10, vI x10), (13, vI x13)] [vI s3] h9 := by
            intro h9 hF
            have hF := (e19 h9).symm.trans hF
            refine g_seg hK [.iconst 0] 566 567 (L1 := [(0, vR 0), (2, vI x2), (10, vI x10), (13, vI x13)]) (st1 := [vI 0, vI s3]) (h1 := h9) (P := True ∧ True) (by decide +kernel) rfl rfl ⟨trivial, trivial⟩ ?_
            exact j13 _ _ hF
          refine g_icmp hK 526 .gt (40) 566 (t1 := 529) (t2 := 566) (by decide +kernel) (by decide) rfl rfl (fun (hc20 : x13 ≤ r6) => ?_) (fun (hc20 : ¬ (x13 ≤ r6)) => ?_)
          · have hF := ite_t hc20 hF
            refine g_seg hK [.iload 13, .iload_n 2] 529 532 (L1 := [(0, vR 0), (2, vI x2), (10, vI x10), (13, vI x13)]) (st1 := [vI x2, vI x13, vI s3]) (h1 := h7) (P := True ∧ True ∧ True) (by decide +kernel) rfl rfl ⟨trivial, trivial, trivial⟩ ?_
            refine g_icmp hK 532 .gt (34) 566 (t1 := 535) (t2 := 566) (by decide +kernel) (by decide) rfl rfl (fun (hc21 : x13 ≤ x2) => ?_) (fun (hc21 : ¬ (x13 ≤ x2)) => ?_)
            · have hF := ite_t hc21 hF
              refine g_seg hK [.aload_n 0, .iload_n 2, .iload 13, .isub, .iconst 0] 535 541 (L1 := [(0, vR 0), (2, vI x2), (10, vI x10), (13, vI x13)]) (st1 := [vI 0, vI (wr (x2 - x13)), vR 0, vI s3]) (h1 := h7) (P := True ∧ True ∧ True ∧ True ∧ True ∧ True) (by decide +kernel) rfl rfl ⟨trivial, trivial, trivial, trivial, trivial, trivial⟩ ?_
              obtain ⟨r22, h23, e24, hF⟩ := ob2_elim hF
              refine g_callV1 hK 541 14 (d1 := 6) (ci := 6) (i := 0) (vs := [vI (wr (x2 - x13)), vI 0]) (rest := [vI s3]) (h1 := h23) (r := vI r22) my_yX6_view vw_X9_14 (by decide) (T_X_view (p1 := (wr (x2 - x13))) (p2 := 0) (h := h7) (hF := e24)) rfl rfl rfl (Nat.le_of_ble_eq_true rfl) (by decide +kernel) ?_
              refine g_ifz hK 544 .ne (22) 566 (t1 := 547) (t2 := 566) (by decide +kernel) (by decide) rfl rfl (fun (hc25 : r22 = 0) => ?_) (fun (hc25 : ¬ (r22 = 0)) => ?_)
              · have hF := ite_t hc25 hF
                refine g_seg hK [.iload 13, .iconst 1] 547 550 (L1 := [(0, vR 0), (2, vI x2), (10, vI x10), (13, vI x13)]) (st1 := [vI 1, vI x13, vI s3]) (h1 := h23) (P := True ∧ True ∧ True) (by decide +kernel) rfl rfl ⟨trivial, trivial, trivial⟩ ?_
                obtain ⟨kj27, e28, hF⟩ := jk1_elim hF
                have j27 : ∀ (u26 : Unit), kj27 u26 = some (x12', x13', h') → K 562 [(0, vR 0), (2, vI x2), (10, vI x10), (13, vI x13)] [vI s3] h23 := by
                  intro u26 hF
                  have hF := (e28 u26).symm.trans hF
                  refine g_seg hK [.iconst 1] 562 563 (L1 := [(0, vR 0), (2, vI x2), (10, vI x10), (13, vI x13)]) (st1 := [vI 1, vI s3]) (h1 := h23) (P := True ∧ True) (by decide +kernel) rfl rfl ⟨trivial, trivial⟩ ?_
                  refine g_goto hK 563 (4) 567 (by decide +kernel) (by decide) ?_
                  exact j13 _ _ hF
                refine g_icmp hK 550 .eq (12) 562 (t1 := 562) (t2 := 553) (by decide +kernel) (by decide) rfl rfl (fun (hc29 : x13 = 1) => ?_) (fun (hc29 : ¬ (x13 = 1)) => ?_)
                · have hF := ite_t hc29 hF
                  exact j27 _ hF
                · have hF := ite_f hc29 hF
                  refine g_seg hK [.iload 13, .iconst 1, .isub, .iload 10] 553 559 (L1 := [(0, vR 0), (2, vI x2), (10, vI x10), (13, vI x13)]) (st1 := [vI x10, vI (wr (x13 - 1)), vI s3]) (h1 := h23) (P := True ∧ True ∧ True ∧ True ∧ True) (by decide +kernel) rfl rfl ⟨trivial, trivial, trivial, trivial, trivial⟩ ?_
                  refine g_icmp hK 559 .gt (7) 566 (t1 := 562) (t2 := 566) (by decide +kernel) (by decide) rfl rfl (fun (hc30 : wr (x13 - 1) ≤ x10) => ?_) (fun (hc30 : ¬ (wr (x13 - 1) ≤ x10)) => ?_)
                  · have hF := ite_t hc30 hF
                    exact j27 _ hF
                  · have hF := ite_f hc30 hF
                    exact j10 _ hF
              · have hF := ite_f hc25 hF
                exact j10 _ hF
            · have hF := ite_f hc21 hF
              exact j10 _ hF
          · have hF := ite_f hc20 hF
            exact j10 _ hF
        clear hF
        have hF := e31
        refine g_icmp hK 510 .gt (7) 517 (t1 := 513) (t2 := 517) (by decide +kernel) (by decide) rfl rfl (fun (hc5 : x13 ≤ x10) => ?_) (fun (hc5 : ¬ (x13 ≤ x10)) => ?_)
        · have hF := ite_t hc5 hF
          refine g_seg hK [.iconst 1] 513 514 (L1 := [(0, vR 0), (2, vI x2), (10, vI x10), (12, vI x12), (13, vI x13)]) (st1 := [vI 1]) (h1 := h) (P := True ∧ True) (by decide +kernel) rfl rfl ⟨trivial, trivial⟩ ?_
          refine g_goto hK 514 (4) 518 (by decide +kernel) (by decide) ?_
          refine hK.2.1 _ _ ([(0, vR 0), (2, vI x2), (10, vI x10), (13, vI x13)]) _ _ (sub_of [0, 1, 2, 4] rfl) ?_
          cases hF
          exact j4
        · have hF := ite_f hc5 hF
          refine g_seg hK [.iconst 0] 517 518 (L1 := [(0, vR 0), (2, vI x2), (10, vI x10), (12, vI x12), (13, vI x13)]) (st1 := [vI 0]) (h1 := h) (P := True ∧ True) (by decide +kernel) rfl rfl ⟨trivial, trivial⟩ ?_
          refine hK.2.1 _ _ ([(0, vR 0), (2, vI x2), (10, vI x10), (13, vI x13)]) _ _ (sub_of [0, 1, 2, 4] rfl) ?_
          cases hF
          exact j4
    · have hF := ite_f hc1 hF
      cases hF
      exact hE
set_option maxHeartbeats 4000000 in
set_option maxRecDepth 100000 in
theorem T_L_isHunk {p2 : Int} {h : MH} {r : Int} {h' : MH} (hF : F_L_isHunk p2 h = some (r, h')) : CON 7 yL_isHunk cL_isHunk 14 (Option.some Jvm.ClassFile.FieldType.boolean) [vR 0, vI p2] h (some (vI r)) h' := by
  refine con_of (own := RX9) (fl := flX9) (by decide +kernel) rfl flok_X9 rfl (Nat.le_of_ble_eq_true rfl) ?_
  intro K hK hR
  show K 0 [(0, vR 0), (1, vI p2)] [] h
  unfold F_L_isHunk at hF
  refine g_seg hK [.aload_n 0, .iload_n 1, .iconst 0] 0 3 (L1 := [(0, vR 0), (1, vI p2)]) (st1 := [vI 0, vI p2, vR 0]) (h1 := h) (P := True ∧ True ∧ True ∧ True) (by decide +kernel) rfl rfl ⟨trivial, trivial, trivial, trivial⟩ ?_
  obtain ⟨r1, h2, e3, hF⟩ := ob2_elim hF
  refine g_callV1 hK 3 21 (d1 := 6) (ci := 6) (i := 0) (vs := [vI p2, vI 0]) (rest := []) (h1 := h2) (r := vI r1) my_yX6_hunk vw_X9_21 (by decide) (T_X_hunk (p1 := p2) (p2 := 0) (h := h) (hF := e3)) rfl rfl rfl (Nat.le_of_ble_eq_true rfl) (by decide +kernel) ?_
  refine g_seg hK [.istore_n 2, .aload_n 0, .iload_n 1, .iconst 1] 6 10 (L1 := [(2, vI r1), (0, vR 0), (1, vI p2)]) (st1 := [vI 1, vI p2, vR 0]) (h1 := h2) (P := True ∧ True ∧ True ∧ True ∧ True) (by decide +kernel) rfl rfl ⟨trivial, trivial, trivial, trivial, trivial⟩ ?_
  obtain ⟨r4, h5, e6, hF⟩ := ob2_elim hF
  refine g_callV1 hK 10 21 (d1 := 6) (ci := 6) (i := 0) (vs := [vI p2, vI 1]) (rest := []) (h1 := h5) (r := vI r4) my_yX6_hunk vw_X9_21 (by decide) (T_X_hunk (p1 := p2) (p2 := 1) (h := h2) (hF := e6)) rfl rfl rfl (Nat.le_of_ble_eq_true rfl) (by decide +kernel) ?_
  refine g_seg hK [.istore_n 3, .aload_n 0, .iload_n 1, .iconst 2] 13 17 (L1 := [(3, vI r4), (2, vI r1), (0, vR 0), (1, vI p2)]) (st1 := [vI 2, vI p2, vR 0]) (h1 := h5) (P := True ∧ True ∧ True ∧ True ∧ True) (by decide +kernel) rfl rfl ⟨trivial, trivial, trivial, trivial, trivial⟩ ?_
  obtain ⟨r7, h8, e9, hF⟩ := ob2_elim hF
  refine g_callV1 hK 17 21 (d1 := 6) (ci := 6) (i := 0) (vs := [vI p2, vI 2]) (rest := []) (h1 := h8) (r := vI r7) my_yX6_hunk vw_X9_21 (by decide) (T_X_hunk (p1 := p2) (p2 := 2) (h := h5) (hF := e9)) rfl rfl rfl (Nat.le_of_ble_eq_true rfl) (by decide +kernel) ?_
  refine g_seg hK [.istore 4, .iload_n 3, .iload 4, .iadd, .istore 5, .iload_n 3] 20 29 (L1 := [(5, vI (wr (r4 + r7))), (4, vI r7), (3, vI r4), (2, vI r1), (0, vR 0), (1, vI p2)]) (st1 := [vI r4]) (h1 := h8) (P := True ∧ True ∧ True ∧ True ∧ True ∧ True ∧ True) (by decide +kernel) rfl rfl ⟨trivial, trivial, trivial, trivial, trivial, trivial, trivial⟩ ?_
  obtain ⟨kj13, e103, hF⟩ := jk1_elim hF
  have j13 : ∀ (s12 : Int), kj13 s12 = some (r, h') → K 42 [(0, vR 0), (1, vI p2), (2, vI r1), (5, vI (wr (r4 + r7)))] [vI s12] h8 := by
    intro s12 hF
    have hF := (e103 s12).symm.trans hF
    refine g_seg hK [.istore 6, .aload_n 0, .iload_n 1, .iconst 4] 42 47 (L1 := [(6, vI s12), (0, vR 0), (1, vI p2), (2, vI r1), (5, vI (wr (r4 + r7)))]) (st1 := [vI 4, vI p2, vR 0]) (h1 := h8) (P := True ∧ True ∧ True ∧ True ∧ True) (by decide +kernel) rfl rfl ⟨trivial, trivial, trivial, trivial, trivial⟩ ?_
    obtain ⟨r14, h15, e16, hF⟩ := ob2_elim hF
    refine g_callV1 hK 47 21 (d1 := 6) (ci := 6) (i := 0) (vs := [vI p2, vI 4]) (rest := []) (h1 := h15) (r := vI r14) my_yX6_hunk vw_X9_21 (by decide) (T_X_hunk (p1 := p2) (p2 := 4) (h := h8) (hF := e16)) rfl rfl rfl (Nat.le_of_ble_eq_true rfl) (by decide +kernel) ?_
    refine g_seg hK [.istore 7, .aload_n 0, .iload_n 1, .iconst 5] 50 55 (L1 := [(7, vI r14), (6, vI s12), (0, vR 0), (1, vI p2), (2, vI r1), (5, vI (wr (r4 + r7)))]) (st1 := [vI 5, vI p2, vR 0]) (h1 := h15) (P := True ∧ True ∧ True ∧ True ∧ True) (by decide +kernel) rfl rfl ⟨trivial, trivial, trivial, trivial, trivial⟩ ?_
    obtain ⟨r17, h18, e19, hF⟩ := ob2_elim hF
    refine g_callV1 hK 55 21 (d1 := 6) (ci := 6) (i := 0) (vs := [vI p2, vI 5]) (rest := []) (h1 := h18) (r := vI r17) my_yX6_hunk vw_X9_21 (by decide) (T_X_hunk (p1 := p2) (p2 := 5) (h := h15) (hF := e19)) rfl rfl rfl (Nat.le_of_ble_eq_true rfl) (by decide +kernel) ?_
    refine g_seg hK [.istore 8, .iload 5, .iconst 1] 58 63 (L1 := [(8, vI r17), (7, vI r14), (6, vI s12), (0, vR 0), (1, vI p2), (2, vI r1), (5, vI (wr (r4 + r7)))]) (st1 := [vI 1, vI (wr (r4 + r7))]) (h1 := h18) (P := True ∧ True ∧ True ∧ True) (by decide +kernel) rfl rfl ⟨trivial, trivial, trivial, trivial⟩ ?_
    refine g_icmp hK 63 .lt (110) 173 (t1 := 173) (t2 := 66) (by decide +kernel) (by decide) rfl rfl (fun (hc20 : wr (r4 + r7) < 1) => ?_) (fun (hc20 : ¬ (wr (r4 + r7) < 1)) => ?_)
    · have hF := ite_t hc20 hF
      refine g_seg hK [.iconst 0] 173 174 (L1 := [(8, vI r17), (7, vI r14), (6, vI s12), (0, vR 0), (1, vI p2), (2, vI r1), (5, vI (wr (r4 + r7)))]) (st1 := [vI 0]) (h1 := h18) (P := True ∧ True) (by decide +kernel) rfl rfl ⟨trivial, trivial⟩ ?_
      cases hF
      exact hR.2.1 174 _ _ _ (by decide +kernel) rfl (by decide) ⟨rfl, rfl⟩
    · have hF := ite_f hc20 hF
      refine g_seg hK [.aload_n 0, .iload_n 1, .iconst 3] 66 69 (L1 := [(8, vI r17), (7, vI r14), (6, vI s12), (0, vR 0), (1, vI p2), (2, vI r1), (5, vI (wr (r4 + r7)))]) (st1 := [vI 3, vI p2, vR 0]) (h1 := h18) (P := True ∧ True ∧ True ∧ True) (by decide +kernel) rfl rfl ⟨trivial, trivial, trivial, trivial⟩ ?_
      obtain ⟨r21, h22, e23, hF⟩ := ob2_elim hF
      refine g_callV1 hK 69 21 (d1 := 6) (ci := 6) (i := 0) (vs := [vI p2, vI 3]) (rest := []) (h1 := h22) (r := vI r21) my_yX6_hunk vw_X9_21 (by decide) (T_X_hunk (p1 := p2) (p2 := 3) (h := h18) (hF := e23)) rfl rfl rfl (Nat.le_of_ble_eq_true rfl) (by decide +kernel) ?_
      refine g_seg hK [.iconst 1] 72 73 (L1 := [(8, vI r17), (7, vI r14), (6, vI s12), (0, vR 0), (1, vI p2), (2, vI r1), (5, vI (wr (r4 + r7)))]) (st1 := [vI 1, vI r21]) (h1 := h22) (P := True ∧ True) (by decide +kernel) rfl rfl ⟨trivial, trivial⟩ ?_
      obtain ⟨s24, e102, hF⟩ := jn1_elim hF
      have j25 : K 81 [(0, vR 0), (1, vI p2), (2, vI r1), (5, vI (wr (r4 + r7))), (6, vI s12), (7, vI r14), (8, vI r17)] [vI s24] h22 := by
        refine g_seg hK [.iload 6] 81 83 (L1 := [(0, vR 0), (1, vI p2), (2, vI r1), (5, vI (wr (r4 + r7))), (6, vI s12), (7, vI r14), (8, vI r17)]) (st1 := [vI s12, vI s24]) (h1 := h22) (P := True ∧ True) (by decide +kernel) rfl rfl ⟨trivial, trivial⟩ ?_
        refine g_icmp hK 83 .ne (90) 173 (t1 := 86) (t2 := 173) (by decide +kernel) (by decide) rfl rfl (fun (hc27 : s24 = s12) => ?_) (fun (hc27 : ¬ (s24 = s12)) => ?_)
        · have hF := ite_t hc27 hF
          refine g_seg hK [.iload 7] 86 88 (L1 := [(0, vR 0), (1, vI p2), (2, vI r1), (5, vI (wr (r4 + r7))), (6, vI s12), (7, vI r14), (8, vI r17)]) (st1 := [vI r14]) (h1 := h22) (P := True ∧ True) (by decide +kernel) rfl rfl ⟨trivial, trivial⟩ ?_
          refine g_ifz hK 88 .lt (85) 173 (t1 := 173) (t2 := 91) (by decide +kernel) (by decide) rfl rfl (fun (hc28 : r14 < 0) => ?_) (fun (hc28 : ¬ (r14 < 0)) => ?_)
          · have hF := ite_t hc28 hF
            refine g_seg hK [.iconst 0] 173 174 (L1 := [(0, vR 0), (1, vI p2), (2, vI r1), (5, vI (wr (r4 + r7))), (6, vI s12), (7, vI r14), (8, vI r17)]) (st1 := [vI 0]) (h1 := h22) (P := True ∧ True) (by decide +kernel) rfl rfl ⟨trivial, trivial⟩ ?_
            cases hF
            exact hR.2.1 174 _ _ _ (by decide +kernel) rfl (by decide) ⟨rfl, rfl⟩
          · have hF := ite_f hc28 hF
            refine g_seg hK [.iload 8] 91 93 (L1 := [(0, vR 0), (1, vI p2), (2, vI r1), (5, vI (wr (r4 + r7))), (6, vI s12), (7, vI r14), (8, vI r17)]) (st1 := [vI r17]) (h1 := h22) (P := True ∧ True) (by decide +kernel) rfl rfl ⟨trivial, trivial⟩ ?_
            refine g_ifz hK 93 .lt (80) 173 (t1 := 173) (t2 := 96) (by decide +kernel) (by decide) rfl rfl (fun (hc29 : r17 < 0) => ?_) (fun (hc29 : ¬ (r17 < 0)) => ?_)
            · have hF := ite_t hc29 hF
              refine g_seg hK [.iconst 0] 173 174 (L1 := [(0, vR 0), (1, vI p2), (2, vI r1), (5, vI (wr (r4 + r7))), (6, vI s12), (7, vI r14), (8, vI r17)]) (st1 := [vI 0]) (h1 := h22) (P := True ∧ True) (by decide +kernel) rfl rfl ⟨trivial, trivial⟩ ?_
              cases hF
              exact hR.2.1 174 _ _ _ (by decide +kernel) rfl (by decide) ⟨rfl, rfl⟩
            · have hF := ite_f hc29 hF
              refine g_seg hK [.aload_n 0, .iload_n 1, .iconst 0] 96 99 (L1 := [(0, vR 0), (1, vI p2), (2, vI r1), (5, vI (wr (r4 + r7))), (6, vI s12), (7, vI r14), (8, vI r17)]) (st1 := [vI 0, vI p2, vR 0]) (h1 := h22) (P := True ∧ True ∧ True ∧ True) (by decide +kernel) rfl rfl ⟨trivial, trivial, trivial, trivial⟩ ?_
              obtain ⟨r30, h31, e32, hF⟩ := ob2_elim hF
              refine g_callV1 hK 99 31 (d1 := 6) (ci := 6) (i := 0) (vs := [vI p2, vI 0]) (rest := []) (h1 := h31) (r := vI r30) my_yX6_whyNot vw_X9_31 (by decide) (T_X_whyNot (p1 := p2) (p2 := 0) (h := h22) (hF := e32)) rfl rfl rfl (Nat.le_of_ble_eq_true rfl) (by decide +kernel) ?_
              obtain ⟨s33, e101, hF⟩ := jn1_elim hF
              have j34 : K 110 [(0, vR 0), (1, vI p2), (2, vI r1), (5, vI (wr (r4 + r7))), (6, vI s12), (7, vI r14), (8, vI r17)] [vI s33] h31 := by
                refine g_seg hK [.iload 7] 110 112 (L1 := [(0, vR 0), (1, vI p2), (2, vI r1), (5, vI (wr (r4 + r7))), (6, vI s12), (7, vI r14), (8, vI r17)]) (st1 := [vI r14, vI s33]) (h1 := h31) (P := True ∧ True) (by decide +kernel) rfl rfl ⟨trivial, trivial⟩ ?_
                obtain ⟨s36, e100, hF⟩ := jn1_elim hF
                have j37 : K 120 [(0, vR 0), (1, vI p2), (2, vI r1), (5, vI (wr (r4 + r7))), (6, vI s12), (7, vI r14), (8, vI r17)] [vI s36, vI s33] h31 := by
                  refine g_icmp hK 120 .ne (53) 173 (t1 := 123) (t2 := 173) (by decide +kernel) (by decide) rfl rfl (fun (hc39 : s33 = s36) => ?_) (fun (hc39 : ¬ (s33 = s36)) => ?_)
                  · have hF := ite_t hc39 hF
                    refine g_seg hK [.aload_n 0, .iload_n 1, .iconst 1] 123 126 (L1 := [(0, vR 0), (1, vI p2), (2, vI r1), (5, vI (wr (r4 + r7))), (6, vI s12), (7, vI r14), (8, vI r17)]) (st1 := [vI 1, vI p2, vR 0]) (h1 := h31) (P := True ∧ True ∧ True ∧ True) (by decide +kernel) rfl rfl ⟨trivial, trivial, trivial, trivial⟩ ?_
                    obtain ⟨r40, h41, e42, hF⟩ := ob2_elim hF
                    refine g_callV1 hK 126 31 (d1 := 6) (ci := 6) (i := 0) (vs := [vI p2, vI 1]) (rest := []) (h1 := h41) (r := vI r40) my_yX6_whyNot vw_X9_31 (by decide) (T_X_whyNot (p1 := p2) (p2 := 1) (h := h31) (hF := e42)) rfl rfl rfl (Nat.le_of_ble_eq_true rfl) (by decide +kernel) ?_
                    obtain ⟨s43, e99, hF⟩ := jn1_elim hF
                    have j44 : K 137 [(0, vR 0), (1, vI p2), (2, vI r1), (5, vI (wr (r4 + r7))), (6, vI s12), (7, vI r14), (8, vI r17)] [vI s43] h41 := by
                      refine g_seg hK [.iload 8] 137 139 (L1 := [(0, vR 0), (1, vI p2), (2, vI r1), (5, vI (wr (r4 + r7))), (6, vI s12), (7, vI r14), (8, vI r17)]) (st1 := [vI r17, vI s43]) (h1 := h41) (P := True ∧ True) (by decide +kernel) rfl rfl ⟨trivial, trivial⟩ ?_
                      obtain ⟨s46, e98, hF⟩ := jn1_elim hF
                      have j47 : K 147 [(0, vR 0), (1, vI p2), (2, vI r1), (5, vI (wr (r4 + r7))), (6, vI s12), (7, vI r14), (8, vI r17)] [vI s46, vI s43] h41 := by
                        refine g_icmp hK 147 .ne (26) 173 (t1 := 150) (t2 := 173) (by decide +kernel) (by decide) rfl rfl (fun (hc49 : s43 = s46) => ?_) (fun (hc49 : ¬ (s43 = s46)) => ?_)
                        · have hF := ite_t hc49 hF
                          refine g_seg hK [.iload 6] 150 152 (L1 := [(0, vR 0), (1, vI p2), (2, vI r1), (5, vI (wr (r4 + r7))), (6, vI s12), (7, vI r14), (8, vI r17)]) (st1 := [vI s12]) (h1 := h41) (P := True ∧ True) (by decide +kernel) rfl rfl ⟨trivial, trivial⟩ ?_
                          obtain ⟨kj51, e91, hF⟩ := jk1_elim hF
                          have j51 : ∀ (h50 : MH), kj51 h50 = some (r, h') → K 175 [(0, vR 0), (1, vI p2), (2, vI r1), (5, vI (wr (r4 + r7))), (7, vI r14), (8, vI r17)] [] h50 := by
                            intro h50 hF
                            have hF := (e91 h50).symm.trans hF
                            refine g_seg hK [.iconst (-1), .istore 9, .iload_n 2, .iload 7, .isub, .istore 10] 175 184 (L1 := [(10, vI (wr (r1 - r14))), (9, vI (-1)), (0, vR 0), (1, vI p2), (2, vI r1), (5, vI (wr (r4 + r7))), (7, vI r14), (8, vI r17)]) (st1 := []) (h1 := h50) (P := True ∧ True ∧ True ∧ True ∧ True ∧ True ∧ True) (by decide +kernel) rfl rfl ⟨trivial, trivial, trivial, trivial, trivial, trivial, trivial⟩ ?_
                            refine hK.2.1 _ _ ([(0, vR 0), (1, vI p2), (2, vI r1), (5, vI (wr (r4 + r7))), (8, vI r17), (9, vI (-1)), (10, vI (wr (r1 - r14)))]) _ _ (sub_of [2, 3, 4, 5, 7, 1, 0] rfl) ?_
                            obtain ⟨out57, e55, hr58, hx59⟩ := os_elim hF
                            refine LT_L_isHunk_L184 hK hR _ _ _ _ out57 e55 ?_ ?_
                            · intro a ha
                              have hF := hr58 a ha
                              cases hF
                              exact ⟨rfl, rfl⟩
                            · intro q56 hq
                              have hF := hx59 q56 hq
                              refine g_seg hK [.aload_n 0, .iload_n 1, .bipush 8] 427 431 (L1 := [(0, vR 0), (1, vI p2), (2, vI r1), (5, vI (wr (r4 + r7))), (8, vI r17), (9, vI q56.1), (10, vI q56.2.1)]) (st1 := [vI 8, vI p2, vR 0]) (h1 := q56.2.2) (P := True ∧ True ∧ True ∧ True) (by decide +kernel) rfl rfl ⟨trivial, trivial, trivial, trivial⟩ ?_
                              obtain ⟨r60, h61, e62, hF⟩ := ob2_elim hF
                              refine g_callV1 hK 431 21 (d1 := 6) (ci := 6) (i := 0) (vs := [vI p2, vI 8]) (rest := []) (h1 := h61) (r := vI r60) my_yX6_hunk vw_X9_21 (by decide) (T_X_hunk (p1 := p2) (p2 := 8) (h := q56.2.2) (hF := e62)) rfl rfl rfl (Nat.le_of_ble_eq_true rfl) (by decide +kernel) ?_
                              refine g_seg hK [.istore 10, .aload_n 0, .iload_n 1, .bipush 9] 434 440 (L1 := [(10, vI r60), (0, vR 0), (1, vI p2), (2, vI r1), (5, vI (wr (r4 + r7))), (8, vI r17), (9, vI q56.1)]) (st1 := [vI 9, vI p2, vR 0]) (h1 := h61) (P := True ∧ True ∧ True ∧ True ∧ True) (by decide +kernel) rfl rfl ⟨trivial, trivial, trivial, trivial, trivial⟩ ?_
                              obtain ⟨r63, h64, e65, hF⟩ := ob2_elim hF
                              refine g_callV1 hK 440 21 (d1 := 6) (ci := 6) (i := 0) (vs := [vI p2, vI 9]) (rest := []) (h1 := h64) (r := vI r63) my_yX6_hunk vw_X9_21 (by decide) (T_X_hunk (p1 := p2) (p2 := 9) (h := h61) (hF := e65)) rfl rfl rfl (Nat.le_of_ble_eq_true rfl) (by decide +kernel) ?_
                              refine g_seg hK [.istore 11, .aload_n 0, .iload_n 1, .bipush 7] 443 449 (L1 := [(11, vI r63), (10, vI r60), (0, vR 0), (1, vI p2), (2, vI r1), (5, vI (wr (r4 + r7))), (8, vI r17), (9, vI q56.1)]) (st1 := [vI 7, vI p2, vR 0]) (h1 := h64) (P := True ∧ True ∧ True ∧ True ∧ True) (by decide +kernel) rfl rfl ⟨trivial, trivial, trivial, trivial, trivial⟩ ?_
                              obtain ⟨r66, h67, e68, hF⟩ := ob2_elim hF
                              refine g_callV1 hK 449 21 (d1 := 6) (ci := 6) (i := 0) (vs := [vI p2, vI 7]) (rest := []) (h1 := h67) (r := vI r66) my_yX6_hunk vw_X9_21 (by decide) (T_X_hunk (p1 := p2) (p2 := 7) (h := h64) (hF := e68)) rfl rfl rfl (Nat.le_of_ble_eq_true rfl) (by decide +kernel) ?_
                              refine g_seg hK [.iload 9] 452 454 (L1 := [(11, vI r63), (10, vI r60), (0, vR 0), (1, vI p2), (2, vI r1), (5, vI (wr (r4 + r7))), (8, vI r17), (9, vI q56.1)]) (st1 := [vI q56.1, vI r66]) (h1 := h67) (P := True ∧ True) (by decide +kernel) rfl rfl ⟨trivial, trivial⟩ ?_
                              obtain ⟨kj73, e79, hF⟩ := jk2_elim hF
                              have j73 : ∀ (s71 : Int) (h72 : MH), kj73 s71 h72 = some (r, h') → K 490 [(0, vR 0), (2, vI r1), (10, vI r60)] [vI s71] h72 := by
                                intro s71 h72 hF
                                have hF := (e79 s71 h72).symm.trans hF
                                refine g_seg hK [.istore 12, .iconst 1, .istore 13] 490 495 (L1 := [(13, vI 1), (12, vI s71), (0, vR 0), (2, vI r1), (10, vI r60)]) (st1 := []) (h1 := h72) (P := True ∧ True ∧ True ∧ True) (by decide +kernel) rfl rfl ⟨trivial, trivial, trivial, trivial⟩ ?_
                                refine hK.2.1 _ _ ([(0, vR 0), (2, vI r1), (10, vI r60), (12, vI s71), (13, vI 1)]) _ _ (sub_of [2, 3, 4, 1, 0] rfl) ?_
                                obtain ⟨x12_74, x13_75, h76, e77, hF⟩ := ob3_elim hF
                                refine LT_L_isHunk_L495 hK _ _ _ _ _ _ _ e77 ?_
                                refine g_seg hK [.iload 12] 583 585 (L1 := [(0, vR 0), (2, vI r1), (10, vI r60), (12, vI x12_74), (13, vI x13_75)]) (st1 := [vI x12_74]) (h1 := h76) (P := True ∧ True) (by decide +kernel) rfl rfl ⟨trivial, trivial⟩ ?_
                                obtain ⟨hg78, hF⟩ := gd_elim hF
                                cases hF
                                exact hR.2.1 585 _ _ _ (by decide +kernel) rfl hg78 ⟨rfl, rfl⟩
                              obtain ⟨kj70, e80, hF⟩ := jk1_elim hF
                              have j70 : ∀ (h69 : MH), kj70 h69 = some (r, h') → K 489 [(0, vR 0), (2, vI r1), (10, vI r60)] [] h69 := by
                                intro h69 hF
                                have hF := (e80 h69).symm.trans hF
                                refine g_seg hK [.iconst 0] 489 490 (L1 := [(0, vR 0), (2, vI r1), (10, vI r60)]) (st1 := [vI 0]) (h1 := h69) (P := True ∧ True) (by decide +kernel) rfl rfl ⟨trivial, trivial⟩ ?_
                                exact j73 _ _ hF
                              refine g_icmp hK 454 .ne (35) 489 (t1 := 457) (t2 := 489) (by decide +kernel) (by decide) rfl rfl (fun (hc81 : r66 = q56.1) => ?_) (fun (hc81 : ¬ (r66 = q56.1)) => ?_)
                              · have hF := ite_t hc81 hF
                                refine g_seg hK [.iload 10, .aload_n 0, .bipush 14] 457 462 (L1 := [(11, vI r63), (10, vI r60), (0, vR 0), (1, vI p2), (2, vI r1), (5, vI (wr (r4 + r7))), (8, vI r17), (9, vI q56.1)]) (st1 := [vI 14, vR 0, vI r60]) (h1 := h67) (P := True ∧ True ∧ True ∧ True) (by decide +kernel) rfl rfl ⟨trivial, trivial, trivial, trivial⟩ ?_
                                obtain ⟨r82, h83, e84, hF⟩ := ob2_elim hF
                                refine g_callV1 hK 462 8 (d1 := 6) (ci := 6) (i := 0) (vs := [vI 14]) (rest := [vI r60]) (h1 := h83) (r := vI r82) my_yX6_count vw_X9_8 (by decide) (T_X_count (p1 := 14) (h := h67) (hF := e84)) rfl rfl rfl (Nat.le_of_ble_eq_true rfl) (by decide +kernel) ?_
                                refine g_icmp hK 465 .gt (24) 489 (t1 := 468) (t2 := 489) (by decide +kernel) (by decide) rfl rfl (fun (hc85 : r60 ≤ r82) => ?_) (fun (hc85 : ¬ (r60 ≤ r82)) => ?_)
                                · have hF := ite_t hc85 hF
                                  refine g_seg hK [.iload 11, .aload_n 0, .bipush 14] 468 473 (L1 := [(11, vI r63), (10, vI r60), (0, vR 0), (1, vI p2), (2, vI r1), (5, vI (wr (r4 + r7))), (8, vI r17), (9, vI q56.1)]) (st1 := [vI 14, vR 0, vI r63]) (h1 := h83) (P := True ∧ True ∧ True ∧ True) (by decide +kernel) rfl rfl ⟨trivial, trivial, trivial, trivial⟩ ?_
                                  obtain ⟨r86, h87, e88, hF⟩ := ob2_elim hF
                                  refine g_callV1 hK 473 8 (d1 := 6) (ci := 6) (i := 0) (vs := [vI 14]) (rest := [vI r63]) (h1 := h87) (r := vI r86) my_yX6_count vw_X9_8 (by decide) (T_X_count (p1 := 14) (h := h83) (hF := e88)) rfl rfl rfl (Nat.le_of_ble_eq_true rfl) (by decide +kernel) ?_
                                  refine g_icmp hK 476 .gt (13) 489 (t1 := 479) (t2 := 489) (by decide +kernel) (by decide) rfl rfl (fun (hc89 : r63 ≤ r86) => ?_) (fun (hc89 : ¬ (r63 ≤ r86)) => ?_)
                                  · have hF := ite_t hc89 hF
                                    refine g_seg hK [.iload 10, .iload_n 2] 479 482 (L1 := [(11, vI r63), (10, vI r60), (0, vR 0), (1, vI p2), (2, vI r1), (5, vI (wr (r4 + r7))), (8, vI r17), (9, vI q56.1)]) (st1 := [vI r1, vI r60]) (h1 := h87) (P := True ∧ True ∧ True) (by decide +kernel) rfl rfl ⟨trivial, trivial, trivial⟩ ?_
                                    refine g_icmp hK 482 .gt (7) 489 (t1 := 485) (t2 := 489) (by decide +kernel) (by decide) rfl rfl (fun (hc90 : r60 ≤ r1) => ?_) (fun (hc90 : ¬ (r60 ≤ r1)) => ?_)
                                    · have hF := ite_t hc90 hF
                                      refine g_seg hK [.iconst 1] 485 486 (L1 := [(11, vI r63), (10, vI r60), (0, vR 0), (1, vI p2), (2, vI r1), (5, vI (wr (r4 + r7))), (8, vI r17), (9, vI q56.1)]) (st1 := [vI 1]) (h1 := h87) (P := True ∧ True) (by decide +kernel) rfl rfl ⟨trivial, trivial⟩ ?_
                                      refine g_goto hK 486 (4) 490 (by decide +kernel) (by decide) ?_
                                      refine hK.2.1 _ _ ([(0, vR 0), (2, vI r1), (10, vI r60)]) _ _ (sub_of [2, 4, 1] rfl) ?_
                                      exact j73 _ _ hF
                                    · have hF := ite_f hc90 hF
                                      refine hK.2.1 _ _ ([(0, vR 0), (2, vI r1), (10, vI r60)]) _ _ (sub_of [2, 4, 1] rfl) ?_
                                      exact j70 _ hF
                                  · have hF := ite_f hc89 hF
                                    refine hK.2.1 _ _ ([(0, vR 0), (2, vI r1), (10, vI r60)]) _ _ (sub_of [2, 4, 1] rfl) ?_
                                    exact j70 _ hF
                                · have hF := ite_f hc85 hF
                                  refine hK.2.1 _ _ ([(0, vR 0), (2, vI r1), (10, vI r60)]) _ _ (sub_of [2, 4, 1] rfl) ?_
                                  exact j70 _ hF
                              · have hF := ite_f hc81 hF
                                refine hK.2.1 _ _ ([(0, vR 0), (2, vI r1), (10, vI r60)]) _ _ (sub_of [2, 4, 1] rfl) ?_
                                exact j70 _ hF
                          refine g_ifz hK 152 .ne (23) 175 (t1 := 155) (t2 := 175) (by decide +kernel) (by decide) rfl rfl (fun (hc92 : s12 = 0) => ?_) (fun (hc92 : ¬ (s12 = 0)) => ?_)
                          · have hF := ite_t hc92 hF
                            refine g_seg hK [.iload 7, .iload 8, .iadd] 155 160 (L1 := [(0, vR 0), (1, vI p2), (2, vI r1), (5, vI (wr (r4 + r7))), (6, vI s12), (7, vI r14), (8, vI r17)]) (st1 := [vI (wr (r14 + r17))]) (h1 := h41) (P := True ∧ True ∧ True ∧ True) (by decide +kernel) rfl rfl ⟨trivial, trivial, trivial, trivial⟩ ?_
                            refine g_ifz hK 160 .gt (13) 173 (t1 := 163) (t2 := 173) (by decide +kernel) (by decide) rfl rfl (fun (hc93 : wr (r14 + r17) ≤ 0) => ?_) (fun (hc93 : ¬ (wr (r14 + r17) ≤ 0)) => ?_)
                            · have hF := ite_t hc93 hF
                              refine g_seg hK [.aload_n 0, .iload_n 1, .iconst 1] 163 166 (L1 := [(0, vR 0), (1, vI p2), (2, vI r1), (5, vI (wr (r4 + r7))), (6, vI s12), (7, vI r14), (8, vI r17)]) (st1 := [vI 1, vI p2, vR 0]) (h1 := h41) (P := True ∧ True ∧ True ∧ True) (by decide +kernel) rfl rfl ⟨trivial, trivial, trivial, trivial⟩ ?_
                              obtain ⟨r94, h95, e96, hF⟩ := ob2_elim hF
                              refine g_callV1 hK 166 31 (d1 := 6) (ci := 6) (i := 0) (vs := [vI p2, vI 1]) (rest := []) (h1 := h95) (r := vI r94) my_yX6_whyNot vw_X9_31 (by decide) (T_X_whyNot (p1 := p2) (p2 := 1) (h := h41) (hF := e96)) rfl rfl rfl (Nat.le_of_ble_eq_true rfl) (by decide +kernel) ?_
                              refine g_seg hK [.iconst 1] 169 170 (L1 := [(0, vR 0), (1, vI p2), (2, vI r1), (5, vI (wr (r4 + r7))), (6, vI s12), (7, vI r14), (8, vI r17)]) (st1 := [vI 1, vI r94]) (h1 := h95) (P := True ∧ True) (by decide +kernel) rfl rfl ⟨trivial, trivial⟩ ?_
                              refine g_icmp hK 170 .eq (5) 175 (t1 := 175) (t2 := 173) (by decide +kernel) (by decide) rfl rfl (fun (hc97 : r94 = 1) => ?_) (fun (hc97 : ¬ (r94 = 1)) => ?_)
                              · have hF := ite_t hc97 hF
                                refine hK.2.1 _ _ ([(0, vR 0), (1, vI p2), (2, vI r1), (5, vI (wr (r4 + r7))), (7, vI r14), (8, vI r17)]) _ _ (sub_of [0, 1, 2, 3, 5, 6] rfl) ?_
                                exact j51 _ hF
                              · have hF := ite_f hc97 hF
                                refine g_seg hK [.iconst 0] 173 174 (L1 := [(0, vR 0), (1, vI p2), (2, vI r1), (5, vI (wr (r4 + r7))), (6, vI s12), (7, vI r14), (8, vI r17)]) (st1 := [vI 0]) (h1 := h95) (P := True ∧ True) (by decide +kernel) rfl rfl ⟨trivial, trivial⟩ ?_
                                cases hF
                                exact hR.2.1 174 _ _ _ (by decide +kernel) rfl (by decide) ⟨rfl, rfl⟩
                            · have hF := ite_f hc93 hF
                              refine g_seg hK [.iconst 0] 173 174 (L1 := [(0, vR 0), (1, vI p2), (2, vI r1), (5, vI (wr (r4 + r7))), (6, vI s12), (7, vI r14), (8, vI r17)]) (st1 := [vI 0]) (h1 := h41) (P := True ∧ True) (by decide +kernel) rfl rfl ⟨trivial, trivial⟩ ?_
                              cases hF
                              exact hR.2.1 174 _ _ _ (by decide +kernel) rfl (by decide) ⟨rfl, rfl⟩
                          · have hF := ite_f hc92 hF
                            refine hK.2.1 _ _ ([(0, vR 0), (1, vI p2), (2, vI r1), (5, vI (wr (r4 + r7))), (7, vI r14), (8, vI r17)]) _ _ (sub_of [0, 1, 2, 3, 5, 6] rfl) ?_
                            exact j51 _ hF
                        · have hF := ite_f hc49 hF
                          refine g_seg hK [.iconst 0] 173 174 (L1 := [(0, vR 0), (1, vI p2), (2, vI r1), (5, vI (wr (r4 + r7))), (6, vI s12), (7, vI r14), (8, vI r17)]) (st1 := [vI 0]) (h1 := h41) (P := True ∧ True) (by decide +kernel) rfl rfl ⟨trivial, trivial⟩ ?_
                          cases hF
                          exact hR.2.1 174 _ _ _ (by decide +kernel) rfl (by decide) ⟨rfl, rfl⟩
                      clear hF
                      have hF := e98
                      refine g_ifz hK 139 .le (7) 146 (t1 := 146) (t2 := 142) (by decide +kernel) (by decide) rfl rfl (fun (hc48 : r17 ≤ 0) => ?_) (fun (hc48 : ¬ (r17 ≤ 0)) => ?_)
                      · have hF := ite_t hc48 hF
                        refine g_seg hK [.iconst 0] 146 147 (L1 := [(0, vR 0), (1, vI p2), (2, vI r1), (5, vI (wr (r4 + r7))), (6, vI s12), (7, vI r14), (8, vI r17)]) (st1 := [vI 0, vI s43]) (h1 := h41) (P := True ∧ True) (by decide +kernel) rfl rfl ⟨trivial, trivial⟩ ?_
                        cases hF
                        exact j47
                      · have hF := ite_f hc48 hF
                        refine g_seg hK [.iconst 1] 142 143 (L1 := [(0, vR 0), (1, vI p2), (2, vI r1), (5, vI (wr (r4 + r7))), (6, vI s12), (7, vI r14), (8, vI r17)]) (st1 := [vI 1, vI s43]) (h1 := h41) (P := True ∧ True) (by decide +kernel) rfl rfl ⟨trivial, trivial⟩ ?_
                        refine g_goto hK 143 (4) 147 (by decide +kernel) (by decide) ?_
                        cases hF
                        exact j47
                    clear hF
                    have hF := e99
                    refine g_ifz hK 129 .ne (7) 136 (t1 := 132) (t2 := 136) (by decide +kernel) (by decide) rfl rfl (fun (hc45 : r40 = 0) => ?_) (fun (hc45 : ¬ (r40 = 0)) => ?_)
                    · have hF := ite_t hc45 hF
                      refine g_seg hK [.iconst 1] 132 133 (L1 := [(0, vR 0), (1, vI p2), (2, vI r1), (5, vI (wr (r4 + r7))), (6, vI s12), (7, vI r14), (8, vI r17)]) (st1 := [vI 1]) (h1 := h41) (P := True ∧ True) (by decide +kernel) rfl rfl ⟨trivial, trivial⟩ ?_
                      refine g_goto hK 133 (4) 137 (by decide +kernel) (by decide) ?_
                      cases hF
                      exact j44
                    · have hF := ite_f hc45 hF
                      refine g_seg hK [.iconst 0] 136 137 (L1 := [(0, vR 0), (1, vI p2), (2, vI r1), (5, vI (wr (r4 + r7))), (6, vI s12), (7, vI r14), (8, vI r17)]) (st1 := [vI 0]) (h1 := h41) (P := True ∧ True) (by decide +kernel) rfl rfl ⟨trivial, trivial⟩ ?_
                      cases hF
                      exact j44
                  · have hF := ite_f hc39 hF
                    refine g_seg hK [.iconst 0] 173 174 (L1 := [(0, vR 0), (1, vI p2), (2, vI r1), (5, vI (wr (r4 + r7))), (6, vI s12), (7, vI r14), (8, vI r17)]) (st1 := [vI 0]) (h1 := h31) (P := True ∧ True) (by decide +kernel) rfl rfl ⟨trivial, trivial⟩ ?_
                    cases hF
                    exact hR.2.1 174 _ _ _ (by decide +kernel) rfl (by decide) ⟨rfl, rfl⟩
                clear hF
                have hF := e100
                refine g_ifz hK 112 .le (7) 119 (t1 := 119) (t2 := 115) (by decide +kernel) (by decide) rfl rfl (fun (hc38 : r14 ≤ 0) => ?_) (fun (hc38 : ¬ (r14 ≤ 0)) => ?_)
                · have hF := ite_t hc38 hF
                  refine g_seg hK [.iconst 0] 119 120 (L1 := [(0, vR 0), (1, vI p2), (2, vI r1), (5, vI (wr (r4 + r7))), (6, vI s12), (7, vI r14), (8, vI r17)]) (st1 := [vI 0, vI s33]) (h1 := h31) (P := True ∧ True) (by decide +kernel) rfl rfl ⟨trivial, trivial⟩ ?_
                  cases hF
                  exact j37
                · have hF := ite_f hc38 hF
                  refine g_seg hK [.iconst 1] 115 116 (L1 := [(0, vR 0), (1, vI p2), (2, vI r1), (5, vI (wr (r4 + r7))), (6, vI s12), (7, vI r14), (8, vI r17)]) (st1 := [vI 1, vI s33]) (h1 := h31) (P := True ∧ True) (by decide +kernel) rfl rfl ⟨trivial, trivial⟩ ?_
                  refine g_goto hK 116 (4) 120 (by decide +kernel) (by decide) ?_
                  cases hF
                  exact j37
              clear hF
              have hF := e101
              refine g_ifz hK 102 .ne (7) 109 (t1 := 105) (t2 := 109) (by decide +kernel) (by decide) rfl rfl (fun (hc35 : r30 = 0) => ?_) (fun (hc35 : ¬ (r30 = 0)) => ?_)
              · have hF := ite_t hc35 hF
                refine g_seg hK [.iconst 1] 105 106 (L1 := [(0, vR 0), (1, vI p2), (2, vI r1), (5, vI (wr (r4 + r7))), (6, vI s12), (7, vI r14), (8, vI r17)]) (st1 := [vI 1]) (h1 := h31) (P := True ∧ True) (by decide +kernel) rfl rfl ⟨trivial, trivial⟩ ?_
                refine g_goto hK 106 (4) 110 (by decide +kernel) (by decide) ?_
                cases hF
                exact j34
              · have hF := ite_f hc35 hF
                refine g_seg hK [.iconst 0] 109 110 (L1 := [(0, vR 0), (1, vI p2), (2, vI r1), (5, vI (wr (r4 + r7))), (6, vI s12), (7, vI r14), (8, vI r17)]) (st1 := [vI 0]) (h1 := h31) (P := True ∧ True) (by decide +kernel) rfl rfl ⟨trivial, trivial⟩ ?_
                cases hF
                exact j34
        · have hF := ite_f hc27 hF
          refine g_seg hK [.iconst 0] 173 174 (L1 := [(0, vR 0), (1, vI p2), (2, vI r1), (5, vI (wr (r4 + r7))), (6, vI s12), (7, vI r14), (8, vI r17)]) (st1 := [vI 0]) (h1 := h22) (P := True ∧ True) (by decide +kernel) rfl rfl ⟨trivial, trivial⟩ ?_
          cases hF
          exact hR.2.1 174 _ _ _ (by decide +kernel) rfl (by decide) ⟨rfl, rfl⟩
      clear hF
      have hF := e102
      refine g_icmp hK 73 .ne (7) 80 (t1 := 76) (t2 := 80) (by decide +kernel) (by decide) rfl rfl (fun (hc26 : r21 = 1) => ?_) (fun (hc26 : ¬ (r21 = 1)) => ?_)
      · have hF := ite_t hc26 hF
        refine g_seg hK [.iconst 1] 76 77 (L1 := [(8, vI r17), (7, vI r14), (6, vI s12), (0, vR 0), (1, vI p2), (2, vI r1), (5, vI (wr (r4 + r7)))]) (st1 := [vI 1]) (h1 := h22) (P := True ∧ True) (by decide +kernel) rfl rfl ⟨trivial, trivial⟩ ?_
        refine g_goto hK 77 (4) 81 (by decide +kernel) (by decide) ?_
        refine hK.2.1 _ _ ([(0, vR 0), (1, vI p2), (2, vI r1), (5, vI (wr (r4 + r7))), (6, vI s12), (7, vI r14), (8, vI r17)]) _ _ (sub_of [3, 4, 5, 6, 2, 1, 0] rfl) ?_
        cases hF
        exact j25
      · have hF := ite_f hc26 hF
        refine g_seg hK [.iconst 0] 80 81 (L1 := [(8, vI r17), (7, vI r14), (6, vI s12), (0, vR 0), (1, vI p2), (2, vI r1), (5, vI (wr (r4 + r7)))]) (st1 := [vI 0]) (h1 := h22) (P := True ∧ True) (by decide +kernel) rfl rfl ⟨trivial, trivial⟩ ?_
        refine hK.2.1 _ _ ([(0, vR 0), (1, vI p2), (2, vI r1), (5, vI (wr (r4 + r7))), (6, vI s12), (7, vI r14), (8, vI r17)]) _ _ (sub_of [3, 4, 5, 6, 2, 1, 0] rfl) ?_
        cases hF
        exact j25
  obtain ⟨kj11, e104, hF⟩ := jk1_elim hF
  have j11 : ∀ (u10 : Unit), kj11 u10 = some (r, h') → K 37 [(0, vR 0), (1, vI p2), (2, vI r1), (5, vI (wr (r4 + r7)))] [] h8 := by
    intro u10 hF
    have hF := (e104 u10).symm.trans hF
    refine g_seg hK [.iconst 1] 37 38 (L1 := [(0, vR 0), (1, vI p2), (2, vI r1), (5, vI (wr (r4 + r7)))]) (st1 := [vI 1]) (h1 := h8) (P := True ∧ True) (by decide +kernel) rfl rfl ⟨trivial, trivial⟩ ?_
    refine g_goto hK 38 (4) 42 (by decide +kernel) (by decide) ?_
    exact j13 _ hF
  refine g_ifz hK 29 .eq (8) 37 (t1 := 37) (t2 := 32) (by decide +kernel) (by decide) rfl rfl (fun (hc105 : r4 = 0) => ?_) (fun (hc105 : ¬ (r4 = 0)) => ?_)
  · have hF := ite_t hc105 hF
    refine hK.2.1 _ _ ([(0, vR 0), (1, vI p2), (2, vI r1), (5, vI (wr (r4 + r7)))]) _ _ (sub_of [4, 5, 3, 0] rfl) ?_
    exact j11 _ hF
  · have hF := ite_f hc105 hF
    refine g_seg hK [.iload 4] 32 34 (L1 := [(5, vI (wr (r4 + r7))), (4, vI r7), (3, vI r4), (2, vI r1), (0, vR 0), (1, vI p2)]) (st1 := [vI r7]) (h1 := h8) (P := True ∧ True) (by decide +kernel) rfl rfl ⟨trivial, trivial⟩ ?_
    refine g_ifz hK 34 .ne (7) 41 (t1 := 37) (t2 := 41) (by decide +kernel) (by decide) rfl rfl (fun (hc106 : r7 = 0) => ?_) (fun (hc106 : ¬ (r7 = 0)) => ?_)
    · have hF := ite_t hc106 hF
      refine hK.2.1 _ _ ([(0, vR 0), (1, vI p2), (2, vI r1), (5, vI (wr (r4 + r7)))]) _ _ (sub_of [4, 5, 3, 0] rfl) ?_
      exact j11 _ hF
    · have hF := ite_f hc106 hF
      refine g_seg hK [.iconst 0] 41 42 (L1 := [(5, vI (wr (r4 + r7))), (4, vI r7), (3, vI r4), (2, vI r1), (0, vR 0), (1, vI p2)]) (st1 := [vI 0]) (h1 := h8) (P := True ∧ True) (by decide +kernel) rfl rfl ⟨trivial, trivial⟩ ?_
      refine hK.2.1 _ _ ([(0, vR 0), (1, vI p2), (2, vI r1), (5, vI (wr (r4 + r7)))]) _ _ (sub_of [4, 5, 3, 0] rfl) ?_
      exact j13 _ hF
set_option maxHeartbeats 4000000 in
set_option maxRecDepth 100000 in
theorem LT_L_isLaid_L58 {K : KT} (hK : Rules RX9 cL_isLaid 12 (Option.some Jvm.ClassFile.FieldType.boolean) flX9 7 K) {x1 : Int} {x2 : Int} {x3 : Int} {x4 : Int} {x5 : Int} {x6 : Int} {x7 : Int} {x8 : Int} : ∀ (n : Nat) (x9 : Int) (h : MH) (x9' : Int) (h' : MH), F_L_isLaid_L58 x1 x2 x3 x4 x5 x6 x7 x8 n x9 h = some (x9', h') → K 89 [(0, vR 0), (1, vI x1), (2, vI x2), (3, vI x3), (4, vI x4), (5, vI x5), (6, vI x6), (7, vI x7), (8, vI x8), (9, vI x9')] [] h' → K 58 [(0, vR 0), (1, vI x1), (2, vI x2), (3, vI x3), (4, vI x4), (5, vI x5), (6, vI x6), (7, vI x7), (8, vI x8), (9, vI x9)] [] h := by
  intro n
  induction n with
  | zero =>
    intro x9 h x9' h' hF
    cases hF
  | succ n ih =>
    intro x9 h x9' h' hF hE
    unfold F_L_isLaid_L58 at hF
    refine g_seg hK [.iload 9, .bipush 14] 58 62 (L1 := [(0, vR 0), (1, vI x1), (2, vI x2), (3, vI x3), (4, vI x4), (5, vI x5), (6, vI x6), (7, vI x7), (8, vI x8), (9, vI x9)]) (st1 := [vI 14, vI x9]) (h1 := h) (P := True ∧ True ∧ True) (by decide +kernel) rfl rfl ⟨trivial, trivial, trivial⟩ ?_
    refine g_icmp hK 62 .ge (27) 89 (t1 := 65) (t2 := 89) (by decide +kernel) (by decide) rfl rfl (fun (hc1 : x9 < 14) => ?_) (fun (hc1 : ¬ (x9 < 14)) => ?_)
    · have hF := ite_t hc1 hF
      refine g_seg hK [.aload_n 0, .iconst 2] 65 67 (L1 := [(0, vR 0), (1, vI x1), (2, vI x2), (3, vI x3), (4, vI x4), (5, vI x5), (6, vI x6), (7, vI x7), (8, vI x8), (9, vI x9)]) (st1 := [vI 2, vR 0]) (h1 := h) (P := True ∧ True ∧ True) (by decide +kernel) rfl rfl ⟨trivial, trivial, trivial⟩ ?_
      obtain ⟨r2, h3, e4, hF⟩ := ob2_elim hF
      refine g_callV1 hK 67 8 (d1 := 6) (ci := 6) (i := 0) (vs := [vI 2]) (rest := []) (h1 := h3) (r := vI r2) my_yX6_count vw_X9_8 (by decide) (T_X_count (p1 := 2) (h := h) (hF := e4)) rfl rfl rfl (Nat.le_of_ble_eq_true rfl) (by decide +kernel) ?_
      refine g_ifz hK 70 .le (19) 89 (t1 := 89) (t2 := 73) (by decide +kernel) (by decide) rfl rfl (fun (hc5 : r2 ≤ 0) => ?_) (fun (hc5 : ¬ (r2 ≤ 0)) => ?_)
      · have hF := ite_t hc5 hF
        cases hF
        exact hE
      · have hF := ite_f hc5 hF
        refine g_seg hK [.aload_n 0, .iconst 2, .iconst 0, .bipush 20] 73 78 (L1 := [(0, vR 0), (1, vI x1), (2, vI x2), (3, vI x3), (4, vI x4), (5, vI x5), (6, vI x6), (7, vI x7), (8, vI x8), (9, vI x9)]) (st1 := [vI 20, vI 0, vI 2, vR 0]) (h1 := h3) (P := True ∧ True ∧ True ∧ True ∧ True) (by decide +kernel) rfl rfl ⟨trivial, trivial, trivial, trivial, trivial⟩ ?_
        obtain ⟨r6, h7, e8, hF⟩ := ob2_elim hF
        refine g_callV1 hK 78 39 (d1 := 6) (ci := 6) (i := 0) (vs := [vI 2, vI 0, vI 20]) (rest := []) (h1 := h7) (r := vI r6) my_yX6_edit vw_X9_39 (by decide) (T_X_edit (p1 := 2) (p2 := 0) (p3 := 20) (h := h3) (hF := e8)) rfl rfl rfl (Nat.le_of_ble_eq_true rfl) (by decide +kernel) ?_
        refine g_seg hK [.istore 10, .iinc 9 1] 81 86 (L1 := [(9, vI (wr (x9 + 1))), (10, vI r6), (0, vR 0), (1, vI x1), (2, vI x2), (3, vI x3), (4, vI x4), (5, vI x5), (6, vI x6), (7, vI x7), (8, vI x8)]) (st1 := []) (h1 := h7) (P := True ∧ True ∧ True) (by decide +kernel) rfl rfl ⟨trivial, trivial, trivial⟩ ?_
        refine g_goto hK 86 (-28) 58 (by decide +kernel) (by decide) ?_
        refine hK.2.1 _ _ ([(0, vR 0), (1, vI x1), (2, vI x2), (3, vI x3), (4, vI x4), (5, vI x5), (6, vI x6), (7, vI x7), (8, vI x8), (9, vI (wr (x9 + 1)))]) _ _ (sub_of [2, 3, 4, 5, 6, 7, 8, 9, 10, 0] rfl) ?_
        exact ih _ _ _ _ hF hE
    · have hF := ite_f hc1 hF
      cases hF
      exact hE
set_option maxHeartbeats 4000000 in
set_option maxRecDepth 100000 in
theorem LT_L_isLaid_L92 {K : KT} (hK : Rules RX9 cL_isLaid 12 (Option.some Jvm.ClassFile.FieldType.boolean) flX9 7 K) {x1 : Int} {x2 : Int} {x3 : Int} {x4 : Int} {x5 : Int} {x6 : Int} {x7 : Int} {x8 : Int} : ∀ (n : Nat) (x9 : Int) (h : MH) (x9' : Int) (h' : MH), F_L_isLaid_L92 x1 x2 x3 x4 x5 x6 x7 x8 n x9 h = some (x9', h') → K 121 [(0, vR 0), (1, vI x1), (2, vI x2), (3, vI x3), (4, vI x4), (5, vI x5), (6, vI x6), (7, vI x7), (8, vI x8), (9, vI x9')] [] h' → K 92 [(0, vR 0), (1, vI x1), (2, vI x2), (3, vI x3), (4, vI x4), (5, vI x5), (6, vI x6), (7, vI x7), (8, vI x8), (9, vI x9)] [] h := by
  intro n
  induction n with
  | zero =>
    intro x9 h x9' h' hF
    cases hF
  | succ n ih =>
    intro x9 h x9' h' hF hE
    unfold F_L_isLaid_L92 at hF
    refine g_seg hK [.iload 9, .iload 4] 92 96 (L1 := [(0, vR 0), (1, vI x1), (2, vI x2), (3, vI x3), (4, vI x4), (5, vI x5), (6, vI x6), (7, vI x7), (8, vI x8), (9, vI x9)]) (st1 := [vI x4, vI x9]) (h1 := h) (P := True ∧ True ∧ True) (by decide +kernel) rfl rfl ⟨trivial, trivial, trivial⟩ ?_
    refine g_icmp hK 96 .ge (25) 121 (t1 := 99) (t2 := 121) (by decide +kernel) (by decide) rfl rfl (fun (hc1 : x9 < x4) => ?_) (fun (hc1 : ¬ (x9 < x4)) => ?_)
    · have hF := ite_t hc1 hF
      refine g_seg hK [.aload_n 0, .iconst 2, .iload 9, .aload_n 0, .iload_n 3, .iload 9] 99 107 (L1 := [(0, vR 0), (1, vI x1), (2, vI x2), (3, vI x3), (4, vI x4), (5, vI x5), (6, vI x6), (7, vI x7), (8, vI x8), (9, vI x9)]) (st1 := [vI x9, vI x3, vR 0, vI x9, vI 2, vR 0]) (h1 := h) (P := True ∧ True ∧ True ∧ True ∧ True ∧ True ∧ True) (by decide +kernel) rfl rfl ⟨trivial, trivial, trivial, trivial, trivial, trivial, trivial⟩ ?_
      refine g_callV1 hK 107 18 (d1 := 1) (ci := 6) (i := 0) (vs := [vI x3, vI x9]) (rest := [vI x9, vI 2, vR 0]) (h1 := h) (r := vI (F_X_line x3 x9 h)) my_yX6_line vw_X9_18 (by decide) (T_X_line (p1 := x3) (p2 := x9) (h := h) (hF := rfl)) rfl rfl rfl (Nat.le_of_ble_eq_true rfl) (by decide +kernel) ?_
      obtain ⟨r2, h3, e4, hF⟩ := ob2_elim hF
      refine g_callV1 hK 110 39 (d1 := 6) (ci := 6) (i := 0) (vs := [vI 2, vI x9, vI (F_X_line x3 x9 h)]) (rest := []) (h1 := h3) (r := vI r2) my_yX6_edit vw_X9_39 (by decide) (T_X_edit (p1 := 2) (p2 := x9) (p3 := (F_X_line x3 x9 h)) (h := h) (hF := e4)) rfl rfl rfl (Nat.le_of_ble_eq_true rfl) (by decide +kernel) ?_
      refine g_seg hK [.istore 10, .iinc 9 1] 113 118 (L1 := [(9, vI (wr (x9 + 1))), (10, vI r2), (0, vR 0), (1, vI x1), (2, vI x2), (3, vI x3), (4, vI x4), (5, vI x5), (6, vI x6), (7, vI x7), (8, vI x8)]) (st1 := []) (h1 := h3) (P := True ∧ True ∧ True) (by decide +kernel) rfl rfl ⟨trivial, trivial, trivial⟩ ?_
      refine g_goto hK 118 (-26) 92 (by decide +kernel) (by decide) ?_
      refine hK.2.1 _ _ ([(0, vR 0), (1, vI x1), (2, vI x2), (3, vI x3), (4, vI x4), (5, vI x5), (6, vI x6), (7, vI x7), (8, vI x8), (9, vI (wr (x9 + 1)))]) _ _ (sub_of [2, 3, 4, 5, 6, 7, 8, 9, 10, 0] rfl) ?_
      exact ih _ _ _ _ hF hE
    · have hF := ite_f hc1 hF
      cases hF
      exact hE
set_option maxHeartbeats 4000000 in
set_option maxRecDepth 100000 in
theorem LT_L_isLaid_L141 {K : KT} (hK : Rules RX9 cL_isLaid 12 (Option.some Jvm.ClassFile.FieldType.boolean) flX9 7 K) {x1 : Int} {x2 : Int} {x3 : Int} {x5 : Int} {x6 : Int} {x7 : Int} {x8 : Int} : ∀ (n : Nat) (x9 : Int) (x10 : Int) (h : MH) (x9' : Int) (x10' : Int) (h' : MH), F_L_isLaid_L141 x1 x2 x3 x5 x6 x7 x8 n x9 x10 h = some (x9', x10', h') → K 185 [(0, vR 0), (1, vI x1), (2, vI x2), (3, vI x3), (5, vI x5), (6, vI x6), (7, vI x7), (8, vI x8), (9, vI x9'), (10, vI x10')] [] h' → K 141 [(0, vR 0), (1, vI x1), (2, vI x2), (3, vI x3), (5, vI x5), (6, vI x6), (7, vI x7), (8, vI x8), (9, vI x9), (10, vI x10)] [] h := by
  intro n
  induction n with
  | zero =>
    intro x9 x10 h x9' x10' h' hF
    cases hF
  | succ n ih =>
    intro x9 x10 h x9' x10' h' hF hE
    unfold F_L_isLaid_L141 at hF
    refine g_seg hK [.iload 10, .iload_n 2] 141 144 (L1 := [(0, vR 0), (1, vI x1), (2, vI x2), (3, vI x3), (5, vI x5), (6, vI x6), (7, vI x7), (8, vI x8), (9, vI x9), (10, vI x10)]) (st1 := [vI x2, vI x10]) (h1 := h) (P := True ∧ True ∧ True) (by decide +kernel) rfl rfl ⟨trivial, trivial, trivial⟩ ?_
    refine g_icmp hK 144 .ge (41) 185 (t1 := 147) (t2 := 185) (by decide +kernel) (by decide) rfl rfl (fun (hc1 : x10 < x2) => ?_) (fun (hc1 : ¬ (x10 < x2)) => ?_)
    · have hF := ite_t hc1 hF
      refine g_seg hK [.iload 10, .bipush 28] 147 151 (L1 := [(0, vR 0), (1, vI x1), (2, vI x2), (3, vI x3), (5, vI x5), (6, vI x6), (7, vI x7), (8, vI x8), (9, vI x9), (10, vI x10)]) (st1 := [vI 28, vI x10]) (h1 := h) (P := True ∧ True ∧ True) (by decide +kernel) rfl rfl ⟨trivial, trivial, trivial⟩ ?_
      refine g_icmp hK 151 .ge (34) 185 (t1 := 154) (t2 := 185) (by decide +kernel) (by decide) rfl rfl (fun (hc2 : x10 < 28) => ?_) (fun (hc2 : ¬ (x10 < 28)) => ?_)
      · have hF := ite_t hc2 hF
        refine g_seg hK [.iload 9] 154 156 (L1 := [(0, vR 0), (1, vI x1), (2, vI x2), (3, vI x3), (5, vI x5), (6, vI x6), (7, vI x7), (8, vI x8), (9, vI x9), (10, vI x10)]) (st1 := [vI x9]) (h1 := h) (P := True ∧ True) (by decide +kernel) rfl rfl ⟨trivial, trivial⟩ ?_
        obtain ⟨kj7, e8, hF⟩ := jk2_elim hF
        have j7 : ∀ (s5 : Int) (h6 : MH), kj7 s5 h6 = some (x9', x10', h') → K 177 [(0, vR 0), (1, vI x1), (2, vI x2), (3, vI x3), (5, vI x5), (6, vI x6), (7, vI x7), (8, vI x8), (10, vI x10)] [vI s5] h6 := by
          intro s5 h6 hF
          have hF := (e8 s5 h6).symm.trans hF
          refine g_seg hK [.istore 9, .iinc 10 1] 177 182 (L1 := [(10, vI (wr (x10 + 1))), (9, vI s5), (0, vR 0), (1, vI x1), (2, vI x2), (3, vI x3), (5, vI x5), (6, vI x6), (7, vI x7), (8, vI x8)]) (st1 := []) (h1 := h6) (P := True ∧ True ∧ True) (by decide +kernel) rfl rfl ⟨trivial, trivial, trivial⟩ ?_
          refine g_goto hK 182 (-41) 141 (by decide +kernel) (by decide) ?_
          refine hK.2.1 _ _ ([(0, vR 0), (1, vI x1), (2, vI x2), (3, vI x3), (5, vI x5), (6, vI x6), (7, vI x7), (8, vI x8), (9, vI s5), (10, vI (wr (x10 + 1)))]) _ _ (sub_of [2, 3, 4, 5, 6, 7, 8, 9, 1, 0] rfl) ?_
          exact ih _ _ _ _ _ _ hF hE
        obtain ⟨kj4, e9, hF⟩ := jk1_elim hF
        have j4 : ∀ (h3 : MH), kj4 h3 = some (x9', x10', h') → K 176 [(0, vR 0), (1, vI x1), (2, vI x2), (3, vI x3), (5, vI x5), (6, vI x6), (7, vI x7), (8, vI x8), (10, vI x10)] [] h3 := by
          intro h3 hF
          have hF := (e9 h3).symm.trans hF
          refine g_seg hK [.iconst 0] 176 177 (L1 := [(0, vR 0), (1, vI x1), (2, vI x2), (3, vI x3), (5, vI x5), (6, vI x6), (7, vI x7), (8, vI x8), (10, vI x10)]) (st1 := [vI 0]) (h1 := h3) (P := True ∧ True) (by decide +kernel) rfl rfl ⟨trivial, trivial⟩ ?_
          exact j7 _ _ hF
        refine g_ifz hK 156 .eq (20) 176 (t1 := 176) (t2 := 159) (by decide +kernel) (by decide) rfl rfl (fun (hc10 : x9 = 0) => ?_) (fun (hc10 : ¬ (x9 = 0)) => ?_)
        · have hF := ite_t hc10 hF
          refine hK.2.1 _ _ ([(0, vR 0), (1, vI x1), (2, vI x2), (3, vI x3), (5, vI x5), (6, vI x6), (7, vI x7), (8, vI x8), (10, vI x10)]) _ _ (sub_of [0, 1, 2, 3, 4, 5, 6, 7, 9] rfl) ?_
          exact j4 _ hF
        · have hF := ite_f hc10 hF
          refine g_seg hK [.aload_n 0, .iload 10, .iload_n 1, .iconst 1] 159 164 (L1 := [(0, vR 0), (1, vI x1), (2, vI x2), (3, vI x3), (5, vI x5), (6, vI x6), (7, vI x7), (8, vI x8), (9, vI x9), (10, vI x10)]) (st1 := [vI 1, vI x1, vI x10, vR 0]) (h1 := h) (P := True ∧ True ∧ True ∧ True ∧ True) (by decide +kernel) rfl rfl ⟨trivial, trivial, trivial, trivial, trivial⟩ ?_
          obtain ⟨r11, h12, e13, hF⟩ := ob2_elim hF
          refine g_callV1 hK 164 43 (d1 := 6) (ci := 6) (i := 0) (vs := [vI x10, vI x1, vI 1]) (rest := []) (h1 := h12) (r := vI r11) my_yX6_ifLaid vw_X9_43 (by decide) (T_X_ifLaid (p1 := x10) (p2 := x1) (p3 := 1) (h := h) (hF := e13)) rfl rfl rfl (Nat.le_of_ble_eq_true rfl) (by decide +kernel) ?_
          refine g_seg hK [.bipush 100] 167 169 (L1 := [(0, vR 0), (1, vI x1), (2, vI x2), (3, vI x3), (5, vI x5), (6, vI x6), (7, vI x7), (8, vI x8), (9, vI x9), (10, vI x10)]) (st1 := [vI 100, vI r11]) (h1 := h12) (P := True ∧ True) (by decide +kernel) rfl rfl ⟨trivial, trivial⟩ ?_
          refine g_icmp hK 169 .ne (7) 176 (t1 := 172) (t2 := 176) (by decide +kernel) (by decide) rfl rfl (fun (hc14 : r11 = 100) => ?_) (fun (hc14 : ¬ (r11 = 100)) => ?_)
          · have hF := ite_t hc14 hF
            refine g_seg hK [.iconst 1] 172 173 (L1 := [(0, vR 0), (1, vI x1), (2, vI x2), (3, vI x3), (5, vI x5), (6, vI x6), (7, vI x7), (8, vI x8), (9, vI x9), (10, vI x10)]) (st1 := [vI 1]) (h1 := h12) (P := True ∧ True) (by decide +kernel) rfl rfl ⟨trivial, trivial⟩ ?_
            refine g_goto hK 173 (4) 177 (by decide +kernel) (by decide) ?_
            refine hK.2.1 _ _ ([(0, vR 0), (1, vI x1), (2, vI x2), (3, vI x3), (5, vI x5), (6, vI x6), (7, vI x7), (8, vI x8), (10, vI x10)]) _ _ (sub_of [0, 1, 2, 3, 4, 5, 6, 7, 9] rfl) ?_
            exact j7 _ _ hF
          · have hF := ite_f hc14 hF
            refine hK.2.1 _ _ ([(0, vR 0), (1, vI x1), (2, vI x2), (3, vI x3), (5, vI x5), (6, vI x6), (7, vI x7), (8, vI x8), (10, vI x10)]) _ _ (sub_of [0, 1, 2, 3, 4, 5, 6, 7, 9] rfl) ?_
            exact j4 _ hF
      · have hF := ite_f hc2 hF
        cases hF
        exact hE
    · have hF := ite_f hc1 hF
      cases hF
      exact hE
set_option maxHeartbeats 4000000 in
set_option maxRecDepth 100000 in
theorem LT_L_isLaid_L285 {K : KT} (hK : Rules RX9 cL_isLaid 12 (Option.some Jvm.ClassFile.FieldType.boolean) flX9 7 K) {x3 : Int} {x5 : Int} {x6 : Int} {x8 : Int} {h : MH} : ∀ (n : Nat) (x9 : Int) (x11 : Int) (x9' : Int) (x11' : Int), F_L_isLaid_L285 x3 x5 x6 x8 h n x9 x11 = some (x9', x11') → K 329 [(0, vR 0), (3, vI x3), (5, vI x5), (6, vI x6), (8, vI x8), (9, vI x9'), (11, vI x11')] [] h → K 285 [(0, vR 0), (3, vI x3), (5, vI x5), (6, vI x6), (8, vI x8), (9, vI x9), (11, vI x11)] [] h := by
  intro n
  induction n with
  | zero =>
    intro x9 x11 x9' x11' hF
    cases hF
  | succ n ih =>
    intro x9 x11 x9' x11' hF hE
    unfold F_L_isLaid_L285 at hF
    refine g_seg hK [.iload 11, .iload 5] 285 289 (L1 := [(0, vR 0), (3, vI x3), (5, vI x5), (6, vI x6), (8, vI x8), (9, vI x9), (11, vI x11)]) (st1 := [vI x5, vI x11]) (h1 := h) (P := True ∧ True ∧ True) (by decide +kernel) rfl rfl ⟨trivial, trivial, trivial⟩ ?_
    refine g_icmp hK 289 .ge (40) 329 (t1 := 292) (t2 := 329) (by decide +kernel) (by decide) rfl rfl (fun (hc1 : x11 < x5) => ?_) (fun (hc1 : ¬ (x11 < x5)) => ?_)
    · have hF := ite_t hc1 hF
      refine g_seg hK [.iload 9] 292 294 (L1 := [(0, vR 0), (3, vI x3), (5, vI x5), (6, vI x6), (8, vI x8), (9, vI x9), (11, vI x11)]) (st1 := [vI x9]) (h1 := h) (P := True ∧ True) (by decide +kernel) rfl rfl ⟨trivial, trivial⟩ ?_
      refine g_ifz hK 294 .eq (35) 329 (t1 := 329) (t2 := 297) (by decide +kernel) (by decide) rfl rfl (fun (hc2 : x9 = 0) => ?_) (fun (hc2 : ¬ (x9 = 0)) => ?_)
      · have hF := ite_t hc2 hF
        cases hF
        exact hE
      · have hF := ite_f hc2 hF
        refine g_seg hK [.aload_n 0, .iconst 2, .iload 11] 297 301 (L1 := [(0, vR 0), (3, vI x3), (5, vI x5), (6, vI x6), (8, vI x8), (9, vI x9), (11, vI x11)]) (st1 := [vI x11, vI 2, vR 0]) (h1 := h) (P := True ∧ True ∧ True ∧ True) (by decide +kernel) rfl rfl ⟨trivial, trivial, trivial, trivial⟩ ?_
        refine g_callV1 hK 301 18 (d1 := 1) (ci := 6) (i := 0) (vs := [vI 2, vI x11]) (rest := []) (h1 := h) (r := vI (F_X_line 2 x11 h)) my_yX6_line vw_X9_18 (by decide) (T_X_line (p1 := 2) (p2 := x11) (h := h) (hF := rfl)) rfl rfl rfl (Nat.le_of_ble_eq_true rfl) (by decide +kernel) ?_
        refine g_seg hK [.aload_n 0, .iconst 1, .iload_n 3, .isub, .iload 11] 304 310 (L1 := [(0, vR 0), (3, vI x3), (5, vI x5), (6, vI x6), (8, vI x8), (9, vI x9), (11, vI x11)]) (st1 := [vI x11, vI (wr (1 - x3)), vR 0, vI (F_X_line 2 x11 h)]) (h1 := h) (P := True ∧ True ∧ True ∧ True ∧ True ∧ True) (by decide +kernel) rfl rfl ⟨trivial, trivial, trivial, trivial, trivial, trivial⟩ ?_
        refine g_callV1 hK 310 18 (d1 := 1) (ci := 6) (i := 0) (vs := [vI (wr (1 - x3)), vI x11]) (rest := [vI (F_X_line 2 x11 h)]) (h1 := h) (r := vI (F_X_line (wr (1 - x3)) x11 h)) my_yX6_line vw_X9_18 (by decide) (T_X_line (p1 := (wr (1 - x3))) (p2 := x11) (h := h) (hF := rfl)) rfl rfl rfl (Nat.le_of_ble_eq_true rfl) (by decide +kernel) ?_
        obtain ⟨s3, e6, hF⟩ := jn1_elim hF
        have j4 : K 321 [(0, vR 0), (3, vI x3), (5, vI x5), (6, vI x6), (8, vI x8), (11, vI x11)] [vI s3] h := by
          refine g_seg hK [.istore 9, .iinc 11 1] 321 326 (L1 := [(11, vI (wr (x11 + 1))), (9, vI s3), (0, vR 0), (3, vI x3), (5, vI x5), (6, vI x6), (8, vI x8)]) (st1 := []) (h1 := h) (P := True ∧ True ∧ True) (by decide +kernel) rfl rfl ⟨trivial, trivial, trivial⟩ ?_
          refine g_goto hK 326 (-41) 285 (by decide +kernel) (by decide) ?_
          refine hK.2.1 _ _ ([(0, vR 0), (3, vI x3), (5, vI x5), (6, vI x6), (8, vI x8), (9, vI s3), (11, vI (wr (x11 + 1)))]) _ _ (sub_of [2, 3, 4, 5, 6, 1, 0] rfl) ?_
          exact ih _ _ _ _ hF hE
        clear hF
        have hF := e6
        refine g_icmp hK 313 .ne (7) 320 (t1 := 316) (t2 := 320) (by decide +kernel) (by decide) rfl rfl (fun (hc5 : F_X_line 2 x11 h = F_X_line (wr (1 - x3)) x11 h) => ?_) (fun (hc5 : ¬ (F_X_line 2 x11 h = F_X_line (wr (1 - x3)) x11 h)) => ?_)
        · have hF := ite_t hc5 hF
          refine g_seg hK [.iconst 1] 316 317 (L1 := [(0, vR 0), (3, vI x3), (5, vI x5), (6, vI x6), (8, vI x8), (9, vI x9), (11, vI x11)]) (st1 := [vI 1]) (h1 := h) (P := True ∧ True) (by decide +kernel) rfl rfl ⟨trivial, trivial⟩ ?_
          refine g_goto hK 317 (4) 321 (by decide +kernel) (by decide) ?_
          refine hK.2.1 _ _ ([(0, vR 0), (3, vI x3), (5, vI x5), (6, vI x6), (8, vI x8), (11, vI x11)]) _ _ (sub_of [0, 1, 2, 3, 4, 6] rfl) ?_
          cases hF
          exact j4
        · have hF := ite_f hc5 hF
          refine g_seg hK [.iconst 0] 320 321 (L1 := [(0, vR 0), (3, vI x3), (5, vI x5), (6, vI x6), (8, vI x8), (9, vI x9), (11, vI x11)]) (st1 := [vI 0]) (h1 := h) (P := True ∧ True) (by decide +kernel) rfl rfl ⟨trivial, trivial⟩ ?_
          refine hK.2.1 _ _ ([(0, vR 0), (3, vI x3), (5, vI x5), (6, vI x6), (8, vI x8), (11, vI x11)]) _ _ (sub_of [0, 1, 2, 3, 4, 6] rfl) ?_
          cases hF
          exact j4
    · have hF := ite_f hc1 hF
      cases hF
      exact hE
set_option maxHeartbeats 4000000 in
set_option maxRecDepth 100000 in
theorem T_L_isLaid {p2 : Int} {h : MH} {r : Int} {h' : MH} (hF : F_L_isLaid p2 h = some (r, h')) : CON 7 yL_isLaid cL_isLaid 12 (Option.some Jvm.ClassFile.FieldType.boolean) [vR 0, vI p2] h (some (vI r)) h' := by
  refine con_of (own := RX9) (fl := flX9) (by decide +kernel) rfl flok_X9 rfl (Nat.le_of_ble_eq_true rfl) ?_
  intro K hK hR
  show K 0 [(0, vR 0), (1, vI p2)] [] h
  unfold F_L_isLaid at hF
  refine g_seg hK [.aload_n 0, .bipush 7] 0 3 (L1 := [(0, vR 0), (1, vI p2)]) (st1 := [vI 7, vR 0]) (h1 := h) (P := True ∧ True ∧ True) (by decide +kernel) rfl rfl ⟨trivial, trivial, trivial⟩ ?_
  obtain ⟨r1, h2, e3, hF⟩ := ob2_elim hF
  refine g_callV1 hK 3 8 (d1 := 6) (ci := 6) (i := 0) (vs := [vI 7]) (rest := []) (h1 := h2) (r := vI r1) my_yX6_count vw_X9_8 (by decide) (T_X_count (p1 := 7) (h := h) (hF := e3)) rfl rfl rfl (Nat.le_of_ble_eq_true rfl) (by decide +kernel) ?_
  refine g_seg hK [.istore_n 2, .iload_n 1] 6 8 (L1 := [(2, vI r1), (0, vR 0), (1, vI p2)]) (st1 := [vI p2]) (h1 := h2) (P := True ∧ True ∧ True) (by decide +kernel) rfl rfl ⟨trivial, trivial, trivial⟩ ?_
  obtain ⟨s4, e85, hF⟩ := jn1_elim hF
  have j5 : K 16 [(0, vR 0), (1, vI p2), (2, vI r1)] [vI s4] h2 := by
    refine g_seg hK [.istore_n 3, .aload_n 0, .iload_n 3] 16 19 (L1 := [(3, vI s4), (0, vR 0), (1, vI p2), (2, vI r1)]) (st1 := [vI s4, vR 0]) (h1 := h2) (P := True ∧ True ∧ True ∧ True) (by decide +kernel) rfl rfl ⟨trivial, trivial, trivial, trivial⟩ ?_
    obtain ⟨r7, h8, e9, hF⟩ := ob2_elim hF
    refine g_callV1 hK 19 8 (d1 := 6) (ci := 6) (i := 0) (vs := [vI s4]) (rest := []) (h1 := h8) (r := vI r7) my_yX6_count vw_X9_8 (by decide) (T_X_count (p1 := s4) (h := h2) (hF := e9)) rfl rfl rfl (Nat.le_of_ble_eq_true rfl) (by decide +kernel) ?_
    refine g_seg hK [.istore 4, .aload_n 0, .iconst 1, .iload_n 3, .isub] 22 28 (L1 := [(4, vI r7), (3, vI s4), (0, vR 0), (1, vI p2), (2, vI r1)]) (st1 := [vI (wr (1 - s4)), vR 0]) (h1 := h8) (P := True ∧ True ∧ True ∧ True ∧ True ∧ True) (by decide +kernel) rfl rfl ⟨trivial, trivial, trivial, trivial, trivial, trivial⟩ ?_
    obtain ⟨r10, h11, e12, hF⟩ := ob2_elim hF
    refine g_callV1 hK 28 8 (d1 := 6) (ci := 6) (i := 0) (vs := [vI (wr (1 - s4))]) (rest := []) (h1 := h11) (r := vI r10) my_yX6_count vw_X9_8 (by decide) (T_X_count (p1 := (wr (1 - s4))) (h := h8) (hF := e12)) rfl rfl rfl (Nat.le_of_ble_eq_true rfl) (by decide +kernel) ?_
    refine g_seg hK [.istore 5, .aload_n 0, .bipush 12] 31 36 (L1 := [(5, vI r10), (4, vI r7), (3, vI s4), (0, vR 0), (1, vI p2), (2, vI r1)]) (st1 := [vI 12, vR 0]) (h1 := h11) (P := True ∧ True ∧ True ∧ True) (by decide +kernel) rfl rfl ⟨trivial, trivial, trivial, trivial⟩ ?_
    obtain ⟨r13, h14, e15, hF⟩ := ob2_elim hF
    refine g_callV1 hK 36 8 (d1 := 6) (ci := 6) (i := 0) (vs := [vI 12]) (rest := []) (h1 := h14) (r := vI r13) my_yX6_count vw_X9_8 (by decide) (T_X_count (p1 := 12) (h := h11) (hF := e15)) rfl rfl rfl (Nat.le_of_ble_eq_true rfl) (by decide +kernel) ?_
    refine g_seg hK [.istore 6, .aload_n 0, .bipush 13] 39 44 (L1 := [(6, vI r13), (5, vI r10), (4, vI r7), (3, vI s4), (0, vR 0), (1, vI p2), (2, vI r1)]) (st1 := [vI 13, vR 0]) (h1 := h14) (P := True ∧ True ∧ True ∧ True) (by decide +kernel) rfl rfl ⟨trivial, trivial, trivial, trivial⟩ ?_
    obtain ⟨r16, h17, e18, hF⟩ := ob2_elim hF
    refine g_callV1 hK 44 8 (d1 := 6) (ci := 6) (i := 0) (vs := [vI 13]) (rest := []) (h1 := h17) (r := vI r16) my_yX6_count vw_X9_8 (by decide) (T_X_count (p1 := 13) (h := h14) (hF := e18)) rfl rfl rfl (Nat.le_of_ble_eq_true rfl) (by decide +kernel) ?_
    refine g_seg hK [.istore 7, .aload_n 0] 47 50 (L1 := [(7, vI r16), (6, vI r13), (5, vI r10), (4, vI r7), (3, vI s4), (0, vR 0), (1, vI p2), (2, vI r1)]) (st1 := [vR 0]) (h1 := h17) (P := True ∧ True ∧ True) (by decide +kernel) rfl rfl ⟨trivial, trivial, trivial⟩ ?_
    obtain ⟨r19, h20, e21, hF⟩ := ob2_elim hF
    refine g_callV1 hK 50 35 (d1 := 6) (ci := 6) (i := 0) (vs := []) (rest := []) (h1 := h20) (r := vI r19) my_yX6_save vw_X9_35 (by decide) (T_X_save (h := h17) (hF := e21)) rfl rfl rfl (Nat.le_of_ble_eq_true rfl) (by decide +kernel) ?_
    refine g_seg hK [.istore 8, .iconst 0, .istore 9] 53 58 (L1 := [(9, vI 0), (8, vI r19), (7, vI r16), (6, vI r13), (5, vI r10), (4, vI r7), (3, vI s4), (0, vR 0), (1, vI p2), (2, vI r1)]) (st1 := []) (h1 := h20) (P := True ∧ True ∧ True ∧ True) (by decide +kernel) rfl rfl ⟨trivial, trivial, trivial, trivial⟩ ?_
    refine hK.2.1 _ _ ([(0, vR 0), (1, vI p2), (2, vI r1), (3, vI s4), (4, vI r7), (5, vI r10), (6, vI r13), (7, vI r16), (8, vI r19), (9, vI 0)]) _ _ (sub_of [7, 8, 9, 6, 5, 4, 3, 2, 1, 0] rfl) ?_
    obtain ⟨x9_22, h23, e24, hF⟩ := ob2_elim hF
    refine LT_L_isLaid_L58 hK _ _ _ _ _ e24 ?_
    refine g_seg hK [.iconst 0, .istore 9] 89 92 (L1 := [(9, vI 0), (0, vR 0), (1, vI p2), (2, vI r1), (3, vI s4), (4, vI r7), (5, vI r10), (6, vI r13), (7, vI r16), (8, vI r19)]) (st1 := []) (h1 := h23) (P := True ∧ True ∧ True) (by decide +kernel) rfl rfl ⟨trivial, trivial, trivial⟩ ?_
    refine hK.2.1 _ _ ([(0, vR 0), (1, vI p2), (2, vI r1), (3, vI s4), (4, vI r7), (5, vI r10), (6, vI r13), (7, vI r16), (8, vI r19), (9, vI 0)]) _ _ (sub_of [1, 2, 3, 4, 5, 6, 7, 8, 9, 0] rfl) ?_
    obtain ⟨x9_25, h26, e27, hF⟩ := ob2_elim hF
    refine LT_L_isLaid_L92 hK _ _ _ _ _ e27 ?_
    refine g_seg hK [.aload_n 0, .iconst 2] 121 123 (L1 := [(0, vR 0), (1, vI p2), (2, vI r1), (3, vI s4), (4, vI r7), (5, vI r10), (6, vI r13), (7, vI r16), (8, vI r19), (9, vI x9_25)]) (st1 := [vI 2, vR 0]) (h1 := h26) (P := True ∧ True ∧ True) (by decide +kernel) rfl rfl ⟨trivial, trivial, trivial⟩ ?_
    obtain ⟨r28, h29, e30, hF⟩ := ob2_elim hF
    refine g_callV1 hK 123 8 (d1 := 6) (ci := 6) (i := 0) (vs := [vI 2]) (rest := []) (h1 := h29) (r := vI r28) my_yX6_count vw_X9_8 (by decide) (T_X_count (p1 := 2) (h := h26) (hF := e30)) rfl rfl rfl (Nat.le_of_ble_eq_true rfl) (by decide +kernel) ?_
    refine g_seg hK [.iload 4] 126 128 (L1 := [(0, vR 0), (1, vI p2), (2, vI r1), (3, vI s4), (4, vI r7), (5, vI r10), (6, vI r13), (7, vI r16), (8, vI r19), (9, vI x9_25)]) (st1 := [vI r7, vI r28]) (h1 := h29) (P := True ∧ True) (by decide +kernel) rfl rfl ⟨trivial, trivial⟩ ?_
    obtain ⟨s31, e84, hF⟩ := jn1_elim hF
    have j32 : K 136 [(0, vR 0), (1, vI p2), (2, vI r1), (3, vI s4), (5, vI r10), (6, vI r13), (7, vI r16), (8, vI r19)] [vI s31] h29 := by
      refine g_seg hK [.istore 9, .iconst 0, .istore 10] 136 141 (L1 := [(10, vI 0), (9, vI s31), (0, vR 0), (1, vI p2), (2, vI r1), (3, vI s4), (5, vI r10), (6, vI r13), (7, vI r16), (8, vI r19)]) (st1 := []) (h1 := h29) (P := True ∧ True ∧ True ∧ True) (by decide +kernel) rfl rfl ⟨trivial, trivial, trivial, trivial⟩ ?_
      refine hK.2.1 _ _ ([(0, vR 0), (1, vI p2), (2, vI r1), (3, vI s4), (5, vI r10), (6, vI r13), (7, vI r16), (8, vI r19), (9, vI s31), (10, vI 0)]) _ _ (sub_of [2, 3, 4, 5, 6, 7, 8, 9, 1, 0] rfl) ?_
      obtain ⟨x9_34, x10_35, h36, e37, hF⟩ := ob3_elim hF
      refine LT_L_isLaid_L141 hK _ _ _ _ _ _ _ e37 ?_
      refine g_seg hK [.aload_n 0, .iload_n 1] 185 187 (L1 := [(0, vR 0), (1, vI p2), (2, vI r1), (3, vI s4), (5, vI r10), (6, vI r13), (7, vI r16), (8, vI r19), (9, vI x9_34), (10, vI x10_35)]) (st1 := [vI p2, vR 0]) (h1 := h36) (P := True ∧ True ∧ True) (by decide +kernel) rfl rfl ⟨trivial, trivial, trivial⟩ ?_
      obtain ⟨r38, h39, e40, hF⟩ := ob2_elim hF
      refine g_callV1 hK 187 47 (d1 := 6) (ci := 6) (i := 0) (vs := [vI p2]) (rest := []) (h1 := h39) (r := vI r38) my_yX6_lay vw_X9_47 (by decide) (T_X_lay (p1 := p2) (h := h36) (hF := e40)) rfl rfl rfl (Nat.le_of_ble_eq_true rfl) (by decide +kernel) ?_
      refine g_seg hK [.istore 10, .iload 10, .bipush (-3)] 190 196 (L1 := [(10, vI r38), (0, vR 0), (1, vI p2), (2, vI r1), (3, vI s4), (5, vI r10), (6, vI r13), (7, vI r16), (8, vI r19), (9, vI x9_34)]) (st1 := [vI (-3), vI r38]) (h1 := h39) (P := True ∧ True ∧ True ∧ True) (by decide +kernel) rfl rfl ⟨trivial, trivial, trivial, trivial⟩ ?_
      refine g_icmp hK 196 .ne (34) 230 (t1 := 199) (t2 := 230) (by decide +kernel) (by decide) rfl rfl (fun (hc41 : r38 = (-3)) => ?_) (fun (hc41 : ¬ (r38 = (-3))) => ?_)
      · have hF := ite_t hc41 hF
        refine g_seg hK [.iload 9] 199 201 (L1 := [(10, vI r38), (0, vR 0), (1, vI p2), (2, vI r1), (3, vI s4), (5, vI r10), (6, vI r13), (7, vI r16), (8, vI r19), (9, vI x9_34)]) (st1 := [vI x9_34]) (h1 := h39) (P := True ∧ True) (by decide +kernel) rfl rfl ⟨trivial, trivial⟩ ?_
        refine g_ifz hK 201 .eq (27) 228 (t1 := 228) (t2 := 204) (by decide +kernel) (by decide) rfl rfl (fun (hc42 : x9_34 = 0) => ?_) (fun (hc42 : ¬ (x9_34 = 0)) => ?_)
        · have hF := ite_t hc42 hF
          refine g_seg hK [.iconst 0] 228 229 (L1 := [(10, vI r38), (0, vR 0), (1, vI p2), (2, vI r1), (3, vI s4), (5, vI r10), (6, vI r13), (7, vI r16), (8, vI r19), (9, vI x9_34)]) (st1 := [vI 0]) (h1 := h39) (P := True ∧ True) (by decide +kernel) rfl rfl ⟨trivial, trivial⟩ ?_
          cases hF
          exact hR.2.1 229 _ _ _ (by decide +kernel) rfl (by decide) ⟨rfl, rfl⟩
        · have hF := ite_f hc42 hF
          refine g_seg hK [.aload_n 0] 204 205 (L1 := [(10, vI r38), (0, vR 0), (1, vI p2), (2, vI r1), (3, vI s4), (5, vI r10), (6, vI r13), (7, vI r16), (8, vI r19), (9, vI x9_34)]) (st1 := [vR 0]) (h1 := h39) (P := True ∧ True) (by decide +kernel) rfl rfl ⟨trivial, trivial⟩ ?_
          obtain ⟨r43, h44, e45, hF⟩ := ob2_elim hF
          refine g_callV1 hK 205 51 (d1 := 6) (ci := 6) (i := 0) (vs := []) (rest := []) (h1 := h44) (r := vI r43) my_yX6_restore vw_X9_51 (by decide) (T_X_restore (h := h39) (hF := e45)) rfl rfl rfl (Nat.le_of_ble_eq_true rfl) (by decide +kernel) ?_
          refine g_seg hK [.iload 8] 208 210 (L1 := [(10, vI r38), (0, vR 0), (1, vI p2), (2, vI r1), (3, vI s4), (5, vI r10), (6, vI r13), (7, vI r16), (8, vI r19), (9, vI x9_34)]) (st1 := [vI r19, vI r43]) (h1 := h44) (P := True ∧ True) (by decide +kernel) rfl rfl ⟨trivial, trivial⟩ ?_
          refine g_icmp hK 210 .ne (18) 228 (t1 := 213) (t2 := 228) (by decide +kernel) (by decide) rfl rfl (fun (hc46 : r43 = r19) => ?_) (fun (hc46 : ¬ (r43 = r19)) => ?_)
          · have hF := ite_t hc46 hF
            refine g_seg hK [.aload_n 0, .bipush 12] 213 216 (L1 := [(10, vI r38), (0, vR 0), (1, vI p2), (2, vI r1), (3, vI s4), (5, vI r10), (6, vI r13), (7, vI r16), (8, vI r19), (9, vI x9_34)]) (st1 := [vI 12, vR 0]) (h1 := h44) (P := True ∧ True ∧ True) (by decide +kernel) rfl rfl ⟨trivial, trivial, trivial⟩ ?_
            obtain ⟨r47, h48, e49, hF⟩ := ob2_elim hF
            refine g_callV1 hK 216 8 (d1 := 6) (ci := 6) (i := 0) (vs := [vI 12]) (rest := []) (h1 := h48) (r := vI r47) my_yX6_count vw_X9_8 (by decide) (T_X_count (p1 := 12) (h := h44) (hF := e49)) rfl rfl rfl (Nat.le_of_ble_eq_true rfl) (by decide +kernel) ?_
            refine g_seg hK [.iload 6] 219 221 (L1 := [(10, vI r38), (0, vR 0), (1, vI p2), (2, vI r1), (3, vI s4), (5, vI r10), (6, vI r13), (7, vI r16), (8, vI r19), (9, vI x9_34)]) (st1 := [vI r13, vI r47]) (h1 := h48) (P := True ∧ True) (by decide +kernel) rfl rfl ⟨trivial, trivial⟩ ?_
            refine g_icmp hK 221 .ne (7) 228 (t1 := 224) (t2 := 228) (by decide +kernel) (by decide) rfl rfl (fun (hc50 : r47 = r13) => ?_) (fun (hc50 : ¬ (r47 = r13)) => ?_)
            · have hF := ite_t hc50 hF
              refine g_seg hK [.iconst 1] 224 225 (L1 := [(10, vI r38), (0, vR 0), (1, vI p2), (2, vI r1), (3, vI s4), (5, vI r10), (6, vI r13), (7, vI r16), (8, vI r19), (9, vI x9_34)]) (st1 := [vI 1]) (h1 := h48) (P := True ∧ True) (by decide +kernel) rfl rfl ⟨trivial, trivial⟩ ?_
              refine g_goto hK 225 (4) 229 (by decide +kernel) (by decide) ?_
              cases hF
              exact hR.2.1 229 _ _ _ (by decide +kernel) rfl (by decide) ⟨rfl, rfl⟩
            · have hF := ite_f hc50 hF
              refine g_seg hK [.iconst 0] 228 229 (L1 := [(10, vI r38), (0, vR 0), (1, vI p2), (2, vI r1), (3, vI s4), (5, vI r10), (6, vI r13), (7, vI r16), (8, vI r19), (9, vI x9_34)]) (st1 := [vI 0]) (h1 := h48) (P := True ∧ True) (by decide +kernel) rfl rfl ⟨trivial, trivial⟩ ?_
              cases hF
              exact hR.2.1 229 _ _ _ (by decide +kernel) rfl (by decide) ⟨rfl, rfl⟩
          · have hF := ite_f hc46 hF
            refine g_seg hK [.iconst 0] 228 229 (L1 := [(10, vI r38), (0, vR 0), (1, vI p2), (2, vI r1), (3, vI s4), (5, vI r10), (6, vI r13), (7, vI r16), (8, vI r19), (9, vI x9_34)]) (st1 := [vI 0]) (h1 := h44) (P := True ∧ True) (by decide +kernel) rfl rfl ⟨trivial, trivial⟩ ?_
            cases hF
            exact hR.2.1 229 _ _ _ (by decide +kernel) rfl (by decide) ⟨rfl, rfl⟩
      · have hF := ite_f hc41 hF
        refine g_seg hK [.iload 9] 230 232 (L1 := [(10, vI r38), (0, vR 0), (1, vI p2), (2, vI r1), (3, vI s4), (5, vI r10), (6, vI r13), (7, vI r16), (8, vI r19), (9, vI x9_34)]) (st1 := [vI x9_34]) (h1 := h39) (P := True ∧ True) (by decide +kernel) rfl rfl ⟨trivial, trivial⟩ ?_
        obtain ⟨kj55, e68, hF⟩ := jk2_elim hF
        have j55 : ∀ (s53 : Int) (h54 : MH), kj55 s53 h54 = some (r, h') → K 280 [(0, vR 0), (3, vI s4), (5, vI r10), (6, vI r13), (8, vI r19)] [vI s53] h54 := by
          intro s53 h54 hF
          have hF := (e68 s53 h54).symm.trans hF
          refine g_seg hK [.istore 9, .iconst 0, .istore 11] 280 285 (L1 := [(11, vI 0), (9, vI s53), (0, vR 0), (3, vI s4), (5, vI r10), (6, vI r13), (8, vI r19)]) (st1 := []) (h1 := h54) (P := True ∧ True ∧ True ∧ True) (by decide +kernel) rfl rfl ⟨trivial, trivial, trivial, trivial⟩ ?_
          refine hK.2.1 _ _ ([(0, vR 0), (3, vI s4), (5, vI r10), (6, vI r13), (8, vI r19), (9, vI s53), (11, vI 0)]) _ _ (sub_of [2, 3, 4, 5, 6, 1, 0] rfl) ?_
          obtain ⟨x9_56, x11_57, e58, hF⟩ := ob2_elim hF
          refine LT_L_isLaid_L285 hK _ _ _ _ _ e58 ?_
          refine g_seg hK [.iload 9] 329 331 (L1 := [(0, vR 0), (3, vI s4), (5, vI r10), (6, vI r13), (8, vI r19), (9, vI x9_56), (11, vI x11_57)]) (st1 := [vI x9_56]) (h1 := h54) (P := True ∧ True) (by decide +kernel) rfl rfl ⟨trivial, trivial⟩ ?_
          refine g_ifz hK 331 .eq (27) 358 (t1 := 358) (t2 := 334) (by decide +kernel) (by decide) rfl rfl (fun (hc59 : x9_56 = 0) => ?_) (fun (hc59 : ¬ (x9_56 = 0)) => ?_)
          · have hF := ite_t hc59 hF
            refine g_seg hK [.iconst 0] 358 359 (L1 := [(0, vR 0), (3, vI s4), (5, vI r10), (6, vI r13), (8, vI r19), (9, vI x9_56), (11, vI x11_57)]) (st1 := [vI 0]) (h1 := h54) (P := True ∧ True) (by decide +kernel) rfl rfl ⟨trivial, trivial⟩ ?_
            cases hF
            exact hR.2.1 359 _ _ _ (by decide +kernel) rfl (by decide) ⟨rfl, rfl⟩
          · have hF := ite_f hc59 hF
            refine g_seg hK [.aload_n 0] 334 335 (L1 := [(0, vR 0), (3, vI s4), (5, vI r10), (6, vI r13), (8, vI r19), (9, vI x9_56), (11, vI x11_57)]) (st1 := [vR 0]) (h1 := h54) (P := True ∧ True) (by decide +kernel) rfl rfl ⟨trivial, trivial⟩ ?_
            obtain ⟨r60, h61, e62, hF⟩ := ob2_elim hF
            refine g_callV1 hK 335 51 (d1 := 6) (ci := 6) (i := 0) (vs := []) (rest := []) (h1 := h61) (r := vI r60) my_yX6_restore vw_X9_51 (by decide) (T_X_restore (h := h54) (hF := e62)) rfl rfl rfl (Nat.le_of_ble_eq_true rfl) (by decide +kernel) ?_
            refine g_seg hK [.iload 8] 338 340 (L1 := [(0, vR 0), (3, vI s4), (5, vI r10), (6, vI r13), (8, vI r19), (9, vI x9_56), (11, vI x11_57)]) (st1 := [vI r19, vI r60]) (h1 := h61) (P := True ∧ True) (by decide +kernel) rfl rfl ⟨trivial, trivial⟩ ?_
            refine g_icmp hK 340 .ne (18) 358 (t1 := 343) (t2 := 358) (by decide +kernel) (by decide) rfl rfl (fun (hc63 : r60 = r19) => ?_) (fun (hc63 : ¬ (r60 = r19)) => ?_)
            · have hF := ite_t hc63 hF
              refine g_seg hK [.aload_n 0, .bipush 12] 343 346 (L1 := [(0, vR 0), (3, vI s4), (5, vI r10), (6, vI r13), (8, vI r19), (9, vI x9_56), (11, vI x11_57)]) (st1 := [vI 12, vR 0]) (h1 := h61) (P := True ∧ True ∧ True) (by decide +kernel) rfl rfl ⟨trivial, trivial, trivial⟩ ?_
              obtain ⟨r64, h65, e66, hF⟩ := ob2_elim hF
              refine g_callV1 hK 346 8 (d1 := 6) (ci := 6) (i := 0) (vs := [vI 12]) (rest := []) (h1 := h65) (r := vI r64) my_yX6_count vw_X9_8 (by decide) (T_X_count (p1 := 12) (h := h61) (hF := e66)) rfl rfl rfl (Nat.le_of_ble_eq_true rfl) (by decide +kernel) ?_
              refine g_seg hK [.iload 6] 349 351 (L1 := [(0, vR 0), (3, vI s4), (5, vI r10), (6, vI r13), (8, vI r19), (9, vI x9_56), (11, vI x11_57)]) (st1 := [vI r13, vI r64]) (h1 := h65) (P := True ∧ True) (by decide +kernel) rfl rfl ⟨trivial, trivial⟩ ?_
              refine g_icmp hK 351 .ne (7) 358 (t1 := 354) (t2 := 358) (by decide +kernel) (by decide) rfl rfl (fun (hc67 : r64 = r13) => ?_) (fun (hc67 : ¬ (r64 = r13)) => ?_)
              · have hF := ite_t hc67 hF
                refine g_seg hK [.iconst 1] 354 355 (L1 := [(0, vR 0), (3, vI s4), (5, vI r10), (6, vI r13), (8, vI r19), (9, vI x9_56), (11, vI x11_57)]) (st1 := [vI 1]) (h1 := h65) (P := True ∧ True) (by decide +kernel) rfl rfl ⟨trivial, trivial⟩ ?_
                refine g_goto hK 355 (4) 359 (by decide +kernel) (by decide) ?_
                cases hF
                exact hR.2.1 359 _ _ _ (by decide +kernel) rfl (by decide) ⟨rfl, rfl⟩
              · have hF := ite_f hc67 hF
                refine g_seg hK [.iconst 0] 358 359 (L1 := [(0, vR 0), (3, vI s4), (5, vI r10), (6, vI r13), (8, vI r19), (9, vI x9_56), (11, vI x11_57)]) (st1 := [vI 0]) (h1 := h65) (P := True ∧ True) (by decide +kernel) rfl rfl ⟨trivial, trivial⟩ ?_
                cases hF
                exact hR.2.1 359 _ _ _ (by decide +kernel) rfl (by decide) ⟨rfl, rfl⟩
            · have hF := ite_f hc63 hF
              refine g_seg hK [.iconst 0] 358 359 (L1 := [(0, vR 0), (3, vI s4), (5, vI r10), (6, vI r13), (8, vI r19), (9, vI x9_56), (11, vI x11_57)]) (st1 := [vI 0]) (h1 := h61) (P := True ∧ True) (by decide +kernel) rfl rfl ⟨trivial, trivial⟩ ?_
              cases hF
              exact hR.2.1 359 _ _ _ (by decide +kernel) rfl (by decide) ⟨rfl, rfl⟩
        obtain ⟨kj52, e69, hF⟩ := jk1_elim hF
        have j52 : ∀ (h51 : MH), kj52 h51 = some (r, h') → K 279 [(0, vR 0), (3, vI s4), (5, vI r10), (6, vI r13), (8, vI r19)] [] h51 := by
          intro h51 hF
          have hF := (e69 h51).symm.trans hF
          refine g_seg hK [.iconst 0] 279 280 (L1 := [(0, vR 0), (3, vI s4), (5, vI r10), (6, vI r13), (8, vI r19)]) (st1 := [vI 0]) (h1 := h51) (P := True ∧ True) (by decide +kernel) rfl rfl ⟨trivial, trivial⟩ ?_
          exact j55 _ _ hF
        refine g_ifz hK 232 .eq (47) 279 (t1 := 279) (t2 := 235) (by decide +kernel) (by decide) rfl rfl (fun (hc70 : x9_34 = 0) => ?_) (fun (hc70 : ¬ (x9_34 = 0)) => ?_)
        · have hF := ite_t hc70 hF
          refine hK.2.1 _ _ ([(0, vR 0), (3, vI s4), (5, vI r10), (6, vI r13), (8, vI r19)]) _ _ (sub_of [1, 4, 5, 6, 8] rfl) ?_
          exact j52 _ hF
        · have hF := ite_f hc70 hF
          refine g_seg hK [.iload 10, .iload_n 2] 235 238 (L1 := [(10, vI r38), (0, vR 0), (1, vI p2), (2, vI r1), (3, vI s4), (5, vI r10), (6, vI r13), (7, vI r16), (8, vI r19), (9, vI x9_34)]) (st1 := [vI r1, vI r38]) (h1 := h39) (P := True ∧ True ∧ True) (by decide +kernel) rfl rfl ⟨trivial, trivial, trivial⟩ ?_
          refine g_icmp hK 238 .ne (41) 279 (t1 := 241) (t2 := 279) (by decide +kernel) (by decide) rfl rfl (fun (hc71 : r38 = r1) => ?_) (fun (hc71 : ¬ (r38 = r1)) => ?_)
          · have hF := ite_t hc71 hF
            refine g_seg hK [.aload_n 0, .bipush 12] 241 244 (L1 := [(10, vI r38), (0, vR 0), (1, vI p2), (2, vI r1), (3, vI s4), (5, vI r10), (6, vI r13), (7, vI r16), (8, vI r19), (9, vI x9_34)]) (st1 := [vI 12, vR 0]) (h1 := h39) (P := True ∧ True ∧ True) (by decide +kernel) rfl rfl ⟨trivial, trivial, trivial⟩ ?_
            obtain ⟨r72, h73, e74, hF⟩ := ob2_elim hF
            refine g_callV1 hK 244 8 (d1 := 6) (ci := 6) (i := 0) (vs := [vI 12]) (rest := []) (h1 := h73) (r := vI r72) my_yX6_count vw_X9_8 (by decide) (T_X_count (p1 := 12) (h := h39) (hF := e74)) rfl rfl rfl (Nat.le_of_ble_eq_true rfl) (by decide +kernel) ?_
            refine g_seg hK [.iload 6, .iload_n 2, .iadd] 247 251 (L1 := [(10, vI r38), (0, vR 0), (1, vI p2), (2, vI r1), (3, vI s4), (5, vI r10), (6, vI r13), (7, vI r16), (8, vI r19), (9, vI x9_34)]) (st1 := [vI (wr (r13 + r1)), vI r72]) (h1 := h73) (P := True ∧ True ∧ True ∧ True) (by decide +kernel) rfl rfl ⟨trivial, trivial, trivial, trivial⟩ ?_
            refine g_icmp hK 251 .ne (28) 279 (t1 := 254) (t2 := 279) (by decide +kernel) (by decide) rfl rfl (fun (hc75 : r72 = wr (r13 + r1)) => ?_) (fun (hc75 : ¬ (r72 = wr (r13 + r1))) => ?_)
            · have hF := ite_t hc75 hF
              refine g_seg hK [.aload_n 0, .bipush 13] 254 257 (L1 := [(10, vI r38), (0, vR 0), (1, vI p2), (2, vI r1), (3, vI s4), (5, vI r10), (6, vI r13), (7, vI r16), (8, vI r19), (9, vI x9_34)]) (st1 := [vI 13, vR 0]) (h1 := h73) (P := True ∧ True ∧ True) (by decide +kernel) rfl rfl ⟨trivial, trivial, trivial⟩ ?_
              obtain ⟨r76, h77, e78, hF⟩ := ob2_elim hF
              refine g_callV1 hK 257 8 (d1 := 6) (ci := 6) (i := 0) (vs := [vI 13]) (rest := []) (h1 := h77) (r := vI r76) my_yX6_count vw_X9_8 (by decide) (T_X_count (p1 := 13) (h := h73) (hF := e78)) rfl rfl rfl (Nat.le_of_ble_eq_true rfl) (by decide +kernel) ?_
              refine g_seg hK [.iload 7] 260 262 (L1 := [(10, vI r38), (0, vR 0), (1, vI p2), (2, vI r1), (3, vI s4), (5, vI r10), (6, vI r13), (7, vI r16), (8, vI r19), (9, vI x9_34)]) (st1 := [vI r16, vI r76]) (h1 := h77) (P := True ∧ True) (by decide +kernel) rfl rfl ⟨trivial, trivial⟩ ?_
              refine g_icmp hK 262 .ne (17) 279 (t1 := 265) (t2 := 279) (by decide +kernel) (by decide) rfl rfl (fun (hc79 : r76 = r16) => ?_) (fun (hc79 : ¬ (r76 = r16)) => ?_)
              · have hF := ite_t hc79 hF
                refine g_seg hK [.aload_n 0, .iconst 2] 265 267 (L1 := [(10, vI r38), (0, vR 0), (1, vI p2), (2, vI r1), (3, vI s4), (5, vI r10), (6, vI r13), (7, vI r16), (8, vI r19), (9, vI x9_34)]) (st1 := [vI 2, vR 0]) (h1 := h77) (P := True ∧ True ∧ True) (by decide +kernel) rfl rfl ⟨trivial, trivial, trivial⟩ ?_
                obtain ⟨r80, h81, e82, hF⟩ := ob2_elim hF
                refine g_callV1 hK 267 8 (d1 := 6) (ci := 6) (i := 0) (vs := [vI 2]) (rest := []) (h1 := h81) (r := vI r80) my_yX6_count vw_X9_8 (by decide) (T_X_count (p1 := 2) (h := h77) (hF := e82)) rfl rfl rfl (Nat.le_of_ble_eq_true rfl) (by decide +kernel) ?_
                refine g_seg hK [.iload 5] 270 272 (L1 := [(10, vI r38), (0, vR 0), (1, vI p2), (2, vI r1), (3, vI s4), (5, vI r10), (6, vI r13), (7, vI r16), (8, vI r19), (9, vI x9_34)]) (st1 := [vI r10, vI r80]) (h1 := h81) (P := True ∧ True) (by decide +kernel) rfl rfl ⟨trivial, trivial⟩ ?_
                refine g_icmp hK 272 .ne (7) 279 (t1 := 275) (t2 := 279) (by decide +kernel) (by decide) rfl rfl (fun (hc83 : r80 = r10) => ?_) (fun (hc83 : ¬ (r80 = r10)) => ?_)
                · have hF := ite_t hc83 hF
                  refine g_seg hK [.iconst 1] 275 276 (L1 := [(10, vI r38), (0, vR 0), (1, vI p2), (2, vI r1), (3, vI s4), (5, vI r10), (6, vI r13), (7, vI r16), (8, vI r19), (9, vI x9_34)]) (st1 := [vI 1]) (h1 := h81) (P := True ∧ True) (by decide +kernel) rfl rfl ⟨trivial, trivial⟩ ?_
                  refine g_goto hK 276 (4) 280 (by decide +kernel) (by decide) ?_
                  refine hK.2.1 _ _ ([(0, vR 0), (3, vI s4), (5, vI r10), (6, vI r13), (8, vI r19)]) _ _ (sub_of [1, 4, 5, 6, 8] rfl) ?_
                  exact j55 _ _ hF
                · have hF := ite_f hc83 hF
                  refine hK.2.1 _ _ ([(0, vR 0), (3, vI s4), (5, vI r10), (6, vI r13), (8, vI r19)]) _ _ (sub_of [1, 4, 5, 6, 8] rfl) ?_
                  exact j52 _ hF
              · have hF := ite_f hc79 hF
                refine hK.2.1 _ _ ([(0, vR 0), (3, vI s4), (5, vI r10), (6, vI r13), (8, vI r19)]) _ _ (sub_of [1, 4, 5, 6, 8] rfl) ?_
                exact j52 _ hF
            · have hF := ite_f hc75 hF
              refine hK.2.1 _ _ ([(0, vR 0), (3, vI s4), (5, vI r10), (6, vI r13), (8, vI r19)]) _ _ (sub_of [1, 4, 5, 6, 8] rfl) ?_
              exact j52 _ hF
          · have hF := ite_f hc71 hF
            refine hK.2.1 _ _ ([(0, vR 0), (3, vI s4), (5, vI r10), (6, vI r13), (8, vI r19)]) _ _ (sub_of [1, 4, 5, 6, 8] rfl) ?_
            exact j52 _ hF
    clear hF
    have hF := e84
    refine g_icmp hK 128 .ne (7) 135 (t1 := 131) (t2 := 135) (by decide +kernel) (by decide) rfl rfl (fun (hc33 : r28 = r7) => ?_) (fun (hc33 : ¬ (r28 = r7)) => ?_)
    · have hF := ite_t hc33 hF
      refine g_seg hK [.iconst 1] 131 132 (L1 := [(0, vR 0), (1, vI p2), (2, vI r1), (3, vI s4), (4, vI r7), (5, vI r10), (6, vI r13), (7, vI r16), (8, vI r19), (9, vI x9_25)]) (st1 := [vI 1]) (h1 := h29) (P := True ∧ True) (by decide +kernel) rfl rfl ⟨trivial, trivial⟩ ?_
      refine g_goto hK 132 (4) 136 (by decide +kernel) (by decide) ?_
      refine hK.2.1 _ _ ([(0, vR 0), (1, vI p2), (2, vI r1), (3, vI s4), (5, vI r10), (6, vI r13), (7, vI r16), (8, vI r19)]) _ _ (sub_of [0, 1, 2, 3, 5, 6, 7, 8] rfl) ?_
      cases hF
      exact j32
    · have hF := ite_f hc33 hF
      refine g_seg hK [.iconst 0] 135 136 (L1 := [(0, vR 0), (1, vI p2), (2, vI r1), (3, vI s4), (4, vI r7), (5, vI r10), (6, vI r13), (7, vI r16), (8, vI r19), (9, vI x9_25)]) (st1 := [vI 0]) (h1 := h29) (P := True ∧ True) (by decide +kernel) rfl rfl ⟨trivial, trivial⟩ ?_
      refine hK.2.1 _ _ ([(0, vR 0), (1, vI p2), (2, vI r1), (3, vI s4), (5, vI r10), (6, vI r13), (7, vI r16), (8, vI r19)]) _ _ (sub_of [0, 1, 2, 3, 5, 6, 7, 8] rfl) ?_
      cases hF
      exact j32
  clear hF
  have hF := e85
  refine g_ifz hK 8 .eq (7) 15 (t1 := 15) (t2 := 11) (by decide +kernel) (by decide) rfl rfl (fun (hc6 : p2 = 0) => ?_) (fun (hc6 : ¬ (p2 = 0)) => ?_)
  · have hF := ite_t hc6 hF
    refine g_seg hK [.iconst 0] 15 16 (L1 := [(2, vI r1), (0, vR 0), (1, vI p2)]) (st1 := [vI 0]) (h1 := h2) (P := True ∧ True) (by decide +kernel) rfl rfl ⟨trivial, trivial⟩ ?_
    refine hK.2.1 _ _ ([(0, vR 0), (1, vI p2), (2, vI r1)]) _ _ (sub_of [1, 2, 0] rfl) ?_
    cases hF
    exact j5
  · have hF := ite_f hc6 hF
    refine g_seg hK [.iconst 1] 11 12 (L1 := [(2, vI r1), (0, vR 0), (1, vI p2)]) (st1 := [vI 1]) (h1 := h2) (P := True ∧ True) (by decide +kernel) rfl rfl ⟨trivial, trivial⟩ ?_
    refine g_goto hK 12 (4) 16 (by decide +kernel) (by decide) ?_
    refine hK.2.1 _ _ ([(0, vR 0), (1, vI p2), (2, vI r1)]) _ _ (sub_of [1, 2, 0] rfl) ?_
    cases hF
    exact j5
set_option maxHeartbeats 4000000 in
set_option maxRecDepth 100000 in
theorem LT_L_isLeast_L36 {K : KT} (hK : Rules RX9 cL_isLeast 8 (Option.some Jvm.ClassFile.FieldType.boolean) flX9 7 K) {Post : Option MV → MH → Prop} (hR : R_ret cL_isLeast (Option.some Jvm.ClassFile.FieldType.boolean) Post K) {x1 : Int} {x2 : Int} : ∀ (n : Nat) (x3 : Int) (x4 : Int) (x5 : Int) (h : MH) (out : Sum (Int × MH) (Int × Int × Int × MH)), F_L_isLeast_L36 x1 x2 n x3 x4 x5 h = some out → (∀ a : Int × MH, out = Sum.inl a → Post (some (vI a.1)) a.2) → (∀ q : Int × Int × Int × MH, out = Sum.inr q → K 120 [(0, vR 0), (1, vI x1), (2, vI x2), (3, vI q.1), (4, vI q.2.1), (5, vI q.2.2.1)] [] q.2.2.2) → K 36 [(0, vR 0), (1, vI x1), (2, vI x2), (3, vI x3), (4, vI x4), (5, vI x5)] [] h := by
  intro n
  induction n with
  | zero =>
    intro x3 x4 x5 h out hF
    cases hF
  | succ n ih =>
    intro x3 x4 x5 h out hF hRet hE
    unfold F_L_isLeast_L36 at hF
    refine g_seg hK [.iload 5, .iload_n 1] 36 39 (L1 := [(0, vR 0), (1, vI x1), (2, vI x2), (3, vI x3), (4, vI x4), (5, vI x5)]) (st1 := [vI x1, vI x5]) (h1 := h) (P := True ∧ True ∧ True) (by decide +kernel) rfl rfl ⟨trivial, trivial, trivial⟩ ?_
    refine g_icmp hK 39 .ge (81) 120 (t1 := 42) (t2 := 120) (by decide +kernel) (by decide) rfl rfl (fun (hc1 : x5 < x1) => ?_) (fun (hc1 : ¬ (x5 < x1)) => ?_)
    · have hF := ite_t hc1 hF
      refine g_seg hK [.iload 5, .bipush 14] 42 46 (L1 := [(0, vR 0), (1, vI x1), (2, vI x2), (3, vI x3), (4, vI x4), (5, vI x5)]) (st1 := [vI 14, vI x5]) (h1 := h) (P := True ∧ True ∧ True) (by decide +kernel) rfl rfl ⟨trivial, trivial, trivial⟩ ?_
      refine g_icmp hK 46 .ge (74) 120 (t1 := 49) (t2 := 120) (by decide +kernel) (by decide) rfl rfl (fun (hc2 : x5 < 14) => ?_) (fun (hc2 : ¬ (x5 < 14)) => ?_)
      · have hF := ite_t hc2 hF
        refine g_seg hK [.aload_n 0, .iconst 0, .iload 5, .bipush 20] 49 55 (L1 := [(0, vR 0), (1, vI x1), (2, vI x2), (3, vI x3), (4, vI x4), (5, vI x5)]) (st1 := [vI 20, vI x5, vI 0, vR 0]) (h1 := h) (P := True ∧ True ∧ True ∧ True ∧ True) (by decide +kernel) rfl rfl ⟨trivial, trivial, trivial, trivial, trivial⟩ ?_
        obtain ⟨r3, h4, e5, hF⟩ := ob2_elim hF
        refine g_callV1 hK 55 39 (d1 := 6) (ci := 6) (i := 0) (vs := [vI 0, vI x5, vI 20]) (rest := []) (h1 := h4) (r := vI r3) my_yX6_edit vw_X9_39 (by decide) (T_X_edit (p1 := 0) (p2 := x5) (p3 := 20) (h := h) (hF := e5)) rfl rfl rfl (Nat.le_of_ble_eq_true rfl) (by decide +kernel) ?_
        refine g_seg hK [.istore 6, .aload_n 0, .iconst 0] 58 62 (L1 := [(6, vI r3), (0, vR 0), (1, vI x1), (2, vI x2), (3, vI x3), (4, vI x4), (5, vI x5)]) (st1 := [vI 0, vR 0]) (h1 := h4) (P := True ∧ True ∧ True ∧ True) (by decide +kernel) rfl rfl ⟨trivial, trivial, trivial, trivial⟩ ?_
        obtain ⟨r6, h7, e8, hF⟩ := ob2_elim hF
        refine g_callV1 hK 62 24 (d1 := 6) (ci := 6) (i := 0) (vs := [vI 0]) (rest := []) (h1 := h7) (r := vI r6) my_yX6_distance vw_X9_24 (by decide) (T_X_distance (p1 := 0) (h := h4) (hF := e8)) rfl rfl rfl (Nat.le_of_ble_eq_true rfl) (by decide +kernel) ?_
        refine g_seg hK [.istore 7, .iload 7, .iload 4] 65 71 (L1 := [(7, vI r6), (6, vI r3), (0, vR 0), (1, vI x1), (2, vI x2), (3, vI x3), (4, vI x4), (5, vI x5)]) (st1 := [vI x4, vI r6]) (h1 := h7) (P := True ∧ True ∧ True ∧ True) (by decide +kernel) rfl rfl ⟨trivial, trivial, trivial, trivial⟩ ?_
        obtain ⟨s9, e21, hF⟩ := jn1_elim hF
        have j10 : K 80 [(0, vR 0), (1, vI x1), (2, vI x2), (4, vI x4), (5, vI x5), (6, vI r3), (7, vI r6)] [vI s9] h7 := by
          refine g_seg hK [.istore_n 3, .iload 7, .iload 4] 80 85 (L1 := [(3, vI s9), (0, vR 0), (1, vI x1), (2, vI x2), (4, vI x4), (5, vI x5), (6, vI r3), (7, vI r6)]) (st1 := [vI x4, vI r6]) (h1 := h7) (P := True ∧ True ∧ True ∧ True) (by decide +kernel) rfl rfl ⟨trivial, trivial, trivial, trivial⟩ ?_
          obtain ⟨s12, e20, hF⟩ := jn1_elim hF
          have j13 : K 95 [(0, vR 0), (1, vI x1), (2, vI x2), (3, vI s9), (5, vI x5), (6, vI r3)] [vI s12] h7 := by
            refine g_seg hK [.istore 4, .iload 6, .iload_n 1, .iconst 1, .isub] 95 102 (L1 := [(4, vI s12), (0, vR 0), (1, vI x1), (2, vI x2), (3, vI s9), (5, vI x5), (6, vI r3)]) (st1 := [vI (wr (x1 - 1)), vI r3]) (h1 := h7) (P := True ∧ True ∧ True ∧ True ∧ True ∧ True) (by decide +kernel) rfl rfl ⟨trivial, trivial, trivial, trivial, trivial, trivial⟩ ?_
            refine g_icmp hK 102 .ne (10) 112 (t1 := 105) (t2 := 112) (by decide +kernel) (by decide) rfl rfl (fun (hc15 : r3 = wr (x1 - 1)) => ?_) (fun (hc15 : ¬ (r3 = wr (x1 - 1))) => ?_)
            · have hF := ite_t hc15 hF
              refine g_seg hK [.aload_n 0] 105 106 (L1 := [(4, vI s12), (0, vR 0), (1, vI x1), (2, vI x2), (3, vI s9), (5, vI x5), (6, vI r3)]) (st1 := [vR 0]) (h1 := h7) (P := True ∧ True) (by decide +kernel) rfl rfl ⟨trivial, trivial⟩ ?_
              obtain ⟨r16, h17, e18, hF⟩ := ob2_elim hF
              refine g_callV1 hK 106 57 (d1 := 5) (ci := 6) (i := 0) (vs := []) (rest := []) (h1 := h17) (r := vI r16) my_yX6_undo vw_X9_57 (by decide) (T_X_undo (h := h7) (hF := e18)) rfl rfl rfl (Nat.le_of_ble_eq_true rfl) (by decide +kernel) ?_
              refine g_ifz hK 109 .ge (5) 114 (t1 := 112) (t2 := 114) (by decide +kernel) (by decide) rfl rfl (fun (hc19 : r16 < 0) => ?_) (fun (hc19 : ¬ (r16 < 0)) => ?_)
              · have hF := ite_t hc19 hF
                refine g_seg hK [.iconst 0] 112 113 (L1 := [(4, vI s12), (0, vR 0), (1, vI x1), (2, vI x2), (3, vI s9), (5, vI x5), (6, vI r3)]) (st1 := [vI 0]) (h1 := h17) (P := True ∧ True) (by decide +kernel) rfl rfl ⟨trivial, trivial⟩ ?_
                cases hF
                exact hR.2.1 113 _ _ _ (by decide +kernel) rfl (by decide) (hRet _ rfl)
              · have hF := ite_f hc19 hF
                refine g_seg hK [.iinc 5 1] 114 117 (L1 := [(5, vI (wr (x5 + 1))), (4, vI s12), (0, vR 0), (1, vI x1), (2, vI x2), (3, vI s9), (6, vI r3)]) (st1 := []) (h1 := h17) (P := True ∧ True) (by decide +kernel) rfl rfl ⟨trivial, trivial⟩ ?_
                refine g_goto hK 117 (-81) 36 (by decide +kernel) (by decide) ?_
                refine hK.2.1 _ _ ([(0, vR 0), (1, vI x1), (2, vI x2), (3, vI s9), (4, vI s12), (5, vI (wr (x5 + 1)))]) _ _ (sub_of [2, 3, 4, 5, 1, 0] rfl) ?_
                exact ih _ _ _ _ _ hF hRet hE
            · have hF := ite_f hc15 hF
              refine g_seg hK [.iconst 0] 112 113 (L1 := [(4, vI s12), (0, vR 0), (1, vI x1), (2, vI x2), (3, vI s9), (5, vI x5), (6, vI r3)]) (st1 := [vI 0]) (h1 := h7) (P := True ∧ True) (by decide +kernel) rfl rfl ⟨trivial, trivial⟩ ?_
              cases hF
              exact hR.2.1 113 _ _ _ (by decide +kernel) rfl (by decide) (hRet _ rfl)
          clear hF
          have hF := e20
          refine g_icmp hK 85 .ge (8) 93 (t1 := 88) (t2 := 93) (by decide +kernel) (by decide) rfl rfl (fun (hc14 : r6 < x4) => ?_) (fun (hc14 : ¬ (r6 < x4)) => ?_)
          · have hF := ite_t hc14 hF
            refine g_seg hK [.iload 7] 88 90 (L1 := [(3, vI s9), (0, vR 0), (1, vI x1), (2, vI x2), (4, vI x4), (5, vI x5), (6, vI r3), (7, vI r6)]) (st1 := [vI r6]) (h1 := h7) (P := True ∧ True) (by decide +kernel) rfl rfl ⟨trivial, trivial⟩ ?_
            refine g_goto hK 90 (5) 95 (by decide +kernel) (by decide) ?_
            refine hK.2.1 _ _ ([(0, vR 0), (1, vI x1), (2, vI x2), (3, vI s9), (5, vI x5), (6, vI r3)]) _ _ (sub_of [1, 2, 3, 0, 5, 6] rfl) ?_
            cases hF
            exact j13
          · have hF := ite_f hc14 hF
            refine g_seg hK [.iload 4] 93 95 (L1 := [(3, vI s9), (0, vR 0), (1, vI x1), (2, vI x2), (4, vI x4), (5, vI x5), (6, vI r3), (7, vI r6)]) (st1 := [vI x4]) (h1 := h7) (P := True ∧ True) (by decide +kernel) rfl rfl ⟨trivial, trivial⟩ ?_
            refine hK.2.1 _ _ ([(0, vR 0), (1, vI x1), (2, vI x2), (3, vI s9), (5, vI x5), (6, vI r3)]) _ _ (sub_of [1, 2, 3, 0, 5, 6] rfl) ?_
            cases hF
            exact j13
        clear hF
        have hF := e21
        refine g_icmp hK 71 .ge (8) 79 (t1 := 74) (t2 := 79) (by decide +kernel) (by decide) rfl rfl (fun (hc11 : r6 < x4) => ?_) (fun (hc11 : ¬ (r6 < x4)) => ?_)
        · have hF := ite_t hc11 hF
          refine g_seg hK [.iload 5] 74 76 (L1 := [(7, vI r6), (6, vI r3), (0, vR 0), (1, vI x1), (2, vI x2), (3, vI x3), (4, vI x4), (5, vI x5)]) (st1 := [vI x5]) (h1 := h7) (P := True ∧ True) (by decide +kernel) rfl rfl ⟨trivial, trivial⟩ ?_
          refine g_goto hK 76 (4) 80 (by decide +kernel) (by decide) ?_
          refine hK.2.1 _ _ ([(0, vR 0), (1, vI x1), (2, vI x2), (4, vI x4), (5, vI x5), (6, vI r3), (7, vI r6)]) _ _ (sub_of [2, 3, 4, 6, 7, 1, 0] rfl) ?_
          cases hF
          exact j10
        · have hF := ite_f hc11 hF
          refine g_seg hK [.iload_n 3] 79 80 (L1 := [(7, vI r6), (6, vI r3), (0, vR 0), (1, vI x1), (2, vI x2), (3, vI x3), (4, vI x4), (5, vI x5)]) (st1 := [vI x3]) (h1 := h7) (P := True ∧ True) (by decide +kernel) rfl rfl ⟨trivial, trivial⟩ ?_
          refine hK.2.1 _ _ ([(0, vR 0), (1, vI x1), (2, vI x2), (4, vI x4), (5, vI x5), (6, vI r3), (7, vI r6)]) _ _ (sub_of [2, 3, 4, 6, 7, 1, 0] rfl) ?_
          cases hF
          exact j10
      · have hF := ite_f hc2 hF
        cases hF
        exact hE _ rfl
    · have hF := ite_f hc1 hF
      cases hF
      exact hE _ rfl
set_option maxHeartbeats 4000000 in
set_option maxRecDepth 100000 in
theorem T_L_isLeast {h : MH} {r : Int} {h' : MH} (hF : F_L_isLeast h = some (r, h')) : CON 7 yL_isLeast cL_isLeast 8 (Option.some Jvm.ClassFile.FieldType.boolean) [vR 0] h (some (vI r)) h' := by
  refine con_of (own := RX9) (fl := flX9) (by decide +kernel) rfl flok_X9 rfl (Nat.le_of_ble_eq_true rfl) ?_
  intro K hK hR
  show K 0 [(0, vR 0)] [] h
  unfold F_L_isLeast at hF
  refine g_seg hK [.aload_n 0, .iconst 0] 0 2 (L1 := [(0, vR 0)]) (st1 := [vI 0, vR 0]) (h1 := h) (P := True ∧ True ∧ True) (by decide +kernel) rfl rfl ⟨trivial, trivial, trivial⟩ ?_
  obtain ⟨r1, h2, e3, hF⟩ := ob2_elim hF
  refine g_callV1 hK 2 8 (d1 := 6) (ci := 6) (i := 0) (vs := [vI 0]) (rest := []) (h1 := h2) (r := vI r1) my_yX6_count vw_X9_8 (by decide) (T_X_count (p1 := 0) (h := h) (hF := e3)) rfl rfl rfl (Nat.le_of_ble_eq_true rfl) (by decide +kernel) ?_
  refine g_seg hK [.istore_n 1, .aload_n 0] 5 7 (L1 := [(1, vI r1), (0, vR 0)]) (st1 := [vR 0]) (h1 := h2) (P := True ∧ True ∧ True) (by decide +kernel) rfl rfl ⟨trivial, trivial, trivial⟩ ?_
  obtain ⟨r4, h5, e6, hF⟩ := ob2_elim hF
  refine g_callV1 hK 7 54 (d1 := 5) (ci := 6) (i := 0) (vs := []) (rest := []) (h1 := h5) (r := vI r4) my_yX6_least vw_X9_54 (by decide) (T_X_least (h := h2) (hF := e6)) rfl rfl rfl (Nat.le_of_ble_eq_true rfl) (by decide +kernel) ?_
  refine g_seg hK [.istore_n 2, .iload_n 1] 10 12 (L1 := [(2, vI r4), (1, vI r1), (0, vR 0)]) (st1 := [vI r1]) (h1 := h5) (P := True ∧ True ∧ True) (by decide +kernel) rfl rfl ⟨trivial, trivial, trivial⟩ ?_
  refine g_ifz hK 12 .ne (15) 27 (t1 := 15) (t2 := 27) (by decide +kernel) (by decide) rfl rfl (fun (hc7 : r1 = 0) => ?_) (fun (hc7 : ¬ (r1 = 0)) => ?_)
  · have hF := ite_t hc7 hF
    refine g_seg hK [.iload_n 2, .bipush (-2)] 15 18 (L1 := [(2, vI r4), (1, vI r1), (0, vR 0)]) (st1 := [vI (-2), vI r4]) (h1 := h5) (P := True ∧ True ∧ True) (by decide +kernel) rfl rfl ⟨trivial, trivial, trivial⟩ ?_
    refine g_icmp hK 18 .ne (7) 25 (t1 := 21) (t2 := 25) (by decide +kernel) (by decide) rfl rfl (fun (hc8 : r4 = (-2)) => ?_) (fun (hc8 : ¬ (r4 = (-2))) => ?_)
    · have hF := ite_t hc8 hF
      refine g_seg hK [.iconst 1] 21 22 (L1 := [(2, vI r4), (1, vI r1), (0, vR 0)]) (st1 := [vI 1]) (h1 := h5) (P := True ∧ True) (by decide +kernel) rfl rfl ⟨trivial, trivial⟩ ?_
      refine g_goto hK 22 (4) 26 (by decide +kernel) (by decide) ?_
      cases hF
      exact hR.2.1 26 _ _ _ (by decide +kernel) rfl (by decide) ⟨rfl, rfl⟩
    · have hF := ite_f hc8 hF
      refine g_seg hK [.iconst 0] 25 26 (L1 := [(2, vI r4), (1, vI r1), (0, vR 0)]) (st1 := [vI 0]) (h1 := h5) (P := True ∧ True) (by decide +kernel) rfl rfl ⟨trivial, trivial⟩ ?_
      cases hF
      exact hR.2.1 26 _ _ _ (by decide +kernel) rfl (by decide) ⟨rfl, rfl⟩
  · have hF := ite_f hc7 hF
    refine g_seg hK [.iconst (-1), .istore_n 3, .bipush 99, .istore 4, .iconst 0, .istore 5] 27 36 (L1 := [(5, vI 0), (4, vI 99), (3, vI (-1)), (2, vI r4), (1, vI r1), (0, vR 0)]) (st1 := []) (h1 := h5) (P := True ∧ True ∧ True ∧ True ∧ True ∧ True ∧ True) (by decide +kernel) rfl rfl ⟨trivial, trivial, trivial, trivial, trivial, trivial, trivial⟩ ?_
    refine hK.2.1 _ _ ([(0, vR 0), (1, vI r1), (2, vI r4), (3, vI (-1)), (4, vI 99), (5, vI 0)]) _ _ (sub_of [5, 4, 3, 2, 1, 0] rfl) ?_
    obtain ⟨out15, e13, hr16, hx17⟩ := os_elim hF
    refine LT_L_isLeast_L36 hK hR _ _ _ _ _ out15 e13 ?_ ?_
    · intro a ha
      have hF := hr16 a ha
      cases hF
      exact ⟨rfl, rfl⟩
    · intro q14 hq
      have hF := hx17 q14 hq
      refine g_seg hK [.iload_n 2, .iload_n 3] 120 122 (L1 := [(0, vR 0), (1, vI r1), (2, vI r4), (3, vI q14.1), (4, vI q14.2.1), (5, vI q14.2.2.1)]) (st1 := [vI q14.1, vI r4]) (h1 := q14.2.2.2) (P := True ∧ True ∧ True) (by decide +kernel) rfl rfl ⟨trivial, trivial, trivial⟩ ?_
      refine g_icmp hK 122 .ne (16) 138 (t1 := 125) (t2 := 138) (by decide +kernel) (by decide) rfl rfl (fun (hc18 : r4 = q14.1) => ?_) (fun (hc18 : ¬ (r4 = q14.1)) => ?_)
      · have hF := ite_t hc18 hF
        refine g_seg hK [.aload_n 0, .iconst 0] 125 127 (L1 := [(0, vR 0), (1, vI r1), (2, vI r4), (3, vI q14.1), (4, vI q14.2.1), (5, vI q14.2.2.1)]) (st1 := [vI 0, vR 0]) (h1 := q14.2.2.2) (P := True ∧ True ∧ True) (by decide +kernel) rfl rfl ⟨trivial, trivial, trivial⟩ ?_
        obtain ⟨r19, h20, e21, hF⟩ := ob2_elim hF
        refine g_callV1 hK 127 8 (d1 := 6) (ci := 6) (i := 0) (vs := [vI 0]) (rest := []) (h1 := h20) (r := vI r19) my_yX6_count vw_X9_8 (by decide) (T_X_count (p1 := 0) (h := q14.2.2.2) (hF := e21)) rfl rfl rfl (Nat.le_of_ble_eq_true rfl) (by decide +kernel) ?_
        refine g_seg hK [.iload_n 1] 130 131 (L1 := [(0, vR 0), (1, vI r1), (2, vI r4), (3, vI q14.1), (4, vI q14.2.1), (5, vI q14.2.2.1)]) (st1 := [vI r1, vI r19]) (h1 := h20) (P := True ∧ True) (by decide +kernel) rfl rfl ⟨trivial, trivial⟩ ?_
        refine g_icmp hK 131 .ne (7) 138 (t1 := 134) (t2 := 138) (by decide +kernel) (by decide) rfl rfl (fun (hc22 : r19 = r1) => ?_) (fun (hc22 : ¬ (r19 = r1)) => ?_)
        · have hF := ite_t hc22 hF
          refine g_seg hK [.iconst 1] 134 135 (L1 := [(0, vR 0), (1, vI r1), (2, vI r4), (3, vI q14.1), (4, vI q14.2.1), (5, vI q14.2.2.1)]) (st1 := [vI 1]) (h1 := h20) (P := True ∧ True) (by decide +kernel) rfl rfl ⟨trivial, trivial⟩ ?_
          refine g_goto hK 135 (4) 139 (by decide +kernel) (by decide) ?_
          cases hF
          exact hR.2.1 139 _ _ _ (by decide +kernel) rfl (by decide) ⟨rfl, rfl⟩
        · have hF := ite_f hc22 hF
          refine g_seg hK [.iconst 0] 138 139 (L1 := [(0, vR 0), (1, vI r1), (2, vI r4), (3, vI q14.1), (4, vI q14.2.1), (5, vI q14.2.2.1)]) (st1 := [vI 0]) (h1 := h20) (P := True ∧ True) (by decide +kernel) rfl rfl ⟨trivial, trivial⟩ ?_
          cases hF
          exact hR.2.1 139 _ _ _ (by decide +kernel) rfl (by decide) ⟨rfl, rfl⟩
      · have hF := ite_f hc18 hF
        refine g_seg hK [.iconst 0] 138 139 (L1 := [(0, vR 0), (1, vI r1), (2, vI r4), (3, vI q14.1), (4, vI q14.2.1), (5, vI q14.2.2.1)]) (st1 := [vI 0]) (h1 := q14.2.2.2) (P := True ∧ True) (by decide +kernel) rfl rfl ⟨trivial, trivial⟩ ?_
        cases hF
        exact hR.2.1 139 _ _ _ (by decide +kernel) rfl (by decide) ⟨rfl, rfl⟩
set_option maxHeartbeats 4000000 in
set_option maxRecDepth 100000 in
theorem T_L_does {p2 : Int} {h : MH} {r : Int} {h' : MH} (hF : F_L_does p2 h = some (r, h')) : CON 7 yL_does cL_does 18 (Option.some Jvm.ClassFile.FieldType.boolean) [vR 0, vI p2] h (some (vI r)) h' := by
  refine con_of (own := RX9) (fl := flX9) (by decide +kernel) rfl flok_X9 rfl (Nat.le_of_ble_eq_true rfl) ?_
  intro K hK hR
  show K 0 [(0, vR 0), (1, vI p2)] [] h
  unfold F_L_does at hF
  refine g_seg hK [.iload_n 1, .iconst 4, .ishr, .iconst 3] 0 4 (L1 := [(0, vR 0), (1, vI p2)]) (st1 := [vI 3, vI (shrv p2 4)]) (h1 := h) (P := True ∧ True ∧ True ∧ True ∧ True) (by decide +kernel) rfl rfl ⟨trivial, trivial, trivial, trivial, trivial⟩ ?_
  obtain ⟨r1, e2, hF⟩ := ob1_elim hF
  refine g_callS1 hK 4 60 (d1 := 0) (vs := [vI (shrv p2 4), vI 3]) (rest := []) (h1 := h) (r := vI r1) my_yL_low sw_X9_60 (by decide) (T_L_low (p1 := (shrv p2 4)) (p2 := 3) (h := h) (hF := e2)) rfl (Nat.le_of_ble_eq_true rfl) (by decide +kernel) ?_
  refine g_seg hK [.istore_n 2, .aload_n 0, .iload_n 2] 7 10 (L1 := [(2, vI r1), (0, vR 0), (1, vI p2)]) (st1 := [vI r1, vR 0]) (h1 := h) (P := True ∧ True ∧ True ∧ True) (by decide +kernel) rfl rfl ⟨trivial, trivial, trivial, trivial⟩ ?_
  obtain ⟨r3, h4, e5, hF⟩ := ob2_elim hF
  refine g_callV1 hK 10 8 (d1 := 6) (ci := 6) (i := 0) (vs := [vI r1]) (rest := []) (h1 := h4) (r := vI r3) my_yX6_count vw_X9_8 (by decide) (T_X_count (p1 := r1) (h := h) (hF := e5)) rfl rfl rfl (Nat.le_of_ble_eq_true rfl) (by decide +kernel) ?_
  refine g_seg hK [.istore_n 3, .iload_n 1, .bipush 12] 13 17 (L1 := [(3, vI r3), (2, vI r1), (0, vR 0), (1, vI p2)]) (st1 := [vI 12, vI p2]) (h1 := h4) (P := True ∧ True ∧ True ∧ True) (by decide +kernel) rfl rfl ⟨trivial, trivial, trivial, trivial⟩ ?_
  obtain ⟨r6, e7, hF⟩ := ob1_elim hF
  refine g_callS1 hK 17 60 (d1 := 0) (vs := [vI p2, vI 12]) (rest := []) (h1 := h4) (r := vI r6) my_yL_low sw_X9_60 (by decide) (T_L_low (p1 := p2) (p2 := 12) (h := h4) (hF := e7)) rfl (Nat.le_of_ble_eq_true rfl) (by decide +kernel) ?_
  refine g_sw hK 20 406 0 5 #[40, 111, 174, 217, 217, 303] 40 (by decide +kernel) (by decide) ?_
  by_cases hc8 : r6 = 0
  · have hF := ite_t hc8 hF
    rw [show swT 20 406 0 5 [40, 111, 174, 217, 217, 303] r6 = 60 from by rw [hc8]; decide]
    refine g_seg hK [.iload_n 1, .iconst 4, .ishr, .iconst 1, .iand, .istore 4, .iload 4] 60 69 (L1 := [(4, vI (andv (shrv p2 4) 1)), (3, vI r3), (2, vI r1), (0, vR 0), (1, vI p2)]) (st1 := [vI (andv (shrv p2 4) 1)]) (h1 := h4) (P := True ∧ True ∧ True ∧ True ∧ True ∧ True ∧ True ∧ True) (by decide +kernel) rfl rfl ⟨trivial, trivial, trivial, trivial, trivial, trivial, trivial, trivial⟩ ?_
    obtain ⟨s9, e23, hF⟩ := jn1_elim hF
    have j10 : K 85 [(0, vR 0), (4, vI (andv (shrv p2 4) 1))] [vI s9] h4 := by
      refine g_seg hK [.istore 5, .aload_n 0, .bipush 14, .iload 4, .iadd] 85 93 (L1 := [(5, vI s9), (0, vR 0), (4, vI (andv (shrv p2 4) 1))]) (st1 := [vI (wr (14 + (andv (shrv p2 4) 1))), vR 0]) (h1 := h4) (P := True ∧ True ∧ True ∧ True ∧ True ∧ True) (by decide +kernel) rfl rfl ⟨trivial, trivial, trivial, trivial, trivial, trivial⟩ ?_
      obtain ⟨r12, h13, e14, hF⟩ := ob2_elim hF
      refine g_callV1 hK 93 8 (d1 := 6) (ci := 6) (i := 0) (vs := [vI (wr (14 + (andv (shrv p2 4) 1)))]) (rest := []) (h1 := h13) (r := vI r12) my_yX6_count vw_X9_8 (by decide) (T_X_count (p1 := (wr (14 + (andv (shrv p2 4) 1)))) (h := h4) (hF := e14)) rfl rfl rfl (Nat.le_of_ble_eq_true rfl) (by decide +kernel) ?_
      refine g_seg hK [.istore 6, .aload_n 0, .iload 4, .iload 5] 96 103 (L1 := [(6, vI r12), (5, vI s9), (0, vR 0), (4, vI (andv (shrv p2 4) 1))]) (st1 := [vI s9, vI (andv (shrv p2 4) 1), vR 0]) (h1 := h13) (P := True ∧ True ∧ True ∧ True ∧ True) (by decide +kernel) rfl rfl ⟨trivial, trivial, trivial, trivial, trivial⟩ ?_
      obtain ⟨r15, h16, e17, hF⟩ := ob2_elim hF
      refine g_callV1 hK 103 65 (d1 := 6) (ci := 6) (i := 0) (vs := [vI (andv (shrv p2 4) 1), vI s9]) (rest := []) (h1 := h16) (r := vI r15) my_yX6_set vw_X9_65 (by decide) (T_X_set (p1 := (andv (shrv p2 4) 1)) (p2 := s9) (h := h13) (hF := e17)) rfl rfl rfl (Nat.le_of_ble_eq_true rfl) (by decide +kernel) ?_
      refine g_seg hK [.iload 6] 106 108 (L1 := [(6, vI r12), (5, vI s9), (0, vR 0), (4, vI (andv (shrv p2 4) 1))]) (st1 := [vI r12, vI r15]) (h1 := h16) (P := True ∧ True) (by decide +kernel) rfl rfl ⟨trivial, trivial⟩ ?_
      refine g_icmp hK 108 .ne (21) 129 (t1 := 111) (t2 := 129) (by decide +kernel) (by decide) rfl rfl (fun (hc18 : r15 = r12) => ?_) (fun (hc18 : ¬ (r15 = r12)) => ?_)
      · have hF := ite_t hc18 hF
        refine g_seg hK [.aload_n 0, .bipush 14, .iload 4, .iadd] 111 117 (L1 := [(6, vI r12), (5, vI s9), (0, vR 0), (4, vI (andv (shrv p2 4) 1))]) (st1 := [vI (wr (14 + (andv (shrv p2 4) 1))), vR 0]) (h1 := h16) (P := True ∧ True ∧ True ∧ True ∧ True) (by decide +kernel) rfl rfl ⟨trivial, trivial, trivial, trivial, trivial⟩ ?_
        obtain ⟨r19, h20, e21, hF⟩ := ob2_elim hF
        refine g_callV1 hK 117 8 (d1 := 6) (ci := 6) (i := 0) (vs := [vI (wr (14 + (andv (shrv p2 4) 1)))]) (rest := []) (h1 := h20) (r := vI r19) my_yX6_count vw_X9_8 (by decide) (T_X_count (p1 := (wr (14 + (andv (shrv p2 4) 1)))) (h := h16) (hF := e21)) rfl rfl rfl (Nat.le_of_ble_eq_true rfl) (by decide +kernel) ?_
        refine g_seg hK [.iload 5] 120 122 (L1 := [(6, vI r12), (5, vI s9), (0, vR 0), (4, vI (andv (shrv p2 4) 1))]) (st1 := [vI s9, vI r19]) (h1 := h20) (P := True ∧ True) (by decide +kernel) rfl rfl ⟨trivial, trivial⟩ ?_
        refine g_icmp hK 122 .ne (7) 129 (t1 := 125) (t2 := 129) (by decide +kernel) (by decide) rfl rfl (fun (hc22 : r19 = s9) => ?_) (fun (hc22 : ¬ (r19 = s9)) => ?_)
        · have hF := ite_t hc22 hF
          refine g_seg hK [.iconst 1] 125 126 (L1 := [(6, vI r12), (5, vI s9), (0, vR 0), (4, vI (andv (shrv p2 4) 1))]) (st1 := [vI 1]) (h1 := h20) (P := True ∧ True) (by decide +kernel) rfl rfl ⟨trivial, trivial⟩ ?_
          refine g_goto hK 126 (4) 130 (by decide +kernel) (by decide) ?_
          cases hF
          exact hR.2.1 130 _ _ _ (by decide +kernel) rfl (by decide) ⟨rfl, rfl⟩
        · have hF := ite_f hc22 hF
          refine g_seg hK [.iconst 0] 129 130 (L1 := [(6, vI r12), (5, vI s9), (0, vR 0), (4, vI (andv (shrv p2 4) 1))]) (st1 := [vI 0]) (h1 := h20) (P := True ∧ True) (by decide +kernel) rfl rfl ⟨trivial, trivial⟩ ?_
          cases hF
          exact hR.2.1 130 _ _ _ (by decide +kernel) rfl (by decide) ⟨rfl, rfl⟩
      · have hF := ite_f hc18 hF
        refine g_seg hK [.iconst 0] 129 130 (L1 := [(6, vI r12), (5, vI s9), (0, vR 0), (4, vI (andv (shrv p2 4) 1))]) (st1 := [vI 0]) (h1 := h16) (P := True ∧ True) (by decide +kernel) rfl rfl ⟨trivial, trivial⟩ ?_
        cases hF
        exact hR.2.1 130 _ _ _ (by decide +kernel) rfl (by decide) ⟨rfl, rfl⟩
    clear hF
    have hF := e23
    refine g_ifz hK 69 .ne (11) 80 (t1 := 72) (t2 := 80) (by decide +kernel) (by decide) rfl rfl (fun (hc11 : andv (shrv p2 4) 1 = 0) => ?_) (fun (hc11 : ¬ (andv (shrv p2 4) 1 = 0)) => ?_)
    · have hF := ite_t hc11 hF
      refine g_seg hK [.iload_n 1, .iconst 5, .ishr, .iconst 3, .iand] 72 77 (L1 := [(4, vI (andv (shrv p2 4) 1)), (3, vI r3), (2, vI r1), (0, vR 0), (1, vI p2)]) (st1 := [vI (andv (shrv p2 5) 3)]) (h1 := h4) (P := True ∧ True ∧ True ∧ True ∧ True ∧ True) (by decide +kernel) rfl rfl ⟨trivial, trivial, trivial, trivial, trivial, trivial⟩ ?_
      refine g_goto hK 77 (8) 85 (by decide +kernel) (by decide) ?_
      refine hK.2.1 _ _ ([(0, vR 0), (4, vI (andv (shrv p2 4) 1))]) _ _ (sub_of [3, 0] rfl) ?_
      cases hF
      exact j10
    · have hF := ite_f hc11 hF
      refine g_seg hK [.iload_n 1, .iconst 5, .ishr, .iconst 1, .iand] 80 85 (L1 := [(4, vI (andv (shrv p2 4) 1)), (3, vI r3), (2, vI r1), (0, vR 0), (1, vI p2)]) (st1 := [vI (andv (shrv p2 5) 1)]) (h1 := h4) (P := True ∧ True ∧ True ∧ True ∧ True ∧ True) (by decide +kernel) rfl rfl ⟨trivial, trivial, trivial, trivial, trivial, trivial⟩ ?_
      refine hK.2.1 _ _ ([(0, vR 0), (4, vI (andv (shrv p2 4) 1))]) _ _ (sub_of [3, 0] rfl) ?_
      cases hF
      exact j10
  · have hF := ite_f hc8 hF
    by_cases hc24 : r6 = 1
    · have hF := ite_t hc24 hF
      rw [show swT 20 406 0 5 [40, 111, 174, 217, 217, 303] r6 = 131 from by rw [hc24]; decide]
      refine g_seg hK [.iload_n 2, .iconst 1, .iadd, .iload_n 1, .bipush 6, .ishr, .iconst 1, .iand, .iadd, .iconst 3, .irem, .istore 7, .aload_n 0, .iload 7] 131 148 (L1 := [(7, vI (remv (wr ((wr (r1 + 1)) + (andv (shrv p2 6) 1))) 3)), (3, vI r3), (2, vI r1), (0, vR 0), (1, vI p2)]) (st1 := [vI (remv (wr ((wr (r1 + 1)) + (andv (shrv p2 6) 1))) 3), vR 0]) (h1 := h4) (P := True ∧ True ∧ True ∧ True ∧ True ∧ True ∧ True ∧ True ∧ True ∧ True ∧ (¬ 3 = 0) ∧ True ∧ True ∧ True ∧ True) (by decide +kernel) rfl rfl ⟨trivial, trivial, trivial, trivial, trivial, trivial, trivial, trivial, trivial, trivial, (by decide), trivial, trivial, trivial, trivial⟩ ?_
      obtain ⟨r25, h26, e27, hF⟩ := ob2_elim hF
      refine g_callV1 hK 148 8 (d1 := 6) (ci := 6) (i := 0) (vs := [vI (remv (wr ((wr (r1 + 1)) + (andv (shrv p2 6) 1))) 3)]) (rest := []) (h1 := h26) (r := vI r25) my_yX6_count vw_X9_8 (by decide) (T_X_count (p1 := (remv (wr ((wr (r1 + 1)) + (andv (shrv p2 6) 1))) 3)) (h := h4) (hF := e27)) rfl rfl rfl (Nat.le_of_ble_eq_true rfl) (by decide +kernel) ?_
      refine g_seg hK [.istore 8, .aload_n 0, .iload_n 2, .iload 7] 151 157 (L1 := [(8, vI r25), (7, vI (remv (wr ((wr (r1 + 1)) + (andv (shrv p2 6) 1))) 3)), (3, vI r3), (2, vI r1), (0, vR 0), (1, vI p2)]) (st1 := [vI (remv (wr ((wr (r1 + 1)) + (andv (shrv p2 6) 1))) 3), vI r1, vR 0]) (h1 := h26) (P := True ∧ True ∧ True ∧ True ∧ True) (by decide +kernel) rfl rfl ⟨trivial, trivial, trivial, trivial, trivial⟩ ?_
      obtain ⟨r28, h29, e30, hF⟩ := ob2_elim hF
      refine g_callV1 hK 157 68 (d1 := 6) (ci := 6) (i := 0) (vs := [vI r1, vI (remv (wr ((wr (r1 + 1)) + (andv (shrv p2 6) 1))) 3)]) (rest := []) (h1 := h29) (r := vI r28) my_yX6_swap vw_X9_68 (by decide) (T_X_swap (p1 := r1) (p2 := (remv (wr ((wr (r1 + 1)) + (andv (shrv p2 6) 1))) 3)) (h := h26) (hF := e30)) rfl rfl rfl (Nat.le_of_ble_eq_true rfl) (by decide +kernel) ?_
      refine g_seg hK [.aload_n 0, .iconst 0] 160 162 (L1 := [(8, vI r25), (7, vI (remv (wr ((wr (r1 + 1)) + (andv (shrv p2 6) 1))) 3)), (3, vI r3), (2, vI r1), (0, vR 0), (1, vI p2)]) (st1 := [vI 0, vR 0, vI r28]) (h1 := h29) (P := True ∧ True ∧ True) (by decide +kernel) rfl rfl ⟨trivial, trivial, trivial⟩ ?_
      obtain ⟨r31, h32, e33, hF⟩ := ob2_elim hF
      refine g_callV1 hK 162 24 (d1 := 6) (ci := 6) (i := 0) (vs := [vI 0]) (rest := [vI r28]) (h1 := h32) (r := vI r31) my_yX6_distance vw_X9_24 (by decide) (T_X_distance (p1 := 0) (h := h29) (hF := e33)) rfl rfl rfl (Nat.le_of_ble_eq_true rfl) (by decide +kernel) ?_
      refine g_icmp hK 165 .ne (27) 192 (t1 := 168) (t2 := 192) (by decide +kernel) (by decide) rfl rfl (fun (hc34 : r28 = r31) => ?_) (fun (hc34 : ¬ (r28 = r31)) => ?_)
      · have hF := ite_t hc34 hF
        refine g_seg hK [.aload_n 0, .iload_n 2] 168 170 (L1 := [(8, vI r25), (7, vI (remv (wr ((wr (r1 + 1)) + (andv (shrv p2 6) 1))) 3)), (3, vI r3), (2, vI r1), (0, vR 0), (1, vI p2)]) (st1 := [vI r1, vR 0]) (h1 := h32) (P := True ∧ True ∧ True) (by decide +kernel) rfl rfl ⟨trivial, trivial, trivial⟩ ?_
        obtain ⟨r35, h36, e37, hF⟩ := ob2_elim hF
        refine g_callV1 hK 170 8 (d1 := 6) (ci := 6) (i := 0) (vs := [vI r1]) (rest := []) (h1 := h36) (r := vI r35) my_yX6_count vw_X9_8 (by decide) (T_X_count (p1 := r1) (h := h32) (hF := e37)) rfl rfl rfl (Nat.le_of_ble_eq_true rfl) (by decide +kernel) ?_
        refine g_seg hK [.iload 8] 173 175 (L1 := [(8, vI r25), (7, vI (remv (wr ((wr (r1 + 1)) + (andv (shrv p2 6) 1))) 3)), (3, vI r3), (2, vI r1), (0, vR 0), (1, vI p2)]) (st1 := [vI r25, vI r35]) (h1 := h36) (P := True ∧ True) (by decide +kernel) rfl rfl ⟨trivial, trivial⟩ ?_
        refine g_icmp hK 175 .ne (17) 192 (t1 := 178) (t2 := 192) (by decide +kernel) (by decide) rfl rfl (fun (hc38 : r35 = r25) => ?_) (fun (hc38 : ¬ (r35 = r25)) => ?_)
        · have hF := ite_t hc38 hF
          refine g_seg hK [.aload_n 0, .iload 7] 178 181 (L1 := [(8, vI r25), (7, vI (remv (wr ((wr (r1 + 1)) + (andv (shrv p2 6) 1))) 3)), (3, vI r3), (2, vI r1), (0, vR 0), (1, vI p2)]) (st1 := [vI (remv (wr ((wr (r1 + 1)) + (andv (shrv p2 6) 1))) 3), vR 0]) (h1 := h36) (P := True ∧ True ∧ True) (by decide +kernel) rfl rfl ⟨trivial, trivial, trivial⟩ ?_
          obtain ⟨r39, h40, e41, hF⟩ := ob2_elim hF
          refine g_callV1 hK 181 8 (d1 := 6) (ci := 6) (i := 0) (vs := [vI (remv (wr ((wr (r1 + 1)) + (andv (shrv p2 6) 1))) 3)]) (rest := []) (h1 := h40) (r := vI r39) my_yX6_count vw_X9_8 (by decide) (T_X_count (p1 := (remv (wr ((wr (r1 + 1)) + (andv (shrv p2 6) 1))) 3)) (h := h36) (hF := e41)) rfl rfl rfl (Nat.le_of_ble_eq_true rfl) (by decide +kernel) ?_
          refine g_seg hK [.iload_n 3] 184 185 (L1 := [(8, vI r25), (7, vI (remv (wr ((wr (r1 + 1)) + (andv (shrv p2 6) 1))) 3)), (3, vI r3), (2, vI r1), (0, vR 0), (1, vI p2)]) (st1 := [vI r3, vI r39]) (h1 := h40) (P := True ∧ True) (by decide +kernel) rfl rfl ⟨trivial, trivial⟩ ?_
          refine g_icmp hK 185 .ne (7) 192 (t1 := 188) (t2 := 192) (by decide +kernel) (by decide) rfl rfl (fun (hc42 : r39 = r3) => ?_) (fun (hc42 : ¬ (r39 = r3)) => ?_)
          · have hF := ite_t hc42 hF
            refine g_seg hK [.iconst 1] 188 189 (L1 := [(8, vI r25), (7, vI (remv (wr ((wr (r1 + 1)) + (andv (shrv p2 6) 1))) 3)), (3, vI r3), (2, vI r1), (0, vR 0), (1, vI p2)]) (st1 := [vI 1]) (h1 := h40) (P := True ∧ True) (by decide +kernel) rfl rfl ⟨trivial, trivial⟩ ?_
            refine g_goto hK 189 (4) 193 (by decide +kernel) (by decide) ?_
            cases hF
            exact hR.2.1 193 _ _ _ (by decide +kernel) rfl (by decide) ⟨rfl, rfl⟩
          · have hF := ite_f hc42 hF
            refine g_seg hK [.iconst 0] 192 193 (L1 := [(8, vI r25), (7, vI (remv (wr ((wr (r1 + 1)) + (andv (shrv p2 6) 1))) 3)), (3, vI r3), (2, vI r1), (0, vR 0), (1, vI p2)]) (st1 := [vI 0]) (h1 := h40) (P := True ∧ True) (by decide +kernel) rfl rfl ⟨trivial, trivial⟩ ?_
            cases hF
            exact hR.2.1 193 _ _ _ (by decide +kernel) rfl (by decide) ⟨rfl, rfl⟩
        · have hF := ite_f hc38 hF
          refine g_seg hK [.iconst 0] 192 193 (L1 := [(8, vI r25), (7, vI (remv (wr ((wr (r1 + 1)) + (andv (shrv p2 6) 1))) 3)), (3, vI r3), (2, vI r1), (0, vR 0), (1, vI p2)]) (st1 := [vI 0]) (h1 := h36) (P := True ∧ True) (by decide +kernel) rfl rfl ⟨trivial, trivial⟩ ?_
          cases hF
          exact hR.2.1 193 _ _ _ (by decide +kernel) rfl (by decide) ⟨rfl, rfl⟩
      · have hF := ite_f hc34 hF
        refine g_seg hK [.iconst 0] 192 193 (L1 := [(8, vI r25), (7, vI (remv (wr ((wr (r1 + 1)) + (andv (shrv p2 6) 1))) 3)), (3, vI r3), (2, vI r1), (0, vR 0), (1, vI p2)]) (st1 := [vI 0]) (h1 := h32) (P := True ∧ True) (by decide +kernel) rfl rfl ⟨trivial, trivial⟩ ?_
        cases hF
        exact hR.2.1 193 _ _ _ (by decide +kernel) rfl (by decide) ⟨rfl, rfl⟩
    · have hF := ite_f hc24 hF
      by_cases hc43 : r6 = 2
      · have hF := ite_t hc43 hF
        rw [show swT 20 406 0 5 [40, 111, 174, 217, 217, 303] r6 = 194 from by rw [hc43]; decide]
        refine g_seg hK [.iload_n 1, .bipush 6, .ishr, .iload_n 3, .iconst 1, .iadd] 194 201 (L1 := [(3, vI r3), (2, vI r1), (0, vR 0), (1, vI p2)]) (st1 := [vI (wr (r3 + 1)), vI (shrv p2 6)]) (h1 := h4) (P := True ∧ True ∧ True ∧ True ∧ True ∧ True ∧ True) (by decide +kernel) rfl rfl ⟨trivial, trivial, trivial, trivial, trivial, trivial, trivial⟩ ?_
        obtain ⟨r44, e45, hF⟩ := ob1_elim hF
        refine g_callS1 hK 201 60 (d1 := 0) (vs := [vI (shrv p2 6), vI (wr (r3 + 1))]) (rest := []) (h1 := h4) (r := vI r44) my_yL_low sw_X9_60 (by decide) (T_L_low (p1 := (shrv p2 6)) (p2 := (wr (r3 + 1))) (h := h4) (hF := e45)) rfl (Nat.le_of_ble_eq_true rfl) (by decide +kernel) ?_
        refine g_seg hK [.istore 9, .aload_n 0, .iload_n 2, .iload 9, .bipush 20] 204 212 (L1 := [(9, vI r44), (3, vI r3), (2, vI r1), (0, vR 0), (1, vI p2)]) (st1 := [vI 20, vI r44, vI r1, vR 0]) (h1 := h4) (P := True ∧ True ∧ True ∧ True ∧ True ∧ True) (by decide +kernel) rfl rfl ⟨trivial, trivial, trivial, trivial, trivial, trivial⟩ ?_
        obtain ⟨r46, h47, e48, hF⟩ := ob2_elim hF
        refine g_callV1 hK 212 39 (d1 := 6) (ci := 6) (i := 0) (vs := [vI r1, vI r44, vI 20]) (rest := []) (h1 := h47) (r := vI r46) my_yX6_edit vw_X9_39 (by decide) (T_X_edit (p1 := r1) (p2 := r44) (p3 := 20) (h := h4) (hF := e48)) rfl rfl rfl (Nat.le_of_ble_eq_true rfl) (by decide +kernel) ?_
        refine g_seg hK [.iload 9, .iload_n 3] 215 218 (L1 := [(9, vI r44), (3, vI r3), (2, vI r1), (0, vR 0), (1, vI p2)]) (st1 := [vI r3, vI r44, vI r46]) (h1 := h47) (P := True ∧ True ∧ True) (by decide +kernel) rfl rfl ⟨trivial, trivial, trivial⟩ ?_
        obtain ⟨s49, e53, hF⟩ := jn1_elim hF
        have j50 : K 228 [] [vI s49, vI r46] h47 := by
          refine g_icmp hK 228 .ne (7) 235 (t1 := 231) (t2 := 235) (by decide +kernel) (by decide) rfl rfl (fun (hc52 : r46 = s49) => ?_) (fun (hc52 : ¬ (r46 = s49)) => ?_)
          · have hF := ite_t hc52 hF
            refine g_seg hK [.iconst 1] 231 232 (L1 := []) (st1 := [vI 1]) (h1 := h47) (P := True ∧ True) (by decide +kernel) rfl rfl ⟨trivial, trivial⟩ ?_
            refine g_goto hK 232 (4) 236 (by decide +kernel) (by decide) ?_
            cases hF
            exact hR.2.1 236 _ _ _ (by decide +kernel) rfl (by decide) ⟨rfl, rfl⟩
          · have hF := ite_f hc52 hF
            refine g_seg hK [.iconst 0] 235 236 (L1 := []) (st1 := [vI 0]) (h1 := h47) (P := True ∧ True) (by decide +kernel) rfl rfl ⟨trivial, trivial⟩ ?_
            cases hF
            exact hR.2.1 236 _ _ _ (by decide +kernel) rfl (by decide) ⟨rfl, rfl⟩
        clear hF
        have hF := e53
        refine g_icmp hK 218 .ne (7) 225 (t1 := 221) (t2 := 225) (by decide +kernel) (by decide) rfl rfl (fun (hc51 : r44 = r3) => ?_) (fun (hc51 : ¬ (r44 = r3)) => ?_)
        · have hF := ite_t hc51 hF
          refine g_seg hK [.iconst (-1)] 221 222 (L1 := [(9, vI r44), (3, vI r3), (2, vI r1), (0, vR 0), (1, vI p2)]) (st1 := [vI (-1), vI r46]) (h1 := h47) (P := True ∧ True) (by decide +kernel) rfl rfl ⟨trivial, trivial⟩ ?_
          refine g_goto hK 222 (6) 228 (by decide +kernel) (by decide) ?_
          refine hK.2.1 _ _ ([]) _ _ (sub_of [] rfl) ?_
          cases hF
          exact j50
        · have hF := ite_f hc51 hF
          refine g_seg hK [.iload_n 3, .iconst 1, .isub] 225 228 (L1 := [(9, vI r44), (3, vI r3), (2, vI r1), (0, vR 0), (1, vI p2)]) (st1 := [vI (wr (r3 - 1)), vI r46]) (h1 := h47) (P := True ∧ True ∧ True ∧ True) (by decide +kernel) rfl rfl ⟨trivial, trivial, trivial, trivial⟩ ?_
          refine hK.2.1 _ _ ([]) _ _ (sub_of [] rfl) ?_
          cases hF
          exact j50
      · have hF := ite_f hc43 hF
        by_cases hc54 : r6 = 3
        · have hF := ite_t hc54 hF
          rw [show swT 20 406 0 5 [40, 111, 174, 217, 217, 303] r6 = 237 from by rw [hc54]; decide]
          refine g_seg hK [.iload_n 1, .bipush 6, .ishr, .iload_n 3, .iconst 1, .iadd] 237 244 (L1 := [(3, vI r3), (2, vI r1), (0, vR 0), (1, vI p2)]) (st1 := [vI (wr (r3 + 1)), vI (shrv p2 6)]) (h1 := h4) (P := True ∧ True ∧ True ∧ True ∧ True ∧ True ∧ True) (by decide +kernel) rfl rfl ⟨trivial, trivial, trivial, trivial, trivial, trivial, trivial⟩ ?_
          obtain ⟨r55, e56, hF⟩ := ob1_elim hF
          refine g_callS1 hK 244 60 (d1 := 0) (vs := [vI (shrv p2 6), vI (wr (r3 + 1))]) (rest := []) (h1 := h4) (r := vI r55) my_yL_low sw_X9_60 (by decide) (T_L_low (p1 := (shrv p2 6)) (p2 := (wr (r3 + 1))) (h := h4) (hF := e56)) rfl (Nat.le_of_ble_eq_true rfl) (by decide +kernel) ?_
          refine g_seg hK [.istore 10, .iload_n 1, .bipush 10, .ishr, .iload_n 1, .bipush 14, .ishr, .iconst 1, .iand] 247 259 (L1 := [(10, vI r55), (3, vI r3), (2, vI r1), (0, vR 0), (1, vI p2)]) (st1 := [vI (andv (shrv p2 14) 1), vI (shrv p2 10)]) (h1 := h4) (P := True ∧ True ∧ True ∧ True ∧ True ∧ True ∧ True ∧ True ∧ True ∧ True) (by decide +kernel) rfl rfl ⟨trivial, trivial, trivial, trivial, trivial, trivial, trivial, trivial, trivial, trivial⟩ ?_
          obtain ⟨s57, e72, hF⟩ := jn1_elim hF
          have j58 : K 268 [(0, vR 0), (2, vI r1), (3, vI r3), (10, vI r55)] [vI s57, vI (shrv p2 10)] h4 := by
            obtain ⟨r60, e61, hF⟩ := ob1_elim hF
            refine g_callS1 hK 268 60 (d1 := 0) (vs := [vI (shrv p2 10), vI s57]) (rest := []) (h1 := h4) (r := vI r60) my_yL_low sw_X9_60 (by decide) (T_L_low (p1 := (shrv p2 10)) (p2 := s57) (h := h4) (hF := e61)) rfl (Nat.le_of_ble_eq_true rfl) (by decide +kernel) ?_
            refine g_seg hK [.istore 11, .aload_n 0, .iload_n 2, .iload 10, .bipush 10, .iload 11, .iadd] 271 282 (L1 := [(11, vI r60), (0, vR 0), (2, vI r1), (3, vI r3), (10, vI r55)]) (st1 := [vI (wr (10 + r60)), vI r55, vI r1, vR 0]) (h1 := h4) (P := True ∧ True ∧ True ∧ True ∧ True ∧ True ∧ True ∧ True) (by decide +kernel) rfl rfl ⟨trivial, trivial, trivial, trivial, trivial, trivial, trivial, trivial⟩ ?_
            obtain ⟨r62, h63, e64, hF⟩ := ob2_elim hF
            refine g_callV1 hK 282 39 (d1 := 6) (ci := 6) (i := 0) (vs := [vI r1, vI r55, vI (wr (10 + r60))]) (rest := []) (h1 := h63) (r := vI r62) my_yX6_edit vw_X9_39 (by decide) (T_X_edit (p1 := r1) (p2 := r55) (p3 := (wr (10 + r60))) (h := h4) (hF := e64)) rfl rfl rfl (Nat.le_of_ble_eq_true rfl) (by decide +kernel) ?_
            refine g_seg hK [.iload 10, .iload_n 3] 285 288 (L1 := [(11, vI r60), (0, vR 0), (2, vI r1), (3, vI r3), (10, vI r55)]) (st1 := [vI r3, vI r55, vI r62]) (h1 := h63) (P := True ∧ True ∧ True) (by decide +kernel) rfl rfl ⟨trivial, trivial, trivial⟩ ?_
            obtain ⟨s65, e71, hF⟩ := jn1_elim hF
            have j66 : K 296 [(0, vR 0), (2, vI r1), (3, vI r3), (10, vI r55), (11, vI r60)] [vI s65, vI r62] h63 := by
              refine g_icmp hK 296 .ne (25) 321 (t1 := 299) (t2 := 321) (by decide +kernel) (by decide) rfl rfl (fun (hc68 : r62 = s65) => ?_) (fun (hc68 : ¬ (r62 = s65)) => ?_)
              · have hF := ite_t hc68 hF
                refine g_seg hK [.iload 10, .iload_n 3] 299 302 (L1 := [(0, vR 0), (2, vI r1), (3, vI r3), (10, vI r55), (11, vI r60)]) (st1 := [vI r3, vI r55]) (h1 := h63) (P := True ∧ True ∧ True) (by decide +kernel) rfl rfl ⟨trivial, trivial, trivial⟩ ?_
                refine g_icmp hK 302 .eq (15) 317 (t1 := 317) (t2 := 305) (by decide +kernel) (by decide) rfl rfl (fun (hc69 : r55 = r3) => ?_) (fun (hc69 : ¬ (r55 = r3)) => ?_)
                · have hF := ite_t hc69 hF
                  refine g_seg hK [.iconst 1] 317 318 (L1 := [(0, vR 0), (2, vI r1), (3, vI r3), (10, vI r55), (11, vI r60)]) (st1 := [vI 1]) (h1 := h63) (P := True ∧ True) (by decide +kernel) rfl rfl ⟨trivial, trivial⟩ ?_
                  refine g_goto hK 318 (4) 322 (by decide +kernel) (by decide) ?_
                  cases hF
                  exact hR.2.1 322 _ _ _ (by decide +kernel) rfl (by decide) ⟨rfl, rfl⟩
                · have hF := ite_f hc69 hF
                  refine g_seg hK [.aload_n 0, .iload_n 2, .iload 10] 305 309 (L1 := [(0, vR 0), (2, vI r1), (3, vI r3), (10, vI r55), (11, vI r60)]) (st1 := [vI r55, vI r1, vR 0]) (h1 := h63) (P := True ∧ True ∧ True ∧ True) (by decide +kernel) rfl rfl ⟨trivial, trivial, trivial, trivial⟩ ?_
                  refine g_callV1 hK 309 18 (d1 := 1) (ci := 6) (i := 0) (vs := [vI r1, vI r55]) (rest := []) (h1 := h63) (r := vI (F_X_line r1 r55 h63)) my_yX6_line vw_X9_18 (by decide) (T_X_line (p1 := r1) (p2 := r55) (h := h63) (hF := rfl)) rfl rfl rfl (Nat.le_of_ble_eq_true rfl) (by decide +kernel) ?_
                  refine g_seg hK [.iload 11] 312 314 (L1 := [(0, vR 0), (2, vI r1), (3, vI r3), (10, vI r55), (11, vI r60)]) (st1 := [vI r60, vI (F_X_line r1 r55 h63)]) (h1 := h63) (P := True ∧ True) (by decide +kernel) rfl rfl ⟨trivial, trivial⟩ ?_
                  refine g_icmp hK 314 .ne (7) 321 (t1 := 317) (t2 := 321) (by decide +kernel) (by decide) rfl rfl (fun (hc70 : F_X_line r1 r55 h63 = r60) => ?_) (fun (hc70 : ¬ (F_X_line r1 r55 h63 = r60)) => ?_)
                  · have hF := ite_t hc70 hF
                    refine g_seg hK [.iconst 1] 317 318 (L1 := [(0, vR 0), (2, vI r1), (3, vI r3), (10, vI r55), (11, vI r60)]) (st1 := [vI 1]) (h1 := h63) (P := True ∧ True) (by decide +kernel) rfl rfl ⟨trivial, trivial⟩ ?_
                    refine g_goto hK 318 (4) 322 (by decide +kernel) (by decide) ?_
                    cases hF
                    exact hR.2.1 322 _ _ _ (by decide +kernel) rfl (by decide) ⟨rfl, rfl⟩
                  · have hF := ite_f hc70 hF
                    refine g_seg hK [.iconst 0] 321 322 (L1 := [(0, vR 0), (2, vI r1), (3, vI r3), (10, vI r55), (11, vI r60)]) (st1 := [vI 0]) (h1 := h63) (P := True ∧ True) (by decide +kernel) rfl rfl ⟨trivial, trivial⟩ ?_
                    cases hF
                    exact hR.2.1 322 _ _ _ (by decide +kernel) rfl (by decide) ⟨rfl, rfl⟩
              · have hF := ite_f hc68 hF
                refine g_seg hK [.iconst 0] 321 322 (L1 := [(0, vR 0), (2, vI r1), (3, vI r3), (10, vI r55), (11, vI r60)]) (st1 := [vI 0]) (h1 := h63) (P := True ∧ True) (by decide +kernel) rfl rfl ⟨trivial, trivial⟩ ?_
                cases hF
                exact hR.2.1 322 _ _ _ (by decide +kernel) rfl (by decide) ⟨rfl, rfl⟩
            clear hF
            have hF := e71
            refine g_icmp hK 288 .ne (7) 295 (t1 := 291) (t2 := 295) (by decide +kernel) (by decide) rfl rfl (fun (hc67 : r55 = r3) => ?_) (fun (hc67 : ¬ (r55 = r3)) => ?_)
            · have hF := ite_t hc67 hF
              refine g_seg hK [.iconst (-1)] 291 292 (L1 := [(11, vI r60), (0, vR 0), (2, vI r1), (3, vI r3), (10, vI r55)]) (st1 := [vI (-1), vI r62]) (h1 := h63) (P := True ∧ True) (by decide +kernel) rfl rfl ⟨trivial, trivial⟩ ?_
              refine g_goto hK 292 (4) 296 (by decide +kernel) (by decide) ?_
              refine hK.2.1 _ _ ([(0, vR 0), (2, vI r1), (3, vI r3), (10, vI r55), (11, vI r60)]) _ _ (sub_of [1, 2, 3, 4, 0] rfl) ?_
              cases hF
              exact j66
            · have hF := ite_f hc67 hF
              refine g_seg hK [.iload_n 3] 295 296 (L1 := [(11, vI r60), (0, vR 0), (2, vI r1), (3, vI r3), (10, vI r55)]) (st1 := [vI r3, vI r62]) (h1 := h63) (P := True ∧ True) (by decide +kernel) rfl rfl ⟨trivial, trivial⟩ ?_
              refine hK.2.1 _ _ ([(0, vR 0), (2, vI r1), (3, vI r3), (10, vI r55), (11, vI r60)]) _ _ (sub_of [1, 2, 3, 4, 0] rfl) ?_
              cases hF
              exact j66
          clear hF
          have hF := e72
          refine g_ifz hK 259 .ne (8) 267 (t1 := 262) (t2 := 267) (by decide +kernel) (by decide) rfl rfl (fun (hc59 : andv (shrv p2 14) 1 = 0) => ?_) (fun (hc59 : ¬ (andv (shrv p2 14) 1 = 0)) => ?_)
          · have hF := ite_t hc59 hF
            refine g_seg hK [.bipush 9] 262 264 (L1 := [(10, vI r55), (3, vI r3), (2, vI r1), (0, vR 0), (1, vI p2)]) (st1 := [vI 9, vI (shrv p2 10)]) (h1 := h4) (P := True ∧ True) (by decide +kernel) rfl rfl ⟨trivial, trivial⟩ ?_
            refine g_goto hK 264 (4) 268 (by decide +kernel) (by decide) ?_
            refine hK.2.1 _ _ ([(0, vR 0), (2, vI r1), (3, vI r3), (10, vI r55)]) _ _ (sub_of [3, 2, 1, 0] rfl) ?_
            cases hF
            exact j58
          · have hF := ite_f hc59 hF
            refine g_seg hK [.iconst 3] 267 268 (L1 := [(10, vI r55), (3, vI r3), (2, vI r1), (0, vR 0), (1, vI p2)]) (st1 := [vI 3, vI (shrv p2 10)]) (h1 := h4) (P := True ∧ True) (by decide +kernel) rfl rfl ⟨trivial, trivial⟩ ?_
            refine hK.2.1 _ _ ([(0, vR 0), (2, vI r1), (3, vI r3), (10, vI r55)]) _ _ (sub_of [3, 2, 1, 0] rfl) ?_
            cases hF
            exact j58
        · have hF := ite_f hc54 hF
          by_cases hc73 : r6 = 4
          · have hF := ite_t hc73 hF
            rw [show swT 20 406 0 5 [40, 111, 174, 217, 217, 303] r6 = 237 from by rw [hc73]; decide]
            refine g_seg hK [.iload_n 1, .bipush 6, .ishr, .iload_n 3, .iconst 1, .iadd] 237 244 (L1 := [(3, vI r3), (2, vI r1), (0, vR 0), (1, vI p2)]) (st1 := [vI (wr (r3 + 1)), vI (shrv p2 6)]) (h1 := h4) (P := True ∧ True ∧ True ∧ True ∧ True ∧ True ∧ True) (by decide +kernel) rfl rfl ⟨trivial, trivial, trivial, trivial, trivial, trivial, trivial⟩ ?_
            obtain ⟨r74, e75, hF⟩ := ob1_elim hF
            refine g_callS1 hK 244 60 (d1 := 0) (vs := [vI (shrv p2 6), vI (wr (r3 + 1))]) (rest := []) (h1 := h4) (r := vI r74) my_yL_low sw_X9_60 (by decide) (T_L_low (p1 := (shrv p2 6)) (p2 := (wr (r3 + 1))) (h := h4) (hF := e75)) rfl (Nat.le_of_ble_eq_true rfl) (by decide +kernel) ?_
            refine g_seg hK [.istore 10, .iload_n 1, .bipush 10, .ishr, .iload_n 1, .bipush 14, .ishr, .iconst 1, .iand] 247 259 (L1 := [(10, vI r74), (3, vI r3), (2, vI r1), (0, vR 0), (1, vI p2)]) (st1 := [vI (andv (shrv p2 14) 1), vI (shrv p2 10)]) (h1 := h4) (P := True ∧ True ∧ True ∧ True ∧ True ∧ True ∧ True ∧ True ∧ True ∧ True) (by decide +kernel) rfl rfl ⟨trivial, trivial, trivial, trivial, trivial, trivial, trivial, trivial, trivial, trivial⟩ ?_
            obtain ⟨s76, e91, hF⟩ := jn1_elim hF
            have j77 : K 268 [(0, vR 0), (2, vI r1), (3, vI r3), (10, vI r74)] [vI s76, vI (shrv p2 10)] h4 := by
              obtain ⟨r79, e80, hF⟩ := ob1_elim hF
              refine g_callS1 hK 268 60 (d1 := 0) (vs := [vI (shrv p2 10), vI s76]) (rest := []) (h1 := h4) (r := vI r79) my_yL_low sw_X9_60 (by decide) (T_L_low (p1 := (shrv p2 10)) (p2 := s76) (h := h4) (hF := e80)) rfl (Nat.le_of_ble_eq_true rfl) (by decide +kernel) ?_
              refine g_seg hK [.istore 11, .aload_n 0, .iload_n 2, .iload 10, .bipush 10, .iload 11, .iadd] 271 282 (L1 := [(11, vI r79), (0, vR 0), (2, vI r1), (3, vI r3), (10, vI r74)]) (st1 := [vI (wr (10 + r79)), vI r74, vI r1, vR 0]) (h1 := h4) (P := True ∧ True ∧ True ∧ True ∧ True ∧ True ∧ True ∧ True) (by decide +kernel) rfl rfl ⟨trivial, trivial, trivial, trivial, trivial, trivial, trivial, trivial⟩ ?_
              obtain ⟨r81, h82, e83, hF⟩ := ob2_elim hF
              refine g_callV1 hK 282 39 (d1 := 6) (ci := 6) (i := 0) (vs := [vI r1, vI r74, vI (wr (10 + r79))]) (rest := []) (h1 := h82) (r := vI r81) my_yX6_edit vw_X9_39 (by decide) (T_X_edit (p1 := r1) (p2 := r74) (p3 := (wr (10 + r79))) (h := h4) (hF := e83)) rfl rfl rfl (Nat.le_of_ble_eq_true rfl) (by decide +kernel) ?_
              refine g_seg hK [.iload 10, .iload_n 3] 285 288 (L1 := [(11, vI r79), (0, vR 0), (2, vI r1), (3, vI r3), (10, vI r74)]) (st1 := [vI r3, vI r74, vI r81]) (h1 := h82) (P := True ∧ True ∧ True) (by decide +kernel) rfl rfl ⟨trivial, trivial, trivial⟩ ?_
              obtain ⟨s84, e90, hF⟩ := jn1_elim hF
              have j85 : K 296 [(0, vR 0), (2, vI r1), (3, vI r3), (10, vI r74), (11, vI r79)] [vI s84, vI r81] h82 := by
                refine g_icmp hK 296 .ne (25) 321 (t1 := 299) (t2 := 321) (by decide +kernel) (by decide) rfl rfl (fun (hc87 : r81 = s84) => ?_) (fun (hc87 : ¬ (r81 = s84)) => ?_)
                · have hF := ite_t hc87 hF
                  refine g_seg hK [.iload 10, .iload_n 3] 299 302 (L1 := [(0, vR 0), (2, vI r1), (3, vI r3), (10, vI r74), (11, vI r79)]) (st1 := [vI r3, vI r74]) (h1 := h82) (P := True ∧ True ∧ True) (by decide +kernel) rfl rfl ⟨trivial, trivial, trivial⟩ ?_
                  refine g_icmp hK 302 .eq (15) 317 (t1 := 317) (t2 := 305) (by decide +kernel) (by decide) rfl rfl (fun (hc88 : r74 = r3) => ?_) (fun (hc88 : ¬ (r74 = r3)) => ?_)
                  · have hF := ite_t hc88 hF
                    refine g_seg hK [.iconst 1] 317 318 (L1 := [(0, vR 0), (2, vI r1), (3, vI r3), (10, vI r74), (11, vI r79)]) (st1 := [vI 1]) (h1 := h82) (P := True ∧ True) (by decide +kernel) rfl rfl ⟨trivial, trivial⟩ ?_
                    refine g_goto hK 318 (4) 322 (by decide +kernel) (by decide) ?_
                    cases hF
                    exact hR.2.1 322 _ _ _ (by decide +kernel) rfl (by decide) ⟨rfl, rfl⟩
                  · have hF := ite_f hc88 hF
                    refine g_seg hK [.aload_n 0, .iload_n 2, .iload 10] 305 309 (L1 := [(0, vR 0), (2, vI r1), (3, vI r3), (10, vI r74), (11, vI r79)]) (st1 := [vI r74, vI r1, vR 0]) (h1 := h82) (P := True ∧ True ∧ True ∧ True) (by decide +kernel) rfl rfl ⟨trivial, trivial, trivial, trivial⟩ ?_
                    refine g_callV1 hK 309 18 (d1 := 1) (ci := 6) (i := 0) (vs := [vI r1, vI r74]) (rest := []) (h1 := h82) (r := vI (F_X_line r1 r74 h82)) my_yX6_line vw_X9_18 (by decide) (T_X_line (p1 := r1) (p2 := r74) (h := h82) (hF := rfl)) rfl rfl rfl (Nat.le_of_ble_eq_true rfl) (by decide +kernel) ?_
                    refine g_seg hK [.iload 11] 312 314 (L1 := [(0, vR 0), (2, vI r1), (3, vI r3), (10, vI r74), (11, vI r79)]) (st1 := [vI r79, vI (F_X_line r1 r74 h82)]) (h1 := h82) (P := True ∧ True) (by decide +kernel) rfl rfl ⟨trivial, trivial⟩ ?_
                    refine g_icmp hK 314 .ne (7) 321 (t1 := 317) (t2 := 321) (by decide +kernel) (by decide) rfl rfl (fun (hc89 : F_X_line r1 r74 h82 = r79) => ?_) (fun (hc89 : ¬ (F_X_line r1 r74 h82 = r79)) => ?_)
                    · have hF := ite_t hc89 hF
                      refine g_seg hK [.iconst 1] 317 318 (L1 := [(0, vR 0), (2, vI r1), (3, vI r3), (10, vI r74), (11, vI r79)]) (st1 := [vI 1]) (h1 := h82) (P := True ∧ True) (by decide +kernel) rfl rfl ⟨trivial, trivial⟩ ?_
                      refine g_goto hK 318 (4) 322 (by decide +kernel) (by decide) ?_
                      cases hF
                      exact hR.2.1 322 _ _ _ (by decide +kernel) rfl (by decide) ⟨rfl, rfl⟩
                    · have hF := ite_f hc89 hF
                      refine g_seg hK [.iconst 0] 321 322 (L1 := [(0, vR 0), (2, vI r1), (3, vI r3), (10, vI r74), (11, vI r79)]) (st1 := [vI 0]) (h1 := h82) (P := True ∧ True) (by decide +kernel) rfl rfl ⟨trivial, trivial⟩ ?_
                      cases hF
                      exact hR.2.1 322 _ _ _ (by decide +kernel) rfl (by decide) ⟨rfl, rfl⟩
                · have hF := ite_f hc87 hF
                  refine g_seg hK [.iconst 0] 321 322 (L1 := [(0, vR 0), (2, vI r1), (3, vI r3), (10, vI r74), (11, vI r79)]) (st1 := [vI 0]) (h1 := h82) (P := True ∧ True) (by decide +kernel) rfl rfl ⟨trivial, trivial⟩ ?_
                  cases hF
                  exact hR.2.1 322 _ _ _ (by decide +kernel) rfl (by decide) ⟨rfl, rfl⟩
              clear hF
              have hF := e90
              refine g_icmp hK 288 .ne (7) 295 (t1 := 291) (t2 := 295) (by decide +kernel) (by decide) rfl rfl (fun (hc86 : r74 = r3) => ?_) (fun (hc86 : ¬ (r74 = r3)) => ?_)
              · have hF := ite_t hc86 hF
                refine g_seg hK [.iconst (-1)] 291 292 (L1 := [(11, vI r79), (0, vR 0), (2, vI r1), (3, vI r3), (10, vI r74)]) (st1 := [vI (-1), vI r81]) (h1 := h82) (P := True ∧ True) (by decide +kernel) rfl rfl ⟨trivial, trivial⟩ ?_
                refine g_goto hK 292 (4) 296 (by decide +kernel) (by decide) ?_
                refine hK.2.1 _ _ ([(0, vR 0), (2, vI r1), (3, vI r3), (10, vI r74), (11, vI r79)]) _ _ (sub_of [1, 2, 3, 4, 0] rfl) ?_
                cases hF
                exact j85
              · have hF := ite_f hc86 hF
                refine g_seg hK [.iload_n 3] 295 296 (L1 := [(11, vI r79), (0, vR 0), (2, vI r1), (3, vI r3), (10, vI r74)]) (st1 := [vI r3, vI r81]) (h1 := h82) (P := True ∧ True) (by decide +kernel) rfl rfl ⟨trivial, trivial⟩ ?_
                refine hK.2.1 _ _ ([(0, vR 0), (2, vI r1), (3, vI r3), (10, vI r74), (11, vI r79)]) _ _ (sub_of [1, 2, 3, 4, 0] rfl) ?_
                cases hF
                exact j85
            clear hF
            have hF := e91
            refine g_ifz hK 259 .ne (8) 267 (t1 := 262) (t2 := 267) (by decide +kernel) (by decide) rfl rfl (fun (hc78 : andv (shrv p2 14) 1 = 0) => ?_) (fun (hc78 : ¬ (andv (shrv p2 14) 1 = 0)) => ?_)
            · have hF := ite_t hc78 hF
              refine g_seg hK [.bipush 9] 262 264 (L1 := [(10, vI r74), (3, vI r3), (2, vI r1), (0, vR 0), (1, vI p2)]) (st1 := [vI 9, vI (shrv p2 10)]) (h1 := h4) (P := True ∧ True) (by decide +kernel) rfl rfl ⟨trivial, trivial⟩ ?_
              refine g_goto hK 264 (4) 268 (by decide +kernel) (by decide) ?_
              refine hK.2.1 _ _ ([(0, vR 0), (2, vI r1), (3, vI r3), (10, vI r74)]) _ _ (sub_of [3, 2, 1, 0] rfl) ?_
              cases hF
              exact j77
            · have hF := ite_f hc78 hF
              refine g_seg hK [.iconst 3] 267 268 (L1 := [(10, vI r74), (3, vI r3), (2, vI r1), (0, vR 0), (1, vI p2)]) (st1 := [vI 3, vI (shrv p2 10)]) (h1 := h4) (P := True ∧ True) (by decide +kernel) rfl rfl ⟨trivial, trivial⟩ ?_
              refine hK.2.1 _ _ ([(0, vR 0), (2, vI r1), (3, vI r3), (10, vI r74)]) _ _ (sub_of [3, 2, 1, 0] rfl) ?_
              cases hF
              exact j77
          · have hF := ite_f hc73 hF
            by_cases hc92 : r6 = 5
            · have hF := ite_t hc92 hF
              rw [show swT 20 406 0 5 [40, 111, 174, 217, 217, 303] r6 = 323 from by rw [hc92]; decide]
              refine g_seg hK [.aload_n 0, .bipush 7] 323 326 (L1 := [(3, vI r3), (2, vI r1), (0, vR 0), (1, vI p2)]) (st1 := [vI 7, vR 0]) (h1 := h4) (P := True ∧ True ∧ True) (by decide +kernel) rfl rfl ⟨trivial, trivial, trivial⟩ ?_
              obtain ⟨r93, h94, e95, hF⟩ := ob2_elim hF
              refine g_callV1 hK 326 8 (d1 := 6) (ci := 6) (i := 0) (vs := [vI 7]) (rest := []) (h1 := h94) (r := vI r93) my_yX6_count vw_X9_8 (by decide) (T_X_count (p1 := 7) (h := h4) (hF := e95)) rfl rfl rfl (Nat.le_of_ble_eq_true rfl) (by decide +kernel) ?_
              refine g_seg hK [.istore 12, .aload_n 0, .bipush 12] 329 334 (L1 := [(12, vI r93), (3, vI r3), (2, vI r1), (0, vR 0), (1, vI p2)]) (st1 := [vI 12, vR 0]) (h1 := h94) (P := True ∧ True ∧ True ∧ True) (by decide +kernel) rfl rfl ⟨trivial, trivial, trivial, trivial⟩ ?_
              obtain ⟨r96, h97, e98, hF⟩ := ob2_elim hF
              refine g_callV1 hK 334 8 (d1 := 6) (ci := 6) (i := 0) (vs := [vI 12]) (rest := []) (h1 := h97) (r := vI r96) my_yX6_count vw_X9_8 (by decide) (T_X_count (p1 := 12) (h := h94) (hF := e98)) rfl rfl rfl (Nat.le_of_ble_eq_true rfl) (by decide +kernel) ?_
              refine g_seg hK [.istore 13, .aload_n 0, .bipush 13] 337 342 (L1 := [(13, vI r96), (12, vI r93), (3, vI r3), (2, vI r1), (0, vR 0), (1, vI p2)]) (st1 := [vI 13, vR 0]) (h1 := h97) (P := True ∧ True ∧ True ∧ True) (by decide +kernel) rfl rfl ⟨trivial, trivial, trivial, trivial⟩ ?_
              obtain ⟨r99, h100, e101, hF⟩ := ob2_elim hF
              refine g_callV1 hK 342 8 (d1 := 6) (ci := 6) (i := 0) (vs := [vI 13]) (rest := []) (h1 := h100) (r := vI r99) my_yX6_count vw_X9_8 (by decide) (T_X_count (p1 := 13) (h := h97) (hF := e101)) rfl rfl rfl (Nat.le_of_ble_eq_true rfl) (by decide +kernel) ?_
              refine g_seg hK [.istore 14, .aload_n 0, .iload_n 1, .iconst 4, .ishr, .iconst 1, .iand, .iconst 1] 345 354 (L1 := [(14, vI r99), (13, vI r96), (12, vI r93), (3, vI r3), (2, vI r1), (0, vR 0), (1, vI p2)]) (st1 := [vI 1, vI (andv (shrv p2 4) 1), vR 0]) (h1 := h100) (P := True ∧ True ∧ True ∧ True ∧ True ∧ True ∧ True ∧ True ∧ True) (by decide +kernel) rfl rfl ⟨trivial, trivial, trivial, trivial, trivial, trivial, trivial, trivial, trivial⟩ ?_
              obtain ⟨s102, e122, hF⟩ := jn1_elim hF
              have j103 : K 362 [(0, vR 0), (12, vI r93), (13, vI r96), (14, vI r99)] [vI s102, vR 0] h100 := by
                obtain ⟨r105, h106, e107, hF⟩ := ob2_elim hF
                refine g_callV1 hK 362 47 (d1 := 6) (ci := 6) (i := 0) (vs := [vI s102]) (rest := []) (h1 := h106) (r := vI r105) my_yX6_lay vw_X9_47 (by decide) (T_X_lay (p1 := s102) (h := h100) (hF := e107)) rfl rfl rfl (Nat.le_of_ble_eq_true rfl) (by decide +kernel) ?_
                refine g_seg hK [.istore 15, .iload 15, .bipush (-3)] 365 371 (L1 := [(15, vI r105), (0, vR 0), (12, vI r93), (13, vI r96), (14, vI r99)]) (st1 := [vI (-3), vI r105]) (h1 := h106) (P := True ∧ True ∧ True ∧ True) (by decide +kernel) rfl rfl ⟨trivial, trivial, trivial, trivial⟩ ?_
                refine g_icmp hK 371 .eq (49) 420 (t1 := 420) (t2 := 374) (by decide +kernel) (by decide) rfl rfl (fun (hc108 : r105 = (-3)) => ?_) (fun (hc108 : ¬ (r105 = (-3))) => ?_)
                · have hF := ite_t hc108 hF
                  refine g_seg hK [.iconst 1] 420 421 (L1 := [(15, vI r105), (0, vR 0), (12, vI r93), (13, vI r96), (14, vI r99)]) (st1 := [vI 1]) (h1 := h106) (P := True ∧ True) (by decide +kernel) rfl rfl ⟨trivial, trivial⟩ ?_
                  refine g_goto hK 421 (4) 425 (by decide +kernel) (by decide) ?_
                  cases hF
                  exact hR.2.1 425 _ _ _ (by decide +kernel) rfl (by decide) ⟨rfl, rfl⟩
                · have hF := ite_f hc108 hF
                  refine g_seg hK [.iload 15] 374 376 (L1 := [(15, vI r105), (0, vR 0), (12, vI r93), (13, vI r96), (14, vI r99)]) (st1 := [vI r105]) (h1 := h106) (P := True ∧ True) (by decide +kernel) rfl rfl ⟨trivial, trivial⟩ ?_
                  refine g_ifz hK 376 .lt (48) 424 (t1 := 424) (t2 := 379) (by decide +kernel) (by decide) rfl rfl (fun (hc109 : r105 < 0) => ?_) (fun (hc109 : ¬ (r105 < 0)) => ?_)
                  · have hF := ite_t hc109 hF
                    refine g_seg hK [.iconst 0] 424 425 (L1 := [(15, vI r105), (0, vR 0), (12, vI r93), (13, vI r96), (14, vI r99)]) (st1 := [vI 0]) (h1 := h106) (P := True ∧ True) (by decide +kernel) rfl rfl ⟨trivial, trivial⟩ ?_
                    cases hF
                    exact hR.2.1 425 _ _ _ (by decide +kernel) rfl (by decide) ⟨rfl, rfl⟩
                  · have hF := ite_f hc109 hF
                    refine g_seg hK [.aload_n 0, .bipush 12] 379 382 (L1 := [(15, vI r105), (0, vR 0), (12, vI r93), (13, vI r96), (14, vI r99)]) (st1 := [vI 12, vR 0]) (h1 := h106) (P := True ∧ True ∧ True) (by decide +kernel) rfl rfl ⟨trivial, trivial, trivial⟩ ?_
                    obtain ⟨r110, h111, e112, hF⟩ := ob2_elim hF
                    refine g_callV1 hK 382 8 (d1 := 6) (ci := 6) (i := 0) (vs := [vI 12]) (rest := []) (h1 := h111) (r := vI r110) my_yX6_count vw_X9_8 (by decide) (T_X_count (p1 := 12) (h := h106) (hF := e112)) rfl rfl rfl (Nat.le_of_ble_eq_true rfl) (by decide +kernel) ?_
                    refine g_seg hK [.iload 13, .iload 15, .iadd] 385 390 (L1 := [(15, vI r105), (0, vR 0), (12, vI r93), (13, vI r96), (14, vI r99)]) (st1 := [vI (wr (r96 + r105)), vI r110]) (h1 := h111) (P := True ∧ True ∧ True ∧ True) (by decide +kernel) rfl rfl ⟨trivial, trivial, trivial, trivial⟩ ?_
                    refine g_icmp hK 390 .ne (34) 424 (t1 := 393) (t2 := 424) (by decide +kernel) (by decide) rfl rfl (fun (hc113 : r110 = wr (r96 + r105)) => ?_) (fun (hc113 : ¬ (r110 = wr (r96 + r105))) => ?_)
                    · have hF := ite_t hc113 hF
                      refine g_seg hK [.aload_n 0, .bipush 13] 393 396 (L1 := [(15, vI r105), (0, vR 0), (12, vI r93), (13, vI r96), (14, vI r99)]) (st1 := [vI 13, vR 0]) (h1 := h111) (P := True ∧ True ∧ True) (by decide +kernel) rfl rfl ⟨trivial, trivial, trivial⟩ ?_
                      obtain ⟨r114, h115, e116, hF⟩ := ob2_elim hF
                      refine g_callV1 hK 396 8 (d1 := 6) (ci := 6) (i := 0) (vs := [vI 13]) (rest := []) (h1 := h115) (r := vI r114) my_yX6_count vw_X9_8 (by decide) (T_X_count (p1 := 13) (h := h111) (hF := e116)) rfl rfl rfl (Nat.le_of_ble_eq_true rfl) (by decide +kernel) ?_
                      refine g_seg hK [.iload 14, .iload 12, .iadd, .iload 15, .isub] 399 407 (L1 := [(15, vI r105), (0, vR 0), (12, vI r93), (13, vI r96), (14, vI r99)]) (st1 := [vI (wr ((wr (r99 + r93)) - r105)), vI r114]) (h1 := h115) (P := True ∧ True ∧ True ∧ True ∧ True ∧ True) (by decide +kernel) rfl rfl ⟨trivial, trivial, trivial, trivial, trivial, trivial⟩ ?_
                      refine g_icmp hK 407 .ne (17) 424 (t1 := 410) (t2 := 424) (by decide +kernel) (by decide) rfl rfl (fun (hc117 : r114 = wr ((wr (r99 + r93)) - r105)) => ?_) (fun (hc117 : ¬ (r114 = wr ((wr (r99 + r93)) - r105))) => ?_)
                      · have hF := ite_t hc117 hF
                        refine g_seg hK [.aload_n 0, .iconst 2] 410 412 (L1 := [(15, vI r105), (0, vR 0), (12, vI r93), (13, vI r96), (14, vI r99)]) (st1 := [vI 2, vR 0]) (h1 := h115) (P := True ∧ True ∧ True) (by decide +kernel) rfl rfl ⟨trivial, trivial, trivial⟩ ?_
                        obtain ⟨r118, h119, e120, hF⟩ := ob2_elim hF
                        refine g_callV1 hK 412 8 (d1 := 6) (ci := 6) (i := 0) (vs := [vI 2]) (rest := []) (h1 := h119) (r := vI r118) my_yX6_count vw_X9_8 (by decide) (T_X_count (p1 := 2) (h := h115) (hF := e120)) rfl rfl rfl (Nat.le_of_ble_eq_true rfl) (by decide +kernel) ?_
                        refine g_seg hK [.bipush 15] 415 417 (L1 := [(15, vI r105), (0, vR 0), (12, vI r93), (13, vI r96), (14, vI r99)]) (st1 := [vI 15, vI r118]) (h1 := h119) (P := True ∧ True) (by decide +kernel) rfl rfl ⟨trivial, trivial⟩ ?_
                        refine g_icmp hK 417 .ge (7) 424 (t1 := 420) (t2 := 424) (by decide +kernel) (by decide) rfl rfl (fun (hc121 : r118 < 15) => ?_) (fun (hc121 : ¬ (r118 < 15)) => ?_)
                        · have hF := ite_t hc121 hF
                          refine g_seg hK [.iconst 1] 420 421 (L1 := [(15, vI r105), (0, vR 0), (12, vI r93), (13, vI r96), (14, vI r99)]) (st1 := [vI 1]) (h1 := h119) (P := True ∧ True) (by decide +kernel) rfl rfl ⟨trivial, trivial⟩ ?_
                          refine g_goto hK 421 (4) 425 (by decide +kernel) (by decide) ?_
                          cases hF
                          exact hR.2.1 425 _ _ _ (by decide +kernel) rfl (by decide) ⟨rfl, rfl⟩
                        · have hF := ite_f hc121 hF
                          refine g_seg hK [.iconst 0] 424 425 (L1 := [(15, vI r105), (0, vR 0), (12, vI r93), (13, vI r96), (14, vI r99)]) (st1 := [vI 0]) (h1 := h119) (P := True ∧ True) (by decide +kernel) rfl rfl ⟨trivial, trivial⟩ ?_
                          cases hF
                          exact hR.2.1 425 _ _ _ (by decide +kernel) rfl (by decide) ⟨rfl, rfl⟩
                      · have hF := ite_f hc117 hF
                        refine g_seg hK [.iconst 0] 424 425 (L1 := [(15, vI r105), (0, vR 0), (12, vI r93), (13, vI r96), (14, vI r99)]) (st1 := [vI 0]) (h1 := h115) (P := True ∧ True) (by decide +kernel) rfl rfl ⟨trivial, trivial⟩ ?_
                        cases hF
                        exact hR.2.1 425 _ _ _ (by decide +kernel) rfl (by decide) ⟨rfl, rfl⟩
                    · have hF := ite_f hc113 hF
                      refine g_seg hK [.iconst 0] 424 425 (L1 := [(15, vI r105), (0, vR 0), (12, vI r93), (13, vI r96), (14, vI r99)]) (st1 := [vI 0]) (h1 := h111) (P := True ∧ True) (by decide +kernel) rfl rfl ⟨trivial, trivial⟩ ?_
                      cases hF
                      exact hR.2.1 425 _ _ _ (by decide +kernel) rfl (by decide) ⟨rfl, rfl⟩
              clear hF
              have hF := e122
              refine g_icmp hK 354 .ne (7) 361 (t1 := 357) (t2 := 361) (by decide +kernel) (by decide) rfl rfl (fun (hc104 : andv (shrv p2 4) 1 = 1) => ?_) (fun (hc104 : ¬ (andv (shrv p2 4) 1 = 1)) => ?_)
              · have hF := ite_t hc104 hF
                refine g_seg hK [.iconst 1] 357 358 (L1 := [(14, vI r99), (13, vI r96), (12, vI r93), (3, vI r3), (2, vI r1), (0, vR 0), (1, vI p2)]) (st1 := [vI 1, vR 0]) (h1 := h100) (P := True ∧ True) (by decide +kernel) rfl rfl ⟨trivial, trivial⟩ ?_
                refine g_goto hK 358 (4) 362 (by decide +kernel) (by decide) ?_
                refine hK.2.1 _ _ ([(0, vR 0), (12, vI r93), (13, vI r96), (14, vI r99)]) _ _ (sub_of [5, 2, 1, 0] rfl) ?_
                cases hF
                exact j103
              · have hF := ite_f hc104 hF
                refine g_seg hK [.iconst 0] 361 362 (L1 := [(14, vI r99), (13, vI r96), (12, vI r93), (3, vI r3), (2, vI r1), (0, vR 0), (1, vI p2)]) (st1 := [vI 0, vR 0]) (h1 := h100) (P := True ∧ True) (by decide +kernel) rfl rfl ⟨trivial, trivial⟩ ?_
                refine hK.2.1 _ _ ([(0, vR 0), (12, vI r93), (13, vI r96), (14, vI r99)]) _ _ (sub_of [5, 2, 1, 0] rfl) ?_
                cases hF
                exact j103
            · have hF := ite_f hc92 hF
              rw [show swT 20 406 0 5 [40, 111, 174, 217, 217, 303] r6 = 426 from by unfold swT; rw [if_pos (by omega)]; decide]
              refine g_seg hK [.iload_n 1, .bipush 6, .ishr, .iload_n 3, .iconst 1, .iadd] 426 433 (L1 := [(3, vI r3), (2, vI r1), (0, vR 0), (1, vI p2)]) (st1 := [vI (wr (r3 + 1)), vI (shrv p2 6)]) (h1 := h4) (P := True ∧ True ∧ True ∧ True ∧ True ∧ True ∧ True) (by decide +kernel) rfl rfl ⟨trivial, trivial, trivial, trivial, trivial, trivial, trivial⟩ ?_
              obtain ⟨r123, e124, hF⟩ := ob1_elim hF
              refine g_callS1 hK 433 60 (d1 := 0) (vs := [vI (shrv p2 6), vI (wr (r3 + 1))]) (rest := []) (h1 := h4) (r := vI r123) my_yL_low sw_X9_60 (by decide) (T_L_low (p1 := (shrv p2 6)) (p2 := (wr (r3 + 1))) (h := h4) (hF := e124)) rfl (Nat.le_of_ble_eq_true rfl) (by decide +kernel) ?_
              refine g_seg hK [.istore 16, .iload_n 1, .bipush 10, .ishr, .iload_n 1, .bipush 14, .ishr, .iconst 1, .iand] 436 448 (L1 := [(16, vI r123), (3, vI r3), (2, vI r1), (0, vR 0), (1, vI p2)]) (st1 := [vI (andv (shrv p2 14) 1), vI (shrv p2 10)]) (h1 := h4) (P := True ∧ True ∧ True ∧ True ∧ True ∧ True ∧ True ∧ True ∧ True ∧ True) (by decide +kernel) rfl rfl ⟨trivial, trivial, trivial, trivial, trivial, trivial, trivial, trivial, trivial, trivial⟩ ?_
              obtain ⟨s125, e144, hF⟩ := jn1_elim hF
              have j126 : K 457 [(0, vR 0), (1, vI p2), (2, vI r1), (3, vI r3), (16, vI r123)] [vI s125, vI (shrv p2 10)] h4 := by
                obtain ⟨r128, e129, hF⟩ := ob1_elim hF
                refine g_callS1 hK 457 60 (d1 := 0) (vs := [vI (shrv p2 10), vI s125]) (rest := []) (h1 := h4) (r := vI r128) my_yL_low sw_X9_60 (by decide) (T_L_low (p1 := (shrv p2 10)) (p2 := s125) (h := h4) (hF := e129)) rfl (Nat.le_of_ble_eq_true rfl) (by decide +kernel) ?_
                refine g_seg hK [.istore 17, .iload_n 1, .bipush 15, .ishr, .iconst 3, .iand] 460 468 (L1 := [(17, vI r128), (0, vR 0), (1, vI p2), (2, vI r1), (3, vI r3), (16, vI r123)]) (st1 := [vI (andv (shrv p2 15) 3)]) (h1 := h4) (P := True ∧ True ∧ True ∧ True ∧ True ∧ True ∧ True) (by decide +kernel) rfl rfl ⟨trivial, trivial, trivial, trivial, trivial, trivial, trivial⟩ ?_
                obtain ⟨s130, e143, hF⟩ := jn1_elim hF
                have j131 : K 483 [(0, vR 0), (2, vI r1), (3, vI r3), (16, vI r123)] [vI s130] h4 := by
                  refine g_seg hK [.istore 17, .aload_n 0, .iload_n 2, .iload 16, .iload 17] 483 491 (L1 := [(17, vI s130), (0, vR 0), (2, vI r1), (3, vI r3), (16, vI r123)]) (st1 := [vI s130, vI r123, vI r1, vR 0]) (h1 := h4) (P := True ∧ True ∧ True ∧ True ∧ True ∧ True) (by decide +kernel) rfl rfl ⟨trivial, trivial, trivial, trivial, trivial, trivial⟩ ?_
                  obtain ⟨r133, h134, e135, hF⟩ := ob2_elim hF
                  refine g_callV1 hK 491 39 (d1 := 6) (ci := 6) (i := 0) (vs := [vI r1, vI r123, vI s130]) (rest := []) (h1 := h134) (r := vI r133) my_yX6_edit vw_X9_39 (by decide) (T_X_edit (p1 := r1) (p2 := r123) (p3 := s130) (h := h4) (hF := e135)) rfl rfl rfl (Nat.le_of_ble_eq_true rfl) (by decide +kernel) ?_
                  refine g_seg hK [.iload_n 3, .bipush 14] 494 497 (L1 := [(17, vI s130), (0, vR 0), (2, vI r1), (3, vI r3), (16, vI r123)]) (st1 := [vI 14, vI r3, vI r133]) (h1 := h134) (P := True ∧ True ∧ True) (by decide +kernel) rfl rfl ⟨trivial, trivial, trivial⟩ ?_
                  obtain ⟨s136, e142, hF⟩ := jn1_elim hF
                  have j137 : K 508 [(0, vR 0), (2, vI r1), (3, vI r3), (16, vI r123), (17, vI s130)] [vI s136, vI r133] h134 := by
                    refine g_icmp hK 508 .ne (25) 533 (t1 := 511) (t2 := 533) (by decide +kernel) (by decide) rfl rfl (fun (hc139 : r133 = s136) => ?_) (fun (hc139 : ¬ (r133 = s136)) => ?_)
                    · have hF := ite_t hc139 hF
                      refine g_seg hK [.iload_n 3, .bipush 14] 511 514 (L1 := [(0, vR 0), (2, vI r1), (3, vI r3), (16, vI r123), (17, vI s130)]) (st1 := [vI 14, vI r3]) (h1 := h134) (P := True ∧ True ∧ True) (by decide +kernel) rfl rfl ⟨trivial, trivial, trivial⟩ ?_
                      refine g_icmp hK 514 .eq (15) 529 (t1 := 529) (t2 := 517) (by decide +kernel) (by decide) rfl rfl (fun (hc140 : r3 = 14) => ?_) (fun (hc140 : ¬ (r3 = 14)) => ?_)
                      · have hF := ite_t hc140 hF
                        refine g_seg hK [.iconst 1] 529 530 (L1 := [(0, vR 0), (2, vI r1), (3, vI r3), (16, vI r123), (17, vI s130)]) (st1 := [vI 1]) (h1 := h134) (P := True ∧ True) (by decide +kernel) rfl rfl ⟨trivial, trivial⟩ ?_
                        refine g_goto hK 530 (4) 534 (by decide +kernel) (by decide) ?_
                        cases hF
                        exact hR.2.1 534 _ _ _ (by decide +kernel) rfl (by decide) ⟨rfl, rfl⟩
                      · have hF := ite_f hc140 hF
                        refine g_seg hK [.aload_n 0, .iload_n 2, .iload 16] 517 521 (L1 := [(0, vR 0), (2, vI r1), (3, vI r3), (16, vI r123), (17, vI s130)]) (st1 := [vI r123, vI r1, vR 0]) (h1 := h134) (P := True ∧ True ∧ True ∧ True) (by decide +kernel) rfl rfl ⟨trivial, trivial, trivial, trivial⟩ ?_
                        refine g_callV1 hK 521 18 (d1 := 1) (ci := 6) (i := 0) (vs := [vI r1, vI r123]) (rest := []) (h1 := h134) (r := vI (F_X_line r1 r123 h134)) my_yX6_line vw_X9_18 (by decide) (T_X_line (p1 := r1) (p2 := r123) (h := h134) (hF := rfl)) rfl rfl rfl (Nat.le_of_ble_eq_true rfl) (by decide +kernel) ?_
                        refine g_seg hK [.iload 17] 524 526 (L1 := [(0, vR 0), (2, vI r1), (3, vI r3), (16, vI r123), (17, vI s130)]) (st1 := [vI s130, vI (F_X_line r1 r123 h134)]) (h1 := h134) (P := True ∧ True) (by decide +kernel) rfl rfl ⟨trivial, trivial⟩ ?_
                        refine g_icmp hK 526 .ne (7) 533 (t1 := 529) (t2 := 533) (by decide +kernel) (by decide) rfl rfl (fun (hc141 : F_X_line r1 r123 h134 = s130) => ?_) (fun (hc141 : ¬ (F_X_line r1 r123 h134 = s130)) => ?_)
                        · have hF := ite_t hc141 hF
                          refine g_seg hK [.iconst 1] 529 530 (L1 := [(0, vR 0), (2, vI r1), (3, vI r3), (16, vI r123), (17, vI s130)]) (st1 := [vI 1]) (h1 := h134) (P := True ∧ True) (by decide +kernel) rfl rfl ⟨trivial, trivial⟩ ?_
                          refine g_goto hK 530 (4) 534 (by decide +kernel) (by decide) ?_
                          cases hF
                          exact hR.2.1 534 _ _ _ (by decide +kernel) rfl (by decide) ⟨rfl, rfl⟩
                        · have hF := ite_f hc141 hF
                          refine g_seg hK [.iconst 0] 533 534 (L1 := [(0, vR 0), (2, vI r1), (3, vI r3), (16, vI r123), (17, vI s130)]) (st1 := [vI 0]) (h1 := h134) (P := True ∧ True) (by decide +kernel) rfl rfl ⟨trivial, trivial⟩ ?_
                          cases hF
                          exact hR.2.1 534 _ _ _ (by decide +kernel) rfl (by decide) ⟨rfl, rfl⟩
                    · have hF := ite_f hc139 hF
                      refine g_seg hK [.iconst 0] 533 534 (L1 := [(0, vR 0), (2, vI r1), (3, vI r3), (16, vI r123), (17, vI s130)]) (st1 := [vI 0]) (h1 := h134) (P := True ∧ True) (by decide +kernel) rfl rfl ⟨trivial, trivial⟩ ?_
                      cases hF
                      exact hR.2.1 534 _ _ _ (by decide +kernel) rfl (by decide) ⟨rfl, rfl⟩
                  clear hF
                  have hF := e142
                  refine g_icmp hK 497 .ne (8) 505 (t1 := 500) (t2 := 505) (by decide +kernel) (by decide) rfl rfl (fun (hc138 : r3 = 14) => ?_) (fun (hc138 : ¬ (r3 = 14)) => ?_)
                  · have hF := ite_t hc138 hF
                    refine g_seg hK [.bipush (-3)] 500 502 (L1 := [(17, vI s130), (0, vR 0), (2, vI r1), (3, vI r3), (16, vI r123)]) (st1 := [vI (-3), vI r133]) (h1 := h134) (P := True ∧ True) (by decide +kernel) rfl rfl ⟨trivial, trivial⟩ ?_
                    refine g_goto hK 502 (6) 508 (by decide +kernel) (by decide) ?_
                    refine hK.2.1 _ _ ([(0, vR 0), (2, vI r1), (3, vI r3), (16, vI r123), (17, vI s130)]) _ _ (sub_of [1, 2, 3, 4, 0] rfl) ?_
                    cases hF
                    exact j137
                  · have hF := ite_f hc138 hF
                    refine g_seg hK [.iload_n 3, .iconst 1, .iadd] 505 508 (L1 := [(17, vI s130), (0, vR 0), (2, vI r1), (3, vI r3), (16, vI r123)]) (st1 := [vI (wr (r3 + 1)), vI r133]) (h1 := h134) (P := True ∧ True ∧ True ∧ True) (by decide +kernel) rfl rfl ⟨trivial, trivial, trivial, trivial⟩ ?_
                    refine hK.2.1 _ _ ([(0, vR 0), (2, vI r1), (3, vI r3), (16, vI r123), (17, vI s130)]) _ _ (sub_of [1, 2, 3, 4, 0] rfl) ?_
                    cases hF
                    exact j137
                clear hF
                have hF := e143
                refine g_ifz hK 468 .ne (13) 481 (t1 := 471) (t2 := 481) (by decide +kernel) (by decide) rfl rfl (fun (hc132 : andv (shrv p2 15) 3 = 0) => ?_) (fun (hc132 : ¬ (andv (shrv p2 15) 3 = 0)) => ?_)
                · have hF := ite_t hc132 hF
                  refine g_seg hK [.bipush 6, .iload 17, .iconst 3, .irem, .iadd] 471 478 (L1 := [(17, vI r128), (0, vR 0), (1, vI p2), (2, vI r1), (3, vI r3), (16, vI r123)]) (st1 := [vI (wr (6 + (remv r128 3)))]) (h1 := h4) (P := True ∧ True ∧ True ∧ (¬ 3 = 0) ∧ True ∧ True) (by decide +kernel) rfl rfl ⟨trivial, trivial, trivial, (by decide), trivial, trivial⟩ ?_
                  refine g_goto hK 478 (5) 483 (by decide +kernel) (by decide) ?_
                  refine hK.2.1 _ _ ([(0, vR 0), (2, vI r1), (3, vI r3), (16, vI r123)]) _ _ (sub_of [1, 3, 4, 5] rfl) ?_
                  cases hF
                  exact j131
                · have hF := ite_f hc132 hF
                  refine g_seg hK [.iload 17] 481 483 (L1 := [(17, vI r128), (0, vR 0), (1, vI p2), (2, vI r1), (3, vI r3), (16, vI r123)]) (st1 := [vI r128]) (h1 := h4) (P := True ∧ True) (by decide +kernel) rfl rfl ⟨trivial, trivial⟩ ?_
                  refine hK.2.1 _ _ ([(0, vR 0), (2, vI r1), (3, vI r3), (16, vI r123)]) _ _ (sub_of [1, 3, 4, 5] rfl) ?_
                  cases hF
                  exact j131
              clear hF
              have hF := e144
              refine g_ifz hK 448 .ne (8) 456 (t1 := 451) (t2 := 456) (by decide +kernel) (by decide) rfl rfl (fun (hc127 : andv (shrv p2 14) 1 = 0) => ?_) (fun (hc127 : ¬ (andv (shrv p2 14) 1 = 0)) => ?_)
              · have hF := ite_t hc127 hF
                refine g_seg hK [.bipush 9] 451 453 (L1 := [(16, vI r123), (3, vI r3), (2, vI r1), (0, vR 0), (1, vI p2)]) (st1 := [vI 9, vI (shrv p2 10)]) (h1 := h4) (P := True ∧ True) (by decide +kernel) rfl rfl ⟨trivial, trivial⟩ ?_
                refine g_goto hK 453 (4) 457 (by decide +kernel) (by decide) ?_
                refine hK.2.1 _ _ ([(0, vR 0), (1, vI p2), (2, vI r1), (3, vI r3), (16, vI r123)]) _ _ (sub_of [3, 4, 2, 1, 0] rfl) ?_
                cases hF
                exact j126
              · have hF := ite_f hc127 hF
                refine g_seg hK [.iconst 3] 456 457 (L1 := [(16, vI r123), (3, vI r3), (2, vI r1), (0, vR 0), (1, vI p2)]) (st1 := [vI 3, vI (shrv p2 10)]) (h1 := h4) (P := True ∧ True) (by decide +kernel) rfl rfl ⟨trivial, trivial⟩ ?_
                refine hK.2.1 _ _ ([(0, vR 0), (1, vI p2), (2, vI r1), (3, vI r3), (16, vI r123)]) _ _ (sub_of [3, 4, 2, 1, 0] rfl) ?_
                cases hF
                exact j126
end

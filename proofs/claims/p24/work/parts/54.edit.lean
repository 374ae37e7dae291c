/-! ===== to edit ===== -/
theorem X_isSign_1 {x : Int} (h : 0 ≤ x ∧ x ≤ 8) : F_X_isSign x = 1 := by
  unfold F_X_isSign sg_length
  rw [if_neg (by omega), if_pos (by omega)]
theorem X_isSign_0 {x : Int} (h : ¬ (0 ≤ x ∧ x ≤ 8)) : F_X_isSign x = 0 := by
  unfold F_X_isSign sg_length
  by_cases c : x < 0
  · rw [if_pos c]
  · rw [if_neg c, if_neg (by omega)]
theorem wr_m10 {x : Int} (h : inR x) : (10 ≤ x ∧ x ≤ 18 → wr (x - 10) = x - 10) ∧ (¬ (10 ≤ x ∧ x ≤ 18) → ¬ (0 ≤ wr (x - 10) ∧ wr (x - 10) ≤ 8)) := by
  unfold inR at h
  refine ⟨fun c => wr_id (by omega), fun c => ?_⟩
  by_cases d : -2147483648 ≤ x - 10
  · rw [wr_id (by omega)]; omega
  · have e : wr (x - 10) = x - 10 + 4294967296 := by
      have : wr (x - 10) = wr (x - 10 + 4294967296) := by
        unfold wr
        first
          | exact (Int.add_bmod_right (x - 10) 4294967296).symm
          | exact (Int.add_bmod_right (x := x - 10) (n := 4294967296)).symm
          | exact (Int.add_bmod_right (a := x - 10) (n := 4294967296)).symm
          | exact Int.add_bmod_right.symm
      rw [this, wr_id (by omega)]
    rw [e]; omega
/-- which numbers a sign may have in an edit -/
def RG (x : Int) : Prop := (0 ≤ x ∧ x ≤ 8) ∨ (10 ≤ x ∧ x ≤ 18) ∨ x = 20
theorem one_ne : ¬ (1 : Int) = 0 := by decide
section EDIT
variable {h : MH} {pad : List Int} {g : SG} {hist : List SG} {sv : Option SG} {t : Nat} {p2 p3 : Int}
end EDIT

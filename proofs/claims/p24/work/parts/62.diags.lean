/-! ===== the reference's distance by diagonals ===== -/
section CELL
variable {e i j : Nat} {n : Nat} {h : MH} {g : SG}
/-- what a place holds behind the pass e -/
def vl9 (l1 l2 : List Int) (e a b : Nat) : Int := if ed l1 l2 a b ≤ e then ((ed l1 l2 a b : Nat) : Int) else 99
/-- behind the pass e up to a place, behind the pass e - 1 from it on -/
def KD (h : MH) (l1 l2 : List Int) (e i j : Nat) : Prop := ∀ a b, a ≤ l1.length → b ≤ l2.length → (a < i ∨ (a = i ∧ b < j) → h 81 (15 * a + b) = vl9 l1 l2 e a b) ∧ (¬ (a < i ∨ (a = i ∧ b < j)) → 0 < e → h 81 (15 * a + b) = vl9 l1 l2 (e - 1) a b)
theorem vl_lt {l1 l2 : List Int} {e a b : Nat} (he : e ≤ 28) : vl9 l1 l2 e a b < (e : Int) ↔ ed l1 l2 a b < e := by
  unfold vl9
  split <;> omega
theorem vl_le {l1 l2 : List Int} {e a b : Nat} (he : e ≤ 28) : vl9 l1 l2 e a b ≤ (e : Int) ↔ ed l1 l2 a b ≤ e := by
  unfold vl9
  split <;> omega
end CELL

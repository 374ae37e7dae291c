/-! ===== to swap two texts ===== -/
theorem getT_other {g : SG} {a b : Nat} (ha : a ≤ 2) (hb : b ≤ 2) (hab : b ≠ a) {l : List Int} : getT (setT g a l) b = getT g b := by
  rcases t012 ha with rfl | rfl | rfl <;> rcases t012 hb with rfl | rfl | rfl <;> first | rfl | exact absurd rfl hab

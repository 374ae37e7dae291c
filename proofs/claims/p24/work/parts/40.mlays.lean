/-! ===== the reference lays ===== -/
theorem jk1_p {α γ β : Type} (f : α → γ) (g : (α → γ) → β) : jk1 f g = g f := by rw [jk1]
theorem jk4_p {α0 α1 α2 α3 γ β : Type} (f : α0 → α1 → α2 → α3 → γ) (g : (α0 → α1 → α2 → α3 → γ) → β) : jk4 f g = g f := by rw [jk4]
theorem app_all {f : Nat → Int} {l : List Int} {v : Int} (h : ∀ j, j < l.length → f j = l.getD j (-1)) (hv : f l.length = v) : ∀ j, j < (l ++ [v]).length → f j = (l ++ [v]).getD j (-1) := by
  intro j hj
  rw [List.length_append, List.length_singleton] at hj
  by_cases c : j = l.length
  · rw [c, snoc_get]; exact hv
  · rw [List.getD_eq_getElem?_getD, List.getElem?_append_left (by omega), ← List.getD_eq_getElem?_getD]
    exact h j (by omega)
theorem imax14 (a b : Int) : (if imax a b ≤ 14 then (0 : Int) else 1) = if (if a ≤ 14 then (0 : Int) else 1) = 0 then (if b ≤ 14 then 0 else 1) else 1 := by
  unfold imax
  by_cases c1 : a ≤ 14
  · rw [if_pos c1, if_pos rfl]
    by_cases c2 : a < b
    · rw [if_pos c2]
    · rw [if_neg c2, if_pos c1, if_pos (by omega)]
  · rw [if_neg c1, if_neg (show ¬ (1 : Int) = 0 by decide)]
    by_cases c2 : a < b
    · rw [if_pos c2, if_neg (by omega)]
    · rw [if_neg c2, if_neg c1]

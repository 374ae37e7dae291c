/-! ===== the reference puts a part in another's place ===== -/
theorem rp_get {T I : List Int} {f o p : Nat} (h : f + o ≤ T.length) : (rp T f o I).getD p (-1) = if p < f then T.getD p (-1) else if p < f + I.length then I.getD (p - f) (-1) else T.getD (p + o - I.length) (-1) := by
  unfold rp
  have e : (T.take f).length = f := by rw [List.length_take, Nat.min_eq_left (by omega)]
  rw [List.getD_eq_getElem?_getD]
  by_cases c1 : p < f
  · rw [if_pos c1, List.getElem?_append_left (by omega), List.getElem?_take, if_pos c1, List.getD_eq_getElem?_getD]
  · rw [if_neg c1, List.getElem?_append_right (by omega), e]
    by_cases c2 : p < f + I.length
    · rw [if_pos c2, List.getElem?_append_left (by omega), List.getD_eq_getElem?_getD]
    · rw [if_neg c2, List.getElem?_append_right (by omega), List.getElem?_drop, List.getD_eq_getElem?_getD, show f + o + (p - f - I.length) = p + o - I.length by omega]
theorem snoc_get (l : List Int) (v : Int) : (l ++ [v]).getD l.length (-1) = v := by
  rw [List.getD_eq_getElem?_getD, List.getElem?_append_right (Nat.le_refl _), Nat.sub_self]
  rfl
def FX (h h' : MH) : Prop := ∀ x y, x ≠ 84 → ¬ (x = 76 ∧ y = 13) → h' x y = h x y

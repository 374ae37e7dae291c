/-! ===== the reference looks for a place ===== -/
theorem lg_app {l : List Int} {v : Int} {i : Nat} (h : i < l.length) : lg (l ++ [v]) (i : Int) = lg l (i : Int) := by
  rw [lg_in (Int.natCast_nonneg _), lg_in (Int.natCast_nonneg _), nn, List.getD_eq_getElem?_getD, List.getD_eq_getElem?_getD, List.getElem?_append_left h]
theorem lg_app_last {l : List Int} {v : Int} : lg (l ++ [v]) (l.length : Int) = v := by
  rw [lg_in (Int.natCast_nonneg _), nn, List.getD_eq_getElem?_getD, List.getElem?_append_right (Nat.le_refl _), Nat.sub_self]
  rfl
theorem mtb_app (T : List Int) {l : List Int} {v p : Int} : ∀ n, n ≤ l.length → mtb T (l ++ [v]) p n = mtb T l p n := by
  intro n
  induction n with
  | zero => intro _; rfl
  | succ n ih =>
    intro h
    rw [mtb, mtb, ih (by omega), lg_app (by omega)]
theorem mtb_snoc (T : List Int) {l : List Int} {v p : Int} : mtb T (l ++ [v]) p (l ++ [v]).length = (mtb T l p l.length && decide (v = lg T (p + (l.length : Int)))) := by
  rw [List.length_append, List.length_singleton, mtb, mtb_app T _ (Nat.le_refl _), lg_app_last]
theorem pt_mono (ks ss : List Int) (k : Int) (a : Nat) {m : Nat} : ∀ n, m ≤ n → (pt ks ss k a m).length ≤ (pt ks ss k a n).length := by
  intro n
  induction n with
  | zero => intro h; rw [show m = 0 by omega]; exact Nat.le_refl _
  | succ n ih =>
    intro h
    by_cases c : m = n + 1
    · rw [c]; exact Nat.le_refl _
    · have := ih (by omega)
      rw [pt, List.length_append]
      omega

/-! ===== askings of numbers ===== -/
theorem X_count_shown {h : MH} {g : SG} {d r : Int} {h1 : MH} (hd : 3 ≤ d ∧ d ≤ 11) (f1 : F_X_show h = some h1) (hr : F_X_shownNumber d h1 = some r) : F_X_count d h = some (r, h1) := by
  unfold F_X_count F_X_isText
  rw [if_neg (by omega), if_pos (by omega), if_neg (show ¬ d < 0 by omega), if_neg (show ¬ d ≤ 2 by omega), if_pos rfl, if_pos hd.2, f1, ob1_s, hr, ob1_s]
theorem X_count_held {h : MH} {d : Int} (hd : 12 ≤ d ∧ d ≤ 17) : F_X_count d h = some (F_X_heldNumber d h, h) := by
  unfold F_X_count F_X_isText
  rw [if_neg (by omega), if_pos (by omega), if_neg (show ¬ d < 0 by omega), if_neg (show ¬ d ≤ 2 by omega), if_pos rfl, if_neg (by omega)]
theorem X_count_text {h : MH} {d : Int} (hd : 0 ≤ d ∧ d ≤ 2) : F_X_count d h = some (F_Ro_size (F_St_text 3 d) h, h) := by
  unfold F_X_count F_X_isText
  rw [if_neg (by omega), if_pos (by omega), if_neg (show ¬ d < 0 by omega), if_pos hd.2, if_neg (show ¬ (1 : Int) = 0 by decide)]

/-! ===== to edit: the calls ===== -/
section EDIT
variable {h : MH} {pad : List Int} {g : SG} {hist : List SG} {sv : Option SG} {t : Nat} {p2 p3 : Int}
theorem X_edit_no (C : CR h pad g hist sv) (h3 : inR p3) {p1 : Int} (hp : ¬ (0 ≤ p1 ∧ p1 ≤ 2) ∨ ¬ RG p3) : F_X_edit p1 p2 p3 h = some (-1, h) := by
  unfold F_X_edit
  by_cases c : 0 ≤ p1 ∧ p1 ≤ 2
  · have c2 := hp.resolve_left (fun z => z c)
    unfold RG at c2
    have e1 : F_X_isText p1 = 1 := by unfold F_X_isText; rw [if_neg (by omega), if_pos c.2]
    rw [e1, if_neg one_ne, jk1_p, X_isSign_0 (x := p3) (by omega), if_pos rfl, X_isSign_0 ((wr_m10 h3).2 (by omega)), if_pos rfl, if_neg (by omega)]
  · rw [X_isText_0 c, if_pos rfl]
/-- behind the first tests -/
theorem X_edit_line (C : CR h pad g hist sv) (h3 : inR p3) (ht : t ≤ 2) (c : RG p3) (hp : ¬ (0 ≤ p2 ∧ p2 ≤ ((getT g t).length : Int) ∧ ((0 ≤ p3 ∧ p3 ≤ 8) ∨ p2 < ((getT g t).length : Int)))) : F_X_edit (t : Int) p2 p3 h = some (-1, h) := by
  have R := C.2.1.getT ht
  unfold F_X_edit
  rw [X_isText_1 ht, if_neg one_ne, jk1_p, (kd_text ht).2.2, R.size]
  by_cases c1 : 0 ≤ p3 ∧ p3 ≤ 8
  · rw [X_isSign_1 c1, if_neg one_ne]
    by_cases d : p2 < 0
    · rw [if_pos d]
    · rw [if_neg d, if_neg (by omega)]
  · have fin : ∀ k : Option (Int × MH), (if p2 < 0 then some (-1, h) else if p2 ≤ ((getT g t).length : Int) then (if p2 = ((getT g t).length : Int) then some (-1, h) else k) else some (-1, h)) = some (-1, h) := by
      intro k
      by_cases d : p2 < 0
      · rw [if_pos d]
      · rw [if_neg d]
        by_cases d2 : p2 ≤ ((getT g t).length : Int)
        · rw [if_pos d2, if_pos (by omega)]
        · rw [if_neg d2]
    rw [X_isSign_0 (x := p3) c1, if_pos rfl]
    by_cases c2 : 10 ≤ p3 ∧ p3 ≤ 18
    · rw [X_isSign_1 (by rw [(wr_m10 h3).1 c2]; omega), if_neg one_ne, jk1_p, if_pos rfl]
      exact fin _
    · rw [X_isSign_0 ((wr_m10 h3).2 c2), if_pos rfl, if_pos (by unfold RG at c; omega), jk1_p, if_pos rfl]
      exact fin _
theorem X_edit_full (C : CR h pad g hist sv) (ht : t ≤ 2) (c1 : 0 ≤ p3 ∧ p3 ≤ 8) (hp : 0 ≤ p2 ∧ p2 ≤ ((getT g t).length : Int)) (hf : ¬ ((getT g t).length : Int) < 14) : F_X_edit (t : Int) p2 p3 h = some (-3, h) := by
  have R := C.2.1.getT ht
  unfold F_X_edit
  rw [X_isText_1 ht, if_neg one_ne, jk1_p, (kd_text ht).2.2, R.size, X_isSign_1 c1, if_neg one_ne, if_neg (by omega), if_pos hp.2, jk1_p, if_neg one_ne, jk1_p, if_neg one_ne, if_neg hf]
  by_cases d : p2 = ((getT g t).length : Int)
  · rw [if_pos d]
  · rw [if_neg d]
theorem X_edit_new (C : CR h pad g hist sv) (ht : t ≤ 2) (c1 : 0 ≤ p3 ∧ p3 ≤ 8) (hp : 0 ≤ p2 ∧ p2 ≤ ((getT g t).length : Int)) (hf : ((getT g t).length : Int) < 14) : F_X_edit (t : Int) p2 p3 h = ob1 (F_Hi_record 3 h) (fun (h10 : MH) => ob1 (F_Ro_putIn (4 + 2 * t) p2 p3 h10) (fun (h19 : MH) => some (F_Ro_size (4 + 2 * t) h19, h19))) := by
  have R := C.2.1.getT ht
  unfold F_X_edit
  rw [X_isText_1 ht, if_neg one_ne, jk1_p, (kd_text ht).2.2, R.size, X_isSign_1 c1, if_neg one_ne, if_neg (by omega), if_pos hp.2, jk1_p, if_neg one_ne, jk1_p, if_neg one_ne, if_pos hf]
  have e : (fun (h10 : MH) => jk1 (fun (h12 : MH) => some (F_Ro_size (4 + 2 * t) h12, h12)) (fun kj13 => if (1 : Int) = 0 then (if F_X_isSign (wr (p3 - 10)) = 0 then (ob1 (F_Ro_putOut (4 + 2 * t) p2 h10) (fun (h17 : MH) => kj13 h17)) else (kj13 (F_Ro_change (4 + 2 * t) p2 (wr (p3 - 10)) h10))) else (ob1 (F_Ro_putIn (4 + 2 * t) p2 p3 h10) (fun (h19 : MH) => kj13 h19)))) = (fun (h10 : MH) => ob1 (F_Ro_putIn (4 + 2 * t) p2 p3 h10) (fun (h19 : MH) => some (F_Ro_size (4 + 2 * t) h19, h19))) := by
    funext h10
    rw [jk1_p, if_neg one_ne]
  rw [e]
  by_cases d : p2 = ((getT g t).length : Int)
  · rw [if_pos d]
  · rw [if_neg d]
theorem X_edit_ch (C : CR h pad g hist sv) (h3 : inR p3) (ht : t ≤ 2) (c2 : 10 ≤ p3 ∧ p3 ≤ 18) (hp : 0 ≤ p2 ∧ p2 < ((getT g t).length : Int)) : F_X_edit (t : Int) p2 p3 h = ob1 (F_Hi_record 3 h) (fun (h10 : MH) => some (F_Ro_size (4 + 2 * t) (F_Ro_change (4 + 2 * t) p2 (p3 - 10) h10), F_Ro_change (4 + 2 * t) p2 (p3 - 10) h10)) := by
  have R := C.2.1.getT ht
  unfold F_X_edit
  rw [X_isText_1 ht, if_neg one_ne, jk1_p, (kd_text ht).2.2, R.size, X_isSign_0 (x := p3) (by omega), if_pos rfl, (wr_m10 h3).1 c2, X_isSign_1 (x := p3 - 10) (by omega), if_neg one_ne, if_neg (by omega), if_pos (by omega), jk1_p, if_neg (by omega), jk1_p, if_pos rfl]
  show ob1 (F_Hi_record 3 h) _ = ob1 (F_Hi_record 3 h) _
  refine congrArg (ob1 (F_Hi_record 3 h)) (funext fun h10 => ?_)
  rw [jk1_p, if_pos rfl, if_neg one_ne]
theorem X_edit_out (C : CR h pad g hist sv) (h3 : inR p3) (ht : t ≤ 2) (c3 : p3 = 20) (hp : 0 ≤ p2 ∧ p2 < ((getT g t).length : Int)) : F_X_edit (t : Int) p2 p3 h = ob1 (F_Hi_record 3 h) (fun (h10 : MH) => ob1 (F_Ro_putOut (4 + 2 * t) p2 h10) (fun (h17 : MH) => some (F_Ro_size (4 + 2 * t) h17, h17))) := by
  have R := C.2.1.getT ht
  unfold F_X_edit
  rw [X_isText_1 ht, if_neg one_ne, jk1_p, (kd_text ht).2.2, R.size, X_isSign_0 (x := p3) (by omega), if_pos rfl, X_isSign_0 ((wr_m10 h3).2 (by omega)), if_pos rfl, if_pos c3, if_neg (by omega), if_pos (by omega), jk1_p, if_neg (by omega), jk1_p, if_pos rfl]
  show ob1 (F_Hi_record 3 h) _ = ob1 (F_Hi_record 3 h) _
  refine congrArg (ob1 (F_Hi_record 3 h)) (funext fun h10 => ?_)
  rw [jk1_p, if_pos rfl, if_pos rfl]
/-! the reference's -/
end EDIT

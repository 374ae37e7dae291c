/-! ===== to edit: the calls ===== -/
section EDIT
variable {h : MH} {pad : List Int} {g : SG} {hist : List SG} {sv : Option SG} {t : Nat} {p2 p3 : Int}
theorem X_edit_no (C : CR h pad g hist sv) (h3 : inR p3) {p1 : Int} (hp : ¬ (0 ≤ p1 ∧ p1 ≤ 2) ∨ ¬ RG p3) : F_X_edit p1 p2 p3 h = some (-1, h) := by
  unfold F_X_edit
  by_cases c : 0 ≤ p1 ∧ p1 ≤ 2
  · have c2 := hp.resolve_left (fun z => z c)
    unfold RG at c2
    have e1 : F_X_isText p1 = 1 := by unfold F_X_isText; rw [if_neg (by omega), if_pos c.2]
    rw [e1, if_neg one_ne, jk1_p, X_isSign_0 (x := p3) (by omega), if_pos rfl, X_isSign_0 ((wr_m10 h3).2 (by omega)), if_pos rfl, if_neg (by omega)]
  · rw [X_isText_0 c, if_pos rfl]
/-- behind the first tests -/
theorem X_edit_line (C : CR h pad g hist sv) (h3 : inR p3) (ht : t ≤ 2) (c : RG p3) (hp : ¬ (0 ≤ p2 ∧ p2 ≤ ((getT g t).length : Int) ∧ ((0 ≤ p3 ∧ p3 ≤ 8) ∨ p2 < ((getT g t).length : Int)))) : F_X_edit (t : Int) p2 p3 h = some (-1, h) := by
  have R := C.2.1.getT ht
  unfold F_X_edit
  rw [X_isText_1 ht, if_neg one_ne, jk1_p, (kd_text ht).2.2, R.size]
  by_cases c1 : 0 ≤ p3 ∧ p3 ≤ 8
  · rw [X_isSign_1 c1, if_neg one_ne]
    by_cases d : p2 < 0
    · rw [if_pos d]
    · rw [if_neg d, if_neg (by omega)]
  · have fin : ∀ k : Option (Int × MH), (if p2 < 0 then some (-1, h) else if p2 ≤ ((getT g t).length : Int) then (if p2 = ((getT g t).length : Int) then some (-1, h) else k) else some (-1, h)) = some (-1, h) := by
      intro k
      by_cases d : p2 < 0
      · rw [if_pos d]
      · rw [if_neg d]
        by_cases d2 : p2 ≤ ((getT g t).length : Int)
        · rw [if_pos d2, if_pos (by omega)]
        · rw [if_neg d2]
    rw [X_isSign_0 (x := p3) c1, if_pos rfl]
    by_cases c2 : 10 ≤ p3 ∧ p3 ≤ 18
    · rw [X_isSign_1 (by rw [(wr_m10 h3).1 c2]; omega), if_neg one_ne, jk1_p, if_pos rfl]
      exact fin _
    · rw [X_isSign_0 ((wr_m10 h3).2 c2), if_pos rfl, if_pos (by unfold RG at c; omega), jk1_p, if_pos rfl]
      exact fin _
theorem X_edit_full (C : CR h pad g hist sv) (ht : t ≤ 2) (c1 : 0 ≤ p3 ∧ p3 ≤ 8) (hp : 0 ≤ p2 ∧ p2 ≤ ((getT g t).length : Int)) (hf : ¬ ((getT g t).length : Int) < 14) : F_X_edit (t : Int) p2 p3 h = some (-3, h) := by
  have R := C.2.1.getT ht
  unfold F_X_edit
  rw [X_isText_1 ht, if_neg one_ne, jk1_p, (kd_text ht).2.2, R.size, X_isSign_1 c1, if_neg one_ne, if_neg (by omega), if_pos hp.2, jk1_p, if_neg one_ne, jk1_p, if_neg one_ne, if_neg hf]
  by_cases d : p2 = ((getT g t).length : Int)
  · rw [if_pos d]
  · rw [if_neg d]
theorem X_edit_new (C : CR h pad g hist sv) (ht : t ≤ 2) (c1 : 0 ≤ p3 ∧ p3 ≤ 8) (hp : 0 ≤ p2 ∧ p2 ≤ ((getT g t).length : Int)) (hf : ((getT g t).length : Int) < 14) : F_X_edit (t : Int) p2 p3 h = ob1 (F_Hi_record 3 h) (fun (h10 : MH) => ob1 (F_Ro_putIn (4 + 2 * t) p2 p3 h10) (fun (h19 : MH) => some (F_Ro_size (4 + 2 * t) h19, h19))) := by
  have R := C.2.1.getT ht
  unfold F_X_edit
  rw [X_isText_1 ht, if_neg one_ne, jk1_p, (kd_text ht).2.2, R.size, X_isSign_1 c1, if_neg one_ne, if_neg (by omega), if_pos hp.2, jk1_p, if_neg one_ne, jk1_p, if_neg one_ne, if_pos hf]
  have e : (fun (h10 : MH) => jk1 (fun (h12 : MH) => some (F_Ro_size (4 + 2 * t) h12, h12)) (fun kj13 => if (1 : Int) = 0 then (if F_X_isSign (wr (p3 - 10)) = 0 then (ob1 (F_Ro_putOut (4 + 2 * t) p2 h10) (fun (h17 : MH) => kj13 h17)) else (kj13 (F_Ro_change (4 + 2 * t) p2 (wr (p3 - 10)) h10))) else (ob1 (F_Ro_putIn (4 + 2 * t) p2 p3 h10) (fun (h19 : MH) => kj13 h19)))) = (fun (h10 : MH) => ob1 (F_Ro_putIn (4 + 2 * t) p2 p3 h10) (fun (h19 : MH) => some (F_Ro_size (4 + 2 * t) h19, h19))) := by
    funext h10
    rw [jk1_p, if_neg one_ne]
  rw [e]
  by_cases d : p2 = ((getT g t).length : Int)
  · rw [if_pos d]
  · rw [if_neg d]
theorem X_edit_ch (C : CR h pad g hist sv) (h3 : inR p3) (ht : t ≤ 2) (c2 : 10 ≤ p3 ∧ p3 ≤ 18) (hp : 0 ≤ p2 ∧ p2 < ((getT g t).length : Int)) : F_X_edit (t : Int) p2 p3 h = ob1 (F_Hi_record 3 h) (fun (h10 : MH) => some (F_Ro_size (4 + 2 * t) (F_Ro_change (4 + 2 * t) p2 (p3 - 10) h10), F_Ro_change (4 + 2 * t) p2 (p3 - 10) h10)) := by
  have R := C.2.1.getT ht
  unfold F_X_edit
  rw [X_isText_1 ht, if_neg one_ne, jk1_p, (kd_text ht).2.2, R.size, X_isSign_0 (x := p3) (by omega), if_pos rfl, (wr_m10 h3).1 c2, X_isSign_1 (x := p3 - 10) (by omega), if_neg one_ne, if_neg (by omega), if_pos (by omega), jk1_p, if_neg (by omega), jk1_p, if_pos rfl]
  show ob1 (F_Hi_record 3 h) _ = ob1 (F_Hi_record 3 h) _
  refine congrArg (ob1 (F_Hi_record 3 h)) (funext fun h10 => ?_)
  rw [jk1_p, if_pos rfl, if_neg one_ne]
theorem X_edit_out (C : CR h pad g hist sv) (h3 : inR p3) (ht : t ≤ 2) (c3 : p3 = 20) (hp : 0 ≤ p2 ∧ p2 < ((getT g t).length : Int)) : F_X_edit (t : Int) p2 p3 h = ob1 (F_Hi_record 3 h) (fun (h10 : MH) => ob1 (F_Ro_putOut (4 + 2 * t) p2 h10) (fun (h17 : MH) => some (F_Ro_size (4 + 2 * t) h17, h17))) := by
  have R := C.2.1.getT ht
  unfold F_X_edit
  rw [X_isText_1 ht, if_neg one_ne, jk1_p, (kd_text ht).2.2, R.size, X_isSign_0 (x := p3) (by omega), if_pos rfl, X_isSign_0 ((wr_m10 h3).2 (by omega)), if_pos rfl, if_pos c3, if_neg (by omega), if_pos (by omega), jk1_p, if_neg (by omega), jk1_p, if_pos rfl]
  show ob1 (F_Hi_record 3 h) _ = ob1 (F_Hi_record 3 h) _
  refine congrArg (ob1 (F_Hi_record 3 h)) (funext fun h10 => ?_)
  rw [jk1_p, if_pos rfl, if_pos rfl]
/-! the reference's -/
theorem M_edit_line {hm : MH} (Hs : SM (hm 77) g) (og : OKg g) (ht : t ≤ 2) (c : RG p3) (hp : ¬ (0 ≤ p2 ∧ p2 ≤ ((getT g t).length : Int) ∧ ((0 ≤ p3 ∧ p3 ≤ 8) ∨ p2 < ((getT g t).length : Int)))) : F_M_edit (t : Int) p2 p3 hm = some (-1, hm) := by
  have l14 := (og.getT ht).1
  rw [M_edit_1 c]
  unfold F_edB
  rw [M_in_1 (show (0 : Int) ≤ (t : Int) ∧ (t : Int) ≤ 2 by omega), if_neg one_ne, if_neg one_ne, M_linesT Hs ht, ob1_s, jn1_p]
  by_cases c1 : 0 ≤ p3 ∧ p3 ≤ 8
  · have e : wr (((getT g t).length : Int) - 0) = ((getT g t).length : Int) := by rw [wr_id (by omega)]; omega
    rw [M_in_1 c1, if_neg one_ne, e, M_in_0 (by omega), if_pos rfl]
  · have e : wr (((getT g t).length : Int) - 1) = ((getT g t).length : Int) - 1 := wr_id (by omega)
    rw [M_in_0 c1, if_pos rfl, e, M_in_0 (by omega), if_pos rfl]
theorem M_edit_full {hm : MH} (Hs : SM (hm 77) g) (ht : t ≤ 2) (c1 : 0 ≤ p3 ∧ p3 ≤ 8) (hp : 0 ≤ p2 ∧ p2 ≤ ((getT g t).length : Int)) (hf : ((getT g t).length : Int) = 14) : F_M_edit (t : Int) p2 p3 hm = some (-3, hm) := by
  rw [M_edit_1 (Or.inl c1)]
  unfold F_edB
  have e : wr (((getT g t).length : Int) - 0) = ((getT g t).length : Int) := by rw [wr_id (by omega)]; omega
  rw [M_in_1 (show (0 : Int) ≤ (t : Int) ∧ (t : Int) ≤ 2 by omega), if_neg one_ne, if_neg one_ne, M_linesT Hs ht, ob1_s, jn1_p, M_in_1 c1, if_neg one_ne, e, M_in_1 hp, if_neg one_ne, jk1_p, if_neg one_ne, ob1_s, if_pos hf]
theorem M_edit_new {hm hm1 : MH} (Hs : SM (hm 77) g) (og : OKg g) (ht : t ≤ 2) (c1 : 0 ≤ p3 ∧ p3 ≤ 8) {i : Nat} (hp : i ≤ (getT g t).length) (hf : (getT g t).length < 14) (hr : F_M_remembers hm = some hm1) (Hs1 : SM (hm1 77) g) :
    ∃ hm', F_M_edit (t : Int) (i : Int) p3 hm = some (((getT g t).length : Int) + 1, hm') ∧ SM (hm' 77) (setT g t (ins (getT g t) i p3)) ∧ FR [77] hm1 hm' := by
  rw [M_edit_1 (Or.inl c1)]
  unfold F_edB
  have e : wr (((getT g t).length : Int) - 0) = ((getT g t).length : Int) := by rw [wr_id (by omega)]; omega
  have e2 : wr (wr (15 * (t : Int)) + 1) = ((15 * t + 1 : Nat) : Int) := by rw [wr_15 ht, wr_id (by omega)]; omega
  have e3 : wr (((15 * t + 1 : Nat) : Int) + (i : Int)) = ((15 * t + 1 + i : Nat) : Int) := by rw [wr_id (by omega)]; omega
  obtain ⟨h2, a, b, c⟩ := M_ins_loop ht (idx := i) (p3 := p3) FUEL (getT g t).length hm1 hp (by omega) (by rw [FUEL_eq]; omega)
  have G := Hs1.getT ht
  have b0 : h2 77 (15 * t) = ((getT g t).length : Int) := by rw [b, if_neg (by omega)]; exact G.1
  have e4 : wr (h2 77 (15 * t) + 1) = ((getT g t).length : Int) + 1 := by rw [b0, wr_id (by omega)]
  have g1 : 0 ≤ ((15 * t : Nat) : Int) ∧ ((15 * t : Nat) : Int) < 49 := by omega
  have g2 : 0 ≤ ((15 * t + 1 + i : Nat) : Int) ∧ ((15 * t + 1 + i : Nat) : Int) < 49 := by omega
  refine ⟨up (up h2 77 (15 * t) (((getT g t).length : Int) + 1)) 77 (15 * t + 1 + i) p3, ?_, ?_, (c.tr (FR.up (by simp))).tr (FR.up (by simp))⟩
  · rw [M_in_1 (show (0 : Int) ≤ (t : Int) ∧ (t : Int) ≤ 2 by omega), if_neg one_ne, if_neg one_ne, M_linesT Hs ht, ob1_s, jn1_p, M_in_1 c1, if_neg one_ne, e, M_in_1 (show (0 : Int) ≤ (i : Int) ∧ (i : Int) ≤ ((getT g t).length : Int) by omega), if_neg one_ne, jk1_p, if_neg one_ne, ob1_s, if_neg (by omega), hr, ob1_s, jk1_p, if_neg one_ne, M_linesT Hs1 ht, ob1_s, e2, a, ob2_s, e3, wr_15 ht, gd_pos g1, gd_pos g1, gd_pos g2, nn, nn, e4]
    show ob1 (F_M_lines (t : Int) _) (fun (r19 : Int) => some (r19, _)) = _
    rw [M_lines_raw ht, ob1_s, up_other (by omega), up_at]
  · have li := ins_len (v := p3) hp
    refine Hs1.setT og ht ?_ (fun p hpl => ?_) (fun j hj => ?_)
    · rw [up_other (by omega), up_at, li]; omega
    · rw [li] at hpl
      rw [ins_get hp, up_if, up_if]
      by_cases d1 : p = i
      · rw [if_pos (by omega), if_neg (by omega), if_pos d1]
      · rw [if_neg (by omega), if_neg (by omega), b]
        by_cases d2 : p < i
        · rw [if_neg (by omega), if_pos d2]
          exact G.2 p (by omega)
        · have ex : 15 * t + 1 + p - 1 = 15 * t + 1 + (p - 1) := by omega
          rw [if_pos (by omega), if_neg d2, if_neg d1, ex]
          exact G.2 (p - 1) (by omega)
    · rw [up_other (by omega), up_other (by omega), b, if_neg (by omega)]
theorem M_edit_ch {hm hm1 : MH} (Hs : SM (hm 77) g) (og : OKg g) (ht : t ≤ 2) (c2 : 10 ≤ p3 ∧ p3 ≤ 18) {i : Nat} (hp : i < (getT g t).length) (hr : F_M_remembers hm = some hm1) (Hs1 : SM (hm1 77) g) :
    ∃ hm', F_M_edit (t : Int) (i : Int) p3 hm = some (((getT g t).length : Int), hm') ∧ SM (hm' 77) (setT g t ((getT g t).set i (p3 - 10))) ∧ FR [77] hm1 hm' := by
  have l14 := (og.getT ht).1
  rw [M_edit_1 (Or.inr (Or.inl c2))]
  unfold F_edB
  have e : wr (((getT g t).length : Int) - 1) = ((getT g t).length : Int) - 1 := wr_id (by omega)
  have e2 : wr (wr (15 * (t : Int)) + 1) = ((15 * t + 1 : Nat) : Int) := by rw [wr_15 ht, wr_id (by omega)]; omega
  have e3 : wr (((15 * t + 1 : Nat) : Int) + (i : Int)) = ((15 * t + 1 + i : Nat) : Int) := by rw [wr_id (by omega)]; omega
  have e5 : wr (p3 - 10) = p3 - 10 := wr_id (by omega)
  have G := Hs1.getT ht
  have g2 : 0 ≤ ((15 * t + 1 + i : Nat) : Int) ∧ ((15 * t + 1 + i : Nat) : Int) < 49 := by omega
  refine ⟨up hm1 77 (15 * t + 1 + i) (p3 - 10), ?_, ?_, FR.up (by simp)⟩
  · rw [M_in_1 (show (0 : Int) ≤ (t : Int) ∧ (t : Int) ≤ 2 by omega), if_neg one_ne, if_neg one_ne, M_linesT Hs ht, ob1_s, jn1_p, M_in_0 (a := p3) (by omega), if_pos rfl, e, M_in_1 (show (0 : Int) ≤ (i : Int) ∧ (i : Int) ≤ ((getT g t).length : Int) - 1 by omega), if_neg one_ne, jk1_p, if_pos rfl, hr, ob1_s, jk1_p, if_pos rfl, if_neg (by omega), e2, e3, gd_pos g2, nn, e5]
    show ob1 (F_M_lines (t : Int) _) (fun (r19 : Int) => some (r19, _)) = _
    rw [M_lines_raw ht, ob1_s, up_other (by omega), G.1]
  · refine Hs1.setT og ht ?_ (fun p hpl => ?_) (fun j hj => ?_)
    · rw [up_other (by omega), lset_len]; exact G.1
    · rw [lset_len] at hpl
      rw [up_if, List.getD_eq_getElem?_getD, List.getElem?_set]
      by_cases d1 : p = i
      · subst d1
        rw [if_pos rfl, if_pos rfl, if_pos hpl]
        rfl
      · rw [if_neg (by omega), if_neg (fun z => d1 z.symm), ← List.getD_eq_getElem?_getD]
        exact G.2 p hpl
    · rw [up_other (by omega)]
theorem M_edit_out {hm hm1 : MH} (Hs : SM (hm 77) g) (og : OKg g) (ht : t ≤ 2) (c3 : p3 = 20) {i : Nat} (hp : i < (getT g t).length) (hr : F_M_remembers hm = some hm1) (Hs1 : SM (hm1 77) g) :
    ∃ hm', F_M_edit (t : Int) (i : Int) p3 hm = some (((getT g t).length : Int) - 1, hm') ∧ SM (hm' 77) (setT g t (del (getT g t) i)) ∧ FR [77] hm1 hm' := by
  have l14 := (og.getT ht).1
  rw [M_edit_1 (Or.inr (Or.inr c3))]
  unfold F_edB
  have G := Hs1.getT ht
  have e : wr (((getT g t).length : Int) - 1) = ((getT g t).length : Int) - 1 := wr_id (by omega)
  have e2 : wr (wr (15 * (t : Int)) + 1) = ((15 * t + 1 : Nat) : Int) := by rw [wr_15 ht, wr_id (by omega)]; omega
  have e4 : wr (hm1 77 (15 * t) - 1) = (((getT g t).length - 1 : Nat) : Int) := by rw [G.1, wr_id (by omega)]; omega
  have g1 : 0 ≤ ((15 * t : Nat) : Int) ∧ ((15 * t : Nat) : Int) < 49 := by omega
  obtain ⟨h2, a, b, c⟩ := M_del_loop ht (m := (getT g t).length - 1) (by omega) FUEL i (up hm1 77 (15 * t) (((getT g t).length - 1 : Nat) : Int)) (by rw [up_at]) (by omega) (by rw [FUEL_eq]; omega)
  have b0 : h2 77 (15 * t) = ((getT g t).length : Int) - 1 := by rw [b, if_neg (by omega), up_at]; omega
  refine ⟨h2, ?_, ?_, (FR.up (by simp)).tr c⟩
  · rw [M_in_1 (show (0 : Int) ≤ (t : Int) ∧ (t : Int) ≤ 2 by omega), if_neg one_ne, if_neg one_ne, M_linesT Hs ht, ob1_s, jn1_p, M_in_0 (a := p3) (by omega), if_pos rfl, e, M_in_1 (show (0 : Int) ≤ (i : Int) ∧ (i : Int) ≤ ((getT g t).length : Int) - 1 by omega), if_neg one_ne, jk1_p, if_pos rfl, hr, ob1_s, jk1_p, if_pos rfl, if_pos c3, e2, wr_15 ht, gd_pos g1, gd_pos g1, nn, e4, a, ob2_s]
    show ob1 (F_M_lines (t : Int) _) (fun (r19 : Int) => some (r19, _)) = _
    rw [M_lines_raw ht, ob1_s, b0]
  · have ld := del_len hp
    refine Hs1.setT og ht ?_ (fun p hpl => ?_) (fun j hj => ?_)
    · rw [b0, ld]; omega
    · rw [ld] at hpl
      rw [del_get hp, b]
      by_cases d2 : p < i
      · rw [if_neg (by omega), if_pos d2, up_other (by omega)]
        exact G.2 p (by omega)
      · have ex : 15 * t + 1 + p + 1 = 15 * t + 1 + (p + 1) := by omega
        rw [if_pos (by omega), if_neg d2, up_other (by omega), ex]
        exact G.2 (p + 1) (by omega)
    · rw [b, if_neg (by omega), up_other (by omega)]
end EDIT

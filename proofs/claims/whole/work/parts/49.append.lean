/-! ===== the pad ===== -/
theorem step_append_no {h : MH} {pad : List Int} {g : SG} {hist : List SG} {sv : Option SG} (C : CR h pad g hist sv) {p1 : Int} (hp : ¬ (33 ≤ p1 ∧ p1 ≤ 126)) : STEP (fun h => some (F_X_append p1 h)) (F_M_append p1) h pad g hist sv pad g hist sv := by
  refine ⟨-1, h, ?_, C, fun _ _ => rfl, fun hm hh => ⟨hm, ?_, hh, fun _ _ => rfl⟩⟩
  · show some (F_X_append p1 h) = _
    unfold F_X_append
    by_cases c : p1 < 33
    · rw [if_pos c]
    · rw [if_neg c, if_neg (by omega)]
  · unfold F_M_append
    rw [M_in_0 hp, if_pos rfl]
theorem step_append_full {h : MH} {pad : List Int} {g : SG} {hist : List SG} {sv : Option SG} (C : CR h pad g hist sv) {p1 : Int} (hp : 33 ≤ p1 ∧ p1 ≤ 126) (hl : pad.length = 40) : STEP (fun h => some (F_X_append p1 h)) (F_M_append p1) h pad g hist sv pad g hist sv := by
  refine ⟨-3, h, ?_, C, fun _ _ => rfl, fun hm hh => ⟨hm, ?_, hh, fun _ _ => rfl⟩⟩
  · show some (F_X_append p1 h) = _
    unfold F_X_append
    rw [if_neg (by omega), if_pos hp.2, C.1.size, if_neg (by omega)]
  · unfold F_M_append
    rw [M_in_1 hp, if_neg (show ¬ (1 : Int) = 0 by decide), hh.2.2.2.1.1, if_pos (by omega)]
theorem step_append {h : MH} {pad : List Int} {g : SG} {hist : List SG} {sv : Option SG} (C : CR h pad g hist sv) {p1 : Int} (hp : 33 ≤ p1 ∧ p1 ≤ 126) (hl : pad.length < 40) : STEP (fun h => some (F_X_append p1 h)) (F_M_append p1) h pad g hist sv (pad ++ [p1]) g hist sv := by
  obtain ⟨c1, c2, c3, c4, c5⟩ := C
  obtain ⟨A, B⟩ := Ro_add c1 p1 (by show _ < 40; exact hl)
  have ln : (pad ++ [p1]).length = pad.length + 1 := by rw [List.length_append]; rfl
  refine ⟨((pad ++ [p1]).length : Int), F_Ro_add 1 p1 h, ?_, ⟨A, c2.fr B (by decide), c3.fr B (by decide), by rw [B 0 (by decide)]; exact c4, fun q hq => (c5 q hq).fr B (by decide)⟩, fun i hi => B i (by simp; omega), fun hm hh => ?_⟩
  · show some (F_X_append p1 h) = _
    unfold F_X_append
    rw [if_neg (by omega), if_pos hp.2, c1.size, if_pos (by omega), A.size]
  · obtain ⟨m1, m2, m3, ⟨m4, m5, m6⟩, m7⟩ := hh
    have e6 : up hm 80 pad.length p1 76 6 = (pad.length : Int) := by rw [up_ne (by decide)]; exact m4
    have n1 : ¬ (pad.length : Int) = 40 := by omega
    have n2 : 0 ≤ (pad.length : Int) ∧ (pad.length : Int) < 40 := by omega
    have n3 : (pad ++ [p1]).length ≤ 40 := by omega
    have n4 : ∀ p, p < (pad ++ [p1]).length → ¬ p = pad.length → p < pad.length := by intro p x y; omega
    have n5 : ∀ i, i < 76 → i ≠ 76 ∧ i ≠ 80 := by intro i x; omega
    have ew : wr ((pad.length : Int) + 1) = ((pad ++ [p1]).length : Int) := by rw [ln, wr_id (by omega)]; omega
    refine ⟨up (up hm 80 pad.length p1) 76 6 ((pad ++ [p1]).length : Int), ?_, ⟨?_, ⟨?_, m2.2.1, ?_⟩, ⟨?_, ?_⟩, ⟨by rw [up_at], n3, fun p hpl => ?_⟩, ?_⟩, fun i hi => by rw [up_ne (n5 i hi).1, up_ne (n5 i hi).2]⟩
    · unfold F_M_append
      rw [M_in_1 hp, if_neg (show ¬ (1 : Int) = 0 by decide), m4, if_neg n1, gd_pos n2, nn, e6, ew, up_at]
    · rw [up_ne (by decide), up_ne (by decide)]; exact m1
    · rw [up_other (by decide), up_ne (by decide)]; exact m2.1
    · rw [up_ne (by decide), up_ne (by decide)]; exact m2.2.2
    · rw [up_other (by decide), up_ne (by decide)]; exact m3.1
    · rw [up_ne (by decide), up_ne (by decide)]; exact m3.2
    · rw [up_ne (by decide), up_if]
      by_cases c : p = pad.length
      · rw [if_pos c, c, snoc_get]
      · rw [if_neg c, List.getD_eq_getElem?_getD, List.getElem?_append_left (n4 p hpl c), ← List.getD_eq_getElem?_getD]
        exact m6 p (n4 p hpl c)
    · rw [up_other (by decide), up_ne (by decide)]; exact m7

/-! ===== to save, to take back ===== -/
theorem FZ.keep {h h' : MH} (F : FZ h h') {b : Nat} (hb : ¬ (b = 11 ∨ b = 13 ∨ b = 16)) : h' 76 b = h 76 b := F 76 b (by decide) (by decide) (by decide) (by decide) (by decide) (by decide) (fun z => hb z.2)
theorem step_save {h : MH} {pad : List Int} {g : SG} {hist : List SG} {sv : Option SG} (C : CR h pad g hist sv) (og : OKg g) : STEP F_X_save F_M_save h pad g hist sv pad g hist (some g) := by
  obtain ⟨c1, c2, c3, c4, c5⟩ := C
  obtain ⟨h1, f1, s1, w1⟩ := St_become (o := 10) (p := 3) rfl c2 (by decide)
  have C1 : CR (up h1 0 3 1) pad g hist (some g) := by
    refine ⟨(c1.fr w1 (by decide) (by decide)).upo (by decide) (by decide), ?_, ?_, by rw [up_at]; rfl, fun q hq => ?_⟩
    · exact (c2.fr w1 (by decide)).fr (FR.up (S := [0]) (by simp)) (by decide)
    · exact (c3.fr w1 (by decide)).fr (FR.up (S := [0]) (by simp)) (by decide)
    · cases hq
      exact s1.fr (FR.up (S := [0]) (by simp)) (by decide)
  obtain ⟨h2, f2, w2⟩ := X_now C1 og
  refine ⟨dst g.1 g.2.1, h2, ?_, C1.fr w2 (by decide), fun i hi => ?_, fun hm hh => ?_⟩
  · unfold F_X_save
    rw [f1, ob1_s, f2, ob2_s]
  · rw [SCR_hi w2 i hi, up_ne (by omega), w1 i (fun z => by have := mem_SS.mp z; omega)]
  · obtain ⟨m1, m2, m3, m4, m5⟩ := hh
    obtain ⟨hm1, a, b, c⟩ := save_loop FUEL 0 hm (by decide) (by rw [FUEL_eq]; decide)
    rw [show ((0 : Nat) : Int) = 0 from rfl] at a
    have r77 : hm1 77 = hm 77 := c 77 (by decide)
    have r78 : hm1 78 = hm 78 := c 78 (by decide)
    have r80 : hm1 80 = hm 80 := c 80 (by decide)
    have r76 : hm1 76 = hm 76 := c 76 (by decide)
    have M1 : MRR (up hm1 76 4 1) pad g hist (some g) := by
      refine ⟨by rw [up_ne (by decide), r77]; exact m1, ⟨by rw [up_other (by decide), r76]; exact m2.1, m2.2.1, by rw [up_ne (by decide), r78]; exact m2.2.2⟩, ⟨by rw [up_at]; rfl, fun q hq => ?_⟩, ⟨by rw [up_other (by decide), r76]; exact m4.1, m4.2.1, by rw [up_ne (by decide), r80]; exact m4.2.2⟩, by rw [up_other (by decide), r76]; exact m5⟩
      cases hq
      rw [up_ne (by decide)]
      exact m1.ext og (fun j hj => by rw [b, if_pos ⟨Nat.zero_le _, hj⟩])
    obtain ⟨hm2, d, _, e⟩ := M_now og M1
    refine ⟨hm2, ?_, e.mrr M1, fun i hi => ?_⟩
    · unfold F_M_save
      rw [a, ob2_s, d, ob2_s]
    · rw [e.lo i hi, up_ne (by omega), c i (by simp; omega)]
theorem snoc_of {l : List SG} (h : l ≠ []) : ∃ a x, l = a ++ [x] := ⟨l.dropLast, l.getLast h, (List.dropLast_concat_getLast h).symm⟩
theorem step_undo_none {h : MH} {pad : List Int} {g : SG} {sv : Option SG} (C : CR h pad g [] sv) : STEP F_X_undo F_M_undo h pad g [] sv pad g [] sv := by
  refine ⟨-2, h, ?_, C, fun _ _ => rfl, fun hm hh => ⟨hm, ?_, hh, fun _ _ => rfl⟩⟩
  · unfold F_X_undo F_Hi_isEmpty
    have e : h 17 1 = 0 := C.2.2.1.1
    rw [if_pos e, if_neg (show ¬ (1 : Int) = 0 by decide)]
  · unfold F_M_undo
    have e : hm 76 2 = 0 := hh.2.1.1
    rw [if_pos e]
theorem step_undo {h : MH} {pad : List Int} {g x : SG} {hist : List SG} {sv : Option SG} (C : CR h pad g (hist ++ [x]) sv) (ox : OKg x) : STEP F_X_undo F_M_undo h pad g (hist ++ [x]) sv pad x hist sv := by
  obtain ⟨c1, c2, c3, c4, c5⟩ := C
  obtain ⟨h1, f1, a1, a2, w1⟩ := Hi_takeBack c3
  have ln : h 17 1 = ((hist.length + 1 : Nat) : Int) := by rw [c3.1, List.length_append]; rfl
  have l4 : hist.length + 1 ≤ 4 := by have := c3.2.1; rw [List.length_append] at this; exact this
  refine ⟨(hist.length : Int), h1, ?_, ⟨c1.fr w1 (by decide) (by decide), a2, a1, by rw [w1 0 (by decide)]; exact c4, fun q hq => (c5 q hq).fr w1 (by decide)⟩, fun i hi => w1 i (by simp [SS]; omega), fun hm hh => ?_⟩
  · unfold F_X_undo F_Hi_isEmpty F_Hi_size
    have e : (if h 17 1 = 0 then (1 : Int) else 0) = 0 := if_neg (by omega)
    rw [if_pos e, f1, ob1_s, a1.1]
  · obtain ⟨m1, ⟨m2, m2a, m2b⟩, m3, m4, m5⟩ := hh
    have mn : hm 76 2 = ((hist.length + 1 : Nat) : Int) := by rw [m2, List.length_append]; rfl
    have e1 : wr (hm 76 2 - 1) = (hist.length : Int) := by rw [mn, wr_id (by omega)]; omega
    obtain ⟨hm1, a, b, c⟩ := undo_loop (k := hist.length) (by omega) FUEL 0 (up hm 76 2 (hist.length : Int)) (by rw [up_at]) (by decide) (by rw [FUEL_eq]; decide)
    rw [show ((0 : Nat) : Int) = 0 from rfl] at a
    have r76 : hm1 76 = up hm 76 2 (hist.length : Int) 76 := c 76 (by decide)
    have rr : ∀ i, i ≠ 76 → i ≠ 77 → hm1 i = hm i := fun i x1 x2 => by rw [c i (by simpa using x2), up_ne x1]
    have hx : SM (fun j => hm 78 (49 * hist.length + j)) x := m2b hist.length x (by rw [List.getElem?_append_right (Nat.le_refl _), Nat.sub_self]; rfl)
    refine ⟨hm1, ?_, ⟨?_, ⟨by rw [r76, up_at], by omega, fun k q hq => ?_⟩, ⟨by rw [r76, up_other (by decide)]; exact m3.1, by rw [rr 79 (by decide) (by decide)]; exact m3.2⟩, ⟨by rw [r76, up_other (by decide)]; exact m4.1, m4.2.1, by rw [rr 80 (by decide) (by decide)]; exact m4.2.2⟩, by rw [r76, up_other (by decide)]; exact m5⟩, fun i hi => rr i (by omega) (by omega)⟩
    · unfold F_M_undo
      rw [if_neg (by omega), e1, a, ob2_s, r76, up_at]
    · exact hx.ext ox (fun j hj => by rw [b, if_pos ⟨Nat.zero_le _, hj⟩, up_ne (by decide)])
    · rw [rr 78 (by decide) (by decide)]
      have hk := (List.getElem?_eq_some_iff.mp hq).1
      exact m2b k q (by rw [List.getElem?_append_left hk]; exact hq)

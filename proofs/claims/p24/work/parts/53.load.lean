/-! ===== one of the texts, by its number; to load ===== -/
def getT (g : SG) (t : Nat) : List Int := if t = 0 then g.1 else if t = 1 then g.2.1 else g.2.2.1
def setT (g : SG) (t : Nat) (l : List Int) : SG := (if t = 0 then l else g.1, if t = 1 then l else g.2.1, if t = 2 then l else g.2.2.1, g.2.2.2)
theorem t012 {t : Nat} (ht : t ≤ 2) : t = 0 ∨ t = 1 ∨ t = 2 := by omega
theorem ST.getT {h : MH} {g : SG} {t : Nat} (H : ST h 3 g) (ht : t ≤ 2) : RW h (4 + 2 * t) (getT g t) := by
  rcases t012 ht with rfl | rfl | rfl
  · exact H.2.1
  · exact H.2.2.1
  · exact H.2.2.2.1
theorem kd_text {t : Nat} (ht : t ≤ 2) : kd (4 + 2 * t) = 5 ∧ al (4 + 2 * t + 1) = 14 ∧ F_St_text 3 (t : Int) = 4 + 2 * t := by
  rcases t012 ht with rfl | rfl | rfl
  · decide
  · decide
  · decide
theorem ST.setT {h h' : MH} {g : SG} {t : Nat} {l : List Int} (H : ST h 3 g) (ht : t ≤ 2) (R : RW h' (4 + 2 * t) l) (F : FR [4 + 2 * t, 4 + 2 * t + 1] h h') : ST h' 3 (setT g t l) := by
  obtain ⟨a, b, c, d, e1, e2, e3, e4⟩ := H
  rcases t012 ht with rfl | rfl | rfl
  · exact ⟨a, R, c.fr F (by decide) (by decide), d.fr F (by decide) (by decide), by rw [F 3 (by decide)]; exact e1, by rw [F 3 (by decide)]; exact e2, by rw [F 3 (by decide)]; exact e3, by rw [F 3 (by decide)]; exact e4⟩
  · exact ⟨a, b.fr F (by decide) (by decide), R, d.fr F (by decide) (by decide), by rw [F 3 (by decide)]; exact e1, by rw [F 3 (by decide)]; exact e2, by rw [F 3 (by decide)]; exact e3, by rw [F 3 (by decide)]; exact e4⟩
  · exact ⟨a, b.fr F (by decide) (by decide), c.fr F (by decide) (by decide), R, by rw [F 3 (by decide)]; exact e1, by rw [F 3 (by decide)]; exact e2, by rw [F 3 (by decide)]; exact e3, by rw [F 3 (by decide)]; exact e4⟩
theorem OKg.getT {g : SG} (og : OKg g) {t : Nat} (ht : t ≤ 2) : OKt (getT g t) := by
  rcases t012 ht with rfl | rfl | rfl
  · exact og.1
  · exact og.2.1
  · exact og.2.2.1
theorem OKg.setT {g : SG} (og : OKg g) {t : Nat} (ht : t ≤ 2) {l : List Int} (hl : OKt l) : OKg (setT g t l) := by
  obtain ⟨a, b, c, d⟩ := og
  rcases t012 ht with rfl | rfl | rfl
  · exact ⟨hl, b, c, d⟩
  · exact ⟨a, hl, c, d⟩
  · exact ⟨a, b, hl, d⟩
theorem getT_setT {g : SG} {t : Nat} (ht : t ≤ 2) {l : List Int} : getT (setT g t l) t = l := by
  rcases t012 ht with rfl | rfl | rfl <;> rfl
theorem wr_15 {t : Nat} (ht : t ≤ 2) : wr (15 * (t : Int)) = ((15 * t : Nat) : Int) := by rw [wr_id (by omega)]; omega
theorem X_isText_1 {t : Nat} (ht : t ≤ 2) : F_X_isText (t : Int) = 1 := by
  unfold F_X_isText
  rw [if_neg (by omega), if_pos (by omega)]
theorem X_isText_0 {p1 : Int} (hp : ¬ (0 ≤ p1 ∧ p1 ≤ 2)) : F_X_isText p1 = 0 := by
  unfold F_X_isText
  by_cases c : p1 < 0
  · rw [if_pos c]
  · rw [if_neg c, if_neg (by omega)]
/-- the signs of a pad -/
def sgs (pad : List Int) : List Int := pad.map sg_indexOf
theorem sgs_at {pad : List Int} {p : Nat} (hp : p < pad.length) : (sgs pad).getD p (-1) = sg_indexOf (pad.getD p (-1)) := by
  unfold sgs
  rw [List.getD_eq_getElem?_getD, List.getElem?_map, List.getD_eq_getElem?_getD, List.getElem?_eq_getElem hp]
  rfl
theorem sgs_len (pad : List Int) : (sgs pad).length = pad.length := List.length_map ..

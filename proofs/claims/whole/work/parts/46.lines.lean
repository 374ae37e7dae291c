/-! ===== a line; how far apart now ===== -/
theorem X_text {h : MH} {pad : List Int} {g : SG} {hist : List SG} {sv : Option SG} (C : CR h pad g hist sv) : RW h (F_St_text 3 0) g.1 ∧ RW h (F_St_text 3 1) g.2.1 ∧ RW h (F_St_text 3 2) g.2.2.1 := by
  rw [show F_St_text 3 0 = 4 by decide, show F_St_text 3 1 = 6 by decide, show F_St_text 3 2 = 8 by decide]
  exact ⟨C.2.1.2.1, C.2.1.2.2.1, C.2.1.2.2.2.1⟩
theorem sim_line {h : MH} {pad : List Int} {g : SG} {hist : List SG} {sv : Option SG} (C : CR h pad g hist sv) (og : OKg g) (p1 p2 : Int) (hm : MH) (M : MRR hm pad g hist sv) : F_M_line p1 p2 hm = some (F_X_line p1 p2 h) := by
  obtain ⟨x0, x1, x2⟩ := X_text C
  unfold F_M_line F_X_line F_X_isText
  by_cases c : 0 ≤ p1 ∧ p1 ≤ 2
  · rw [M_in_1 c, if_neg (show ¬ (1 : Int) = 0 by decide), if_neg (show ¬ p1 < 0 by omega), if_pos c.2, if_neg (show ¬ (1 : Int) = 0 by decide)]
    by_cases c2 : p2 < 0
    · rw [if_pos c2, if_pos c2]
    · rw [if_neg c2, if_neg c2]
      have hd : p1 = 0 ∨ p1 = 1 ∨ p1 = 2 := by omega
      rcases hd with rfl | rfl | rfl
      · rw [M_lines0 M.1, ob1_s, x0.size, x0.at]
        by_cases c3 : p2 < (g.1.length : Int)
        · rw [if_pos c3, if_pos c3, M_lineOf0 M.1 og (by omega) c3, ob1_s]
        · rw [if_neg c3, if_neg c3]
      · rw [M_lines1 M.1, ob1_s, x1.size, x1.at]
        by_cases c3 : p2 < (g.2.1.length : Int)
        · rw [if_pos c3, if_pos c3, M_lineOf1 M.1 og (by omega) c3, ob1_s]
        · rw [if_neg c3, if_neg c3]
      · rw [M_lines2 M.1, ob1_s, x2.size, x2.at]
        by_cases c3 : p2 < (g.2.2.1.length : Int)
        · rw [if_pos c3, if_pos c3, M_lineOf2 M.1 og (by omega) c3, ob1_s]
        · rw [if_neg c3, if_neg c3]
  · rw [M_in_0 c, if_pos rfl]
    by_cases c2 : p1 < 0
    · rw [if_pos c2, if_pos rfl]
    · rw [if_neg c2, if_neg (show ¬ p1 ≤ 2 by omega), if_pos rfl]
theorem M_now {hm : MH} {pad : List Int} {g : SG} {hist : List SG} {sv : Option SG} (og : OKg g) (M : MRR hm pad g hist sv) : ∃ hm', F_M_counts hm = some (dst g.1 g.2.1, hm') ∧ (∀ i j, i ≤ g.1.length → j ≤ g.2.1.length → hm' 81 (15 * i + j) = kp g.1 g.2.1 i j) ∧ FZ hm hm' := by
  obtain ⟨hm', a, b, c⟩ := M_counts og M.1 (Or.inl ⟨M.2.2.2.2, rfl⟩)
  exact ⟨hm', a, b, fun x y p _ _ _ _ _ _ => by rw [c x (by simpa using p)]⟩
theorem X_now {h : MH} {pad : List Int} {g : SG} {hist : List SG} {sv : Option SG} (C : CR h pad g hist sv) (og : OKg g) : ∃ h', F_X_distanceNow h = some (dst g.1 g.2.1, h') ∧ FR SCR h h' := by
  obtain ⟨x0, x1, x2⟩ := X_text C
  obtain ⟨h', f, F1⟩ := C_apart x0 x1 (by decide) (by decide) og.1.1 og.2.1.1
  unfold F_X_distanceNow
  rw [f, ob2_s]
  exact ⟨h', rfl, F1.mono (by decide)⟩
/-- a call that changes what both hold -/
def STEP (X M : MH → Option (Int × MH)) (h : MH) (pad : List Int) (g : SG) (hist : List SG) (sv : Option SG) (pad' : List Int) (g' : SG) (hist' : List SG) (sv' : Option SG) : Prop :=
  ∃ r h', X h = some (r, h') ∧ CR h' pad' g' hist' sv' ∧ (∀ i, 76 ≤ i → h' i = h i) ∧ ∀ hm, MRR hm pad g hist sv → ∃ hm', M hm = some (r, hm') ∧ MRR hm' pad' g' hist' sv' ∧ (∀ i, i < 76 → hm' i = hm i)
theorem SCR_hi {h h' : MH} (F : FR SCR h h') : ∀ i, 76 ≤ i → h' i = h i := fun i hi => F i (fun hm => by
  have : ∀ x ∈ SCR, x < 76 := by decide
  have := this i hm
  omega)
theorem FZ.lo {h h' : MH} (F : FZ h h') : ∀ i, i < 76 → h' i = h i := fun i hi => F.row (by omega) (by omega)
theorem SIM.step {X M : MH → Option (Int × MH)} {h : MH} {pad : List Int} {g : SG} {hist : List SG} {sv : Option SG} (s : SIM X M h pad g hist sv) (C : CR h pad g hist sv) : STEP X M h pad g hist sv pad g hist sv := by
  obtain ⟨r, h', a, b, c⟩ := s
  refine ⟨r, h', a, C.fr b (by decide), SCR_hi b, fun hm hh => ?_⟩
  obtain ⟨hm', d, e⟩ := c hm hh
  exact ⟨hm', d, e.mrr hh, e.lo⟩
theorem step_clear {h : MH} {pad : List Int} {g : SG} {hist : List SG} {sv : Option SG} (C : CR h pad g hist sv) : STEP (fun h => some (F_X_clear h)) (fun h => some (F_M_clear h)) h pad g hist sv [] g hist sv := by
  obtain ⟨c1, c2, c3, c4, c5⟩ := C
  obtain ⟨A, B⟩ := Ro_emptyOut (h := h) (o := 1) rfl
  refine ⟨(pad.length : Int), F_Ro_emptyOut 1 h, ?_, ⟨A, c2.fr B (by decide), c3.fr B (by decide), by rw [B 0 (by decide)]; exact c4, fun q hq => (c5 q hq).fr B (by decide)⟩, fun i hi => B i (by simp; omega), fun hm hh => ?_⟩
  · show some (F_Ro_size 1 h, F_Ro_emptyOut 1 h) = _
    rw [c1.size]
  · obtain ⟨m1, m2, m3, ⟨m4, m5, m6⟩, m7⟩ := hh
    refine ⟨up hm 76 6 0, ?_, ⟨by rw [up_ne (by decide)]; exact m1, ⟨by rw [up_other (by decide)]; exact m2.1, m2.2.1, by rw [up_ne (by decide)]; exact m2.2.2⟩, ⟨by rw [up_other (by decide)]; exact m3.1, by rw [up_ne (by decide)]; exact m3.2⟩, ⟨by rw [up_at]; rfl, by decide, fun p hp => absurd hp (Nat.not_lt_zero _)⟩, by rw [up_other (by decide)]; exact m7⟩, fun i hi => up_ne (by omega)⟩
    show some (hm 76 6, up hm 76 6 0) = _
    rw [m4]

/-! ===== a line; how far apart now ===== -/
theorem X_text {h : MH} {pad : List Int} {g : SG} {hist : List SG} {sv : Option SG} (C : CR h pad g hist sv) : RW h (F_St_text 3 0) g.1 ∧ RW h (F_St_text 3 1) g.2.1 ∧ RW h (F_St_text 3 2) g.2.2.1 := by
  rw [show F_St_text 3 0 = 4 by decide, show F_St_text 3 1 = 6 by decide, show F_St_text 3 2 = 8 by decide]
  exact ⟨C.2.1.2.1, C.2.1.2.2.1, C.2.1.2.2.2.1⟩
theorem X_now {h : MH} {pad : List Int} {g : SG} {hist : List SG} {sv : Option SG} (C : CR h pad g hist sv) (og : OKg g) : ∃ h', F_X_distanceNow h = some (dst g.1 g.2.1, h') ∧ FR SCR h h' := by
  obtain ⟨x0, x1, x2⟩ := X_text C
  obtain ⟨h', f, F1⟩ := C_apart x0 x1 (by decide) (by decide) og.1.1 og.2.1.1
  unfold F_X_distanceNow
  rw [f, ob2_s]
  exact ⟨h', rfl, F1.mono (by decide)⟩
theorem SCR_hi {h h' : MH} (F : FR SCR h h') : ∀ i, 76 ≤ i → h' i = h i := fun i hi => F i (fun hm => by
  have : ∀ x ∈ SCR, x < 76 := by decide
  have := this i hm
  omega)

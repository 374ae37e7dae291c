/-! ===== to restore ===== -/
theorem HS_lo : ∀ x ∈ HS, x ≠ 0 ∧ x ≠ 1 ∧ x ≠ 2 ∧ ¬ (3 ≤ x ∧ x ≤ 9) ∧ ¬ (10 ≤ x ∧ x ≤ 16) ∧ x < 47 := by decide
theorem CR.rec {h h' : MH} {pad : List Int} {g : SG} {hist hist' : List SG} {sv : Option SG} (C : CR h pad g hist sv) (F : FR HS h h') (H : HI h' hist') : CR h' pad g hist' sv := by
  obtain ⟨c1, c2, c3, c4, c5⟩ := C
  have hl := HS_lo
  exact ⟨c1.fr F (fun z => (hl 1 z).2.1 rfl) (fun z => (hl 2 z).2.2.1 rfl), c2.fr F (fun x hx => by have := hl x hx; omega), H, by rw [F 0 (fun z => (hl 0 z).1 rfl)]; exact c4, fun q hq => (c5 q hq).fr F (fun x hx => by have := hl x hx; omega)⟩

/-! ===== to restore ===== -/
theorem step_restore_none {h : MH} {pad : List Int} {g : SG} {hist : List SG} (C : CR h pad g hist none) : STEP F_X_restore F_M_restore h pad g hist none pad g hist none := by
  refine ⟨-2, h, ?_, C, fun _ _ => rfl, fun hm hh => ⟨hm, ?_, hh, fun _ _ => rfl⟩⟩
  · unfold F_X_restore
    have e : h 0 3 = 0 := C.2.2.2.1
    rw [if_pos e]
  · unfold F_M_restore
    have e : hm 76 4 = 0 := hh.2.2.1.1
    rw [if_pos e]
theorem HS_lo : ∀ x ∈ HS, x ≠ 0 ∧ x ≠ 1 ∧ x ≠ 2 ∧ ¬ (3 ≤ x ∧ x ≤ 9) ∧ ¬ (10 ≤ x ∧ x ≤ 16) ∧ x < 47 := by decide
theorem CR.rec {h h' : MH} {pad : List Int} {g : SG} {hist hist' : List SG} {sv : Option SG} (C : CR h pad g hist sv) (F : FR HS h h') (H : HI h' hist') : CR h' pad g hist' sv := by
  obtain ⟨c1, c2, c3, c4, c5⟩ := C
  have hl := HS_lo
  exact ⟨c1.fr F (fun z => (hl 1 z).2.1 rfl) (fun z => (hl 2 z).2.2.1 rfl), c2.fr F (fun x hx => by have := hl x hx; omega), H, by rw [F 0 (fun z => (hl 0 z).1 rfl)]; exact c4, fun q hq => (c5 q hq).fr F (fun x hx => by have := hl x hx; omega)⟩
theorem MRR.rec {hm hm' : MH} {pad : List Int} {g : SG} {hist hist' : List SG} {sv : Option SG} (M : MRR hm pad g hist sv) (F : ∀ a b, a ≠ 78 → ¬ (a = 76 ∧ b = 2) → hm' a b = hm a b) (H : MHI hm' hist') : MRR hm' pad g hist' sv := by
  obtain ⟨m1, m2, m3, m4, m5⟩ := M
  have row : ∀ a, a ≠ 78 → a ≠ 76 → hm' a = hm a := fun a x1 x2 => funext fun b => F a b x1 (fun z => x2 z.1)
  have s76 : ∀ b, b ≠ 2 → hm' 76 b = hm 76 b := fun b hb => F 76 b (by decide) (fun z => hb z.2)
  exact ⟨by rw [row 77 (by decide) (by decide)]; exact m1, H, ⟨by rw [s76 4 (by decide)]; exact m3.1, by rw [row 79 (by decide) (by decide)]; exact m3.2⟩, ⟨by rw [s76 6 (by decide)]; exact m4.1, m4.2.1, by rw [row 80 (by decide) (by decide)]; exact m4.2.2⟩, by rw [s76 8 (by decide)]; exact m5⟩
theorem step_restore {h : MH} {pad : List Int} {g x : SG} {hist : List SG} (C : CR h pad g hist (some x)) (og : OKg g) (ox : OKg x) (oh : OKh hist) : STEP F_X_restore F_M_restore h pad g hist (some x) pad x (hpush hist g) (some x) := by
  obtain ⟨h1, f1, a1, w1⟩ := Hi_record C.2.2.1 C.2.1
  have C1 := C.rec w1 a1
  have s10 : ST h1 10 x := C1.2.2.2.2 x rfl
  obtain ⟨h2, f2, s2, w2⟩ := St_become (o := 3) (p := 10) rfl s10 (by decide)
  have C2 : CR h2 pad x (hpush hist g) (some x) := by
    obtain ⟨c1, c2, c3, c4, c5⟩ := C1
    refine ⟨c1.fr w2 (by decide) (by decide), s2, c3.fr w2 (by decide), by rw [w2 0 (by decide)]; exact c4, fun q hq => (c5 q hq).fr w2 (by decide)⟩
  obtain ⟨h3, f3, w3⟩ := X_now C2 ox
  refine ⟨dst x.1 x.2.1, h3, ?_, C2.fr w3 (by decide), fun i hi => ?_, fun hm hh => ?_⟩
  · unfold F_X_restore
    have e : h 0 3 = 1 := C.2.2.2.1
    rw [if_neg (by rw [e]; decide), f1, ob1_s, f2, ob1_s, f3, ob2_s]
  · rw [SCR_hi w3 i hi, w2 i (fun z => by have := mem_SS.mp z; omega), w1 i (fun z => by have := HS_lo i z; omega)]
  · obtain ⟨hm1, g1, M1, r1⟩ := M_remembers (hist := hist) (g := g) hh.2.1 hh.1 oh og
    have MR1 := hh.rec r1 M1
    obtain ⟨hm2, a, b, c⟩ := restore_loop FUEL 0 hm1 (by decide) (by rw [FUEL_eq]; decide)
    rw [show ((0 : Nat) : Int) = 0 from rfl] at a
    have M2 : MRR hm2 pad x (hpush hist g) (some x) := by
      obtain ⟨m1, m2, m3, m4, m5⟩ := MR1
      have rr : ∀ i, i ≠ 77 → hm2 i = hm1 i := fun i x1 => c i (by simpa using x1)
      refine ⟨(m3.2 x rfl).ext ox (fun j hj => by rw [b, if_pos ⟨Nat.zero_le _, hj⟩]), ⟨by rw [rr 76 (by decide)]; exact m2.1, m2.2.1, by rw [rr 78 (by decide)]; exact m2.2.2⟩, ⟨by rw [rr 76 (by decide)]; exact m3.1, by rw [rr 79 (by decide)]; exact m3.2⟩, ⟨by rw [rr 76 (by decide)]; exact m4.1, m4.2.1, by rw [rr 80 (by decide)]; exact m4.2.2⟩, by rw [rr 76 (by decide)]; exact m5⟩
    obtain ⟨hm3, d, _, e⟩ := M_now ox M2
    refine ⟨hm3, ?_, e.mrr M2, fun i hi => ?_⟩
    · unfold F_M_restore
      have e4 : hm 76 4 = 1 := hh.2.2.1.1
      rw [if_neg (by rw [e4]; decide), g1, ob1_s, a, ob2_s, d, ob2_s]
    · rw [e.lo i hi, c i (by simp; omega)]
      exact funext fun y => r1 i y (by omega) (fun z => by omega)

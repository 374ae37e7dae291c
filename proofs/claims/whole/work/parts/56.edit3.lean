/-! ===== a call that changes one text alone ===== -/
theorem CR.setT {h h' : MH} {pad : List Int} {g : SG} {hist : List SG} {sv : Option SG} (C : CR h pad g hist sv) {t : Nat} (ht : t ≤ 2) {l : List Int} (R : RW h' (4 + 2 * t) l) (F : FR [4 + 2 * t, 4 + 2 * t + 1] h h') : CR h' pad (setT g t l) hist sv := by
  have nin : ∀ x : Nat, x < 4 ∨ 9 < x → x ∉ [4 + 2 * t, 4 + 2 * t + 1] := fun x hx hm => by simp at hm; omega
  obtain ⟨c1, c2, c3, c4, c5⟩ := C
  exact ⟨c1.fr F (nin 1 (by omega)) (nin 2 (by omega)), c2.setT ht R F, c3.fr F (fun x hx => by simp at hx; omega), by rw [F 0 (nin 0 (by omega))]; exact c4, fun q hq => (c5 q hq).fr F (fun x hx => by simp at hx; omega)⟩
theorem MRR.set77 {hm hm' : MH} {pad : List Int} {g g' : SG} {hist : List SG} {sv : Option SG} (M : MRR hm pad g hist sv) (S : SM (hm' 77) g') (F : FR [77] hm hm') : MRR hm' pad g' hist sv := by
  obtain ⟨m1, m2, m3, m4, m5⟩ := M
  have rr : ∀ i, i ≠ 77 → hm' i = hm i := fun i x1 => F i (by simpa using x1)
  exact ⟨S, ⟨by rw [rr 76 (by decide)]; exact m2.1, m2.2.1, by rw [rr 78 (by decide)]; exact m2.2.2⟩, ⟨by rw [rr 76 (by decide)]; exact m3.1, by rw [rr 79 (by decide)]; exact m3.2⟩, ⟨by rw [rr 76 (by decide)]; exact m4.1, m4.2.1, by rw [rr 80 (by decide)]; exact m4.2.2⟩, by rw [rr 76 (by decide)]; exact m5⟩
theorem step_text {X M : MH → Option (Int × MH)} {h : MH} {pad : List Int} {g : SG} {hist : List SG} {sv : Option SG} (C : CR h pad g hist sv) (og : OKg g) (oh : OKh hist) {t : Nat} (ht : t ≤ 2) {l : List Int} {r : Int}
    (hX : ∀ h1, F_Hi_record 3 h = some h1 → CR h1 pad g (hpush hist g) sv → ∃ h', X h = some (r, h') ∧ RW h' (4 + 2 * t) l ∧ FR [4 + 2 * t, 4 + 2 * t + 1] h1 h')
    (hM : ∀ hm hm1, MRR hm pad g hist sv → F_M_remembers hm = some hm1 → SM (hm1 77) g → ∃ hm', M hm = some (r, hm') ∧ SM (hm' 77) (setT g t l) ∧ FR [77] hm1 hm') : STEP X M h pad g hist sv pad (setT g t l) (hpush hist g) sv := by
  obtain ⟨h1, f1, a1, w1⟩ := Hi_record C.2.2.1 C.2.1
  have C1 := C.rec w1 a1
  obtain ⟨h', x1, x2, x3⟩ := hX h1 f1 C1
  refine ⟨r, h', x1, C1.setT ht x2 x3, fun i hi => ?_, fun hm hh => ?_⟩
  · rw [x3 i (by simp; omega), w1 i (fun z => by have := HS_lo i z; omega)]
  · obtain ⟨hm1, g1, M1, r1⟩ := M_remembers (hist := hist) (g := g) hh.2.1 hh.1 oh og
    have MR1 := hh.rec r1 M1
    obtain ⟨hm', y1, y2, y3⟩ := hM hm hm1 hh g1 MR1.1
    refine ⟨hm', y1, MR1.set77 y2 y3, fun i hi => ?_⟩
    rw [y3 i (by simp; omega)]
    exact funext fun y => r1 i y (by omega) (fun z => by omega)
section EDIT
variable {h : MH} {pad : List Int} {g : SG} {hist : List SG} {sv : Option SG}
theorem step_edit_no (C : CR h pad g hist sv) (og : OKg g) {p1 p2 p3 : Int} (h3 : inR p3) (hp : ¬ (0 ≤ p1 ∧ p1 ≤ 2) ∨ ¬ RG p3) : STEP (F_X_edit p1 p2 p3) (F_M_edit p1 p2 p3) h pad g hist sv pad g hist sv :=
  step_flat C (-1) (X_edit_no C h3 hp) (fun hm _ => M_edit_no hp)
theorem ins_ok {l : List Int} (ol : OKt l) {i : Nat} (hi : i ≤ l.length) {v : Int} (hv : 0 ≤ v ∧ v ≤ 8) (hl : l.length < 14) : OKt (ins l i v) := by
  refine ⟨by rw [ins_len hi]; omega, fun x hx => ?_⟩
  unfold ins at hx
  rcases List.mem_append.mp hx with hx | hx
  · exact ol.2 x (List.mem_of_mem_take hx)
  · rcases List.mem_cons.mp hx with rfl | hx
    · exact hv
    · exact ol.2 x (List.mem_of_mem_drop hx)
theorem del_ok {l : List Int} (ol : OKt l) {i : Nat} (hi : i < l.length) : OKt (del l i) := by
  refine ⟨by rw [del_len hi]; have := ol.1; omega, fun x hx => ?_⟩
  unfold del at hx
  rcases List.mem_append.mp hx with hx | hx
  · exact ol.2 x (List.mem_of_mem_take hx)
  · exact ol.2 x (List.mem_of_mem_drop hx)
theorem lset_ok {l : List Int} (ol : OKt l) {i : Nat} {v : Int} (hv : 0 ≤ v ∧ v ≤ 8) : OKt (l.set i v) := by
  refine ⟨by rw [lset_len]; exact ol.1, fun x hx => ?_⟩
  rcases List.mem_or_eq_of_mem_set hx with hx | rfl
  · exact ol.2 x hx
  · exact hv
/-- every edit: it changes nothing, or one text -/
theorem step_edit (C : CR h pad g hist sv) (og : OKg g) (oh : OKh hist) {p1 p2 p3 : Int} (h3 : inR p3) :
    STEP (F_X_edit p1 p2 p3) (F_M_edit p1 p2 p3) h pad g hist sv pad g hist sv ∨ ∃ t l, t ≤ 2 ∧ OKt l ∧ STEP (F_X_edit p1 p2 p3) (F_M_edit p1 p2 p3) h pad g hist sv pad (setT g t l) (hpush hist g) sv := by
  by_cases c1 : 0 ≤ p1 ∧ p1 ≤ 2
  · by_cases c2 : RG p3
    · have ep : p1 = (p1.toNat : Int) := by omega
      have ht : p1.toNat ≤ 2 := by omega
      generalize p1.toNat = t at ep ht
      subst ep
      have ol := og.getT ht
      by_cases c3 : 0 ≤ p2 ∧ p2 ≤ ((getT g t).length : Int) ∧ ((0 ≤ p3 ∧ p3 ≤ 8) ∨ p2 < ((getT g t).length : Int))
      · have ep2 : p2 = (p2.toNat : Int) := by omega
        generalize p2.toNat = i at ep2
        subst ep2
        have hi : i ≤ (getT g t).length := by omega
        by_cases c4 : 0 ≤ p3 ∧ p3 ≤ 8
        · by_cases c5 : (getT g t).length < 14
          · refine Or.inr ⟨t, ins (getT g t) i p3, ht, ins_ok ol hi c4 c5, step_text C og oh ht (r := ((getT g t).length : Int) + 1) (fun h1 f1 C1 => ?_) (fun hm hm1 hh hr hs => M_edit_new hh.1 og ht c4 hi c5 hr hs)⟩
            obtain ⟨h', a, b, c⟩ := Ro_putIn (C1.2.1.getT ht) (i := (i : Int)) (v := p3) (by omega) (by omega) (by rw [(kd_text ht).2.1]; exact c5)
            rw [nn] at b
            refine ⟨h', ?_, b, c⟩
            rw [X_edit_new C ht c4 ⟨Int.natCast_nonneg _, by omega⟩ (by omega), f1, ob1_s, a, ob1_s, b.size, ins_len hi]
            rfl
          · exact Or.inl (step_flat C (-3) (X_edit_full C ht c4 ⟨Int.natCast_nonneg _, by omega⟩ (by omega)) (fun hm hh => M_edit_full hh.1 ht c4 ⟨Int.natCast_nonneg _, by omega⟩ (by have := ol.1; omega)))
        · have hi2 : i < (getT g t).length := by omega
          by_cases c5 : 10 ≤ p3 ∧ p3 ≤ 18
          · refine Or.inr ⟨t, (getT g t).set i (p3 - 10), ht, lset_ok ol (by omega), step_text C og oh ht (r := ((getT g t).length : Int)) (fun h1 f1 C1 => ?_) (fun hm hm1 hh hr hs => M_edit_ch hh.1 og ht c5 hi2 hr hs)⟩
            obtain ⟨b, c⟩ := Ro_change (C1.2.1.getT ht) (i : Int) (p3 - 10) (by omega) (by omega)
            rw [nn] at b
            refine ⟨_, ?_, b, c⟩
            rw [X_edit_ch C h3 ht c5 ⟨Int.natCast_nonneg _, by omega⟩, f1, ob1_s, b.size, lset_len]
          · have c6 : p3 = 20 := by unfold RG at c2; omega
            refine Or.inr ⟨t, del (getT g t) i, ht, del_ok ol hi2, step_text C og oh ht (r := ((getT g t).length : Int) - 1) (fun h1 f1 C1 => ?_) (fun hm hm1 hh hr hs => M_edit_out hh.1 og ht c6 hi2 hr hs)⟩
            obtain ⟨h', a, b, c⟩ := Ro_putOut (C1.2.1.getT ht) (i := (i : Int)) (by omega) (by omega)
            rw [nn] at b
            refine ⟨h', ?_, b, c⟩
            rw [X_edit_out C h3 ht c6 ⟨Int.natCast_nonneg _, by omega⟩, f1, ob1_s, a, ob1_s, b.size, del_len hi2]
            congr 2
            omega
      · exact Or.inl (step_flat C (-1) (X_edit_line C h3 ht c2 c3) (fun hm hh => M_edit_line hh.1 og ht c2 c3))
    · exact Or.inl (step_edit_no C og h3 (Or.inr c2))
  · exact Or.inl (step_edit_no C og h3 (Or.inl c1))
end EDIT

/-! ===== a call that changes one text alone ===== -/
theorem CR.setT {h h' : MH} {pad : List Int} {g : SG} {hist : List SG} {sv : Option SG} (C : CR h pad g hist sv) {t : Nat} (ht : t ≤ 2) {l : List Int} (R : RW h' (4 + 2 * t) l) (F : FR [4 + 2 * t, 4 + 2 * t + 1] h h') : CR h' pad (setT g t l) hist sv := by
  have nin : ∀ x : Nat, x < 4 ∨ 9 < x → x ∉ [4 + 2 * t, 4 + 2 * t + 1] := fun x hx hm => by simp at hm; omega
  obtain ⟨c1, c2, c3, c4, c5⟩ := C
  exact ⟨c1.fr F (nin 1 (by omega)) (nin 2 (by omega)), c2.setT ht R F, c3.fr F (fun x hx => by simp at hx; omega), by rw [F 0 (nin 0 (by omega))]; exact c4, fun q hq => (c5 q hq).fr F (fun x hx => by simp at hx; omega)⟩
section EDIT
variable {h : MH} {pad : List Int} {g : SG} {hist : List SG} {sv : Option SG}
theorem ins_ok {l : List Int} (ol : OKt l) {i : Nat} (hi : i ≤ l.length) {v : Int} (hv : 0 ≤ v ∧ v ≤ 8) (hl : l.length < 14) : OKt (ins l i v) := by
  refine ⟨by rw [ins_len hi]; omega, fun x hx => ?_⟩
  unfold ins at hx
  rcases List.mem_append.mp hx with hx | hx
  · exact ol.2 x (List.mem_of_mem_take hx)
  · rcases List.mem_cons.mp hx with rfl | hx
    · exact hv
    · exact ol.2 x (List.mem_of_mem_drop hx)
theorem del_ok {l : List Int} (ol : OKt l) {i : Nat} (hi : i < l.length) : OKt (del l i) := by
  refine ⟨by rw [del_len hi]; have := ol.1; omega, fun x hx => ?_⟩
  unfold del at hx
  rcases List.mem_append.mp hx with hx | hx
  · exact ol.2 x (List.mem_of_mem_take hx)
  · exact ol.2 x (List.mem_of_mem_drop hx)
theorem lset_ok {l : List Int} (ol : OKt l) {i : Nat} {v : Int} (hv : 0 ≤ v ∧ v ≤ 8) : OKt (l.set i v) := by
  refine ⟨by rw [lset_len]; exact ol.1, fun x hx => ?_⟩
  rcases List.mem_or_eq_of_mem_set hx with hx | rfl
  · exact ol.2 x hx
  · exact hv
end EDIT

/-! ===== to edit ===== -/
theorem M_lines_raw {h : MH} {t : Nat} (ht : t ≤ 2) : F_M_lines (t : Int) h = some (h 77 (15 * t)) := by
  unfold F_M_lines
  rw [wr_15 ht, gd_pos (by omega), nn]
theorem X_isSign_1 {x : Int} (h : 0 ≤ x ∧ x ≤ 8) : F_X_isSign x = 1 := by
  unfold F_X_isSign sg_length
  rw [if_neg (by omega), if_pos (by omega)]
theorem X_isSign_0 {x : Int} (h : ¬ (0 ≤ x ∧ x ≤ 8)) : F_X_isSign x = 0 := by
  unfold F_X_isSign sg_length
  by_cases c : x < 0
  · rw [if_pos c]
  · rw [if_neg c, if_neg (by omega)]
theorem wr_m10 {x : Int} (h : inR x) : (10 ≤ x ∧ x ≤ 18 → wr (x - 10) = x - 10) ∧ (¬ (10 ≤ x ∧ x ≤ 18) → ¬ (0 ≤ wr (x - 10) ∧ wr (x - 10) ≤ 8)) := by
  unfold inR at h
  refine ⟨fun c => wr_id (by omega), fun c => ?_⟩
  by_cases d : -2147483648 ≤ x - 10
  · rw [wr_id (by omega)]; omega
  · have e : wr (x - 10) = x - 10 + 4294967296 := by
      have : wr (x - 10) = wr (x - 10 + 4294967296) := by
        unfold wr
        first
          | exact (Int.add_bmod_right (x - 10) 4294967296).symm
          | exact (Int.add_bmod_right (x := x - 10) (n := 4294967296)).symm
          | exact (Int.add_bmod_right (a := x - 10) (n := 4294967296)).symm
          | exact Int.add_bmod_right.symm
      rw [this, wr_id (by omega)]
    rw [e]; omega
theorem M_ins_loop {t : Nat} (ht : t ≤ 2) {idx : Nat} {p3 : Int} : ∀ (n k : Nat) (h : MH), idx ≤ k → k ≤ 14 → k < idx + n →
    ∃ h', F_M_edit_L120 (t : Int) (idx : Int) p3 ((15 * t + 1 : Nat) : Int) n (k : Int) h = some ((idx : Int), h') ∧ (∀ j, h' 77 j = if 15 * t + 1 + idx < j ∧ j ≤ 15 * t + 1 + k then h 77 (j - 1) else h 77 j) ∧ FR [77] h h' := by
  intro n
  induction n with
  | zero => intro k h h1 h2 h3; omega
  | succ n ih =>
    intro k h h1 h2 h3
    unfold F_M_edit_L120
    by_cases hk : k = idx
    · subst hk
      rw [if_pos (Int.le_refl _)]
      exact ⟨h, rfl, fun j => by rw [if_neg (by omega)], FR.rf _ _⟩
    · have e1 : wr (((15 * t + 1 : Nat) : Int) + (k : Int)) = ((15 * t + 1 + k : Nat) : Int) := by rw [wr_id (by omega)]; omega
      have e2 : wr (((15 * t + 1 + k : Nat) : Int) - 1) = ((15 * t + k : Nat) : Int) := by rw [wr_id (by omega)]; omega
      have e3 : wr ((k : Int) + -1) = ((k - 1 : Nat) : Int) := by rw [wr_id (by omega)]; omega
      have g1 : 0 ≤ ((15 * t + k : Nat) : Int) ∧ ((15 * t + k : Nat) : Int) < 49 := by omega
      have g2 : 0 ≤ ((15 * t + 1 + k : Nat) : Int) ∧ ((15 * t + 1 + k : Nat) : Int) < 49 := by omega
      rw [if_neg (by omega), e1, e2, gd_pos g1, gd_pos g2, e3, nn, nn]
      obtain ⟨h', a, b, c⟩ := ih (k - 1) (up h 77 (15 * t + 1 + k) (h 77 (15 * t + k))) (by omega) (by omega) (by omega)
      refine ⟨h', a, fun j => ?_, (FR.up (by simp)).tr c⟩
      rw [b, up_if, up_if]
      by_cases c1 : 15 * t + 1 + idx < j ∧ j ≤ 15 * t + 1 + k
      · rw [if_pos c1]
        by_cases c2 : 15 * t + 1 + idx < j ∧ j ≤ 15 * t + 1 + (k - 1)
        · rw [if_pos c2, if_neg (by omega)]
        · have ej : j = 15 * t + 1 + k := by omega
          have ex : 15 * t + 1 + k - 1 = 15 * t + k := by omega
          rw [if_neg c2, if_pos ej, ej, ex]
      · rw [if_neg c1, if_neg (by omega), if_neg (by omega)]
theorem M_del_loop {t : Nat} (ht : t ≤ 2) {m : Nat} (hm : m ≤ 13) : ∀ (n k : Nat) (h : MH), h 77 (15 * t) = (m : Int) → k ≤ m → m < k + n →
    ∃ h', F_M_edit_L202 (t : Int) ((15 * t + 1 : Nat) : Int) n (k : Int) h = some ((m : Int), h') ∧ (∀ j, h' 77 j = if 15 * t + 1 + k ≤ j ∧ j < 15 * t + 1 + m then h 77 (j + 1) else h 77 j) ∧ FR [77] h h' := by
  intro n
  induction n with
  | zero => intro k h h0 h1 h2; omega
  | succ n ih =>
    intro k h h0 h1 h2
    unfold F_M_edit_L202
    rw [M_lines_raw ht, ob1_s, h0]
    by_cases hk : k < m
    · have e1 : wr (((15 * t + 1 : Nat) : Int) + (k : Int)) = ((15 * t + 1 + k : Nat) : Int) := by rw [wr_id (by omega)]; omega
      have e2 : wr (((15 * t + 1 + k : Nat) : Int) + 1) = ((15 * t + 1 + k + 1 : Nat) : Int) := by rw [wr_id (by omega)]; omega
      have e3 : wr ((k : Int) + 1) = ((k + 1 : Nat) : Int) := by rw [wr_id (by omega)]; omega
      have g1 : 0 ≤ ((15 * t + 1 + k + 1 : Nat) : Int) ∧ ((15 * t + 1 + k + 1 : Nat) : Int) < 49 := by omega
      have g2 : 0 ≤ ((15 * t + 1 + k : Nat) : Int) ∧ ((15 * t + 1 + k : Nat) : Int) < 49 := by omega
      rw [if_pos (lt_int hk), e1, e2, gd_pos g1, gd_pos g2, e3, nn, nn]
      obtain ⟨h', a, b, c⟩ := ih (k + 1) (up h 77 (15 * t + 1 + k) (h 77 (15 * t + 1 + k + 1))) (by rw [up_other (by omega)]; exact h0) (by omega) (by omega)
      refine ⟨h', a, fun j => ?_, (FR.up (by simp)).tr c⟩
      rw [b, up_if, up_if]
      by_cases c1 : 15 * t + 1 + k ≤ j ∧ j < 15 * t + 1 + m
      · rw [if_pos c1]
        by_cases c2 : 15 * t + 1 + (k + 1) ≤ j ∧ j < 15 * t + 1 + m
        · rw [if_pos c2, if_neg (by omega)]
        · have ej : j = 15 * t + 1 + k := by omega
          rw [if_neg c2, if_pos ej, ej]
      · rw [if_neg c1, if_neg (by omega), if_neg (by omega)]
    · rw [if_neg (nlt_int hk)]
      have : k = m := by omega
      subst this
      exact ⟨h, rfl, fun j => by rw [if_neg (by omega)], FR.rf _ _⟩
/-- which numbers a sign may have in an edit -/
def RG (x : Int) : Prop := (0 ≤ x ∧ x ≤ 8) ∨ (10 ≤ x ∧ x ≤ 18) ∨ x = 20
def F_edB (p1 p2 p3 : Int) (h : MH) (s3 : Int) : Option (Int × MH) :=
  if F_M_in p1 0 2 = 0 then (some ((-1), h)) else (if s3 = 0 then (some ((-1), h)) else (ob1 (F_M_lines p1 h) (fun (r7 : Int) => jn1 (if F_M_in p3 0 8 = 0 then (1) else (0)) (fun (s9 : Int) => if F_M_in p2 0 (wr (r7 - s9)) = 0 then (some ((-1), h)) else (jk1 (fun (u13 : Unit) => ob1 (F_M_remembers h) (fun (h15 : MH) => jk1 (fun (h17 : MH) => ob1 (F_M_lines p1 h17) (fun (r19 : Int) => some (r19, h17))) (fun kj18 => if F_M_in p3 0 8 = 0 then (if p3 = 20 then (gd (0 ≤ wr (15 * p1) ∧ wr (15 * p1) < 49) (gd (0 ≤ wr (15 * p1) ∧ wr (15 * p1) < 49) (ob2 (F_M_edit_L202 p1 (wr ((wr (15 * p1)) + 1)) FUEL p2 (up h15 77 (wr (15 * p1)).toNat (wr ((h15 77 (wr (15 * p1)).toNat) - 1)))) (fun (x7_26 : Int) (h27 : MH) => kj18 h27)))) else (gd (0 ≤ wr ((wr ((wr (15 * p1)) + 1)) + p2) ∧ wr ((wr ((wr (15 * p1)) + 1)) + p2) < 49) (kj18 (up h15 77 (wr ((wr ((wr (15 * p1)) + 1)) + p2)).toNat (wr (p3 - 10)))))) else (ob1 (F_M_lines p1 h15) (fun (r30 : Int) => ob2 (F_M_edit_L120 p1 p2 p3 (wr ((wr (15 * p1)) + 1)) FUEL r30 h15) (fun (x7_32 : Int) (h33 : MH) => gd (0 ≤ wr (15 * p1) ∧ wr (15 * p1) < 49) (gd (0 ≤ wr (15 * p1) ∧ wr (15 * p1) < 49) (gd (0 ≤ wr ((wr ((wr (15 * p1)) + 1)) + p2) ∧ wr ((wr ((wr (15 * p1)) + 1)) + p2) < 49) (kj18 (up (up h33 77 (wr (15 * p1)).toNat (wr ((h33 77 (wr (15 * p1)).toNat) + 1))) 77 (wr ((wr ((wr (15 * p1)) + 1)) + p2)).toNat p3)))))))))) (fun kj14 => if F_M_in p3 0 8 = 0 then (kj14 ()) else (ob1 (F_M_lines p1 h) (fun (r40 : Int) => if r40 = 14 then (some ((-3), h)) else (kj14 ())))))))))
theorem M_edit_B (p1 p2 p3 : Int) (h : MH) : F_M_edit p1 p2 p3 h = jk1 (F_edB p1 p2 p3 h) (fun kj4 => jk1 (fun (u1 : Unit) => kj4 1) (fun kj2 => if F_M_in p3 0 8 = 0 then (if F_M_in p3 10 18 = 0 then (if p3 = 20 then (kj2 ()) else (kj4 0)) else (kj2 ())) else (kj2 ()))) := rfl
theorem one_ne : ¬ (1 : Int) = 0 := by decide
theorem M_edit_1 {p1 p2 p3 : Int} {h : MH} (c : RG p3) : F_M_edit p1 p2 p3 h = F_edB p1 p2 p3 h 1 := by
  rw [M_edit_B, jk1_p, jk1_p]
  by_cases c1 : 0 ≤ p3 ∧ p3 ≤ 8
  · rw [M_in_1 c1, if_neg one_ne]
  · rw [M_in_0 c1, if_pos rfl]
    by_cases c2 : 10 ≤ p3 ∧ p3 ≤ 18
    · rw [M_in_1 c2, if_neg one_ne]
    · rw [M_in_0 c2, if_pos rfl]
      by_cases c3 : p3 = 20
      · rw [if_pos c3]
      · exact absurd c (fun z => by unfold RG at z; omega)
theorem M_edit_0 {p1 p2 p3 : Int} {h : MH} (c : ¬ RG p3) : F_M_edit p1 p2 p3 h = F_edB p1 p2 p3 h 0 := by
  unfold RG at c
  rw [M_edit_B, jk1_p, jk1_p, M_in_0 (by omega), if_pos rfl, M_in_0 (by omega), if_pos rfl, if_neg (by omega)]
section EDIT
variable {h : MH} {pad : List Int} {g : SG} {hist : List SG} {sv : Option SG} {t : Nat} {p2 p3 : Int}
theorem M_edit_no {hm : MH} {p1 : Int} (hp : ¬ (0 ≤ p1 ∧ p1 ≤ 2) ∨ ¬ RG p3) : F_M_edit p1 p2 p3 hm = some (-1, hm) := by
  by_cases c : RG p3
  · rw [M_edit_1 c]
    unfold F_edB
    rw [M_in_0 (hp.resolve_right (fun z => z c)), if_pos rfl]
  · rw [M_edit_0 c]
    unfold F_edB
    by_cases c2 : 0 ≤ p1 ∧ p1 ≤ 2
    · rw [M_in_1 c2, if_neg one_ne, if_pos rfl]
    · rw [M_in_0 c2, if_pos rfl]
end EDIT

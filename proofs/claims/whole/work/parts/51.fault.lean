/-! ===== the first fault of the pad ===== -/
def OKp (pad : List Int) : Prop := ∀ x ∈ pad, 33 ≤ x ∧ x ≤ 126
theorem sign_two {c : Int} (h : 33 ≤ c ∧ c ≤ 126) : c % 65536 = c ∧ ((F_M_signOf c = -4 ∧ sg_indexOf c = -1) ∨ (0 ≤ sg_indexOf c ∧ sg_indexOf c ≤ 8 ∧ F_M_signOf c = sg_indexOf c)) := by
  have key : (List.range 127).all (fun n => decide ((F_M_signOf (n : Int) = -4 ∧ sg_indexOf (n : Int) = -1) ∨ (0 ≤ sg_indexOf (n : Int) ∧ sg_indexOf (n : Int) ≤ 8 ∧ F_M_signOf (n : Int) = sg_indexOf (n : Int)))) = true := by decide +kernel
  have k := List.all_eq_true.mp key c.toNat (List.mem_range.mpr (by omega))
  rw [decide_eq_true_eq] at k
  rw [show ((c.toNat : Nat) : Int) = c by omega] at k
  exact ⟨by omega, k⟩
theorem fault_loop {h hm : MH} {pad : List Int} (R : RW h 1 pad) (op : OKp pad) (m1 : hm 76 6 = (pad.length : Int)) (m3 : ∀ p, p < pad.length → hm 80 p = pad.getD p (-1)) : ∀ (n i : Nat), i ≤ 14 → i ≤ pad.length → pad.length < i + n → ∃ r, F_X_fault_L2 h n (i : Int) = some r ∧ F_M_fault_L2 hm n (i : Int) = some r := by
  have l40 : pad.length ≤ 40 := R.2.2.1
  intro n
  induction n with
  | zero => intro i _ h1 h2; omega
  | succ n ih =>
    intro i h0 h1 h2
    unfold F_X_fault_L2 F_M_fault_L2
    rw [R.size, m1]
    by_cases c : i < pad.length
    · rw [if_pos (lt_int c), if_pos (lt_int c)]
      by_cases c2 : i = 14
      · rw [if_neg (by omega), if_pos (by omega)]
        exact ⟨_, rfl, rfl⟩
      · have pv : pad.getD i (-1) = pad[i] := by rw [List.getD_eq_getElem?_getD, List.getElem?_eq_getElem c]; rfl
        have st := sign_two (op _ (List.getElem_mem c))
        rw [← pv] at st
        have i40 : 0 ≤ (i : Int) ∧ (i : Int) < 40 := by omega
        have e1 : wr ((i : Int) + 1) = ((i + 1 : Nat) : Int) := by rw [wr_id (by omega)]; omega
        have pd : F_X_padSign (i : Int) h = sg_indexOf (pad.getD i (-1)) := by
          unfold F_X_padSign
          rw [R.at, lg_in i40.1, nn, st.1]
        have nx := ih (i + 1) (by omega) (by omega) (by omega)
        rw [if_pos (show (i : Int) < 14 by omega), if_neg (show ¬ (i : Int) = 14 by omega), pd, gd_pos i40, nn, m3 i c, e1]
        rcases st.2 with ⟨s1, s2⟩ | ⟨s1, s2, s3⟩
        · rw [s2, s1, if_pos (by decide), if_pos rfl]
          exact ⟨_, rfl, rfl⟩
        · rw [if_neg (Int.not_lt.mpr s1), s3, if_neg (by omega)]
          exact nx
    · rw [if_neg (nlt_int c), if_neg (nlt_int c)]
      exact ⟨_, rfl, rfl⟩
theorem sim_fault {h hm : MH} {pad : List Int} {g : SG} {hist : List SG} {sv : Option SG} (C : CR h pad g hist sv) (op : OKp pad) (M : MRR hm pad g hist sv) : ∃ r, F_X_fault h = some r ∧ F_M_fault hm = some r := by
  have l40 : pad.length ≤ 40 := C.1.2.2.1
  obtain ⟨r, a, b⟩ := fault_loop C.1 op M.2.2.2.1.1 M.2.2.2.1.2.2 FUEL 0 (by decide) (Nat.zero_le _) (by rw [FUEL_eq]; omega)
  rw [show ((0 : Nat) : Int) = 0 from rfl] at a b
  unfold F_X_fault F_M_fault
  rw [a, b]
  cases r with
  | inl x => exact ⟨x, rfl, rfl⟩
  | inr x => exact ⟨-4, rfl, rfl⟩

/-! ===== what is counted over the view ===== -/
theorem cn_all {ks : List Int} {k : Int} (a n : Nat) : cn ks k a n ≤ (n : Int) := (cn_bd ks k a n).2
theorem V_ahead {h : MH} {ks : List Int} (R : RW h 55 ks) {p : Nat} (hp : p ≤ 28) : F_V_newAhead (p : Int) h = some ((p : Int) - cn ks 1 0 p) ∧ F_V_oldAhead (p : Int) h = some ((p : Int) - cn ks 2 0 p) := by
  unfold F_V_newAhead F_V_oldAhead
  have b1 := cn_bd ks 1 0 p
  have b2 := cn_bd ks 2 0 p
  have e1 := V_linesWithin (k := 1) R (Nat.zero_le p) hp
  have e2 := V_linesWithin (k := 2) R (Nat.zero_le p) hp
  rw [show ((0 : Nat) : Int) = 0 from rfl, Nat.sub_zero] at e1 e2
  rw [e1, e2, ob1_s, ob1_s, wr_id (by omega), wr_id (by omega)]
  exact ⟨rfl, rfl⟩
theorem V_linesOfKind {h : MH} {ks : List Int} (R : RW h 55 ks) (hl : ks.length ≤ 28) (kd : Int) : F_V_linesOfKind kd h = some (cn ks kd 0 ks.length) := by
  have e1 := V_linesWithin (k := kd) R (Nat.zero_le ks.length) hl
  unfold F_V_linesOfKind F_V_size
  rw [R.size]
  rw [show ((0 : Nat) : Int) = 0 from rfl] at e1
  rw [e1]
  rfl
/-- the hunk that a line of the view lies in -/
def hkO (ks : List Int) (H : HL) (p : Nat) : Int := if 0 < ks.getD p (-1) then (nt H (p + 1) : Int) - 1 else -4
theorem V_hunkOf_loop {h : MH} {ks ss : List Int} {H : HL} (V : VC h ks ss H) {p : Nat} : ∀ (n i : Nat), i ≤ H.length → H.length < i + n → (∀ (j : Nat) (q : Nat × Nat), j < i → H[j]? = some q → ¬ (q.1 ≤ p ∧ p < q.2)) →
    F_V_hunkOf_L2 (p : Int) h n (i : Int) = (if 0 < ks.getD p (-1) then some (Sum.inl ((nt H (p + 1) : Int) - 1)) else some (Sum.inr (H.length : Int))) := by
  intro n
  induction n with
  | zero => intro i h1 h2; omega
  | succ n ih =>
    intro i h1 h2 h3
    have hs := V.2.2.2.2.2.1
    have h14 := hs.len14 V.2.2.2.2.2.2.2
    unfold F_V_hunkOf_L2 F_V_hunks
    rw [V.2.2.1.size, tops_len]
    dsimp only [jk1]
    by_cases hc : i < H.length
    · have hq : H[i]? = some (H[i]'hc) := List.getElem?_eq_getElem _
      generalize H[i]'hc = q at hq
      have e1 : wr ((i : Int) + 1) = ((i + 1 : Nat) : Int) := by rw [wr_id (by omega)]; omega
      rw [if_pos (lt_int hc), V_top V hq, V_end V hq, e1]
      by_cases c : q.1 ≤ p ∧ p < q.2
      · rw [if_pos (Int.ofNat_le.mpr c.1), if_pos (lt_int c.2), if_pos (show 0 < ks.getD p (-1) from hs.inn (List.mem_of_getElem? hq) p c.1 c.2), nt_in hs.1 hq c.1 c.2]
        rw [show ((i + 1 : Nat) : Int) - 1 = (i : Int) by omega]
      · have := ih (i + 1) (by omega) (by omega) (fun j r hj hr => by
          by_cases e : j = i
          · subst e; rw [hq] at hr; cases hr; exact c
          · exact h3 j r (by omega) hr)
        rw [this]
        by_cases c1 : q.1 ≤ p
        · rw [if_pos (Int.ofNat_le.mpr c1), if_neg (nlt_int (fun z => c ⟨c1, z⟩))]
        · rw [if_neg (by omega)]
    · rw [if_neg (nlt_int hc), if_neg (show ¬ 0 < ks.getD p (-1) from fun z => by
        obtain ⟨q, hq, a, b⟩ := (hs.2.2 p).mp z
        obtain ⟨j, hj⟩ := List.getElem?_of_mem hq
        have := (List.getElem?_eq_some_iff.mp hj).1
        exact h3 j q (by omega) hj ⟨a, b⟩)]
      rw [show i = H.length by omega]
theorem V_hunkOf {h : MH} {ks ss : List Int} {H : HL} (V : VC h ks ss H) (p : Nat) : F_V_hunkOf (p : Int) h = some (hkO ks H p) := by
  have h14 := V.2.2.2.2.2.1.len14 V.2.2.2.2.2.2.2
  have := V_hunkOf_loop V (p := p) FUEL 0 (Nat.zero_le _) (by rw [FUEL_eq]; omega) (fun j q hj => absurd hj (Nat.not_lt_zero _))
  rw [show ((0 : Nat) : Int) = 0 from rfl] at this
  unfold F_V_hunkOf hkO
  rw [this]
  split <;> rfl

/-! ===== the reference's memory ===== -/
def OKt (l : List Int) : Prop := l.length ≤ 14 ∧ ∀ x ∈ l, 0 ≤ x ∧ x ≤ 8
def OKg (g : SG) : Prop := OKt g.1 ∧ OKt g.2.1 ∧ OKt g.2.2.1 ∧ (0 ≤ g.2.2.2.1 ∧ g.2.2.2.1 ≤ 3) ∧ (0 ≤ g.2.2.2.2.1 ∧ g.2.2.2.2.1 ≤ 1)
theorem nn (i : Nat) : ((i : Int)).toNat = i := rfl
theorem up_if (h : MH) (i k : Nat) (v : Int) (j : Nat) : up h i k v i j = if j = k then v else h i j := by
  by_cases hj : j = k
  · subst hj; rw [up_at, if_pos rfl]
  · rw [up_other (by omega), if_neg hj]
def OKh (hist : List SG) : Prop := ∀ q ∈ hist, OKg q
theorem hpush_ok {hist : List SG} {g : SG} (oh : OKh hist) (og : OKg g) : OKh (hpush hist g) := by
  intro q hq
  unfold hpush at hq
  rcases List.mem_append.mp hq with hq | hq
  · split at hq
    · exact oh q hq
    · exact oh q (List.mem_of_mem_tail hq)
  · simp at hq
    rw [hq]
    exact og

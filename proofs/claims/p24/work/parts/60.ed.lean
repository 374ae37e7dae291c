/-! ===== how far two beginnings are apart ===== -/
def mt (l1 l2 : List Int) (i j : Nat) : Prop := i < l1.length ∧ j < l2.length ∧ l1.getD i (-1) = l2.getD j (-1)
def mtd (l1 l2 : List Int) (i j : Nat) : Bool := decide (i < l1.length ∧ j < l2.length ∧ l1.getD i (-1) = l2.getD j (-1))
theorem mtd_iff {l1 l2 : List Int} {i j : Nat} : mtd l1 l2 i j = true ↔ mt l1 l2 i j := by unfold mtd mt; rw [decide_eq_true_eq]
def ed (l1 l2 : List Int) : Nat → Nat → Nat
  | 0, j => j
  | i + 1, 0 => i + 1
  | i + 1, j + 1 => if mtd l1 l2 i j = true then ed l1 l2 i j else min (ed l1 l2 i (j + 1)) (ed l1 l2 (i + 1) j) + 1
termination_by i j => i + j
decreasing_by all_goals omega
theorem ed_0 (l1 l2 : List Int) (j : Nat) : ed l1 l2 0 j = j := by rw [ed]
theorem ed_i0 (l1 l2 : List Int) (i : Nat) : ed l1 l2 i 0 = i := by
  cases i with
  | zero => rw [ed]
  | succ i => rw [ed]
theorem ed_m {l1 l2 : List Int} {i j : Nat} (h : mt l1 l2 i j) : ed l1 l2 (i + 1) (j + 1) = ed l1 l2 i j := by rw [ed, if_pos (mtd_iff.mpr h)]
theorem ed_n {l1 l2 : List Int} {i j : Nat} (h : ¬ mt l1 l2 i j) : ed l1 l2 (i + 1) (j + 1) = min (ed l1 l2 i (j + 1)) (ed l1 l2 (i + 1) j) + 1 := by rw [ed, if_neg (fun z => h (mtd_iff.mp z))]
theorem ed_f1 (l1 l2 : List Int) : ∀ (f i j : Nat), i + j ≤ f → ed l1 l2 i (j + 1) ≤ ed l1 l2 i j + 1 ∧ ed l1 l2 (i + 1) j ≤ ed l1 l2 i j + 1 ∧ ed l1 l2 i j ≤ ed l1 l2 i (j + 1) + 1 ∧ ed l1 l2 i j ≤ ed l1 l2 (i + 1) j + 1 := by
  intro f
  induction f with
  | zero =>
    intro i j h
    have : i = 0 := by omega
    have : j = 0 := by omega
    subst i; subst j
    rw [ed_0, ed_0, ed_i0]
    omega
  | succ f ih =>
    intro i j h
    have A : ed l1 l2 i (j + 1) ≤ ed l1 l2 i j + 1 ∧ ed l1 l2 i j ≤ ed l1 l2 i (j + 1) + 1 := by
      cases i with
      | zero => rw [ed_0, ed_0]; omega
      | succ i =>
        have I := ih i j (by omega)
        by_cases c : mt l1 l2 i j
        · rw [ed_m c]; omega
        · rw [ed_n c]; omega
    have B : ed l1 l2 (i + 1) j ≤ ed l1 l2 i j + 1 ∧ ed l1 l2 i j ≤ ed l1 l2 (i + 1) j + 1 := by
      cases j with
      | zero => rw [ed_i0, ed_i0]; omega
      | succ j =>
        have I := ih i j (by omega)
        by_cases c : mt l1 l2 i j
        · rw [ed_m c]; omega
        · rw [ed_n c]; omega
    exact ⟨A.1, B.1, A.2, B.2⟩
theorem ed_1 (l1 l2 : List Int) (i j : Nat) : ed l1 l2 i (j + 1) ≤ ed l1 l2 i j + 1 ∧ ed l1 l2 (i + 1) j ≤ ed l1 l2 i j + 1 ∧ ed l1 l2 i j ≤ ed l1 l2 i (j + 1) + 1 ∧ ed l1 l2 i j ≤ ed l1 l2 (i + 1) j + 1 := ed_f1 l1 l2 _ i j (Nat.le_refl _)
/-- parity, and bounds -/
theorem ed_f2 (l1 l2 : List Int) : ∀ (f i j : Nat), i + j ≤ f → (ed l1 l2 i j + i + j) % 2 = 0 ∧ i ≤ ed l1 l2 i j + j ∧ j ≤ ed l1 l2 i j + i ∧ i ≤ ed l1 l2 i j + l1.length ∧ ed l1 l2 i j ≤ i + j := by
  intro f
  induction f with
  | zero =>
    intro i j h
    have : i = 0 := by omega
    have : j = 0 := by omega
    subst i; subst j
    rw [ed_0]
    omega
  | succ f ih =>
    intro i j h
    cases i with
    | zero => rw [ed_0]; omega
    | succ i =>
      cases j with
      | zero => rw [ed_i0]; omega
      | succ j =>
        have I0 := ih i j (by omega)
        have I1 := ih i (j + 1) (by omega)
        have I2 := ih (i + 1) j (by omega)
        by_cases c : mt l1 l2 i j
        · have c1 := c.1
          rw [ed_m c]; omega
        · rw [ed_n c]; omega
theorem ed_2 (l1 l2 : List Int) (i j : Nat) : (ed l1 l2 i j + i + j) % 2 = 0 ∧ i ≤ ed l1 l2 i j + j ∧ j ≤ ed l1 l2 i j + i ∧ i ≤ ed l1 l2 i j + l1.length ∧ ed l1 l2 i j ≤ i + j := ed_f2 l1 l2 _ i j (Nat.le_refl _)
theorem ed_3 (l1 l2 : List Int) (i j : Nat) : ed l1 l2 i j ≤ ed l1 l2 (i + 1) (j + 1) := by
  have A := ed_1 l1 l2 i j
  by_cases c : mt l1 l2 i j
  · rw [ed_m c]; exact Nat.le_refl _
  · rw [ed_n c]; omega
theorem ed_diag (l1 l2 : List Int) (i j : Nat) : ∀ k, ed l1 l2 i j ≤ ed l1 l2 (i + k) (j + k) := by
  intro k
  induction k with
  | zero => exact Nat.le_refl _
  | succ k ih => exact Nat.le_trans ih (ed_3 l1 l2 (i + k) (j + k))
theorem ed_o1 {l1 l2 : List Int} {i : Nat} (hi : l1.length ≤ i) : ∀ j, ed l1 l2 i j ≤ ed l1 l2 (i + 1) j := by
  intro j
  induction j with
  | zero => rw [ed_i0, ed_i0]; omega
  | succ j ih =>
    have c : ¬ mt l1 l2 i j := fun z => by have := z.1; omega
    have A := ed_1 l1 l2 i j
    rw [ed_n c]; omega
theorem ed_o2 {l1 l2 : List Int} {j : Nat} (hj : l2.length ≤ j) : ∀ i, ed l1 l2 i j ≤ ed l1 l2 i (j + 1) := by
  intro i
  induction i with
  | zero => rw [ed_0, ed_0]; omega
  | succ i ih =>
    have c : ¬ mt l1 l2 i j := fun z => by have := z.2.1; omega
    have A := ed_1 l1 l2 i j
    rw [ed_n c]; omega
theorem ed_out (l1 l2 : List Int) : ∀ (a b : Nat), ed l1 l2 l1.length l2.length ≤ ed l1 l2 (l1.length + a) (l2.length + b) := by
  intro a b
  have h1 : ∀ a, ed l1 l2 l1.length l2.length ≤ ed l1 l2 (l1.length + a) l2.length := by
    intro a
    induction a with
    | zero => exact Nat.le_refl _
    | succ a ih => exact Nat.le_trans ih (ed_o1 (by omega) _)
  induction b with
  | zero => exact h1 a
  | succ b ih => exact Nat.le_trans ih (ed_o2 (by omega) _)
/-- what the reference asks of a place -/
theorem ed_le_iff (l1 l2 : List Int) (e i j : Nat) : ed l1 l2 i j ≤ e ↔ ((i = 0 ∧ j = 0) ∨ (0 < i ∧ ed l1 l2 (i - 1) j < e) ∨ (0 < j ∧ ed l1 l2 i (j - 1) < e) ∨ (0 < i ∧ 0 < j ∧ mt l1 l2 (i - 1) (j - 1) ∧ ed l1 l2 (i - 1) (j - 1) ≤ e)) := by
  cases i with
  | zero =>
    rw [ed_0]
    cases j with
    | zero => exact ⟨fun _ => Or.inl ⟨rfl, rfl⟩, fun _ => Nat.zero_le _⟩
    | succ j =>
      rw [Nat.add_sub_cancel, ed_0]
      constructor
      · intro h
        exact Or.inr (Or.inr (Or.inl ⟨by omega, by omega⟩))
      · rintro (h | h | h | h) <;> omega
  | succ i =>
    cases j with
    | zero =>
      rw [ed_i0, Nat.add_sub_cancel, ed_i0]
      constructor
      · intro h
        exact Or.inr (Or.inl ⟨by omega, by omega⟩)
      · rintro (h | h | h | h) <;> omega
    | succ j =>
      rw [Nat.add_sub_cancel, Nat.add_sub_cancel]
      have A := ed_1 l1 l2 i (j + 1)
      have B := ed_1 l1 l2 (i + 1) j
      constructor
      · intro h
        by_cases c : mt l1 l2 i j
        · rw [ed_m c] at h
          exact Or.inr (Or.inr (Or.inr ⟨by omega, by omega, c, h⟩))
        · rw [ed_n c] at h
          by_cases c2 : ed l1 l2 i (j + 1) < e
          · exact Or.inr (Or.inl ⟨by omega, c2⟩)
          · exact Or.inr (Or.inr (Or.inl ⟨by omega, by omega⟩))
      · rintro (h | h | h | ⟨_, _, c, h⟩)
        · omega
        · omega
        · omega
        · rw [ed_m c]; exact h
/-- how far one comes on a diagonal with so many steps -/
def FD (l1 l2 : List Int) (e : Nat) (d v : Int) : Prop := ∃ i j : Nat, v = (i : Int) ∧ (j : Int) = (i : Int) - d ∧ ed l1 l2 i j ≤ e ∧ e < ed l1 l2 (i + 1) (j + 1)
theorem FD.up {l1 l2 : List Int} {e : Nat} {d v : Int} (F : FD l1 l2 e d v) {i j : Nat} (hj : (j : Int) = (i : Int) - d) (hv : v < (i : Int)) : e < ed l1 l2 i j := by
  obtain ⟨a, b, rfl, hb, h1, h2⟩ := F
  have D := ed_diag l1 l2 (a + 1) (b + 1) (i - (a + 1))
  rw [show a + 1 + (i - (a + 1)) = i by omega, show b + 1 + (i - (a + 1)) = j by omega] at D
  omega
theorem FD.bd {l1 l2 : List Int} {e : Nat} {d v : Int} (F : FD l1 l2 e d v) : 0 ≤ v ∧ d ≤ v ∧ v ≤ (l1.length : Int) + (e : Int) := by
  obtain ⟨a, b, rfl, hb, h1, h2⟩ := F
  have := ed_2 l1 l2 a b
  omega
/-- one more step, from both neighbours -/
theorem FD_next {l1 l2 : List Int} {e : Nat} {d : Int} (hd : -(e : Int) - 1 ≤ d ∧ d ≤ (e : Int) + 1) {x y i j : Nat} (hyj : (j : Int) = (y : Int) - d) (hxi : (i : Int) = (x : Int) - d) (hxy : x ≤ y) (hed : ed l1 l2 y j = ed l1 l2 x i) (hnm : ¬ mt l1 l2 y j)
    (hc : d ≤ (e : Int) - 1 → ∃ c, FD l1 l2 e (d + 1) c ∧ c ≤ (x : Int)) (hg : -(e : Int) + 1 ≤ d → ∃ g, FD l1 l2 e (d - 1) g ∧ g + 1 ≤ (x : Int))
    (hx : (d ≤ (e : Int) - 1 ∧ FD l1 l2 e (d + 1) (x : Int)) ∨ (-(e : Int) + 1 ≤ d ∧ FD l1 l2 e (d - 1) ((x : Int) - 1))) : FD l1 l2 (e + 1) d (y : Int) := by
  refine ⟨y, j, rfl, hyj, ?_, ?_⟩
  · rw [hed]
    rcases hx with ⟨_, a, b, h1, h2, h3, h4⟩ | ⟨_, a, b, h1, h2, h3, h4⟩
    · have ea : a = x := by omega
      have eb : i = b + 1 := by omega
      subst ea
      have := (ed_1 l1 l2 a b).1
      rw [eb]; omega
    · have ea : x = a + 1 := by omega
      have eb : i = b := by omega
      have := (ed_1 l1 l2 a b).2.1
      rw [ea, eb]; omega
  · rw [ed_n hnm]
    have g1 : e < ed l1 l2 y (j + 1) := by
      by_cases c : -(e : Int) + 1 ≤ d
      · obtain ⟨g, G1, G2⟩ := hg c
        exact G1.up (i := y) (j := j + 1) (by omega) (by omega)
      · have := ed_2 l1 l2 y (j + 1)
        omega
    have g2 : e < ed l1 l2 (y + 1) j := by
      by_cases c : d ≤ (e : Int) - 1
      · obtain ⟨g, G1, G2⟩ := hc c
        exact G1.up (i := y + 1) (j := j) (by omega) (by omega)
      · have := ed_2 l1 l2 (y + 1) j
        omega
    omega
theorem FD_first {l1 l2 : List Int} {y : Nat} (hed : ed l1 l2 y y = ed l1 l2 0 0) (hnm : ¬ mt l1 l2 y y) : FD l1 l2 0 0 (y : Int) := by
  refine ⟨y, y, rfl, by omega, ?_, ?_⟩
  · rw [hed, ed_0]; exact Nat.le_refl _
  · rw [ed_n hnm]; omega
theorem FD_end {l1 l2 : List Int} {e : Nat} {d v : Int} (F : FD l1 l2 e d v) (h1 : (l1.length : Int) ≤ v) (h2 : (l2.length : Int) ≤ v - d) : ed l1 l2 l1.length l2.length ≤ e := by
  obtain ⟨a, b, rfl, hb, h3, h4⟩ := F
  have := ed_out l1 l2 (a - l1.length) (b - l2.length)
  rw [show l1.length + (a - l1.length) = a by omega, show l2.length + (b - l2.length) = b by omega] at this
  omega
theorem FD_hit {l1 l2 : List Int} {d v : Int} (hd : d = (l1.length : Int) - (l2.length : Int)) (F : FD l1 l2 (ed l1 l2 l1.length l2.length) d v) : (l1.length : Int) ≤ v ∧ (l2.length : Int) ≤ v - d := by
  have : (l1.length : Int) ≤ v := by
    rcases Int.lt_or_le v (l1.length : Int) with q | q
    · have := F.up (i := l1.length) (j := l2.length) (by omega) q
      omega
    · exact q
  omega

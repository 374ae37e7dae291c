/-! ===== the reference's distance by diagonals ===== -/
def bdT (x1 x2 : Int) (n : Nat) (x3 : Int) (h : MH) (s14 : Int) : Option (Int × MH) := jk1 (fun (s16 : Int) => jn1 (if s16 ≤ x1 then (s16) else (if s14 = 0 then (99) else (x1))) (fun (s18 : Int) => gd (0 ≤ wr ((wr (15 * x2)) + x3) ∧ wr ((wr (15 * x2)) + x3) < 225) (F_M_byDiagonals_L21 x1 x2 n (wr (x3 + 1)) (up h 81 (wr ((wr (15 * x2)) + x3)).toNat s18)))) (fun kj17 => if x1 = 0 then (kj17 99) else (gd (0 ≤ wr ((wr (15 * x2)) + x3) ∧ wr ((wr (15 * x2)) + x3) < 225) (kj17 (h 81 (wr ((wr (15 * x2)) + x3)).toNat))))
def bdC (x1 x2 : Int) (n : Nat) (x3 : Int) (h : MH) (s10 : Int) : Option (Int × MH) := jk1 (bdT x1 x2 n x3 h) (fun kj15 => jk1 (fun (u12 : Unit) => kj15 1) (fun kj13 => if s10 = 0 then (jk1 (fun (u30 : Unit) => kj15 0) (fun kj31 => if x2 ≤ 0 then (kj31 ()) else (if x3 ≤ 0 then (kj31 ()) else (ob1 (F_M_lineOf 0 (wr (x2 - 1)) h) (fun (r35 : Int) => ob1 (F_M_lineOf 1 (wr (x3 - 1)) h) (fun (r37 : Int) => if r35 = r37 then (gd (0 ≤ wr ((wr ((wr (15 * x2)) - 16)) + x3) ∧ wr ((wr ((wr (15 * x2)) - 16)) + x3) < 225) (if h 81 (wr ((wr ((wr (15 * x2)) - 16)) + x3)).toNat ≤ x1 then (kj13 ()) else (kj31 ()))) else (kj31 ()))))))) else (kj13 ())))
def bdB (x1 x2 : Int) (n : Nat) (x3 : Int) (h : MH) (s6 : Int) : Option (Int × MH) := jk1 (bdC x1 x2 n x3 h) (fun kj11 => jk1 (fun (u8 : Unit) => kj11 1) (fun kj9 => if s6 = 0 then (jk1 (fun (u45 : Unit) => jk1 (fun (u47 : Unit) => kj11 0) (fun kj48 => if x3 ≤ 0 then (kj48 ()) else (gd (0 ≤ wr ((wr ((wr (15 * x2)) + x3)) - 1) ∧ wr ((wr ((wr (15 * x2)) + x3)) - 1) < 225) (if h 81 (wr ((wr ((wr (15 * x2)) + x3)) - 1)).toNat < x1 then (kj9 ()) else (kj48 ()))))) (fun kj46 => if x2 ≤ 0 then (kj46 ()) else (gd (0 ≤ wr ((wr ((wr (15 * x2)) - 15)) + x3) ∧ wr ((wr ((wr (15 * x2)) - 15)) + x3) < 225) (if h 81 (wr ((wr ((wr (15 * x2)) - 15)) + x3)).toNat < x1 then (kj9 ()) else (kj46 ()))))) else (kj9 ())))
theorem bd_cell (x1 x2 : Int) (n : Nat) (x3 : Int) (h : MH) : F_M_byDiagonals_L21 x1 x2 (n + 1) x3 h = ob1 (F_M_lines 1 h) (fun (r1 : Int) => if x3 ≤ r1 then (jk1 (bdB x1 x2 n x3 h) (fun kj7 => jk1 (fun (u4 : Unit) => kj7 0) (fun kj5 => if x2 = 0 then (if x3 = 0 then (kj7 1) else (kj5 ())) else (kj5 ())))) else (some (x3, h))) := rfl
section CELL
variable {e i j : Nat} {n : Nat} {h : MH} {g : SG}
/-- what a place holds behind the pass e -/
def vl9 (l1 l2 : List Int) (e a b : Nat) : Int := if ed l1 l2 a b ≤ e then ((ed l1 l2 a b : Nat) : Int) else 99
/-- behind the pass e up to a place, behind the pass e - 1 from it on -/
def KD (h : MH) (l1 l2 : List Int) (e i j : Nat) : Prop := ∀ a b, a ≤ l1.length → b ≤ l2.length → (a < i ∨ (a = i ∧ b < j) → h 81 (15 * a + b) = vl9 l1 l2 e a b) ∧ (¬ (a < i ∨ (a = i ∧ b < j)) → 0 < e → h 81 (15 * a + b) = vl9 l1 l2 (e - 1) a b)
theorem vl_lt {l1 l2 : List Int} {e a b : Nat} (he : e ≤ 28) : vl9 l1 l2 e a b < (e : Int) ↔ ed l1 l2 a b < e := by
  unfold vl9
  split <;> omega
theorem vl_le {l1 l2 : List Int} {e a b : Nat} (he : e ≤ 28) : vl9 l1 l2 e a b ≤ (e : Int) ↔ ed l1 l2 a b ≤ e := by
  unfold vl9
  split <;> omega
theorem bdT_val (og : OKg g) (he : e ≤ 28) (hi : i ≤ g.1.length) (hj : j ≤ g.2.1.length) (K : KD h g.1 g.2.1 e i j) {s : Int} (hs1 : ed g.1 g.2.1 i j ≤ e → ¬ s = 0) (hs0 : ¬ ed g.1 g.2.1 i j ≤ e → s = 0) :
    bdT (e : Int) (i : Int) n (j : Int) h s = F_M_byDiagonals_L21 (e : Int) (i : Int) n ((j + 1 : Nat) : Int) (up h 81 (15 * i + j) (vl9 g.1 g.2.1 e i j)) := by
  have l0 := og.1.1
  have l1 := og.2.1.1
  have w1 : wr (wr (15 * (i : Int)) + (j : Int)) = ((15 * i + j : Nat) : Int) := by rw [wr_id (z := 15 * (i : Int)) (by omega), wr_id (by omega)]; omega
  have w2 : wr ((j : Int) + 1) = ((j + 1 : Nat) : Int) := by rw [wr_id (by omega)]; omega
  have g1 : 0 ≤ ((15 * i + j : Nat) : Int) ∧ ((15 * i + j : Nat) : Int) < 225 := by omega
  have fin : ∀ was : Int, (was ≤ (e : Int) → was = vl9 g.1 g.2.1 e i j) → (¬ was ≤ (e : Int) → ed g.1 g.2.1 i j ≤ e → ((ed g.1 g.2.1 i j : Nat) : Int) = (e : Int)) → jn1 (if was ≤ (e : Int) then was else (if s = 0 then 99 else (e : Int))) (fun (s18 : Int) => gd (0 ≤ ((15 * i + j : Nat) : Int) ∧ ((15 * i + j : Nat) : Int) < 225) (F_M_byDiagonals_L21 (e : Int) (i : Int) n ((j + 1 : Nat) : Int) (up h 81 (((15 * i + j : Nat) : Int)).toNat s18))) = F_M_byDiagonals_L21 (e : Int) (i : Int) n ((j + 1 : Nat) : Int) (up h 81 (15 * i + j) (vl9 g.1 g.2.1 e i j)) := by
    intro was q1 q2
    rw [jn1_p, gd_pos g1, nn]
    have ev : (if was ≤ (e : Int) then was else (if s = 0 then 99 else (e : Int))) = vl9 g.1 g.2.1 e i j := by
      by_cases c : was ≤ (e : Int)
      · rw [if_pos c]; exact q1 c
      · rw [if_neg c]
        unfold vl9
        by_cases c2 : ed g.1 g.2.1 i j ≤ e
        · rw [if_neg (hs1 c2), if_pos c2]; exact (q2 c c2).symm
        · rw [if_pos (hs0 c2), if_neg c2]
    rw [ev]
  unfold bdT
  rw [jk1_p, w1, w2]
  by_cases e0 : e = 0
  · rw [if_pos (by omega)]
    refine fin 99 (fun q => by omega) (fun _ q => by omega)
  · rw [if_neg (by omega), gd_pos g1, nn, (K i j hi hj).2 (by omega) (by omega)]
    refine fin _ (fun q => ?_) (fun q1 q2 => ?_)
    · unfold vl9 at q ⊢
      by_cases c : ed g.1 g.2.1 i j ≤ e - 1
      · rw [if_pos c, if_pos (by omega)]
      · rw [if_neg c] at q; omega
    · unfold vl9 at q1
      by_cases c : ed g.1 g.2.1 i j ≤ e - 1
      · rw [if_pos c] at q1; omega
      · omega
theorem bdC_val (Hs : SM (h 77) g) (og : OKg g) (he : e ≤ 28) (hi : i ≤ g.1.length) (hj : j ≤ g.2.1.length) (K : KD h g.1 g.2.1 e i j) {s : Int} (hs1 : ¬ s = 0 → ed g.1 g.2.1 i j ≤ e) (hs0 : s = 0 → (ed g.1 g.2.1 i j ≤ e ↔ (0 < i ∧ 0 < j ∧ mt g.1 g.2.1 (i - 1) (j - 1) ∧ ed g.1 g.2.1 (i - 1) (j - 1) ≤ e))) :
    bdC (e : Int) (i : Int) n (j : Int) h s = F_M_byDiagonals_L21 (e : Int) (i : Int) n ((j + 1 : Nat) : Int) (up h 81 (15 * i + j) (vl9 g.1 g.2.1 e i j)) := by
  have l0 := og.1.1
  have l1 := og.2.1.1
  have T1 : ed g.1 g.2.1 i j ≤ e → bdT (e : Int) (i : Int) n (j : Int) h 1 = F_M_byDiagonals_L21 (e : Int) (i : Int) n ((j + 1 : Nat) : Int) (up h 81 (15 * i + j) (vl9 g.1 g.2.1 e i j)) := fun q => bdT_val og he hi hj K (fun _ => one_ne) (fun z => absurd q z)
  have T0 : ¬ ed g.1 g.2.1 i j ≤ e → bdT (e : Int) (i : Int) n (j : Int) h 0 = F_M_byDiagonals_L21 (e : Int) (i : Int) n ((j + 1 : Nat) : Int) (up h 81 (15 * i + j) (vl9 g.1 g.2.1 e i j)) := fun q => bdT_val og he hi hj K (fun z => absurd z q) (fun _ => rfl)
  unfold bdC
  rw [jk1_p, jk1_p]
  by_cases c : s = 0
  · have I := hs0 c
    rw [if_pos c, jk1_p]
    by_cases ci : i = 0
    · rw [if_pos (by omega)]
      exact T0 (fun z => by have := (I.mp z).1; omega)
    · rw [if_neg (by omega)]
      by_cases cj : j = 0
      · rw [if_pos (by omega)]
        exact T0 (fun z => by have := (I.mp z).2.1; omega)
      · obtain ⟨a, rfl⟩ : ∃ a, i = a + 1 := ⟨i - 1, by omega⟩
        obtain ⟨b, rfl⟩ : ∃ b, j = b + 1 := ⟨j - 1, by omega⟩
        rw [Nat.add_sub_cancel, Nat.add_sub_cancel] at I
        have g1 : 0 ≤ ((15 * a + b : Nat) : Int) ∧ ((15 * a + b : Nat) : Int) < 225 := by omega
        have kv := (K a b (by omega) (by omega)).1 (by omega)
        have z1 : ¬ ((a + 1 : Nat) : Int) ≤ 0 := by omega
        have z2 : ¬ ((b + 1 : Nat) : Int) ≤ 0 := by omega
        have z3 : (0 : Int) ≤ (a : Int) := Int.natCast_nonneg _
        have z4 : (0 : Int) ≤ (b : Int) := Int.natCast_nonneg _
        have z5 : (a : Int) < (g.1.length : Int) := by omega
        have z6 : (b : Int) < (g.2.1.length : Int) := by omega
        have z7 : a < g.1.length ∧ b < g.2.1.length := ⟨hi, hj⟩
        have z8 : 0 < a + 1 ∧ 0 < b + 1 := ⟨Nat.succ_pos _, Nat.succ_pos _⟩
        have w1 : wr (((a + 1 : Nat) : Int) - 1) = (a : Int) := by rw [wr_id (by omega)]; omega
        have w2 : wr (((b + 1 : Nat) : Int) - 1) = (b : Int) := by rw [wr_id (by omega)]; omega
        have w3 : wr (wr (wr (15 * ((a + 1 : Nat) : Int)) - 16) + ((b + 1 : Nat) : Int)) = ((15 * a + b : Nat) : Int) := by rw [wr_id (z := 15 * ((a + 1 : Nat) : Int)) (by omega), wr_id (z := 15 * ((a + 1 : Nat) : Int) - 16) (by omega), wr_id (by omega)]; omega
        rw [if_neg z2, w1, w2, w3, M_lineOf0 Hs og z3 z5, ob1_s, M_lineOf1 Hs og z4 z6, ob1_s, lg_in z3, lg_in z4, nn, nn]
        by_cases cm : g.1.getD a (-1) = g.2.1.getD b (-1)
        · rw [if_pos cm, gd_pos g1, nn, kv]
          by_cases cv : vl9 g.1 g.2.1 e a b ≤ (e : Int)
          · rw [if_pos cv]
            exact T1 (I.mpr ⟨z8.1, z8.2, ⟨z7.1, z7.2, cm⟩, (vl_le he).mp cv⟩)
          · rw [if_neg cv]
            exact T0 (fun z => cv ((vl_le he).mpr (I.mp z).2.2.2))
        · rw [if_neg cm]
          exact T0 (fun z => cm (I.mp z).2.2.1.2.2)
  · rw [if_neg c]
    exact T1 (hs1 c)
theorem bdB_val (Hs : SM (h 77) g) (og : OKg g) (he : e ≤ 28) (hi : i ≤ g.1.length) (hj : j ≤ g.2.1.length) (K : KD h g.1 g.2.1 e i j) {s : Int} (hs1 : ¬ s = 0 → i = 0 ∧ j = 0) (hs0 : s = 0 → ¬ (i = 0 ∧ j = 0)) :
    bdB (e : Int) (i : Int) n (j : Int) h s = F_M_byDiagonals_L21 (e : Int) (i : Int) n ((j + 1 : Nat) : Int) (up h 81 (15 * i + j) (vl9 g.1 g.2.1 e i j)) := by
  have l0 := og.1.1
  have l1 := og.2.1.1
  have I := ed_le_iff g.1 g.2.1 e i j
  have T1 : ed g.1 g.2.1 i j ≤ e → bdC (e : Int) (i : Int) n (j : Int) h 1 = F_M_byDiagonals_L21 (e : Int) (i : Int) n ((j + 1 : Nat) : Int) (up h 81 (15 * i + j) (vl9 g.1 g.2.1 e i j)) := fun q => bdC_val Hs og he hi hj K (fun _ => q) (fun z => absurd z one_ne)
  have T0 : ¬ (i = 0 ∧ j = 0) → ¬ (0 < i ∧ ed g.1 g.2.1 (i - 1) j < e) → ¬ (0 < j ∧ ed g.1 g.2.1 i (j - 1) < e) → bdC (e : Int) (i : Int) n (j : Int) h 0 = F_M_byDiagonals_L21 (e : Int) (i : Int) n ((j + 1 : Nat) : Int) (up h 81 (15 * i + j) (vl9 g.1 g.2.1 e i j)) := by
    intro q1 q2 q3
    refine bdC_val Hs og he hi hj K (fun z => absurd rfl z) (fun _ => ⟨fun z => ?_, fun z => I.mpr (Or.inr (Or.inr (Or.inr z)))⟩)
    rcases I.mp z with z | z | z | z
    · exact absurd z q1
    · exact absurd z q2
    · exact absurd z q3
    · exact z
  have J : ∀ q1 : ¬ (i = 0 ∧ j = 0), ∀ q2 : ¬ (0 < i ∧ ed g.1 g.2.1 (i - 1) j < e), (if (j : Int) ≤ 0 then bdC (e : Int) (i : Int) n (j : Int) h 0 else gd (0 ≤ wr ((wr ((wr (15 * (i : Int))) + (j : Int))) - 1) ∧ wr ((wr ((wr (15 * (i : Int))) + (j : Int))) - 1) < 225) (if h 81 (wr ((wr ((wr (15 * (i : Int))) + (j : Int))) - 1)).toNat < (e : Int) then bdC (e : Int) (i : Int) n (j : Int) h 1 else bdC (e : Int) (i : Int) n (j : Int) h 0)) = F_M_byDiagonals_L21 (e : Int) (i : Int) n ((j + 1 : Nat) : Int) (up h 81 (15 * i + j) (vl9 g.1 g.2.1 e i j)) := by
    intro q1 q2
    by_cases cj : j = 0
    · rw [if_pos (by omega)]
      exact T0 q1 q2 (fun z => by omega)
    · have w3 : wr (wr (wr (15 * (i : Int)) + (j : Int)) - 1) = ((15 * i + (j - 1) : Nat) : Int) := by rw [wr_id (z := 15 * (i : Int)) (by omega), wr_id (z := 15 * (i : Int) + (j : Int)) (by omega), wr_id (by omega)]; omega
      have g1 : 0 ≤ ((15 * i + (j - 1) : Nat) : Int) ∧ ((15 * i + (j - 1) : Nat) : Int) < 225 := by omega
      have kv := (K i (j - 1) (by omega) (by omega)).1 (by omega)
      rw [if_neg (by omega), w3, gd_pos g1, nn, kv]
      by_cases cv : vl9 g.1 g.2.1 e i (j - 1) < (e : Int)
      · rw [if_pos cv]
        exact T1 (I.mpr (Or.inr (Or.inr (Or.inl ⟨by omega, (vl_lt he).mp cv⟩))))
      · rw [if_neg cv]
        exact T0 q1 q2 (fun z => cv ((vl_lt he).mpr z.2))
  unfold bdB
  rw [jk1_p, jk1_p]
  by_cases c : s = 0
  · have q1 := hs0 c
    rw [if_pos c, jk1_p]
    by_cases ci : i = 0
    · rw [if_pos (by omega), jk1_p]
      exact J q1 (fun z => by omega)
    · have w3 : wr (wr (wr (15 * (i : Int)) - 15) + (j : Int)) = ((15 * (i - 1) + j : Nat) : Int) := by rw [wr_id (z := 15 * (i : Int)) (by omega), wr_id (z := 15 * (i : Int) - 15) (by omega), wr_id (by omega)]; omega
      have g1 : 0 ≤ ((15 * (i - 1) + j : Nat) : Int) ∧ ((15 * (i - 1) + j : Nat) : Int) < 225 := by omega
      have kv := (K (i - 1) j (by omega) (by omega)).1 (by omega)
      rw [if_neg (by omega), w3, gd_pos g1, nn, kv]
      by_cases cv : vl9 g.1 g.2.1 e (i - 1) j < (e : Int)
      · rw [if_pos cv]
        exact T1 (I.mpr (Or.inr (Or.inl ⟨by omega, (vl_lt he).mp cv⟩)))
      · rw [if_neg cv, jk1_p]
        exact J q1 (fun z => cv ((vl_lt he).mpr z.2))
  · rw [if_neg c]
    exact T1 (I.mpr (Or.inl (hs1 c)))
end CELL
theorem diag_in {g : SG} (og : OKg g) {e i : Nat} (he : e ≤ 28) (hi : i ≤ g.1.length) : ∀ (n j : Nat) (h : MH), SM (h 77) g → KD h g.1 g.2.1 e i j → j ≤ g.2.1.length + 1 → g.2.1.length + 1 < j + n →
    ∃ h', F_M_byDiagonals_L21 (e : Int) (i : Int) n (j : Int) h = some (((g.2.1.length + 1 : Nat) : Int), h') ∧ KD h' g.1 g.2.1 e (i + 1) 0 ∧ FR [81] h h' := by
  intro n
  induction n with
  | zero => intro j h _ _ h1 h2; omega
  | succ n ih =>
    intro j h Hs K h1 h2
    have l0 := og.1.1
    have l1 := og.2.1.1
    rw [bd_cell, M_lines1 Hs, ob1_s]
    by_cases c : j ≤ g.2.1.length
    · have B : ∀ s : Int, (¬ s = 0 → i = 0 ∧ j = 0) → (s = 0 → ¬ (i = 0 ∧ j = 0)) → bdB (e : Int) (i : Int) n (j : Int) h s = F_M_byDiagonals_L21 (e : Int) (i : Int) n ((j + 1 : Nat) : Int) (up h 81 (15 * i + j) (vl9 g.1 g.2.1 e i j)) := fun s a b => bdB_val Hs og he hi c K a b
      have F1 : FR [81] h (up h 81 (15 * i + j) (vl9 g.1 g.2.1 e i j)) := FR.up (by simp)
      obtain ⟨h', a, b, w⟩ := ih (j + 1) (up h 81 (15 * i + j) (vl9 g.1 g.2.1 e i j)) (by rw [F1 77 (by simp)]; exact Hs) (fun a b ha hb => by
        rw [up_if]
        by_cases q : 15 * a + b = 15 * i + j
        · have q1 : a = i := by omega
          have q2 : b = j := by omega
          subst q1; subst q2
          rw [if_pos rfl]
          exact ⟨fun _ => rfl, fun z => absurd (Or.inr ⟨rfl, by omega⟩) z⟩
        · rw [if_neg q]
          have := K a b ha hb
          exact ⟨fun z => this.1 (by omega), fun z => this.2 (by omega)⟩) (by omega) (by omega)
      refine ⟨h', ?_, b, F1.tr w⟩
      rw [if_pos (by omega), jk1_p, jk1_p]
      by_cases ci : i = 0
      · rw [if_pos (by omega)]
        by_cases cj : j = 0
        · rw [if_pos (by omega)]
          exact (B 1 (fun _ => ⟨ci, cj⟩) (fun z => absurd z one_ne)).trans a
        · rw [if_neg (by omega)]
          exact (B 0 (fun z => absurd rfl z) (fun _ z => cj z.2)).trans a
      · rw [if_neg (by omega)]
        exact (B 0 (fun z => absurd rfl z) (fun _ z => ci z.1)).trans a
    · rw [if_neg (by omega)]
      have : j = g.2.1.length + 1 := by omega
      subst this
      refine ⟨h, rfl, fun a b ha hb => ?_, FR.rf _ _⟩
      have := K a b ha hb
      exact ⟨fun z => this.1 (by omega), fun z => this.2 (by omega)⟩
theorem diag_mid {g : SG} (og : OKg g) {e : Nat} (he : e ≤ 28) : ∀ (n i : Nat) (h : MH), SM (h 77) g → KD h g.1 g.2.1 e i 0 → i ≤ g.1.length + 1 → g.1.length + 1 < i + n →
    ∃ h', F_M_byDiagonals_L10 (e : Int) n (i : Int) h = some (((g.1.length + 1 : Nat) : Int), h') ∧ KD h' g.1 g.2.1 e (g.1.length + 1) 0 ∧ FR [81] h h' := by
  intro n
  induction n with
  | zero => intro i h _ _ h1 h2; omega
  | succ n ih =>
    intro i h Hs K h1 h2
    have l0 := og.1.1
    have l1 := og.2.1.1
    unfold F_M_byDiagonals_L10
    rw [M_lines0 Hs, ob1_s]
    by_cases c : i ≤ g.1.length
    · have w1 : wr ((i : Int) + 1) = ((i + 1 : Nat) : Int) := by rw [wr_id (by omega)]; omega
      obtain ⟨h1, a, b, w⟩ := diag_in og he c FUEL 0 h Hs K (Nat.zero_le _) (by rw [FUEL_eq]; omega)
      rw [show ((0 : Nat) : Int) = 0 from rfl] at a
      rw [if_pos (by omega), a, ob2_s, w1]
      obtain ⟨h', q1, q2, q3⟩ := ih (i + 1) h1 (by rw [w 77 (by simp)]; exact Hs) b (by omega) (by omega)
      exact ⟨h', q1, q2, w.tr q3⟩
    · rw [if_neg (by omega)]
      have : i = g.1.length + 1 := by omega
      subst this
      exact ⟨h, rfl, K, FR.rf _ _⟩
theorem diag_out {g : SG} (og : OKg g) : ∀ (n e : Nat) (h : MH), SM (h 77) g → KD h g.1 g.2.1 e 0 0 → e ≤ ed g.1 g.2.1 g.1.length g.2.1.length → ed g.1 g.2.1 g.1.length g.2.1.length < e + n →
    ∃ h', F_M_byDiagonals_L2 n (e : Int) h = some (.inl (((ed g.1 g.2.1 g.1.length g.2.1.length : Nat) : Int), h')) ∧ FR [81] h h' := by
  intro n
  induction n with
  | zero => intro e h _ _ h1 h2; omega
  | succ n ih =>
    intro e h Hs K h1 h2
    have l0 := og.1.1
    have l1 := og.2.1.1
    have D2 := ed_2 g.1 g.2.1 g.1.length g.2.1.length
    have he : e ≤ 28 := by omega
    obtain ⟨ha, a, b, w⟩ := diag_mid og he FUEL 0 h Hs K (Nat.zero_le _) (by rw [FUEL_eq]; omega)
    rw [show ((0 : Nat) : Int) = 0 from rfl] at a
    have Ha : SM (ha 77) g := by rw [w 77 (by simp)]; exact Hs
    have w1 : wr ((e : Int) + 1) = ((e + 1 : Nat) : Int) := by rw [wr_id (by omega)]; omega
    have w2 : wr (wr (15 * (g.1.length : Int)) + (g.2.1.length : Int)) = ((15 * g.1.length + g.2.1.length : Nat) : Int) := by rw [wr_id (z := 15 * (g.1.length : Int)) (by omega), wr_id (by omega)]; omega
    have g1 : 0 ≤ ((15 * g.1.length + g.2.1.length : Nat) : Int) ∧ ((15 * g.1.length + g.2.1.length : Nat) : Int) < 225 := by omega
    have kv := (b g.1.length g.2.1.length (Nat.le_refl _) (Nat.le_refl _)).1 (Or.inl (Nat.lt_succ_self _))
    unfold F_M_byDiagonals_L2
    rw [if_pos (by omega), a, ob2_s, M_lines0 Ha, ob1_s, M_lines1 Ha, ob1_s, w2, gd_pos g1, nn, kv]
    by_cases c : ed g.1 g.2.1 g.1.length g.2.1.length ≤ e
    · have ee : e = ed g.1 g.2.1 g.1.length g.2.1.length := by omega
      rw [if_pos ((vl_le he).mpr c)]
      refine ⟨ha, ?_, w⟩
      rw [← ee]
    · rw [if_neg (fun z => c ((vl_le he).mp z)), w1]
      obtain ⟨h', q1, q2⟩ := ih (e + 1) ha Ha (fun x y hx hy => ⟨fun z => absurd z (by omega), fun _ _ => by
        rw [Nat.add_sub_cancel]
        exact (b x y hx hy).1 (Or.inl (by omega))⟩) (by omega) (by omega)
      exact ⟨h', q1, w.tr q2⟩
theorem sim_distance {h : MH} {pad : List Int} {g : SG} {hist : List SG} {sv : Option SG} (C : CR h pad g hist sv) (og : OKg g) (p1 : Int) : SIM (F_X_distance p1) (F_M_distance p1) h pad g hist sv := by
  by_cases c0 : p1 = 0
  · obtain ⟨h', f, w⟩ := X_now C og
    refine ⟨dst g.1 g.2.1, h', ?_, w, fun hm hh => ?_⟩
    · unfold F_X_distance
      rw [if_pos c0, f, ob2_s]
    · obtain ⟨hm', a, _, b⟩ := M_now og hh
      refine ⟨hm', ?_, b⟩
      unfold F_M_distance
      rw [if_pos c0, a, ob2_s]
  · by_cases c1 : p1 = 1
    · obtain ⟨x0, x1, -⟩ := X_text C
      obtain ⟨h', f, w⟩ := C_bySteps og.1.1 og.2.1.1 (h := h) x0 x1
      refine ⟨((ed g.1 g.2.1 g.1.length g.2.1.length : Nat) : Int), h', ?_, w.mono (by decide), fun hm hh => ?_⟩
      · unfold F_X_distance
        rw [if_neg c0, if_pos c1, show F_St_text 3 0 = 4 by decide, show F_St_text 3 1 = 6 by decide, f, ob2_s]
      · have l0 := og.1.1
        have l1 := og.2.1.1
        have D2 := ed_2 g.1 g.2.1 g.1.length g.2.1.length
        obtain ⟨hm', a, b⟩ := diag_out og FUEL 0 hm hh.1 (fun x y _ _ => ⟨fun z => absurd z (by omega), fun _ z => absurd z (by omega)⟩) (Nat.zero_le _) (by rw [FUEL_eq]; omega)
        rw [show ((0 : Nat) : Int) = 0 from rfl] at a
        refine ⟨hm', ?_, fun x y p _ _ _ _ _ _ => by rw [b x (by simpa using p)]⟩
        unfold F_M_distance F_M_byDiagonals
        rw [if_neg c0, if_pos c1, a]
        rfl
    · refine sim_flat (-1) ?_ (fun hm _ => ?_)
      · unfold F_X_distance
        rw [if_neg c0, if_neg c1]
      · unfold F_M_distance
        rw [if_neg c0, if_neg c1]

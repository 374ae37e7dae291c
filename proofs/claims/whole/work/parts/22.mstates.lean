/-! ===== the reference's memory ===== -/
def SM (f : Nat → Int) (g : SG) : Prop :=
  (f 0 = (g.1.length : Int) ∧ ∀ p, p < g.1.length → f (1 + p) = g.1.getD p (-1)) ∧ (f 15 = (g.2.1.length : Int) ∧ ∀ p, p < g.2.1.length → f (16 + p) = g.2.1.getD p (-1)) ∧ (f 30 = (g.2.2.1.length : Int) ∧ ∀ p, p < g.2.2.1.length → f (31 + p) = g.2.2.1.getD p (-1)) ∧
  f 45 = g.2.2.2.1 ∧ f 46 = g.2.2.2.2.1 ∧ f 47 = g.2.2.2.2.2.1 ∧ f 48 = g.2.2.2.2.2.2
def OKt (l : List Int) : Prop := l.length ≤ 14 ∧ ∀ x ∈ l, 0 ≤ x ∧ x ≤ 8
def OKg (g : SG) : Prop := OKt g.1 ∧ OKt g.2.1 ∧ OKt g.2.2.1 ∧ (0 ≤ g.2.2.2.1 ∧ g.2.2.2.1 ≤ 3) ∧ (0 ≤ g.2.2.2.2.1 ∧ g.2.2.2.2.1 ≤ 1)
theorem SM.ext {f f' : Nat → Int} {g : SG} (H : SM f g) (ho : OKg g) (hf : ∀ j, j < 49 → f' j = f j) : SM f' g := by
  obtain ⟨⟨a1, a2⟩, ⟨b1, b2⟩, ⟨c1, c2⟩, d1, d2, d3, d4⟩ := H
  have l0 := ho.1.1
  have l1 := ho.2.1.1
  have l2 := ho.2.2.1.1
  exact ⟨⟨by rw [hf 0 (by omega)]; exact a1, fun p hp => by rw [hf _ (by omega)]; exact a2 p hp⟩, ⟨by rw [hf 15 (by omega)]; exact b1, fun p hp => by rw [hf _ (by omega)]; exact b2 p hp⟩, ⟨by rw [hf 30 (by omega)]; exact c1, fun p hp => by rw [hf _ (by omega)]; exact c2 p hp⟩,
    by rw [hf 45 (by omega)]; exact d1, by rw [hf 46 (by omega)]; exact d2, by rw [hf 47 (by omega)]; exact d3, by rw [hf 48 (by omega)]; exact d4⟩
def MRR (h : MH) (pad : List Int) (g : SG) (hist : List SG) (sv : Option SG) : Prop :=
  SM (h 77) g ∧ (h 76 2 = (hist.length : Int) ∧ hist.length ≤ 4 ∧ ∀ k q, hist[k]? = some q → SM (fun j => h 78 (49 * k + j)) q) ∧ (h 76 4 = (if sv = none then 0 else 1) ∧ ∀ q, sv = some q → SM (h 79) q) ∧
  (h 76 6 = (pad.length : Int) ∧ pad.length ≤ 40 ∧ ∀ p, p < pad.length → h 80 p = pad.getD p (-1)) ∧ h 76 8 = -4
theorem nn (i : Nat) : ((i : Int)).toNat = i := rfl
theorem up_if (h : MH) (i k : Nat) (v : Int) (j : Nat) : up h i k v i j = if j = k then v else h i j := by
  by_cases hj : j = k
  · subst hj; rw [up_at, if_pos rfl]
  · rw [up_other (by omega), if_neg hj]
theorem shift_loop : ∀ (n i : Nat) (h : MH), i ≤ 147 → 147 < i + n → ∃ h', F_M_remembers_L10 n (i : Int) h = some (147, h') ∧ (∀ j, h' 78 j = if i ≤ j ∧ j < 147 then h 78 (49 + j) else h 78 j) ∧ FR [78] h h' := by
  intro n
  induction n with
  | zero => intro i h h1 h2; omega
  | succ n ih =>
    intro i h h1 h2
    unfold F_M_remembers_L10
    by_cases hi : i < 147
    · rw [if_pos (by omega), wr_id (by omega), wr_id (by omega), gd_pos (by omega), gd_pos (by omega)]
      have e1 : (i : Int) + 1 = ((i + 1 : Nat) : Int) := by omega
      have e2 : (49 + (i : Int)).toNat = 49 + i := by omega
      rw [e1, e2, nn]
      obtain ⟨h', g1, g2, g3⟩ := ih (i + 1) (up h 78 i (h 78 (49 + i))) (by omega) (by omega)
      refine ⟨h', g1, fun j => ?_, (FR.up (by simp)).tr g3⟩
      rw [g2, up_if, up_if]
      by_cases c1 : i ≤ j ∧ j < 147
      · rw [if_pos c1]
        by_cases c2 : i + 1 ≤ j ∧ j < 147
        · rw [if_pos c2, if_neg (by omega)]
        · have : j = i := by omega
          rw [if_neg c2, if_pos this, this]
      · rw [if_neg c1, if_neg (by omega), if_neg (by omega)]
    · rw [if_neg (by omega)]
      have : i = 147 := by omega
      subst this
      exact ⟨h, rfl, fun j => by rw [if_neg (by omega)], FR.rf _ _⟩
theorem push_loop {k : Nat} (hk : k < 4) : ∀ (n i : Nat) (h : MH), h 76 2 = (k : Int) → i ≤ 49 → 49 < i + n → ∃ h', F_M_remembers_L50 n (i : Int) h = some (49, h') ∧ (∀ j, h' 78 j = if 49 * k + i ≤ j ∧ j < 49 * k + 49 then h 77 (j - 49 * k) else h 78 j) ∧ FR [78] h h' := by
  intro n
  induction n with
  | zero => intro i h h0 h1 h2; omega
  | succ n ih =>
    intro i h h0 h1 h2
    unfold F_M_remembers_L50
    by_cases hi : i < 49
    · rw [if_pos (by omega), h0]
      simp (disch := omega) only [wr_id]
      rw [gd_pos (by omega), gd_pos (by omega)]
      have e1 : (i : Int) + 1 = ((i + 1 : Nat) : Int) := by omega
      have e2 : (49 * (k : Int) + (i : Int)).toNat = 49 * k + i := by omega
      rw [e1, e2, nn]
      obtain ⟨h', g1, g2, g3⟩ := ih (i + 1) (up h 78 (49 * k + i) (h 77 i)) (by rw [up_other (by omega)]; exact h0) (by omega) (by omega)
      refine ⟨h', g1, fun j => ?_, (FR.up (by simp)).tr g3⟩
      rw [g2, up_if, up_other (by omega)]
      by_cases c1 : 49 * k + i ≤ j ∧ j < 49 * k + 49
      · rw [if_pos c1]
        by_cases c2 : 49 * k + (i + 1) ≤ j ∧ j < 49 * k + 49
        · rw [if_pos c2]
        · have : j = 49 * k + i := by omega
          rw [if_neg c2, if_pos this, this]
          congr 1
          omega
      · rw [if_neg c1, if_neg (by omega), if_neg (by omega)]
    · rw [if_neg (by omega)]
      have : i = 49 := by omega
      subst this
      exact ⟨h, rfl, fun j => by rw [if_neg (by omega)], FR.rf _ _⟩
theorem undo_loop {k : Nat} (hk : k < 4) : ∀ (n i : Nat) (h : MH), h 76 2 = (k : Int) → i ≤ 49 → 49 < i + n → ∃ h', F_M_undo_L22 n (i : Int) h = some (49, h') ∧ (∀ j, h' 77 j = if i ≤ j ∧ j < 49 then h 78 (49 * k + j) else h 77 j) ∧ FR [77] h h' := by
  intro n
  induction n with
  | zero => intro i h h0 h1 h2; omega
  | succ n ih =>
    intro i h h0 h1 h2
    unfold F_M_undo_L22
    by_cases hi : i < 49
    · rw [if_pos (by omega), h0]
      simp (disch := omega) only [wr_id]
      rw [gd_pos (by omega), gd_pos (by omega)]
      have e1 : (i : Int) + 1 = ((i + 1 : Nat) : Int) := by omega
      have e2 : (49 * (k : Int) + (i : Int)).toNat = 49 * k + i := by omega
      rw [e1, e2, nn]
      obtain ⟨h', g1, g2, g3⟩ := ih (i + 1) (up h 77 i (h 78 (49 * k + i))) (by rw [up_other (by omega)]; exact h0) (by omega) (by omega)
      refine ⟨h', g1, fun j => ?_, (FR.up (by simp)).tr g3⟩
      rw [g2, up_if, up_other (by omega)]
      by_cases c1 : i ≤ j ∧ j < 49
      · rw [if_pos c1]
        by_cases c2 : i + 1 ≤ j ∧ j < 49
        · rw [if_pos c2]
        · have : j = i := by omega
          rw [if_neg c2, if_pos this, this]
      · rw [if_neg c1, if_neg (by omega), if_neg (by omega)]
    · rw [if_neg (by omega)]
      have : i = 49 := by omega
      subst this
      exact ⟨h, rfl, fun j => by rw [if_neg (by omega)], FR.rf _ _⟩
theorem save_loop : ∀ (n i : Nat) (h : MH), i ≤ 49 → 49 < i + n → ∃ h', F_M_save_L2 n (i : Int) h = some (49, h') ∧ (∀ j, h' 79 j = if i ≤ j ∧ j < 49 then h 77 j else h 79 j) ∧ FR [79] h h' := by
  intro n
  induction n with
  | zero => intro i h h1 h2; omega
  | succ n ih =>
    intro i h h1 h2
    unfold F_M_save_L2
    by_cases hi : i < 49
    · rw [if_pos (by omega), wr_id (by omega), gd_pos (by omega), gd_pos (by omega)]
      have e1 : (i : Int) + 1 = ((i + 1 : Nat) : Int) := by omega
      rw [e1, nn]
      obtain ⟨h', g1, g2, g3⟩ := ih (i + 1) (up h 79 i (h 77 i)) (by omega) (by omega)
      refine ⟨h', g1, fun j => ?_, (FR.up (by simp)).tr g3⟩
      rw [g2, up_if, up_other (by omega)]
      by_cases c1 : i ≤ j ∧ j < 49
      · rw [if_pos c1]
        by_cases c2 : i + 1 ≤ j ∧ j < 49
        · rw [if_pos c2]
        · have : j = i := by omega
          rw [if_neg c2, if_pos this, this]
      · rw [if_neg c1, if_neg (by omega), if_neg (by omega)]
    · rw [if_neg (by omega)]
      have : i = 49 := by omega
      subst this
      exact ⟨h, rfl, fun j => by rw [if_neg (by omega)], FR.rf _ _⟩
theorem restore_loop : ∀ (n i : Nat) (h : MH), i ≤ 49 → 49 < i + n → ∃ h', F_M_restore_L16 n (i : Int) h = some (49, h') ∧ (∀ j, h' 77 j = if i ≤ j ∧ j < 49 then h 79 j else h 77 j) ∧ FR [77] h h' := by
  intro n
  induction n with
  | zero => intro i h h1 h2; omega
  | succ n ih =>
    intro i h h1 h2
    unfold F_M_restore_L16
    by_cases hi : i < 49
    · rw [if_pos (by omega), wr_id (by omega), gd_pos (by omega), gd_pos (by omega)]
      have e1 : (i : Int) + 1 = ((i + 1 : Nat) : Int) := by omega
      rw [e1, nn]
      obtain ⟨h', g1, g2, g3⟩ := ih (i + 1) (up h 77 i (h 79 i)) (by omega) (by omega)
      refine ⟨h', g1, fun j => ?_, (FR.up (by simp)).tr g3⟩
      rw [g2, up_if, up_other (by omega)]
      by_cases c1 : i ≤ j ∧ j < 49
      · rw [if_pos c1]
        by_cases c2 : i + 1 ≤ j ∧ j < 49
        · rw [if_pos c2]
        · have : j = i := by omega
          rw [if_neg c2, if_pos this, this]
      · rw [if_neg c1, if_neg (by omega), if_neg (by omega)]
    · rw [if_neg (by omega)]
      have : i = 49 := by omega
      subst this
      exact ⟨h, rfl, fun j => by rw [if_neg (by omega)], FR.rf _ _⟩
/-- the reference's history -/
def MHI (h : MH) (hist : List SG) : Prop := h 76 2 = (hist.length : Int) ∧ hist.length ≤ 4 ∧ ∀ k q, hist[k]? = some q → SM (fun j => h 78 (49 * k + j)) q
def OKh (hist : List SG) : Prop := ∀ q ∈ hist, OKg q
theorem M_remembers {h : MH} {hist : List SG} {g : SG} (H : MHI h hist) (Hs : SM (h 77) g) (oh : OKh hist) (og : OKg g) : ∃ h', F_M_remembers h = some h' ∧ MHI h' (hpush hist g) ∧ (∀ a b, a ≠ 78 → ¬ (a = 76 ∧ b = 2) → h' a b = h a b) := by
  have key : ∀ (h1 : MH) (hi : List SG), MHI h1 hi → hi.length < 4 → SM (h1 77) g → OKh hi → ∃ h', ob2 (F_M_remembers_L50 FUEL 0 h1) (fun (x1_7 : Int) (h8 : MH) => some (up h8 76 2 (wr ((h8 76 2) + 1)))) = some h' ∧ MHI h' (hi ++ [g]) ∧ (∀ a b, a ≠ 78 → ¬ (a = 76 ∧ b = 2) → h' a b = h1 a b) := by
    intro h1 hi Hh hlt Hg oh
    obtain ⟨a, b, c⟩ := Hh
    obtain ⟨h2, g1, g2, g3⟩ := push_loop hlt FUEL 0 h1 a (by omega) (by rw [FUEL_eq]; omega)
    rw [show ((0 : Nat) : Int) = 0 from rfl] at g1
    rw [g1, ob2_s]
    have e76 : h2 76 = h1 76 := g3 76 (by simp)
    refine ⟨_, rfl, ⟨?_, ?_, ?_⟩, ?_⟩
    · rw [up_at, e76, a, wr_id (by omega)]; simp
    · simp; omega
    · intro k q hq
      by_cases hk : k < hi.length
      · rw [List.getElem?_append_left hk] at hq
        refine (c k q hq).ext (oh q (List.mem_of_getElem? hq)) (fun j hj => ?_)
        show up h2 76 2 _ 78 (49 * k + j) = h1 78 (49 * k + j)
        rw [up_other (by omega), g2, if_neg (by omega)]
      · rw [List.getElem?_append_right (by omega)] at hq
        have hk0 : k - hi.length < 1 := (List.getElem?_eq_some_iff.mp hq).1
        have hk1 : k = hi.length := by omega
        subst hk1
        rw [Nat.sub_self] at hq
        cases hq
        refine Hg.ext og (fun j hj => ?_)
        show up h2 76 2 _ 78 (49 * hi.length + j) = h1 77 j
        rw [up_other (by omega), g2, if_pos (by omega)]
        congr 1
        omega
    · intro x y hx hxy
      rw [up_other hxy, g3 x (by simpa using hx)]
  unfold F_M_remembers
  dsimp only [jk1]
  unfold hpush
  obtain ⟨a, b, c⟩ := H
  by_cases h4 : hist.length < 4
  · rw [if_neg (by omega), if_pos h4]
    exact key h hist ⟨a, b, c⟩ h4 Hs oh
  · have hl : hist.length = 4 := by omega
    rw [if_pos (by omega), if_neg h4]
    obtain ⟨h2, g1, g2, g3⟩ := shift_loop FUEL 0 h (by omega) (by rw [FUEL_eq]; omega)
    rw [show ((0 : Nat) : Int) = 0 from rfl] at g1
    rw [g1, ob2_s]
    have e76 : h2 76 = h 76 := g3 76 (by simp)
    have e77 : h2 77 = h 77 := g3 77 (by simp)
    obtain ⟨h', k1, k2, k3⟩ := key (up h2 76 2 (wr (h2 76 2 - 1))) hist.tail ⟨by
        rw [up_at, e76, a, wr_id (by omega), List.length_tail]; omega, by rw [List.length_tail]; omega, fun k q hq => by
        rw [List.getElem?_tail] at hq
        have hk : k + 1 < hist.length := (List.getElem?_eq_some_iff.mp hq).1
        refine (c (k + 1) q hq).ext (oh q (List.mem_of_getElem? hq)) (fun j hj => ?_)
        show up h2 76 2 _ 78 (49 * k + j) = h 78 (49 * (k + 1) + j)
        rw [up_other (by omega), g2, if_pos (by omega), show 49 + (49 * k + j) = 49 * (k + 1) + j by omega]⟩ (by rw [List.length_tail]; omega) (by rw [up_ne (by omega), e77]; exact Hs) (fun q hq => oh q (List.mem_of_mem_tail hq))
    refine ⟨h', k1, k2, fun x y hx hxy => ?_⟩
    rw [k3 x y hx hxy, up_other hxy, g3 x (by simpa using hx)]
theorem hpush_ok {hist : List SG} {g : SG} (oh : OKh hist) (og : OKg g) : OKh (hpush hist g) := by
  intro q hq
  unfold hpush at hq
  rcases List.mem_append.mp hq with hq | hq
  · split at hq
    · exact oh q hq
    · exact oh q (List.mem_of_mem_tail hq)
  · simp at hq
    rw [hq]
    exact og
/-- lines and single lines -/
theorem M_lines0 {h : MH} {g : SG} (H : SM (h 77) g) : F_M_lines 0 h = some (g.1.length : Int) := by
  unfold F_M_lines
  rw [wr_id (by omega), gd_pos (by omega)]
  exact congrArg some H.1.1
theorem M_lines1 {h : MH} {g : SG} (H : SM (h 77) g) : F_M_lines 1 h = some (g.2.1.length : Int) := by
  unfold F_M_lines
  rw [wr_id (by omega), gd_pos (by omega)]
  exact congrArg some H.2.1.1
theorem M_lines2 {h : MH} {g : SG} (H : SM (h 77) g) : F_M_lines 2 h = some (g.2.2.1.length : Int) := by
  unfold F_M_lines
  rw [wr_id (by omega), gd_pos (by omega)]
  exact congrArg some H.2.2.1.1
theorem M_lineOf0 {h : MH} {g : SG} (H : SM (h 77) g) (og : OKg g) {i : Int} (h0 : 0 ≤ i) (h1 : i < (g.1.length : Int)) : F_M_lineOf 0 i h = some (lg g.1 i) := by
  have := og.1.1
  unfold F_M_lineOf
  simp (disch := omega) only [wr_id]
  rw [gd_pos (by omega), lg_in h0, ← H.1.2 _ (by omega)]
  congr 2
  omega
theorem M_lineOf1 {h : MH} {g : SG} (H : SM (h 77) g) (og : OKg g) {i : Int} (h0 : 0 ≤ i) (h1 : i < (g.2.1.length : Int)) : F_M_lineOf 1 i h = some (lg g.2.1 i) := by
  have := og.2.1.1
  unfold F_M_lineOf
  simp (disch := omega) only [wr_id]
  rw [gd_pos (by omega), lg_in h0, ← H.2.1.2 _ (by omega)]
  congr 2
  omega
theorem M_lineOf2 {h : MH} {g : SG} (H : SM (h 77) g) (og : OKg g) {i : Int} (h0 : 0 ≤ i) (h1 : i < (g.2.2.1.length : Int)) : F_M_lineOf 2 i h = some (lg g.2.2.1 i) := by
  have := og.2.2.1.1
  unfold F_M_lineOf
  simp (disch := omega) only [wr_id]
  rw [gd_pos (by omega), lg_in h0, ← H.2.2.1.2 _ (by omega)]
  congr 2
  omega

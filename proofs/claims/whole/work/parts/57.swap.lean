/-! ===== to swap two texts ===== -/
theorem M_swap_loop {a b : Nat} (ha : a ≤ 2) (hb : b ≤ 2) (hab : a ≠ b) : ∀ (n k : Nat) (h : MH), k ≤ 15 → 15 < k + n →
    ∃ h', F_M_swap_L31 (a : Int) (b : Int) n (k : Int) h = some (15, h') ∧ (∀ j, h' 77 j = if 15 * a + k ≤ j ∧ j < 15 * a + 15 then h 77 (j - 15 * a + 15 * b) else if 15 * b + k ≤ j ∧ j < 15 * b + 15 then h 77 (j - 15 * b + 15 * a) else h 77 j) ∧ FR [77] h h' := by
  intro n
  induction n with
  | zero => intro k h h1 h2; omega
  | succ n ih =>
    intro k h h1 h2
    have hd : 15 * a + 15 ≤ 15 * b ∨ 15 * b + 15 ≤ 15 * a := by omega
    unfold F_M_swap_L31
    by_cases hk : k < 15
    · have e1 : wr (wr (15 * (a : Int)) + (k : Int)) = ((15 * a + k : Nat) : Int) := by rw [wr_15 ha, wr_id (by omega)]; omega
      have e2 : wr (wr (15 * (b : Int)) + (k : Int)) = ((15 * b + k : Nat) : Int) := by rw [wr_15 hb, wr_id (by omega)]; omega
      have e3 : wr ((k : Int) + 1) = ((k + 1 : Nat) : Int) := by rw [wr_id (by omega)]; omega
      have g1 : 0 ≤ ((15 * a + k : Nat) : Int) ∧ ((15 * a + k : Nat) : Int) < 49 := by omega
      have g2 : 0 ≤ ((15 * b + k : Nat) : Int) ∧ ((15 * b + k : Nat) : Int) < 49 := by omega
      rw [if_pos (by omega), e1, e2, gd_pos g1, gd_pos g2, gd_pos g1, gd_pos g2, e3, nn, nn]
      obtain ⟨h', q1, q2, q3⟩ := ih (k + 1) (up (up h 77 (15 * a + k) (h 77 (15 * b + k))) 77 (15 * b + k) (h 77 (15 * a + k))) (by omega) (by omega)
      refine ⟨h', q1, fun j => ?_, ((FR.up (by simp)).tr (FR.up (by simp))).tr q3⟩
      rw [q2, up_if, up_if, up_if, up_if, up_if, up_if]
      by_cases c1 : 15 * a + k ≤ j ∧ j < 15 * a + 15
      · rw [if_pos c1]
        by_cases c2 : 15 * a + (k + 1) ≤ j ∧ j < 15 * a + 15
        · rw [if_pos c2, if_neg (by omega), if_neg (by omega)]
        · have ej : j = 15 * a + k := by omega
          have ex : j - 15 * a + 15 * b = 15 * b + k := by omega
          rw [if_neg c2, if_neg (by omega), if_neg (by omega), if_pos ej, ex]
      · rw [if_neg c1, if_neg (by omega)]
        by_cases c3 : 15 * b + k ≤ j ∧ j < 15 * b + 15
        · rw [if_pos c3]
          by_cases c4 : 15 * b + (k + 1) ≤ j ∧ j < 15 * b + 15
          · rw [if_pos c4, if_neg (by omega), if_neg (by omega)]
          · have ej : j = 15 * b + k := by omega
            have ex : j - 15 * b + 15 * a = 15 * a + k := by omega
            rw [if_neg c4, if_pos ej, ex]
        · rw [if_neg c3, if_neg (by omega), if_neg (by omega), if_neg (by omega)]
    · rw [if_neg (by omega)]
      have : k = 15 := by omega
      subst this
      exact ⟨h, rfl, fun j => by rw [if_neg (by omega), if_neg (by omega)], FR.rf _ _⟩
theorem getT_other {g : SG} {a b : Nat} (ha : a ≤ 2) (hb : b ≤ 2) (hab : b ≠ a) {l : List Int} : getT (setT g a l) b = getT g b := by
  rcases t012 ha with rfl | rfl | rfl <;> rcases t012 hb with rfl | rfl | rfl <;> first | rfl | exact absurd rfl hab
theorem swap_SM {f f' : Nat → Int} {g : SG} (H : SM f g) (og : OKg g) {a b : Nat} (ha : a ≤ 2) (hb : b ≤ 2) (hab : a ≠ b) (hf : ∀ j, f' j = if 15 * a + 0 ≤ j ∧ j < 15 * a + 15 then f (j - 15 * a + 15 * b) else if 15 * b + 0 ≤ j ∧ j < 15 * b + 15 then f (j - 15 * b + 15 * a) else f j) : SM f' (setT (setT g a (getT g b)) b (getT g a)) := by
  have A := H.getT ha
  have B := H.getT hb
  have oa := og.getT ha
  have ob := og.getT hb
  have la := oa.1
  have lb := ob.1
  have S1 : SM (fun j => if 15 * a ≤ j ∧ j < 15 * a + 15 then f (j - 15 * a + 15 * b) else f j) (setT g a (getT g b)) := by
    refine H.setT og ha ?_ (fun p hp => ?_) (fun j hj => ?_)
    · show (if 15 * a ≤ 15 * a ∧ 15 * a < 15 * a + 15 then f (15 * a - 15 * a + 15 * b) else f (15 * a)) = _
      rw [if_pos (by omega), Nat.sub_self, Nat.zero_add]
      exact B.1
    · show (if 15 * a ≤ 15 * a + 1 + p ∧ 15 * a + 1 + p < 15 * a + 15 then f (15 * a + 1 + p - 15 * a + 15 * b) else f (15 * a + 1 + p)) = _
      have ex : 15 * a + 1 + p - 15 * a + 15 * b = 15 * b + 1 + p := by omega
      rw [if_pos (by omega), ex]
      exact B.2 p hp
    · show (if 15 * a ≤ j ∧ j < 15 * a + 15 then f (j - 15 * a + 15 * b) else f j) = f j
      rw [if_neg (by omega)]
  have hd : 15 * a + 15 ≤ 15 * b ∨ 15 * b + 15 ≤ 15 * a := by omega
  refine S1.setT (og.setT ha ob) hb ?_ (fun p hp => ?_) (fun j hj => ?_)
  · have ex : 15 * b - 15 * b + 15 * a = 15 * a := by omega
    rw [hf, if_neg (by omega), if_pos (by omega), ex]
    exact A.1
  · have ex : 15 * b + 1 + p - 15 * b + 15 * a = 15 * a + 1 + p := by omega
    rw [hf, if_neg (by omega), if_pos (by omega), ex]
    exact A.2 p hp
  · show f' j = (if 15 * a ≤ j ∧ j < 15 * a + 15 then f (j - 15 * a + 15 * b) else f j)
    rw [hf]
    by_cases c : 15 * a ≤ j ∧ j < 15 * a + 15
    · rw [if_pos (by omega), if_pos c]
    · rw [if_neg (by omega), if_neg c, if_neg (by omega)]
theorem step_swap_no {h : MH} {pad : List Int} {g : SG} {hist : List SG} {sv : Option SG} (C : CR h pad g hist sv) {p1 p2 : Int} (hp : ¬ (0 ≤ p1 ∧ p1 ≤ 2) ∨ ¬ (0 ≤ p2 ∧ p2 ≤ 2) ∨ p1 = p2) : STEP (F_X_swap p1 p2) (F_M_swap p1 p2) h pad g hist sv pad g hist sv := by
  have tx : ∀ p, 0 ≤ p ∧ p ≤ 2 → F_X_isText p = 1 := fun p c => by unfold F_X_isText; rw [if_neg (by omega), if_pos c.2]
  refine step_flat C (-1) ?_ (fun hm _ => ?_)
  · unfold F_X_swap
    by_cases c1 : 0 ≤ p1 ∧ p1 ≤ 2
    · rw [tx p1 c1, if_neg one_ne]
      by_cases c2 : 0 ≤ p2 ∧ p2 ≤ 2
      · rw [tx p2 c2, if_neg one_ne, if_pos (by omega)]
      · rw [X_isText_0 c2, if_pos rfl]
    · rw [X_isText_0 c1, if_pos rfl]
  · unfold F_M_swap
    by_cases c1 : 0 ≤ p1 ∧ p1 ≤ 2
    · rw [M_in_1 c1, if_neg one_ne]
      by_cases c2 : 0 ≤ p2 ∧ p2 ≤ 2
      · rw [M_in_1 c2, if_neg one_ne, if_pos (by omega)]
      · rw [M_in_0 c2, if_pos rfl]
    · rw [M_in_0 c1, if_pos rfl]
theorem step_swap {h : MH} {pad : List Int} {g : SG} {hist : List SG} {sv : Option SG} (C : CR h pad g hist sv) (og : OKg g) (oh : OKh hist) {a b : Nat} (ha : a ≤ 2) (hb : b ≤ 2) (hab : a ≠ b) : STEP (F_X_swap (a : Int) (b : Int)) (F_M_swap (a : Int) (b : Int)) h pad g hist sv pad (setT (setT g a (getT g b)) b (getT g a)) (hpush hist g) sv := by
  have oa := og.getT ha
  have ob := og.getT hb
  have og2 : OKg (setT (setT g a (getT g b)) b (getT g a)) := (og.setT ha ob).setT hb oa
  have hne : ¬ (a : Int) = (b : Int) := by omega
  obtain ⟨ka1, ka2, ka3⟩ := kd_text ha
  obtain ⟨kb1, kb2, kb3⟩ := kd_text hb
  obtain ⟨h1, f1, a1, w1⟩ := Hi_record C.2.2.1 C.2.1
  have C1 := C.rec w1 a1
  obtain ⟨h2, f2, R2, w2⟩ := Ro_become (o := 47) (p := 4 + 2 * a) rfl (C1.2.1.getT ha) (by omega) (by show _ ≤ 14; exact oa.1)
  have C2 : CR h2 pad g (hpush hist g) sv := C1.fr w2 (by decide)
  obtain ⟨h3, f3, R3, w3⟩ := Ro_become (o := 4 + 2 * a) (p := 4 + 2 * b) ka1 (C2.2.1.getT hb) (by omega) (by rw [ka2]; exact ob.1)
  have C3 := C2.setT ha R3 w3
  have R23 : RW h3 47 (getT g a) := R2.fr w3 (by simp; omega) (by simp; omega)
  obtain ⟨h4, f4, R4, w4⟩ := Ro_become (o := 4 + 2 * b) (p := 47) kb1 R23 (by omega) (by rw [kb2]; exact oa.1)
  have C4 := C3.setT hb R4 w4
  obtain ⟨h5, f5, w5⟩ := X_now C4 og2
  refine ⟨dst (setT (setT g a (getT g b)) b (getT g a)).1 (setT (setT g a (getT g b)) b (getT g a)).2.1, h5, ?_, C4.fr w5 (by decide), fun i hi => ?_, fun hm hh => ?_⟩
  · unfold F_X_swap
    rw [X_isText_1 ha, if_neg one_ne, X_isText_1 hb, if_neg one_ne, if_neg hne, f1, ob1_s, ka3, kb3, f2, ob1_s, f3, ob1_s, f4, ob1_s, f5, ob2_s]
  · rw [SCR_hi w5 i hi, w4 i (by simp; omega), w3 i (by simp; omega), w2 i (by simp; omega), w1 i (fun z => by have := HS_lo i z; omega)]
  · obtain ⟨hm1, g1, M1, r1⟩ := M_remembers (hist := hist) (g := g) hh.2.1 hh.1 oh og
    have MR1 := hh.rec r1 M1
    obtain ⟨hm2, q1, q2, q3⟩ := M_swap_loop ha hb hab FUEL 0 hm1 (by decide) (by rw [FUEL_eq]; decide)
    rw [show ((0 : Nat) : Int) = 0 from rfl] at q1
    have MR2 := MR1.set77 (swap_SM MR1.1 og ha hb hab q2) q3
    obtain ⟨hm3, d, _, e⟩ := M_now og2 MR2
    refine ⟨hm3, ?_, e.mrr MR2, fun i hi => ?_⟩
    · unfold F_M_swap
      rw [M_in_1 (by omega), if_neg one_ne, M_in_1 (by omega), if_neg one_ne, if_neg hne, g1, ob1_s, q1, ob2_s, d, ob2_s]
    · rw [e.lo i hi, q3 i (by simp; omega)]
      exact funext fun y => r1 i y (by omega) (fun z => by omega)

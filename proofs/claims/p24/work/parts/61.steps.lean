/-! ===== the system's distance by steps ===== -/
section STEPS
variable {l1 l2 : List Int}
theorem follow_loop {h : MH} (R1 : RW h 4 l1) (R2 : RW h 6 l2) (h1 : l1.length ≤ 14) (h2 : l2.length ≤ 14) {d : Int} (hd : -28 ≤ d ∧ d ≤ 28) : ∀ (n i j : Nat), (j : Int) = (i : Int) - d → i ≤ 100 → l1.length < i + n → 1 ≤ n →
    ∃ y k : Nat, F_C_followKept_L3 4 6 d h n (i : Int) = some (y : Int) ∧ (k : Int) = (y : Int) - d ∧ i ≤ y ∧ ed l1 l2 y k = ed l1 l2 i j ∧ ¬ mt l1 l2 y k := by
  intro n
  induction n with
  | zero => intro i j _ _ _ h0; omega
  | succ n ih =>
    intro i j hj hi hn _
    have e1 : wr ((i : Int) - d) = (j : Int) := by rw [wr_id (by omega)]; omega
    have e2 : wr ((i : Int) + 1) = ((i + 1 : Nat) : Int) := by rw [wr_id (by omega)]; omega
    unfold F_C_followKept_L3
    rw [R1.size, R2.size, R1.at, e1, R2.at, lg_in (Int.natCast_nonneg _), lg_in (Int.natCast_nonneg _), nn, nn, e2]
    by_cases c1 : i < l1.length
    · rw [if_pos (lt_int c1)]
      by_cases c2 : j < l2.length
      · rw [if_pos (lt_int c2)]
        by_cases c3 : l1.getD i (-1) = l2.getD j (-1)
        · rw [if_pos c3]
          obtain ⟨y, k, a, b, c, e, f⟩ := ih (i + 1) (j + 1) (by omega) (by omega) (by omega) (by omega)
          exact ⟨y, k, a, b, by omega, e.trans (ed_m ⟨c1, c2, c3⟩), f⟩
        · rw [if_neg c3]
          exact ⟨i, j, rfl, hj, Nat.le_refl _, rfl, fun z => c3 z.2.2⟩
      · rw [if_neg (nlt_int c2)]
        exact ⟨i, j, rfl, hj, Nat.le_refl _, rfl, fun z => c2 z.2.1⟩
    · rw [if_neg (nlt_int c1)]
      exact ⟨i, j, rfl, hj, Nat.le_refl _, rfl, fun z => c1 z.1⟩
theorem far_at {h : MH} (hs : h 52 1 = 59) {k : Int} (hk : 0 ≤ k ∧ k < 59) : F_Ro_at 52 k h = h 53 k.toNat := at_raw rfl hk.1 (by omega) (by show k < ((59 : Nat) : Int); omega)
def VR (h : MH) (l1 l2 : List Int) (e : Nat) (lo hi : Int) : Prop := ∀ d : Int, lo ≤ d → d < hi → (d + (e : Int)) % 2 = 0 → FD l1 l2 e d (h 53 (29 + d).toNat)
theorem diag_step {h : MH} (R1 : RW h 4 l1) (R2 : RW h 6 l2) (h1 : l1.length ≤ 14) (h2 : l2.length ≤ 14) (hs : h 52 1 = 59) {e : Nat} (he : e ≤ 28) {d : Int} (hd : -(e : Int) ≤ d ∧ d ≤ (e : Int)) (hp : (d + (e : Int)) % 2 = 0) (hV : e = 0 ∨ VR h l1 l2 (e - 1) (-(e : Int) + 1) (e : Int)) :
    ∃ y : Int, F_C_followKept 4 6 (F_C_entry d (e : Int) h) d h = some y ∧ FD l1 l2 e d y := by
  cases e with
  | zero =>
    have d0 : d = 0 := by omega
    subst d0
    have en : F_C_entry 0 ((0 : Nat) : Int) h = 0 := by unfold F_C_entry; rw [if_pos (show ((0 : Nat) : Int) = 0 from rfl)]
    obtain ⟨y, k, a, b, c, x, f⟩ := follow_loop R1 R2 h1 h2 (d := 0) (by decide) FUEL 0 0 (by decide) (by decide) (by rw [FUEL_eq]; omega) (by rw [FUEL_eq]; decide)
    have ky : k = y := by omega
    subst ky
    refine ⟨(k : Int), ?_, FD_first x f⟩
    rw [en]
    unfold F_C_followKept
    rw [show ((0 : Nat) : Int) = 0 from rfl] at a
    rw [a]
    rfl
  | succ e =>
    have V := hV.resolve_left (by omega)
    rw [Nat.add_sub_cancel] at V
    have fin : ∀ x : Int, 0 ≤ x → d ≤ x → x ≤ 60 → (d ≤ (e : Int) - 1 → ∃ c, FD l1 l2 e (d + 1) c ∧ c ≤ x) → (-(e : Int) + 1 ≤ d → ∃ g, FD l1 l2 e (d - 1) g ∧ g + 1 ≤ x) → ((d ≤ (e : Int) - 1 ∧ FD l1 l2 e (d + 1) x) ∨ (-(e : Int) + 1 ≤ d ∧ FD l1 l2 e (d - 1) (x - 1))) → ∃ y, F_C_followKept 4 6 x d h = some y ∧ FD l1 l2 (e + 1) d y := by
      intro x x0 xd x60 hc hg hx
      have ex : x = (x.toNat : Int) := by omega
      generalize x.toNat = xn at ex
      subst ex
      have ej : ∃ j : Nat, (j : Int) = (xn : Int) - d := ⟨((xn : Int) - d).toNat, by omega⟩
      obtain ⟨j, hj⟩ := ej
      obtain ⟨y, k, a, b, c, q, f⟩ := follow_loop R1 R2 h1 h2 (d := d) (by omega) FUEL xn j hj (by omega) (by rw [FUEL_eq]; omega) (by rw [FUEL_eq]; decide)
      refine ⟨(y : Int), ?_, FD_next (x := xn) (y := y) (i := j) (j := k) (by omega) b hj c q f hc hg hx⟩
      unfold F_C_followKept
      rw [a]
      rfl
    have w1 : wr (wr (29 + d) + 1) = 29 + (d + 1) := by rw [wr_id (z := 29 + d) (by omega), wr_id (by omega)]; omega
    have w2 : wr (wr (29 + d) - 1) = 29 + (d - 1) := by rw [wr_id (z := 29 + d) (by omega), wr_id (by omega)]; omega
    have w3 : wr (-((e + 1 : Nat) : Int)) = -((e + 1 : Nat) : Int) := wr_id (by omega)
    have Vc : d ≤ (e : Int) - 1 → FD l1 l2 e (d + 1) (h 53 (29 + (d + 1)).toNat) := fun q => V (d + 1) (by omega) (by omega) (by omega)
    have Vg : -(e : Int) + 1 ≤ d → FD l1 l2 e (d - 1) (h 53 (29 + (d - 1)).toNat) := fun q => V (d - 1) (by omega) (by omega) (by omega)
    unfold F_C_entry
    rw [if_neg (by omega), w1, w2, w3]
    by_cases c1 : d = -((e + 1 : Nat) : Int)
    · rw [if_pos c1, far_at hs (by omega)]
      have F := Vc (by omega)
      have B := F.bd
      exact fin _ B.1 (by omega) (by omega) (fun _ => ⟨_, F, Int.le_refl _⟩) (fun q => absurd q (by omega)) (Or.inl ⟨by omega, F⟩)
    · rw [if_neg c1]
      have G := Vg (by omega)
      have BG := G.bd
      have w4 : wr (h 53 (29 + (d - 1)).toNat + 1) = h 53 (29 + (d - 1)).toNat + 1 := wr_id (by omega)
      by_cases c2 : d = ((e + 1 : Nat) : Int)
      · rw [if_pos c2, far_at hs (by omega), w4]
        exact fin _ (by omega) (by omega) (by omega) (fun q => absurd q (by omega)) (fun _ => ⟨_, G, Int.le_refl _⟩) (Or.inr ⟨by omega, by rw [Int.add_sub_cancel]; exact G⟩)
      · have F := Vc (by omega)
        have B := F.bd
        rw [if_neg c2, far_at hs (k := 29 + (d - 1)) (by omega), far_at hs (k := 29 + (d + 1)) (by omega), w4]
        by_cases c3 : h 53 (29 + (d - 1)).toNat + 1 ≤ h 53 (29 + (d + 1)).toNat
        · rw [if_pos c3]
          exact fin _ B.1 (by omega) (by omega) (fun _ => ⟨_, F, Int.le_refl _⟩) (fun _ => ⟨_, G, c3⟩) (Or.inl ⟨by omega, F⟩)
        · rw [if_neg c3]
          exact fin _ (by omega) (by omega) (by omega) (fun _ => ⟨_, F, by omega⟩) (fun _ => ⟨_, G, Int.le_refl _⟩) (Or.inr ⟨by omega, by rw [Int.add_sub_cancel]; exact G⟩)
theorem inner_loop (h1 : l1.length ≤ 14) (h2 : l2.length ≤ 14) {all : Int} {e : Nat} (he : e ≤ 28) : ∀ (n : Nat) (d : Int) (h : MH), RW h 4 l1 → RW h 6 l2 → h 52 1 = 59 → (e = 0 ∨ VR h l1 l2 (e - 1) (-(e : Int) + 1) (e : Int)) → VR h l1 l2 e (-(e : Int)) d → -(e : Int) ≤ d → d ≤ (e : Int) + 2 → (d + (e : Int)) % 2 = 0 → (e : Int) - d + 4 ≤ 2 * (n : Int) →
    (e < ed l1 l2 l1.length l2.length → ∃ x h', F_C_apartBySteps_L33 4 6 all (e : Int) n d h = some (.inr (x, h')) ∧ VR h' l1 l2 e (-(e : Int)) ((e : Int) + 1) ∧ FR [53] h h') ∧
    (e = ed l1 l2 l1.length l2.length → d ≤ (l1.length : Int) - (l2.length : Int) → ∃ h', F_C_apartBySteps_L33 4 6 all (e : Int) n d h = some (.inl ((e : Int), h')) ∧ FR [53] h h') := by
  intro n
  induction n with
  | zero => intro d h _ _ _ _ _ _ h3 _ h4; omega
  | succ n ih =>
    intro d h R1 R2 hs hV hW hd1 hd2 hp hn
    have D2 := ed_2 l1 l2 l1.length l2.length
    by_cases c : d ≤ (e : Int)
    · obtain ⟨y, f, F⟩ := diag_step R1 R2 h1 h2 hs he ⟨hd1, c⟩ hp hV
      have B := F.bd
      have w1 : wr (29 + d) = 29 + d := wr_id (by omega)
      have w2 : wr (d + 2) = d + 2 := wr_id (by omega)
      have w3 : wr (y - d) = y - d := wr_id (by omega)
      have ch : F_Ro_change 52 (29 + d) y h = up h 53 (29 + d).toNat y := change_raw rfl (by omega) (by omega) (by show 29 + d < ((59 : Nat) : Int); omega)
      have Fu : FR [53] h (up h 53 (29 + d).toNat y) := FR.up (by simp)
      have R1' := R1.fr Fu (by decide) (by decide)
      have R2' := R2.fr Fu (by decide) (by decide)
      have hs' : up h 53 (29 + d).toNat y 52 1 = 59 := by rw [up_ne (by decide)]; exact hs
      have hV' : e = 0 ∨ VR (up h 53 (29 + d).toNat y) l1 l2 (e - 1) (-(e : Int) + 1) (e : Int) := by
        rcases hV with q | q
        · exact Or.inl q
        · by_cases e0 : e = 0
          · exact Or.inl e0
          · refine Or.inr (fun d' a1 a2 a3 => ?_)
            rw [up_other (by omega)]
            exact q d' a1 a2 a3
      have hW' : VR (up h 53 (29 + d).toNat y) l1 l2 e (-(e : Int)) (d + 2) := by
        intro d' a1 a2 a3
        by_cases q : d' = d
        · rw [q, up_at]; exact F
        · rw [up_other (by omega)]
          exact hW d' a1 (by omega) a3
      have IH := ih (d + 2) (up h 53 (29 + d).toNat y) R1' R2' hs' hV' hW' (by omega) (by omega) (by omega) (by omega)
      have go : F_C_apartBySteps_L33 4 6 all (e : Int) (n + 1) d h = (if y < (l1.length : Int) then F_C_apartBySteps_L33 4 6 all (e : Int) n (d + 2) (up h 53 (29 + d).toNat y) else if y - d < (l2.length : Int) then F_C_apartBySteps_L33 4 6 all (e : Int) n (d + 2) (up h 53 (29 + d).toNat y) else some (.inl ((e : Int), up h 53 (29 + d).toNat y))) := by
        rw [F_C_apartBySteps_L33, if_pos c, f, ob1_s, jk1_p, w1, w2, w3, ch, R1'.size, R2'.size]
      rw [go]
      constructor
      · intro hlt
        obtain ⟨x, h', a1, a2, a3⟩ := IH.1 hlt
        by_cases c1 : y < (l1.length : Int)
        · rw [if_pos c1]; exact ⟨x, h', a1, a2, Fu.tr a3⟩
        · rw [if_neg c1]
          by_cases c2 : y - d < (l2.length : Int)
          · rw [if_pos c2]; exact ⟨x, h', a1, a2, Fu.tr a3⟩
          · have := FD_end F (by omega) (by omega)
            omega
      · intro heq hdd
        have cont : d < (l1.length : Int) - (l2.length : Int) → ∃ h', F_C_apartBySteps_L33 4 6 all (e : Int) n (d + 2) (up h 53 (29 + d).toNat y) = some (.inl ((e : Int), h')) ∧ FR [53] h h' := by
          intro q
          obtain ⟨h', a1, a2⟩ := IH.2 heq (by omega)
          exact ⟨h', a1, Fu.tr a2⟩
        have hit : ¬ d < (l1.length : Int) - (l2.length : Int) → (l1.length : Int) ≤ y ∧ (l2.length : Int) ≤ y - d := by
          intro q
          exact FD_hit (by omega) (by rw [← heq]; exact F)
        by_cases c1 : y < (l1.length : Int)
        · rw [if_pos c1]
          exact cont (by
            by_cases q : d < (l1.length : Int) - (l2.length : Int)
            · exact q
            · have := hit q; omega)
        · rw [if_neg c1]
          by_cases c2 : y - d < (l2.length : Int)
          · rw [if_pos c2]
            exact cont (by
              by_cases q : d < (l1.length : Int) - (l2.length : Int)
              · exact q
              · have := hit q; omega)
          · rw [if_neg c2]
            exact ⟨_, rfl, Fu⟩
    · have hp2 : d = (e : Int) + 2 ∨ d = (e : Int) + 1 := by omega
      have d2 : d = (e : Int) + 2 := by omega
      constructor
      · intro _
        refine ⟨d, h, ?_, fun d' a1 a2 a3 => hW d' a1 (by omega) a3, FR.rf _ _⟩
        rw [F_C_apartBySteps_L33, if_neg c]
      · intro heq hdd
        omega
theorem outer_loop (h1 : l1.length ≤ 14) (h2 : l2.length ≤ 14) : ∀ (n e : Nat) (h : MH), RW h 4 l1 → RW h 6 l2 → h 52 1 = 59 → (e = 0 ∨ VR h l1 l2 (e - 1) (-(e : Int) + 1) (e : Int)) → e ≤ ed l1 l2 l1.length l2.length → ed l1 l2 l1.length l2.length < e + n →
    ∃ h', F_C_apartBySteps_L22 4 6 ((l1.length : Int) + (l2.length : Int)) n (e : Int) h = some (.inl ((ed l1 l2 l1.length l2.length : Nat), h')) ∧ FR [53] h h' := by
  intro n
  induction n with
  | zero => intro e h _ _ _ _ _ _; omega
  | succ n ih =>
    intro e h R1 R2 hs hV he hn
    have D2 := ed_2 l1 l2 l1.length l2.length
    have w1 : wr (-(e : Int)) = -(e : Int) := wr_id (by omega)
    have w2 : wr ((e : Int) + 1) = ((e + 1 : Nat) : Int) := by rw [wr_id (by omega)]; omega
    have I := inner_loop (all := (l1.length : Int) + (l2.length : Int)) h1 h2 (e := e) (by omega) FUEL (-(e : Int)) h R1 R2 hs hV (fun d' a1 a2 _ => by omega) (Int.le_refl _) (by omega) (by omega) (by rw [FUEL_eq]; omega)
    rw [F_C_apartBySteps_L22, if_pos (by omega), w1]
    by_cases c : e = ed l1 l2 l1.length l2.length
    · obtain ⟨h', a, b⟩ := I.2 c (by omega)
      rw [a]
      refine ⟨h', ?_, b⟩
      rw [← c]
      rfl
    · obtain ⟨x, h', a, b, w⟩ := I.1 (by omega)
      rw [a]
      obtain ⟨h'', q1, q2⟩ := ih (e + 1) h' (R1.fr w (by decide) (by decide)) (R2.fr w (by decide) (by decide)) (by rw [w 52 (by decide)]; exact hs) (Or.inr (by
        rw [Nat.add_sub_cancel]
        exact fun d' a1 a2 a3 => b d' (by omega) (by omega) a3)) (by omega) (by omega)
      refine ⟨h'', ?_, w.tr q2⟩
      show F_C_apartBySteps_L22 4 6 ((l1.length : Int) + (l2.length : Int)) n (wr ((e : Int) + 1)) h' = _
      rw [w2]
      exact q1
theorem C_bySteps (h1 : l1.length ≤ 14) (h2 : l2.length ≤ 14) {h : MH} (R1 : RW h 4 l1) (R2 : RW h 6 l2) : ∃ h', F_C_apartBySteps 4 6 h = some (((ed l1 l2 l1.length l2.length : Nat) : Int), h') ∧ FR [52, 53] h h' := by
  obtain ⟨ha, f1, r1, w1⟩ := Ro_becomeZeros (h := h) (o := 52) (m := 59) rfl (by decide)
  rw [show ((59 : Nat) : Int) = 59 from rfl] at f1
  have D2 := ed_2 l1 l2 l1.length l2.length
  obtain ⟨hb, f2, w2⟩ := outer_loop h1 h2 FUEL 0 ha (R1.fr w1 (by decide) (by decide)) (R2.fr w1 (by decide) (by decide)) (by rw [r1.2.1]; rfl) (Or.inl rfl) (Nat.zero_le _) (by rw [FUEL_eq]; omega)
  rw [show ((0 : Nat) : Int) = 0 from rfl] at f2
  have e1 : wr ((l1.length : Int) + (l2.length : Int)) = (l1.length : Int) + (l2.length : Int) := wr_id (by omega)
  refine ⟨hb, ?_, w1.tr (w2.mono (by decide))⟩
  unfold F_C_apartBySteps
  rw [f1, ob1_s, R1.size, R2.size, e1, f2]
  rfl
end STEPS

/-! ===== which lines are kept: k(i, j), in the system and in the reference ===== -/
def kp (l1 l2 : List Int) (i j : Nat) : Int :=
  if h : i < l1.length ∧ j < l2.length then
    if l1.getD i (-1) = l2.getD j (-1) then kp l1 l2 (i + 1) (j + 1) + 1
    else imax (kp l1 l2 (i + 1) j) (kp l1 l2 i (j + 1))
  else 0
termination_by (l1.length - i) + (l2.length - j)
decreasing_by all_goals omega
theorem kp_out {l1 l2 : List Int} {i j : Nat} (h : ¬ (i < l1.length ∧ j < l2.length)) : kp l1 l2 i j = 0 := by
  rw [kp, dif_neg h]
theorem kp_eq {l1 l2 : List Int} {i j : Nat} (h : i < l1.length ∧ j < l2.length) (he : l1.getD i (-1) = l2.getD j (-1)) : kp l1 l2 i j = kp l1 l2 (i + 1) (j + 1) + 1 := by
  rw [kp, dif_pos h, if_pos he]
theorem kp_ne {l1 l2 : List Int} {i j : Nat} (h : i < l1.length ∧ j < l2.length) (he : ¬ l1.getD i (-1) = l2.getD j (-1)) : kp l1 l2 i j = imax (kp l1 l2 (i + 1) j) (kp l1 l2 i (j + 1)) := by
  rw [kp, dif_pos h, if_neg he]
theorem imax_le1 (x y : Int) : x ≤ imax x y := by unfold imax; split <;> omega
theorem imax_le2 (x y : Int) : y ≤ imax x y := by unfold imax; split <;> omega
theorem imax_lt {x y z : Int} (h1 : x ≤ z) (h2 : y ≤ z) : imax x y ≤ z := by unfold imax; split <;> omega
theorem kp_mono (l1 l2 : List Int) : ∀ (f i j : Nat), (l1.length - i) + (l2.length - j) ≤ f → kp l1 l2 i j ≤ kp l1 l2 i (j + 1) + 1 ∧ kp l1 l2 i j ≤ kp l1 l2 (i + 1) j + 1 ∧ kp l1 l2 i (j + 1) ≤ kp l1 l2 i j ∧ kp l1 l2 (i + 1) j ≤ kp l1 l2 i j := by
  intro f
  induction f with
  | zero =>
    intro i j hf
    rw [kp_out (i := i) (j := j) (by omega), kp_out (i := i) (j := j + 1) (by omega), kp_out (i := i + 1) (j := j) (by omega)]
    omega
  | succ f ih =>
    intro i j hf
    by_cases h : i < l1.length ∧ j < l2.length
    · have A := ih (i + 1) j (by omega)
      have B := ih i (j + 1) (by omega)
      by_cases he : l1.getD i (-1) = l2.getD j (-1)
      · rw [kp_eq h he]
        omega
      · rw [kp_ne h he]
        have m1 := imax_le1 (kp l1 l2 (i + 1) j) (kp l1 l2 i (j + 1))
        have m2 := imax_le2 (kp l1 l2 (i + 1) j) (kp l1 l2 i (j + 1))
        refine ⟨imax_lt ?_ ?_, imax_lt ?_ ?_, m2, m1⟩ <;> omega
    · rw [kp_out h, kp_out (i := i) (j := j + 1) (by omega), kp_out (i := i + 1) (j := j) (by omega)]
      omega
theorem kp_m (l1 l2 : List Int) (i j : Nat) : kp l1 l2 i j ≤ kp l1 l2 i (j + 1) + 1 ∧ kp l1 l2 i j ≤ kp l1 l2 (i + 1) j + 1 ∧ kp l1 l2 i (j + 1) ≤ kp l1 l2 i j ∧ kp l1 l2 (i + 1) j ≤ kp l1 l2 i j := kp_mono l1 l2 _ i j (Nat.le_refl _)
theorem kp_bd (l1 l2 : List Int) : ∀ (f i j : Nat), (l1.length - i) + (l2.length - j) ≤ f → 0 ≤ kp l1 l2 i j ∧ kp l1 l2 i j ≤ ((l1.length - i : Nat) : Int) ∧ kp l1 l2 i j ≤ ((l2.length - j : Nat) : Int) := by
  intro f
  induction f with
  | zero =>
    intro i j hf
    rw [kp_out (by omega)]
    omega
  | succ f ih =>
    intro i j hf
    by_cases h : i < l1.length ∧ j < l2.length
    · by_cases he : l1.getD i (-1) = l2.getD j (-1)
      · rw [kp_eq h he]
        have A := ih (i + 1) (j + 1) (by omega)
        omega
      · rw [kp_ne h he]
        have A := ih (i + 1) j (by omega)
        have B := ih i (j + 1) (by omega)
        have m1 := imax_le1 (kp l1 l2 (i + 1) j) (kp l1 l2 i (j + 1))
        refine ⟨by omega, imax_lt ?_ ?_, imax_lt ?_ ?_⟩ <;> omega
    · rw [kp_out h]
      omega
theorem kp_b (l1 l2 : List Int) (i j : Nat) : 0 ≤ kp l1 l2 i j ∧ kp l1 l2 i j ≤ ((l1.length - i : Nat) : Int) ∧ kp l1 l2 i j ≤ ((l2.length - j : Nat) : Int) := kp_bd l1 l2 _ i j (Nat.le_refl _)
/-- the system's table of k(i, j) -/
def KM (h : MH) (P : Nat → Nat → Int) : Prop := h 50 1 = 225 ∧ ∀ i j, i ≤ 14 → j ≤ 14 → h 51 (15 * i + j) = P i j
theorem C_keptFrom {h : MH} {P : Nat → Nat → Int} (H : KM h P) {i j : Nat} (hi : i ≤ 14) (hj : j ≤ 14) : F_C_keptFrom (i : Int) (j : Int) h = P i j := by
  unfold F_C_keptFrom
  simp (disch := omega) only [wr_id]
  rw [at_raw rfl (by omega) (by rw [H.1]; omega) (by show _ < ((225 : Nat) : Int); omega)]
  rw [← H.2 i j hi hj]
  congr 1
  omega
def PI (l1 l2 : List Int) (i J : Nat) : Nat → Nat → Int := fun i' j' => if i < i' ∨ (i' = i ∧ J ≤ j') then kp l1 l2 i' j' else 0
theorem compare_in {o p : Nat} {l1 l2 : List Int} (o1 : o ≠ 50) (p1 : p ≠ 50) (hl1 : l1.length ≤ 14) (hl2 : l2.length ≤ 14) {i : Nat} (hi : i < l1.length) : ∀ (n J : Nat) (h : MH), RW h o l1 → RW h p l2 → KM h (PI l1 l2 i J) → J ≤ l2.length → J < n →
    ∃ h', F_C_compare_L29 o p (i : Int) n ((J : Int) - 1) h = some (-1, h') ∧ KM h' (PI l1 l2 i 0) ∧ FR [50, 51] h h' := by
  intro n
  induction n with
  | zero => intro J h _ _ _ _ h2; omega
  | succ n ih =>
    intro J h Ho Hp HK hJ hn
    unfold F_C_compare_L29
    by_cases h0 : J = 0
    · subst h0
      rw [if_pos (by omega)]
      exact ⟨h, rfl, HK, FR.rf _ _⟩
    · obtain ⟨j, rfl⟩ : ∃ j, J = j + 1 := ⟨J - 1, by omega⟩
      rw [if_neg (by omega)]
      dsimp only [jn1]
      have e1 : (((j + 1 : Nat) : Int)) - 1 = (j : Int) := by omega
      rw [e1, Ho.at, Hp.at]
      simp (disch := omega) only [wr_id]
      have b1 := kp_b l1 l2 (i + 1) (j + 1)
      have a1 : F_C_keptFrom ((i : Int) + 1) ((j : Int) + 1) h = kp l1 l2 (i + 1) (j + 1) := by
        have := C_keptFrom HK (i := i + 1) (j := j + 1) (by omega) (by omega)
        rw [show ((i : Int) + 1) = ((i + 1 : Nat) : Int) by omega, show ((j : Int) + 1) = ((j + 1 : Nat) : Int) by omega, this]
        exact if_pos (Or.inl (by omega))
      have a2 : F_C_keptFrom ((i : Int) + 1) (j : Int) h = kp l1 l2 (i + 1) j := by
        have := C_keptFrom HK (i := i + 1) (j := j) (by omega) (by omega)
        rw [show ((i : Int) + 1) = ((i + 1 : Nat) : Int) by omega, this]
        exact if_pos (Or.inl (by omega))
      have a3 : F_C_keptFrom (i : Int) ((j : Int) + 1) h = kp l1 l2 i (j + 1) := by
        have := C_keptFrom HK (i := i) (j := j + 1) (by omega) (by omega)
        rw [show ((j : Int) + 1) = ((j + 1 : Nat) : Int) by omega, this]
        exact if_pos (Or.inr ⟨rfl, by omega⟩)
      rw [a1, a2, a3, wr_id (by omega)]
      have hv : (if lg l1 (i : Int) = lg l2 (j : Int) then kp l1 l2 (i + 1) (j + 1) + 1 else imax (kp l1 l2 (i + 1) j) (kp l1 l2 i (j + 1))) = kp l1 l2 i j := by
        rw [lg_in (by omega), lg_in (by omega), nn, nn]
        by_cases he : l1.getD i (-1) = l2.getD j (-1)
        · rw [if_pos he, kp_eq ⟨hi, by omega⟩ he]
        · rw [if_neg he, kp_ne ⟨hi, by omega⟩ he]
      rw [hv, change_raw rfl (by omega) (by rw [HK.1]; omega) (by show _ < ((225 : Nat) : Int); omega)]
      have e2 : ((i : Int) * 15 + (j : Int)).toNat = 15 * i + j := by omega
      have e3 : (j : Int) + -1 = (j : Int) - 1 := rfl
      rw [e2, e3]
      have F1 : FR [50, 51] h (up h 51 (15 * i + j) (kp l1 l2 i j)) := FR.up (by simp)
      have no := row_apart (o := 50) rfl Ho.1 o1
      have np := row_apart (o := 50) rfl Hp.1 p1
      obtain ⟨h', g1, g2, g3⟩ := ih j _ (Ho.fr F1 no.1 no.2) (Hp.fr F1 np.1 np.2) ⟨by rw [up_other (by omega)]; exact HK.1, fun i' j' hi' hj' => by
        rw [up_if, HK.2 i' j' hi' hj']
        unfold PI
        by_cases hc : 15 * i' + j' = 15 * i + j
        · have h1 : i' = i := by omega
          have h2 : j' = j := by omega
          subst h1; subst h2
          rw [if_pos rfl, if_pos (Or.inr ⟨rfl, Nat.le_refl _⟩)]
        · rw [if_neg hc]
          by_cases hd : i < i' ∨ (i' = i ∧ j + 1 ≤ j')
          · rw [if_pos hd, if_pos (by omega)]
          · rw [if_neg hd, if_neg (by omega)]⟩ (by omega) (by omega)
      exact ⟨h', g1, g2, F1.tr g3⟩
def PO (l1 l2 : List Int) (I : Nat) : Nat → Nat → Int := fun i' j' => if I ≤ i' then kp l1 l2 i' j' else 0
theorem KM.cong {h : MH} {P P' : Nat → Nat → Int} (H : KM h P) (hp : ∀ i j, P i j = P' i j) : KM h P' := ⟨H.1, fun i j hi hj => by rw [H.2 i j hi hj, hp]⟩
theorem compare_out {o p : Nat} {l1 l2 : List Int} (o1 : o ≠ 50) (p1 : p ≠ 50) (hl1 : l1.length ≤ 14) (hl2 : l2.length ≤ 14) : ∀ (n I : Nat) (h : MH), RW h o l1 → RW h p l2 → KM h (PO l1 l2 I) → I ≤ l1.length → I < n →
    ∃ h', F_C_compare_L17 o p n ((I : Int) - 1) h = some (-1, h') ∧ KM h' (kp l1 l2) ∧ FR [50, 51] h h' := by
  intro n
  induction n with
  | zero => intro I h _ _ _ _ h2; omega
  | succ n ih =>
    intro I h Ho Hp HK hI hn
    unfold F_C_compare_L17
    by_cases h0 : I = 0
    · subst h0
      rw [if_pos (by omega)]
      exact ⟨h, rfl, HK.cong (fun i j => if_pos (Nat.zero_le _)), FR.rf _ _⟩
    · obtain ⟨i, rfl⟩ : ∃ i, I = i + 1 := ⟨I - 1, by omega⟩
      rw [if_neg (by omega)]
      have e1 : (((i + 1 : Nat) : Int)) - 1 = (i : Int) := by omega
      rw [e1, Hp.size]
      simp (disch := omega) only [wr_id]
      obtain ⟨h1, f1, K1, F1⟩ := compare_in o1 p1 hl1 hl2 (i := i) (by omega) FUEL l2.length h Ho Hp (HK.cong (fun i' j' => by
        unfold PO PI
        by_cases hc : i + 1 ≤ i'
        · rw [if_pos hc, if_pos (by omega)]
        · rw [if_neg hc]
          by_cases hd : i < i' ∨ (i' = i ∧ l2.length ≤ j')
          · rw [if_pos hd, kp_out (by omega)]
          · rw [if_neg hd])) (Nat.le_refl _) (by rw [FUEL_eq]; omega)
      rw [f1, ob2_s]
      have no := row_apart (o := 50) rfl Ho.1 o1
      have np := row_apart (o := 50) rfl Hp.1 p1
      have e3 : (i : Int) + -1 = (i : Int) - 1 := rfl
      rw [e3]
      obtain ⟨h', g1, g2, g3⟩ := ih i h1 (Ho.fr F1 no.1 no.2) (Hp.fr F1 np.1 np.2) (K1.cong (fun i' j' => by
        unfold PO PI
        by_cases hc : i ≤ i'
        · rw [if_pos hc, if_pos (by omega)]
        · rw [if_neg hc, if_neg (by omega)])) (by omega) (by omega)
      exact ⟨h', g1, g2, F1.tr g3⟩
theorem C_compare {h : MH} {o p : Nat} {l1 l2 : List Int} (Ho : RW h o l1) (Hp : RW h p l2) (o1 : o ≠ 50) (p1 : p ≠ 50) (hl1 : l1.length ≤ 14) (hl2 : l2.length ≤ 14) :
    ∃ h', F_C_compare o p h = some h' ∧ KM h' (kp l1 l2) ∧ FR [50, 51] h h' := by
  have no := row_apart (o := 50) rfl Ho.1 o1
  have np := row_apart (o := 50) rfl Hp.1 p1
  unfold F_C_compare
  obtain ⟨h1, f1, R1, F1⟩ := Ro_becomeZeros (h := h) (o := 50) (m := 225) rfl (Nat.le_refl _)
  rw [show ((225 : Nat) : Int) = 225 from rfl] at f1
  rw [f1, ob1_s]
  have Ho1 := Ho.fr F1 no.1 no.2
  have Hp1 := Hp.fr F1 np.1 np.2
  rw [Ho1.size]
  simp (disch := omega) only [wr_id]
  obtain ⟨h', g1, g2, g3⟩ := compare_out o1 p1 hl1 hl2 FUEL l1.length h1 Ho1 Hp1 ⟨by rw [R1.2.1]; rfl, fun i j hi hj => by
    have := R1.2.2.2 (15 * i + j) (by rw [List.length_replicate]; omega)
    rw [this]
    unfold PO
    rw [List.getD_eq_getElem?_getD, List.getElem?_replicate, if_pos (by omega)]
    by_cases hc : l1.length ≤ i
    · rw [if_pos hc, kp_out (by omega)]; rfl
    · rw [if_neg hc]; rfl⟩ (Nat.le_refl _) (by rw [FUEL_eq]; omega)
  rw [g1]
  exact ⟨h', rfl, g2, F1.tr g3⟩
theorem C_keptOf {h : MH} {o p : Nat} {l1 l2 : List Int} (Ho : RW h o l1) (Hp : RW h p l2) (o1 : o ≠ 50) (p1 : p ≠ 50) (hl1 : l1.length ≤ 14) (hl2 : l2.length ≤ 14) :
    ∃ h', F_C_keptOf o p h = some (kp l1 l2 0 0, h') ∧ FR [50, 51] h h' := by
  obtain ⟨h', f, K1, F1⟩ := C_compare Ho Hp o1 p1 hl1 hl2
  unfold F_C_keptOf
  rw [f, ob1_s]
  have := C_keptFrom K1 (i := 0) (j := 0) (by omega) (by omega)
  rw [show ((0 : Nat) : Int) = 0 from rfl] at this
  rw [this]
  exact ⟨h', rfl, F1⟩
/-- the distance -/
def dst (l1 l2 : List Int) : Int := (l1.length : Int) + (l2.length : Int) - 2 * kp l1 l2 0 0
theorem C_apart {h : MH} {o p : Nat} {l1 l2 : List Int} (Ho : RW h o l1) (Hp : RW h p l2) (o1 : o ≠ 50) (p1 : p ≠ 50) (hl1 : l1.length ≤ 14) (hl2 : l2.length ≤ 14) :
    ∃ h', F_C_apart o p h = some (dst l1 l2, h') ∧ FR [50, 51] h h' := by
  obtain ⟨h', f, F1⟩ := C_keptOf Ho Hp o1 p1 hl1 hl2
  unfold F_C_apart
  rw [f, ob2_s, Ho.size, Hp.size]
  have b := kp_b l1 l2 0 0
  simp (disch := omega) only [wr_id]
  exact ⟨h', rfl, F1⟩

/-! the reference's -/
def OLD (h : MH) (g : SG) (l1 : List Int) : Prop := (h 76 8 = -4 ∧ l1 = g.1) ∨ ∃ w : Nat, w < g.1.length ∧ h 76 8 = (w : Int) ∧ l1 = del g.1 w
theorem OLD.len {h : MH} {g : SG} {l1 : List Int} (H : OLD h g l1) : l1.length ≤ g.1.length := by
  rcases H with ⟨-, rfl⟩ | ⟨w, h1, -, rfl⟩
  · exact Nat.le_refl _
  · rw [del_len h1]; omega
theorem OLD.fr {h h' : MH} {g : SG} {l1 : List Int} (H : OLD h g l1) (e : h' 76 = h 76) : OLD h' g l1 := by
  unfold OLD at H ⊢
  rw [e]
  exact H
/-- the reference's table, as far as it is laid: all rows above i, and of the row i the places from J on -/
def KQ (h : MH) (l1 l2 : List Int) (i J : Nat) : Prop := ∀ i' j', i' ≤ l1.length → j' ≤ l2.length → (i < i' ∨ (i' = i ∧ J ≤ j')) → h 81 (15 * i' + j') = kp l1 l2 i' j'

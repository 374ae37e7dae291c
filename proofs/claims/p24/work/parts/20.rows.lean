/-! ===== rows of numbers as lists ===== -/
theorem ob1_s {α β : Type} {x : α} {f : α → Option β} : ob1 (some x) f = f x := rfl
theorem ob2_s {α0 α1 β : Type} {x : α0} {y : α1} {f : α0 → α1 → Option β} : ob2 (some (x, y)) f = f x y := rfl
theorem ob3_s {α0 α1 α2 β : Type} {x : α0} {y : α1} {z : α2} {f : α0 → α1 → α2 → Option β} : ob3 (some (x, y, z)) f = f x y z := rfl
theorem gd_pos {α : Type} {c : Prop} [Decidable c] {x : Option α} (hc : c) : gd c x = x := if_pos hc
def lg (l : List Int) (i : Int) : Int := if i < 0 then -1 else l.getD i.toNat (-1)
def FR (S : List Nat) (h h' : MH) : Prop := ∀ i, i ∉ S → h' i = h i
theorem FR.rf (S : List Nat) (h : MH) : FR S h h := fun _ _ => rfl
theorem FR.tr {S : List Nat} {h1 h2 h3 : MH} (a : FR S h1 h2) (b : FR S h2 h3) : FR S h1 h3 := fun i hi => (b i hi).trans (a i hi)
theorem FR.mono {S S' : List Nat} {h h' : MH} (a : FR S h h') (hs : ∀ x ∈ S, x ∈ S') : FR S' h h' := fun i hi => a i (fun z => hi (hs i z))
theorem FR.up {S : List Nat} {h : MH} {i k : Nat} {v : Int} (hi : i ∈ S) : FR S h (up h i k v) := fun a ha => up_ne (fun e => ha (e ▸ hi))
theorem up_at (h : MH) (i k : Nat) (v : Int) : up h i k v i k = v := by simp [up]
theorem up_other {h : MH} {i k a b : Nat} {v : Int} (hab : ¬ (a = i ∧ b = k)) : up h i k v a b = h a b := by simp only [up, if_neg hab]
theorem rf_row {o : Nat} (ho : kd o = 5) : rf o 0 = o + 1 := by
  have h1 : ((List.range NC).all (fun i => !(kd i == 5) || (rf i 0 == i + 1))) = true := by decide +kernel
  have h2 := List.all_eq_true.mp h1 o (List.mem_range.mpr (kd_lt ho (by omega)))
  simp [ho] at h2
  exact h2
theorem kd_row1 {o : Nat} (ho : kd o = 5) : kd (o + 1) = 0 := by rw [← rf_row ho]; exact kt_5_0 ho
theorem al_row {o : Nat} (ho : kd o = 5) : al (o + 1) ≤ 225 := by
  have h1 : ((List.range NC).all (fun i => !(kd i == 5) || decide (al (i + 1) ≤ 225))) = true := by decide +kernel
  have h2 := List.all_eq_true.mp h1 o (List.mem_range.mpr (kd_lt ho (by omega)))
  simp [ho] at h2
  exact h2
/-- the row o holds the list l -/
def RW (h : MH) (o : Nat) (l : List Int) : Prop := kd o = 5 ∧ h o 1 = (l.length : Int) ∧ l.length ≤ al (o + 1) ∧ ∀ p : Nat, p < l.length → h (o + 1) p = l.getD p (-1)
theorem RW.le {h : MH} {o : Nat} {l : List Int} (H : RW h o l) : l.length ≤ 225 := Nat.le_trans H.2.2.1 (al_row H.1)
theorem RW.fr {h h' : MH} {o : Nat} {l : List Int} {S : List Nat} (H : RW h o l) (F : FR S h h') (h1 : o ∉ S) (h2 : o + 1 ∉ S) : RW h' o l := by
  obtain ⟨a, b, c, d⟩ := H
  exact ⟨a, by rw [F o h1]; exact b, c, fun p hp => by rw [F (o + 1) h2]; exact d p hp⟩
theorem RW.eqc {h h' : MH} {o : Nat} {l : List Int} (H : RW h o l) (h1 : h' o = h o) (h2 : h' (o + 1) = h (o + 1)) : RW h' o l := by
  obtain ⟨a, b, c, d⟩ := H
  exact ⟨a, by rw [h1]; exact b, c, fun p hp => by rw [h2]; exact d p hp⟩
theorem row_apart {o p : Nat} (ho : kd o = 5) (hp : kd p = 5) (hne : p ≠ o) : p ∉ [o, o + 1] ∧ p + 1 ∉ [o, o + 1] := by
  have h1 := kd_row1 ho
  have h2 := kd_row1 hp
  constructor
  · intro hm
    simp only [List.mem_cons, List.not_mem_nil, or_false] at hm
    rcases hm with rfl | rfl
    · exact hne rfl
    · omega
  · intro hm
    simp only [List.mem_cons, List.not_mem_nil, or_false] at hm
    rcases hm with e | e
    · rw [← e] at ho; omega
    · omega
theorem RW.off {h h' : MH} {o p : Nat} {l : List Int} (H : RW h p l) (F : FR [o, o + 1] h h') (ho : kd o = 5) (hne : p ≠ o) : RW h' p l :=
  H.fr F (row_apart ho H.1 hne).1 (row_apart ho H.1 hne).2
theorem RW.size {h : MH} {o : Nat} {l : List Int} (H : RW h o l) : F_Ro_size o h = (l.length : Int) := H.2.1
theorem lg_in {l : List Int} {i : Int} (h0 : 0 ≤ i) : lg l i = l.getD i.toNat (-1) := by unfold lg; rw [if_neg (by omega)]
theorem lg_out {l : List Int} {i : Int} (h : (l.length : Int) ≤ i) : lg l i = -1 := by
  unfold lg
  split
  · rfl
  · rw [List.getD_eq_getElem?_getD, List.getElem?_eq_none (by omega)]; rfl
theorem lg_neg {l : List Int} {i : Int} (h : i < 0) : lg l i = -1 := by unfold lg; rw [if_pos h]
theorem RW.at {h : MH} {o : Nat} {l : List Int} (H : RW h o l) (i : Int) : F_Ro_at o i h = lg l i := by
  obtain ⟨a, b, c, d⟩ := H
  unfold F_Ro_at
  rw [rf_row a, b]
  by_cases h0 : i < 0
  · rw [if_pos h0, lg_neg h0]
  · rw [if_neg h0]
    by_cases h1 : i < (l.length : Int)
    · rw [if_pos h1, if_pos (by omega), lg_in (by omega)]
      exact d _ (by omega)
    · rw [if_neg h1, lg_out (by omega)]
theorem RW.rd {h : MH} {o : Nat} {l : List Int} (H : RW h o l) {i : Int} (h0 : 0 ≤ i) (h1 : i < (l.length : Int)) : h (o + 1) i.toNat = lg l i := by
  rw [lg_in h0]
  exact H.2.2.2 _ (by omega)
theorem Ro_emptyOut {h : MH} {o : Nat} (ho : kd o = 5) : RW (F_Ro_emptyOut o h) o [] ∧ FR [o, o + 1] h (F_Ro_emptyOut o h) := by
  unfold F_Ro_emptyOut
  refine ⟨⟨ho, by rw [up_at]; rfl, Nat.zero_le _, fun p hp => absurd hp (Nat.not_lt_zero p)⟩, FR.up (by simp)⟩
theorem Ro_add {h : MH} {o : Nat} {l : List Int} (H : RW h o l) (v : Int) (hc : l.length < al (o + 1)) : RW (F_Ro_add o v h) o (l ++ [v]) ∧ FR [o, o + 1] h (F_Ro_add o v h) := by
  have hle := H.le
  obtain ⟨a, b, c, d⟩ := H
  unfold F_Ro_add
  rw [rf_row a, if_neg (by omega), if_pos (by omega), b]
  have hne : ¬ (o = o + 1 ∧ 1 = ((l.length : Int)).toNat) := by omega
  rw [up_other hne, b]
  rw [wr_id (by omega)]
  refine ⟨⟨a, ?_, ?_, ?_⟩, (FR.up (by simp)).tr (FR.up (by simp))⟩
  · rw [up_at]; simp
  · simp; omega
  · intro p hp
    rw [up_other (by omega)]
    simp at hp
    by_cases hpl : p = l.length
    · subst hpl
      rw [show ((l.length : Int)).toNat = l.length from rfl, up_at]
      simp
    · rw [up_other (by omega), d p (by omega)]
      rw [List.getD_eq_getElem?_getD, List.getD_eq_getElem?_getD, List.getElem?_append_left (by omega)]
theorem lset_len (l : List Int) (i : Nat) (v : Int) : (l.set i v).length = l.length := List.length_set
theorem Ro_change {h : MH} {o : Nat} {l : List Int} (H : RW h o l) (i v : Int) (h0 : 0 ≤ i) (h1 : i < (l.length : Int)) : RW (F_Ro_change o i v h) o (l.set i.toNat v) ∧ FR [o, o + 1] h (F_Ro_change o i v h) := by
  have hle := H.le
  obtain ⟨a, b, c, d⟩ := H
  unfold F_Ro_change
  rw [rf_row a, if_neg (by omega), b, if_pos h1, if_pos (by omega)]
  refine ⟨⟨a, ?_, ?_, ?_⟩, FR.up (by simp)⟩
  · rw [up_other (by omega), b, lset_len]
  · rw [lset_len]; exact c
  · intro p hp
    rw [lset_len] at hp
    rw [List.getD_eq_getElem?_getD, List.getElem?_set]
    by_cases hpi : p = i.toNat
    · subst hpi
      rw [up_at, if_pos rfl, if_pos hp]; rfl
    · rw [up_other (by omega), if_neg (fun e => hpi e.symm), ← List.getD_eq_getElem?_getD]
      exact d p hp
theorem Ro_change_no {h : MH} {o : Nat} {l : List Int} (H : RW h o l) (i v : Int) (h1 : i < 0 ∨ (l.length : Int) ≤ i) : F_Ro_change o i v h = h := by
  unfold F_Ro_change
  by_cases h0 : i < 0
  · rw [if_pos h0]
  · rw [if_neg h0, H.2.1, if_neg (by omega)]
/-- become: a row takes another's list -/
theorem become_loop {o p : Nat} {lp : List Int} (hne : p ≠ o) (hcap : lp.length ≤ al (o + 1)) : ∀ (n : Nat) (i : Nat) (h : MH), RW h o (lp.take i) → RW h p lp → i ≤ lp.length → lp.length < i + n →
    ∃ h', F_Ro_become_L6 o p n (i : Int) h = some ((lp.length : Int), h') ∧ RW h' o lp ∧ FR [o, o + 1] h h' := by
  intro n
  induction n with
  | zero => intro i h _ _ h1 h2; omega
  | succ n ih =>
    intro i h Ho Hp h1 h2
    have hle := Hp.le
    unfold F_Ro_become_L6
    rw [Hp.size]
    by_cases hi : i < lp.length
    · rw [if_pos (by omega), Hp.at]
      obtain ⟨A, B⟩ := Ro_add Ho (lg lp (i : Int)) (by simp; omega)
      have hl : lp.take i ++ [lg lp (i : Int)] = lp.take (i + 1) := by
        rw [lg_in (by omega), show ((i : Int)).toNat = i from rfl, List.take_succ, List.getD_eq_getElem?_getD, List.getElem?_eq_getElem hi]
        rfl
      rw [hl] at A
      rw [wr_id (by omega)]
      obtain ⟨h', e, C, D⟩ := ih (i + 1) _ A (Hp.off B Ho.1 hne) (by omega) (by omega)
      exact ⟨h', e, C, B.tr D⟩
    · rw [if_neg (by omega)]
      have : i = lp.length := by omega
      subst this
      refine ⟨h, rfl, ?_, FR.rf _ _⟩
      rw [List.take_length] at Ho
      exact Ho
theorem FUEL_eq : FUEL = 1000 := rfl
theorem Ro_become {h : MH} {o p : Nat} {lp : List Int} (ho : kd o = 5) (Hp : RW h p lp) (hne : p ≠ o) (hcap : lp.length ≤ al (o + 1)) :
    ∃ h', F_Ro_become o p h = some h' ∧ RW h' o lp ∧ FR [o, o + 1] h h' := by
  obtain ⟨A, B⟩ := Ro_emptyOut (h := h) ho
  have hle := Hp.le
  obtain ⟨h', e, C, D⟩ := become_loop hne hcap FUEL 0 _ (by simpa using A) (Hp.off B ho hne) (Nat.zero_le _) (by rw [FUEL_eq]; omega)
  refine ⟨h', ?_, C, B.tr D⟩
  unfold F_Ro_become
  rw [show ((0 : Nat) : Int) = 0 from rfl] at e
  rw [e]
  rfl
theorem zeros_loop {o : Nat} {m : Nat} (hcap : m ≤ al (o + 1)) : ∀ (n : Nat) (i : Nat) (h : MH), RW h o (List.replicate i 0) → i ≤ m → m < i + n →
    ∃ h', F_Ro_becomeZeros_L6 o (m : Int) n (i : Int) h = some ((m : Int), h') ∧ RW h' o (List.replicate m 0) ∧ FR [o, o + 1] h h' := by
  intro n
  induction n with
  | zero => intro i h _ h1 h2; omega
  | succ n ih =>
    intro i h Ho h1 h2
    have := al_row Ho.1
    unfold F_Ro_becomeZeros_L6
    by_cases hi : i < m
    · rw [if_pos (by omega)]
      obtain ⟨A, B⟩ := Ro_add Ho 0 (by simp; omega)
      have hl : List.replicate i (0 : Int) ++ [0] = List.replicate (i + 1) 0 := by rw [List.replicate_succ']
      rw [hl] at A
      rw [wr_id (by omega)]
      obtain ⟨h', e, C, D⟩ := ih (i + 1) _ A (by omega) (by omega)
      exact ⟨h', e, C, B.tr D⟩
    · rw [if_neg (by omega)]
      have : i = m := by omega
      subst this
      exact ⟨h, rfl, Ho, FR.rf _ _⟩
theorem Ro_becomeZeros {h : MH} {o : Nat} {m : Nat} (ho : kd o = 5) (hcap : m ≤ al (o + 1)) :
    ∃ h', F_Ro_becomeZeros o (m : Int) h = some h' ∧ RW h' o (List.replicate m 0) ∧ FR [o, o + 1] h h' := by
  obtain ⟨A, B⟩ := Ro_emptyOut (h := h) ho
  have := al_row ho
  obtain ⟨h', e, C, D⟩ := zeros_loop hcap FUEL 0 _ (by simpa using A) (Nat.zero_le _) (by rw [FUEL_eq]; omega)
  refine ⟨h', ?_, C, B.tr D⟩
  unfold F_Ro_becomeZeros
  rw [show ((0 : Nat) : Int) = 0 from rfl] at e
  rw [e]
  rfl

def ins (l : List Int) (i : Nat) (v : Int) : List Int := l.take i ++ v :: l.drop i
def del (l : List Int) (i : Nat) : List Int := l.take i ++ l.drop (i + 1)
theorem ins_len {l : List Int} {i : Nat} {v : Int} (hi : i ≤ l.length) : (ins l i v).length = l.length + 1 := by
  unfold ins
  simp
  omega
theorem del_len {l : List Int} {i : Nat} (hi : i < l.length) : (del l i).length = l.length - 1 := by
  unfold del
  simp
  omega
theorem ins_get {l : List Int} {i : Nat} {v d : Int} (hi : i ≤ l.length) (p : Nat) : (ins l i v).getD p d = if p < i then l.getD p d else if p = i then v else l.getD (p - 1) d := by
  unfold ins
  rw [List.getD_eq_getElem?_getD, List.getElem?_append]
  have hl : (l.take i).length = i := by simp; omega
  rw [hl]
  by_cases h1 : p < i
  · rw [if_pos h1, if_pos h1, List.getElem?_take, if_pos h1, List.getD_eq_getElem?_getD]
  · rw [if_neg h1, if_neg h1]
    by_cases h2 : p = i
    · subst h2
      simp
    · rw [if_neg h2]
      have h3 : p - i = (p - i - 1) + 1 := by omega
      rw [h3, List.getElem?_cons_succ, List.getElem?_drop, List.getD_eq_getElem?_getD]
      congr 2
      omega
theorem del_get {l : List Int} {i : Nat} {d : Int} (hi : i < l.length) (p : Nat) : (del l i).getD p d = if p < i then l.getD p d else l.getD (p + 1) d := by
  unfold del
  rw [List.getD_eq_getElem?_getD, List.getElem?_append]
  have hl : (l.take i).length = i := by simp; omega
  rw [hl]
  by_cases h1 : p < i
  · rw [if_pos h1, if_pos h1, List.getElem?_take, if_pos h1, List.getD_eq_getElem?_getD]
  · rw [if_neg h1, if_neg h1, List.getElem?_drop, List.getD_eq_getElem?_getD]
    congr 2
    omega
theorem at_raw {h : MH} {o : Nat} {i : Int} (ho : kd o = 5) (h0 : 0 ≤ i) (h1 : i < h o 1) (h2 : i < (al (o + 1) : Int)) : F_Ro_at o i h = h (o + 1) i.toNat := by
  unfold F_Ro_at
  rw [rf_row ho, if_neg (by omega), if_pos h1, if_pos h2]
theorem change_raw {h : MH} {o : Nat} {i v : Int} (ho : kd o = 5) (h0 : 0 ≤ i) (h1 : i < h o 1) (h2 : i < (al (o + 1) : Int)) : F_Ro_change o i v h = up h (o + 1) i.toNat v := by
  unfold F_Ro_change
  rw [rf_row ho, if_neg (by omega), if_pos h1, if_pos h2]
theorem putIn_loop {o : Nat} {m idx : Nat} {v : Int} {f : Nat → Int} (ho : kd o = 5) (hcap : m + 1 ≤ al (o + 1)) (hm : idx ≤ m) : ∀ (n : Nat) (i : Nat) (h : MH), h o 1 = (m : Int) + 1 → idx ≤ i → i ≤ m → (∀ p, p < i → h (o + 1) p = f p) → (∀ p, i < p → p ≤ m → h (o + 1) p = f (p - 1)) → i < idx + n →
    ∃ h', F_Ro_putIn_L42 o (idx : Int) v n (i : Int) h = some ((idx : Int), h') ∧ h' o 1 = (m : Int) + 1 ∧ (∀ p, p < idx → h' (o + 1) p = f p) ∧ (∀ p, idx < p → p ≤ m → h' (o + 1) p = f (p - 1)) ∧ FR [o, o + 1] h h' := by
  intro n
  induction n with
  | zero => intro i h _ h1 _ _ _ h2; omega
  | succ n ih =>
    intro i h hs h1 h2 ha hb hn
    have hal := al_row ho
    unfold F_Ro_putIn_L42
    by_cases hi : i = idx
    · subst hi
      rw [if_pos (by omega)]
      exact ⟨h, rfl, hs, ha, hb, FR.rf _ _⟩
    · rw [if_neg (by omega)]
      simp (disch := omega) only [wr_id]
      rw [at_raw ho (by omega) (by omega) (by omega), change_raw ho (by omega) (by omega) (by omega)]
      have e1 : ((i : Int) + -1) = ((i - 1 : Nat) : Int) := by omega
      have e2 : ((i : Int) - 1).toNat = i - 1 := by omega
      have e3 : ((i : Int)).toNat = i := rfl
      rw [e1, e2, e3]
      obtain ⟨h', g1, g2, g3, g4, g5⟩ := ih (i - 1) (up h (o + 1) i (h (o + 1) (i - 1))) (by rw [up_other (by omega)]; exact hs) (by omega) (by omega) (fun p hp => by rw [up_other (by omega)]; exact ha p (by omega)) (fun p hp1 hp2 => by
        by_cases hpi : p = i
        · subst hpi
          rw [up_at]
          exact ha _ (by omega)
        · rw [up_other (by omega)]
          exact hb p (by omega) hp2) (by omega)
      exact ⟨h', g1, g2, g3, g4, (FR.up (by simp)).tr g5⟩
theorem Ro_putIn {h : MH} {o : Nat} {l : List Int} (H : RW h o l) {i v : Int} (h0 : 0 ≤ i) (h1 : i ≤ (l.length : Int)) (hc : l.length < al (o + 1)) : ∃ h', F_Ro_putIn o i v h = some h' ∧ RW h' o (ins l i.toNat v) ∧ FR [o, o + 1] h h' := by
  obtain ⟨a, b, c, d⟩ := H
  have hal := al_row a
  obtain ⟨idx, rfl⟩ : ∃ idx : Nat, i = (idx : Int) := ⟨i.toNat, by omega⟩
  unfold F_Ro_putIn
  rw [if_neg (by omega), b, if_pos h1, rf_row a, if_pos (by omega), up_at]
  simp (disch := omega) only [wr_id]
  have e1 : (l.length : Int) + 1 - 1 = ((l.length : Nat) : Int) := by omega
  rw [e1]
  obtain ⟨h', g1, g2, g3, g4, g5⟩ := putIn_loop (v := v) (f := fun p => l.getD p (-1)) a (m := l.length) (idx := idx) (by omega) (by omega) FUEL l.length (up h o 1 ((l.length : Int) + 1)) (by rw [up_at]) (by omega) (Nat.le_refl _) (fun p hp => by rw [up_other (by omega)]; exact d p hp) (fun p hp1 hp2 => by omega) (by rw [FUEL_eq]; omega)
  rw [g1]
  refine ⟨_, rfl, ?_⟩
  rw [change_raw a (by omega) (by omega) (by omega)]
  have e3 : ((idx : Int)).toNat = idx := rfl
  rw [e3]
  refine ⟨⟨a, ?_, ?_, ?_⟩, ((FR.up (by simp)).tr g5).tr (FR.up (by simp))⟩
  · rw [up_other (by omega), g2, ins_len (by omega)]; omega
  · rw [ins_len (by omega)]; omega
  · intro p hp
    rw [ins_len (by omega)] at hp
    rw [ins_get (by omega)]
    by_cases h3 : p < idx
    · rw [if_pos h3, up_other (by omega)]; exact g3 p h3
    · rw [if_neg h3]
      by_cases h4 : p = idx
      · subst h4; rw [if_pos rfl, up_at]
      · rw [if_neg h4, up_other (by omega)]; exact g4 p (by omega) (by omega)
theorem putOut_loop {o : Nat} {m idx : Nat} {f : Nat → Int} (ho : kd o = 5) (hcap : m ≤ al (o + 1)) (hm : idx < m) : ∀ (n : Nat) (i : Nat) (h : MH), h o 1 = (m : Int) → idx ≤ i → i + 1 ≤ m → (∀ p, p < idx → h (o + 1) p = f p) → (∀ p, idx ≤ p → p < i → h (o + 1) p = f (p + 1)) → (∀ p, i ≤ p → p < m → h (o + 1) p = f p) → m < i + 1 + n →
    ∃ h', F_Ro_putOut_L15 o n (i : Int) h = some ((m : Int) - 1, h') ∧ h' o 1 = (m : Int) ∧ (∀ p, p < idx → h' (o + 1) p = f p) ∧ (∀ p, idx ≤ p → p + 1 < m → h' (o + 1) p = f (p + 1)) ∧ FR [o, o + 1] h h' := by
  intro n
  induction n with
  | zero => intro i h _ h1 _ _ _ _ h2; omega
  | succ n ih =>
    intro i h hs h1 h2 ha hb hc hn
    have hal := al_row ho
    unfold F_Ro_putOut_L15
    rw [hs, wr_id (by omega)]
    by_cases hi : i + 1 = m
    · rw [if_neg (by omega)]
      refine ⟨h, ?_, hs, ha, fun p hp1 hp2 => hb p hp1 (by omega), FR.rf _ _⟩
      congr 2
      omega
    · rw [if_pos (by omega)]
      simp (disch := omega) only [wr_id]
      rw [at_raw ho (by omega) (by omega) (by omega), change_raw ho (by omega) (by omega) (by omega)]
      have e1 : ((i : Int) + 1) = ((i + 1 : Nat) : Int) := by omega
      have e2 : (((i + 1 : Nat) : Int)).toNat = i + 1 := rfl
      have e3 : ((i : Int)).toNat = i := rfl
      rw [e1, e2, e3]
      obtain ⟨h', g1, g2, g3, g4, g5⟩ := ih (i + 1) (up h (o + 1) i (h (o + 1) (i + 1))) (by rw [up_other (by omega)]; exact hs) (by omega) (by omega) (fun p hp => by rw [up_other (by omega)]; exact ha p (by omega)) (fun p hp1 hp2 => by
        by_cases hpi : p = i
        · subst hpi
          rw [up_at]
          exact hc _ (by omega) (by omega)
        · rw [up_other (by omega)]
          exact hb p (by omega) (by omega)) (fun p hp1 hp2 => by rw [up_other (by omega)]; exact hc p (by omega) hp2) (by omega)
      exact ⟨h', g1, g2, g3, g4, (FR.up (by simp)).tr g5⟩
theorem Ro_putOut {h : MH} {o : Nat} {l : List Int} (H : RW h o l) {i : Int} (h0 : 0 ≤ i) (h1 : i < (l.length : Int)) : ∃ h', F_Ro_putOut o i h = some h' ∧ RW h' o (del l i.toNat) ∧ FR [o, o + 1] h h' := by
  obtain ⟨a, b, c, d⟩ := H
  have hal := al_row a
  obtain ⟨idx, rfl⟩ : ∃ idx : Nat, i = (idx : Int) := ⟨i.toNat, by omega⟩
  unfold F_Ro_putOut
  rw [if_neg (by omega), b, if_pos h1]
  obtain ⟨h', g1, g2, g3, g4, g5⟩ := putOut_loop (f := fun p => l.getD p (-1)) a (m := l.length) (idx := idx) c (by omega) FUEL idx h b (Nat.le_refl _) (by omega) (fun p hp => d p (by omega)) (fun p hp1 hp2 => by omega) (fun p hp1 hp2 => d p hp2) (by rw [FUEL_eq]; omega)
  rw [g1]
  refine ⟨_, rfl, ?_⟩
  have e3 : ((idx : Int)).toNat = idx := rfl
  rw [e3]
  refine ⟨⟨a, ?_, ?_, ?_⟩, g5.tr (FR.up (by simp))⟩
  · rw [up_at, g2, wr_id (by omega), del_len (by omega)]; omega
  · rw [del_len (by omega)]; omega
  · intro p hp
    rw [del_len (by omega)] at hp
    rw [del_get (by omega), up_other (by omega)]
    by_cases h3 : p < idx
    · rw [if_pos h3]; exact g3 p h3
    · rw [if_neg h3]; exact g4 p (by omega) (by omega)

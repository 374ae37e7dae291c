/-! ===== the law's does ===== -/
theorem and_low (x : Int) : ∃ j : Nat, j < 2 ^ 31 ∧ andv x 2147483647 = (j : Int) := by
  obtain ⟨j, h1, h2⟩ := pk_andE (Int32.ofInt x) (m := Int32.ofInt 2147483647) 31 (by decide +kernel)
  refine ⟨j, h1, ?_⟩
  unfold andv
  rw [h2, nI_toInt h1]
theorem and_1 (x : Int) : andv x 1 = 0 ∨ andv x 1 = 1 := by
  obtain ⟨j, h1, h2⟩ := pk_andE (Int32.ofInt x) (m := Int32.ofInt 1) 1 (by decide +kernel)
  have e : andv x 1 = (j : Int) := by unfold andv; rw [h2, nI_toInt (by omega)]
  omega
theorem and_3 (x : Int) : 0 ≤ andv x 3 ∧ andv x 3 ≤ 3 := by
  obtain ⟨j, h1, h2⟩ := pk_andE (Int32.ofInt x) (m := Int32.ofInt 3) 2 (by decide +kernel)
  have e : andv x 3 = (j : Int) := by unfold andv; rw [h2, nI_toInt (by omega)]
  omega
theorem rem_n {a d : Nat} (ha : a < 2 ^ 31) (h0 : 0 < d) (hd : d < 2 ^ 31) : remv (a : Int) (d : Int) = ((a % d : Nat) : Int) := by
  have e : Int32.ofInt (a : Int) - Int32.ofInt (a : Int) / Int32.ofInt (d : Int) * Int32.ofInt (d : Int) = nI (a % d) := pk_rem ha h0 hd
  unfold remv
  rw [e, nI_toInt (Nat.lt_of_le_of_lt (Nat.mod_le a d) ha)]
theorem low_ok (x : Int) {d : Nat} (h0 : 0 < d) (hd : d ≤ 1000) : ∃ r : Nat, F_L_low x (d : Int) = some (r : Int) ∧ r < d := by
  obtain ⟨j, h1, h2⟩ := and_low x
  refine ⟨j % d, ?_, Nat.mod_lt _ h0⟩
  unfold F_L_low
  rw [gd_pos (by omega), h2, rem_n h1 h0 (by omega)]
theorem wr_to (z : Int) : (Int32.ofInt z).toInt = wr z := by rw [Int32.toInt_ofInt]; rfl
theorem wr_mix (a b c : Int) : wr (wr (a + b) - c) = wr (a + wr (b - c)) := by
  have e : Int32.ofInt (wr (a + b) - c) = Int32.ofInt (a + wr (b - c)) := by
    rw [Int32.ofInt_sub, oi_wr, Int32.ofInt_add a (wr (b - c)), oi_wr, ← Int32.ofInt_sub, ← Int32.ofInt_add, show a + b - c = a + (b - c) by omega]
  exact (wr_to _).symm.trans ((congrArg Int32.toInt e).trans (wr_to _))
def NR (g : SG) : Prop := inR g.2.2.2.2.2.1 ∧ inR g.2.2.2.2.2.2
def LAWI (h : MH) : Prop := ∃ g hist sv, INV h g hist sv ∧ NR g
section DOES
variable {h : MH} {g : SG} {hist : List SG} {sv : Option SG}
theorem q_cG (I : INV h g hist sv) {t : Nat} (ht : t ≤ 2) : AK (F_X_count (t : Int) h) ((getT g t).length : Int) g hist sv := by
  rcases t012 ht with rfl | rfl | rfl
  · exact q_c0 I
  · exact q_c1 I
  · exact q_c2 I
theorem q_lG (I : INV h g hist sv) {t : Nat} (ht : t ≤ 2) {p : Nat} (hp : p < (getT g t).length) : F_X_line (t : Int) (p : Int) h = (getT g t).getD p (-1) := by
  rcases t012 ht with rfl | rfl | rfl
  · have e := q_line0 I (p := (p : Int)) (Int.natCast_nonneg _)
    rw [if_pos (lt_int (show p < g.1.length from hp)), lgn] at e
    exact e
  · have e := q_line1 I (p := (p : Int)) (Int.natCast_nonneg _)
    rw [if_pos (lt_int (show p < g.2.1.length from hp)), lgn] at e
    exact e
  · have e := q_line2 I (p := (p : Int)) (Int.natCast_nonneg _)
    rw [if_pos (lt_int (show p < g.2.2.1.length from hp)), lgn] at e
    exact e
theorem yes_d {g' : SG} {hist' : List SG} {sv' : Option SG} (I : INV h g' hist' sv') (n : NR g') : TO (some ((1 : Int), h)) (fun h' => ((1 : Int), h')) LAWI := TO.done (f := fun h' => ((1 : Int), h')) ⟨g', hist', sv', I, n⟩
/-- a change of a line -/
theorem does_ch (I : INV h g hist sv) (n : NR g) {t : Nat} (ht : t ≤ 2) (x y : Int) {s : Int} (hs : s = 9 ∨ s = 3) :
    TO (ob1 (F_L_low x (wr (((getT g t).length : Int) + 1))) (fun (r55 : Int) => jn1 s (fun (s57 : Int) => ob1 (F_L_low y s57) (fun (r60 : Int) => ob2 (F_X_edit (t : Int) r55 (wr (10 + r60)) h) (fun (r62 : Int) (h63 : MH) => jn1 (if r55 = ((getT g t).length : Int) then ((-1)) else ((getT g t).length : Int)) (fun (s65 : Int) => if r62 = s65 then (if r55 = ((getT g t).length : Int) then (some ((1 : Int), h63)) else (if F_X_line (t : Int) r55 h63 = r60 then (some (1, h63)) else (some (0, h63)))) else (some (0, h63)))))))) (fun h' => ((1 : Int), h')) LAWI := by
  have ol := I.og.getT ht
  have l14 := ol.1
  obtain ⟨i, e1, hi⟩ := low_ok x (d := (getT g t).length + 1) (by omega) (by omega)
  have es : ∃ d : Nat, s = (d : Int) ∧ 0 < d ∧ d ≤ 9 := by
    rcases hs with rfl | rfl
    · exact ⟨9, rfl, by decide, by decide⟩
    · exact ⟨3, rfl, by decide, by decide⟩
  obtain ⟨d, ed, d0, d9⟩ := es
  obtain ⟨v, e2, hv⟩ := low_ok y (d := d) d0 (by omega)
  have f1 : (i : Int) = ((getT g t).length : Int) ↔ i = (getT g t).length := by omega
  have f2 : 0 ≤ (v : Int) ∧ (v : Int) ≤ 8 := by omega
  have f3 : i ≠ (getT g t).length → i < (getT g t).length := by omega
  have f4 : (getT g t).length + 1 ≤ 1000 := by omega
  have f5 : inR (10 + (v : Int)) ∧ RG (10 + (v : Int)) ∧ ¬ (0 ≤ 10 + (v : Int) ∧ 10 + (v : Int) ≤ 8) := by
    refine ⟨by unfold inR; omega, Or.inr (Or.inl (by omega)), by omega⟩
  have f6 : wr (10 + (v : Int)) = 10 + (v : Int) := wr_s (n := 100) rfl (by omega) (by omega) (by decide)
  rw [wr_p1 f4, e1, ob1_s, jn1_q, ed, e2, ob1_s, f6]
  by_cases c : i = (getT g t).length
  · rw [c]
    refine (q_noline I ht f5.1 f5.2.1 f5.2.2).go (fun h1 I1 => ?_)
    rw [jn1_q, if_pos rfl, if_pos rfl, if_pos rfl]
    exact yes_d I1 n
  · refine (q_ch I ht (i := i) (v := (v : Int)) f2 (f3 c)).go (fun h1 I1 => ?_)
    have el : (getT (setT g t ((getT g t).set i (v : Int))) t) = (getT g t).set i (v : Int) := getT_setT ht
    have hl := q_lG I1 ht (p := i) (by rw [el, lset_len]; exact f3 c)
    rw [el] at hl
    have hg : ((getT g t).set i (v : Int)).getD i (-1) = (v : Int) := by
      rw [List.getD_eq_getElem?_getD, List.getElem?_set_self (f3 c)]
      rfl
    rw [jn1_q, if_neg (fun z => c (f1.mp z)), if_pos rfl, if_neg (fun z => c (f1.mp z)), if_pos (hl.trans hg)]
    exact yes_d I1 n
/-- a new line -/
theorem does_new (I : INV h g hist sv) (n : NR g) {t : Nat} (ht : t ≤ 2) (x y z : Int) {s : Int} (hs : s = 9 ∨ s = 3) :
    TO (ob1 (F_L_low x (wr (((getT g t).length : Int) + 1))) (fun (r123 : Int) => jn1 s (fun (s125 : Int) => ob1 (F_L_low y s125) (fun (r128 : Int) => jn1 (if z = 0 then ((wr (6 + (remv r128 3)))) else (r128)) (fun (s130 : Int) => ob2 (F_X_edit (t : Int) r123 s130 h) (fun (r133 : Int) (h134 : MH) => jn1 (if ((getT g t).length : Int) = 14 then ((-3)) else ((wr (((getT g t).length : Int) + 1)))) (fun (s136 : Int) => if r133 = s136 then (if ((getT g t).length : Int) = 14 then (some ((1 : Int), h134)) else (if F_X_line (t : Int) r123 h134 = s130 then (some (1, h134)) else (some (0, h134)))) else (some (0, h134))))))))) (fun h' => ((1 : Int), h')) LAWI := by
  have ol := I.og.getT ht
  have l14 := ol.1
  obtain ⟨i, e1, hi⟩ := low_ok x (d := (getT g t).length + 1) (by omega) (by omega)
  have es : ∃ d : Nat, s = (d : Int) ∧ 0 < d ∧ d ≤ 9 := by
    rcases hs with rfl | rfl
    · exact ⟨9, rfl, by decide, by decide⟩
    · exact ⟨3, rfl, by decide, by decide⟩
  obtain ⟨d, ed, d0, d9⟩ := es
  obtain ⟨v, e2, hv⟩ := low_ok y (d := d) d0 (by omega)
  have er : remv (v : Int) 3 = ((v % 3 : Nat) : Int) := rem_n (d := 3) (by omega) (by decide) (by decide)
  have e3 : wr (6 + remv (v : Int) 3) = 6 + ((v % 3 : Nat) : Int) := by rw [er]; exact wr_s (n := 100) rfl (by omega) (by omega) (by decide)
  have f2 : 0 ≤ (if z = 0 then 6 + ((v % 3 : Nat) : Int) else (v : Int)) ∧ (if z = 0 then 6 + ((v % 3 : Nat) : Int) else (v : Int)) ≤ 8 := by split <;> omega
  have f3 : i ≤ (getT g t).length := by omega
  have f4 : (getT g t).length + 1 ≤ 1000 := by omega
  have f5 : ((getT g t).length : Int) = 14 ↔ ¬ (getT g t).length < 14 := by omega
  have f6 : ((getT g t).length : Int) + 1 = (((getT g t).length + 1 : Nat) : Int) := by omega
  have f7 : i < (getT g t).length + 1 := by omega
  rw [wr_p1 f4, e1, ob1_s, jn1_q, ed, e2, ob1_s, jn1_q, e3]
  generalize (if z = 0 then 6 + ((v % 3 : Nat) : Int) else (v : Int)) = u at f2 ⊢
  by_cases c : (getT g t).length < 14
  · refine (q_new I ht (i := i) (v := u) f2 f3 c).go (fun h1 I1 => ?_)
    have el : (getT (setT g t (ins (getT g t) i u)) t) = ins (getT g t) i u := getT_setT ht
    have hl := q_lG I1 ht (p := i) (by rw [el, ins_len f3]; exact f7)
    rw [el] at hl
    have hg : (ins (getT g t) i u).getD i (-1) = u := by rw [ins_get f3, if_neg (Nat.lt_irrefl i), if_pos rfl]
    rw [jn1_q, if_neg (fun w => absurd c (f5.mp w)), if_pos f6, if_neg (fun w => absurd c (f5.mp w)), if_pos (hl.trans hg)]
    exact yes_d I1 n
  · refine (q_full I ht (i := i) (v := u) f2 f3 c).go (fun h1 I1 => ?_)
    rw [jn1_q, if_pos (f5.mpr c), if_pos rfl, if_pos (f5.mpr c)]
    exact yes_d I1 n
/-- a line less -/
theorem does_out (I : INV h g hist sv) (n : NR g) {t : Nat} (ht : t ≤ 2) (x : Int) :
    TO (ob1 (F_L_low x (wr (((getT g t).length : Int) + 1))) (fun (r44 : Int) => ob2 (F_X_edit (t : Int) r44 20 h) (fun (r46 : Int) (h47 : MH) => jn1 (if r44 = ((getT g t).length : Int) then ((-1)) else ((wr (((getT g t).length : Int) - 1)))) (fun (s49 : Int) => if r46 = s49 then (some ((1 : Int), h47)) else (some (0, h47)))))) (fun h' => ((1 : Int), h')) LAWI := by
  have ol := I.og.getT ht
  have l14 := ol.1
  obtain ⟨i, e1, hi⟩ := low_ok x (d := (getT g t).length + 1) (by omega) (by omega)
  have f1 : (i : Int) = ((getT g t).length : Int) ↔ i = (getT g t).length := by omega
  have f3 : i ≠ (getT g t).length → i < (getT g t).length := by omega
  have f4 : (getT g t).length + 1 ≤ 1000 := by omega
  have f5 : inR (20 : Int) ∧ RG 20 ∧ ¬ (0 ≤ (20 : Int) ∧ (20 : Int) ≤ 8) := ⟨by unfold inR; omega, Or.inr (Or.inr rfl), by omega⟩
  have f6 : wr (((getT g t).length : Int) - 1) = ((getT g t).length : Int) - 1 := wr_s (n := 100) rfl (by omega) (by omega) (by decide)
  rw [wr_p1 f4, e1, ob1_s]
  by_cases c : i = (getT g t).length
  · rw [c]
    refine (q_noline I ht f5.1 f5.2.1 f5.2.2).go (fun h1 I1 => ?_)
    rw [jn1_q, if_pos rfl, if_pos rfl]
    exact yes_d I1 n
  · refine (q_out I ht (i := i) (f3 c)).go (fun h1 I1 => ?_)
    rw [jn1_q, if_neg (fun z => c (f1.mp z)), f6, if_pos rfl]
    exact yes_d I1 n
theorem inR_of {x : Int} (h0 : 0 ≤ x) (h1 : x ≤ 1000) : inR x := by unfold inR; omega
/-- a setting -/
theorem does_set (I : INV h g hist sv) (n : NR g) (x y : Int) :
    TO (jn1 (if andv x 1 = 0 then ((andv y 3)) else ((andv y 1))) (fun (s9 : Int) => ob2 (F_X_count (wr (14 + (andv x 1))) h) (fun (r12 : Int) (h13 : MH) => ob2 (F_X_set (andv x 1) s9 h13) (fun (r15 : Int) (h16 : MH) => if r15 = r12 then (ob2 (F_X_count (wr (14 + (andv x 1))) h16) (fun (r19 : Int) (h20 : MH) => if r19 = s9 then (some ((1 : Int), h20)) else (some (0, h20)))) else (some (0, h16)))))) (fun h' => ((1 : Int), h')) LAWI := by
  rw [jn1_q]
  rcases and_1 x with e | e
  · rw [e, if_pos rfl, show wr (14 + (0 : Int)) = 14 by decide]
    refine (q_c14 I).go (fun h1 I1 => ?_)
    refine (q_set0 I1 (and_3 y)).go (fun h2 I2 => ?_)
    rw [if_pos rfl]
    refine (q_c14 I2).go (fun h3 I3 => ?_)
    rw [if_pos rfl]
    exact yes_d I3 n
  · rw [e, if_neg one_ne, show wr (14 + (1 : Int)) = 15 by decide]
    refine (q_c15 I).go (fun h1 I1 => ?_)
    refine (q_set1 I1 (p2 := andv y 1) (by rcases and_1 y with e | e <;> omega)).go (fun h2 I2 => ?_)
    rw [if_pos rfl]
    refine (q_c15 I2).go (fun h3 I3 => ?_)
    rw [if_pos rfl]
    exact yes_d I3 n
/-- a swap -/
theorem sw_get {g : SG} {a b : Nat} (ha : a ≤ 2) (hb : b ≤ 2) (hab : a ≠ b) : getT (setT (setT g a (getT g b)) b (getT g a)) a = getT g b ∧ getT (setT (setT g a (getT g b)) b (getT g a)) b = getT g a := by
  rcases t012 ha with rfl | rfl | rfl <;> rcases t012 hb with rfl | rfl | rfl <;> first | exact absurd rfl hab | exact ⟨rfl, rfl⟩
theorem rem_oth {t : Nat} (ht : t ≤ 2) {x : Int} (hx : x = 0 ∨ x = 1) : ∃ o : Nat, remv (wr ((wr ((t : Int) + 1)) + x)) 3 = (o : Int) ∧ o ≤ 2 ∧ t ≠ o := by
  rcases t012 ht with rfl | rfl | rfl <;> rcases hx with rfl | rfl
  · exact ⟨1, by decide +kernel, by decide, by decide⟩
  · exact ⟨2, by decide +kernel, by decide, by decide⟩
  · exact ⟨2, by decide +kernel, by decide, by decide⟩
  · exact ⟨0, by decide +kernel, by decide, by decide⟩
  · exact ⟨0, by decide +kernel, by decide, by decide⟩
  · exact ⟨1, by decide +kernel, by decide, by decide⟩
theorem does_swap (I : INV h g hist sv) (n : NR g) {t : Nat} (ht : t ≤ 2) (x : Int) :
    TO (ob2 (F_X_count (remv (wr ((wr ((t : Int) + 1)) + (andv x 1))) 3) h) (fun (r25 : Int) (h26 : MH) => ob2 (F_X_swap (t : Int) (remv (wr ((wr ((t : Int) + 1)) + (andv x 1))) 3) h26) (fun (r28 : Int) (h29 : MH) => ob2 (F_X_distance 0 h29) (fun (r31 : Int) (h32 : MH) => if r28 = r31 then (ob2 (F_X_count (t : Int) h32) (fun (r35 : Int) (h36 : MH) => if r35 = r25 then (ob2 (F_X_count (remv (wr ((wr ((t : Int) + 1)) + (andv x 1))) 3) h36) (fun (r39 : Int) (h40 : MH) => if r39 = ((getT g t).length : Int) then (some ((1 : Int), h40)) else (some (0, h40)))) else (some (0, h36)))) else (some (0, h32)))))) (fun h' => ((1 : Int), h')) LAWI := by
  obtain ⟨o, eo, ho, hne⟩ := rem_oth ht (and_1 x)
  obtain ⟨s1, s2⟩ := sw_get (g := g) ht ho hne
  rw [eo]
  refine (q_cG I ho).go (fun h1 I1 => ?_)
  refine (q_swap I1 ht ho hne).go (fun h2 I2 => ?_)
  refine (q_dist0 I2).go (fun h3 I3 => ?_)
  rw [if_pos rfl]
  refine (q_cG I3 ht).go (fun h4 I4 => ?_)
  rw [s1, if_pos rfl]
  refine (q_cG I4 ho).go (fun h5 I5 => ?_)
  rw [s2, if_pos rfl]
  exact yes_d I5 n
/-- a laying -/
theorem does_lay (I : INV h g hist sv) (n : NR g) (dn : Int) :
    TO (ob2 (F_X_count 7 h) (fun (r93 : Int) (h94 : MH) => ob2 (F_X_count 12 h94) (fun (r96 : Int) (h97 : MH) => ob2 (F_X_count 13 h97) (fun (r99 : Int) (h100 : MH) => jn1 dn (fun (s102 : Int) => ob2 (F_X_lay s102 h100) (fun (r105 : Int) (h106 : MH) => if r105 = (-3) then (some ((1 : Int), h106)) else (if r105 < 0 then (some (0, h106)) else (ob2 (F_X_count 12 h106) (fun (r110 : Int) (h111 : MH) => if r110 = wr (r96 + r105) then (ob2 (F_X_count 13 h111) (fun (r114 : Int) (h115 : MH) => if r114 = wr ((wr (r99 + r93)) - r105) then (ob2 (F_X_count 2 h115) (fun (r118 : Int) (h119 : MH) => if r118 < 15 then (some (1, h119)) else (some (0, h119)))) else (some (0, h115)))) else (some (0, h111))))))))))) (fun h' => ((1 : Int), h')) LAWI := by
  obtain ⟨ks, H, W⟩ := vwg_ex I
  refine (q_c7 I W).go (fun h1 I1 => ?_)
  refine (q_c12 I1).go (fun h2 I2 => ?_)
  refine (q_c13 I2).go (fun h3 I3 => ?_)
  rw [jn1_q]
  obtain ⟨-, -, -, -, -, -, -, -, -, li, -, -, -⟩ := lay_w I3 W dn
  obtain ⟨y1, y2⟩ := q_lay I3 W dn (S := lay ks (vss g.1 g.2.1) H (g.2.2.2.1).toNat dn g.2.2.1) rfl
  have l0 := li.2.2.2.1
  by_cases c : (lay ks (vss g.1 g.2.1) H (g.2.2.2.1).toNat dn g.2.2.1).2.2.2.2.1 ≤ 14
  · obtain ⟨a, oS⟩ := y1 c
    have eL : layG g (lay ks (vss g.1 g.2.1) H (g.2.2.2.1).toNat dn g.2.2.1) (H.length : Int) = (g.1, g.2.1, (lay ks (vss g.1 g.2.1) H (g.2.2.2.1).toNat dn g.2.2.1).1, g.2.2.2.1, g.2.2.2.2.1, wr (g.2.2.2.2.2.1 + (lay ks (vss g.1 g.2.1) H (g.2.2.2.1).toNat dn g.2.2.1).2.2.2.1), wr (g.2.2.2.2.2.2 + wr ((H.length : Int) - (lay ks (vss g.1 g.2.1) H (g.2.2.2.1).toNat dn g.2.2.1).2.2.2.1))) := rfl
    rw [eL] at a
    refine a.go (fun h4 I4 => ?_)
    rw [if_neg (by omega), if_neg (by omega)]
    refine (q_c12 I4).go (fun h5 I5 => ?_)
    rw [if_pos rfl]
    refine (q_c13 I5).go (fun h6 I6 => ?_)
    rw [if_pos (wr_mix _ _ _).symm]
    refine (q_c2 I6).go (fun h7 I7 => ?_)
    rw [if_pos (by have := oS.1; show (((lay ks (vss g.1 g.2.1) H (g.2.2.2.1).toNat dn g.2.2.1).1.length : Nat) : Int) < 15; omega)]
    exact yes_d I7 ⟨inR_wr _, inR_wr _⟩
  · refine (y2 c).go (fun h4 I4 => ?_)
    rw [if_pos rfl]
    exact yes_d I4 n
theorem two_s (c : Prop) [Decidable c] : (if c then (9 : Int) else 3) = 9 ∨ (if c then (9 : Int) else 3) = 3 := by
  by_cases h : c
  · rw [if_pos h]; exact Or.inl rfl
  · rw [if_neg h]; exact Or.inr rfl
theorem L_does (p : Int) (J : LAWI h) : TO (F_L_does p h) (fun h' => ((1 : Int), h')) LAWI := by
  obtain ⟨g, hist, sv, I, n⟩ := J
  obtain ⟨t, e1, ht⟩ := low_ok (shrv p 4) (d := 3) (by decide) (by decide)
  obtain ⟨w, e2, hw⟩ := low_ok p (d := 12) (by decide) (by decide)
  have e1' : F_L_low (shrv p 4) 3 = some (t : Int) := e1
  have e2' : F_L_low p 12 = some (w : Int) := e2
  have ht : t ≤ 2 := by omega
  unfold F_L_does
  rw [e1', ob1_s]
  refine (q_cG I ht).go (fun h1 I1 => ?_)
  rw [e2', ob1_s]
  by_cases c0 : (w : Int) = 0
  · rw [if_pos c0]; exact does_set I1 n _ _
  · rw [if_neg c0]
    by_cases c1 : (w : Int) = 1
    · rw [if_pos c1]; exact does_swap I1 n ht _
    · rw [if_neg c1]
      by_cases c2 : (w : Int) = 2
      · rw [if_pos c2]; exact does_out I1 n ht _
      · rw [if_neg c2]
        by_cases c3 : (w : Int) = 3
        · rw [if_pos c3]; exact does_ch I1 n ht _ _ (two_s _)
        · rw [if_neg c3]
          by_cases c4 : (w : Int) = 4
          · rw [if_pos c4]; exact does_ch I1 n ht _ _ (two_s _)
          · rw [if_neg c4]
            by_cases c5 : (w : Int) = 5
            · rw [if_pos c5]; exact does_lay I1 n _
            · rw [if_neg c5]; exact does_new I1 n ht _ _ _ (two_s _)
end DOES

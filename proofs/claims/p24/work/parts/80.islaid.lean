/-! ===== the law's isLaid ===== -/
def T3 (g : SG) (l : List Int) : SG := (g.1, g.2.1, l, g.2.2.2)
def fT (g : SG) (dn : Int) : List Int := if dn = 0 then g.1 else g.2.1
def tT (g : SG) (dn : Int) : List Int := if dn = 0 then g.2.1 else g.1
theorem setT_2 (g : SG) (l l' : List Int) : setT (T3 g l) 2 l' = T3 g l' := rfl
theorem T3_id (g : SG) : T3 g g.2.2.1 = g := rfl
theorem T3_view {g : SG} {ks : List Int} {H : HL} (l : List Int) (W : VWG g ks H) : VWG (T3 g l) ks H := W
section LAID
variable {h : MH} {g : SG} {hist : List SG} {sv : Option SG} {ks : List Int} {H : HL} {dn : Int}
theorem q_cF (I : INV h g hist sv) (dn : Int) : AK (F_X_count (if dn = 0 then (0 : Int) else 1) h) ((fT g dn).length : Int) g hist sv := by
  unfold fT
  by_cases c : dn = 0
  · rw [if_pos c, if_pos c]; exact q_c0 I
  · rw [if_neg c, if_neg c]; exact q_c1 I
theorem q_cT (I : INV h g hist sv) (dn : Int) : AK (F_X_count (wr (1 - (if dn = 0 then (0 : Int) else 1))) h) ((tT g dn).length : Int) g hist sv := by
  unfold tT
  by_cases c : dn = 0
  · rw [if_pos c, if_pos c, show wr (1 - (0 : Int)) = 1 by decide]; exact q_c1 I
  · rw [if_neg c, if_neg c, show wr (1 - (1 : Int)) = 0 by decide]; exact q_c0 I
theorem q_lF (I : INV h g hist sv) (dn : Int) {p : Nat} (hp : p < (fT g dn).length) : F_X_line (if dn = 0 then (0 : Int) else 1) (p : Int) h = (fT g dn).getD p (-1) := by
  unfold fT at hp ⊢
  by_cases c : dn = 0
  · rw [if_pos c] at hp
    rw [if_pos c, if_pos c, q_line0 I (Int.natCast_nonneg _), if_pos (lt_int hp), lgn]
  · rw [if_neg c] at hp
    rw [if_neg c, if_neg c, q_line1 I (Int.natCast_nonneg _), if_pos (lt_int hp), lgn]
theorem q_lT (I : INV h g hist sv) (dn : Int) {p : Nat} (hp : p < (tT g dn).length) : F_X_line (wr (1 - (if dn = 0 then (0 : Int) else 1))) (p : Int) h = (tT g dn).getD p (-1) := by
  unfold tT at hp ⊢
  by_cases c : dn = 0
  · rw [if_pos c] at hp
    rw [if_pos c, if_pos c, show wr (1 - (0 : Int)) = 1 by decide, q_line1 I (Int.natCast_nonneg _), if_pos (lt_int hp), lgn]
  · rw [if_neg c] at hp
    rw [if_neg c, if_neg c, show wr (1 - (1 : Int)) = 0 by decide, q_line0 I (Int.natCast_nonneg _), if_pos (lt_int hp), lgn]
theorem fT_ok (og : OKg g) (dn : Int) : OKt (fT g dn) := by
  unfold fT
  split
  · exact og.1
  · exact og.2.1
/-- the third text is emptied -/
theorem isA_empty (x1 x2 x3 x4 x5 x6 x7 x8 : Int) : ∀ (m fuel p : Nat) (l : List Int) (hist : List SG) (h : MH), l.length = m → p + m ≤ 14 → m < fuel → INV h (T3 g l) hist sv →
    TO (F_L_isLaid_L58 x1 x2 x3 x4 x5 x6 x7 x8 fuel (p : Int) h) (fun h' => (((p + m : Nat) : Int), h')) (fun h' => ∃ hist', INV h' (T3 g []) hist' sv) := by
  intro m
  induction m with
  | zero =>
    intro fuel p l hist h hl hp hf I
    obtain ⟨fuel, rfl⟩ : ∃ n, fuel = n + 1 := ⟨fuel - 1, by omega⟩
    have e : l = [] := List.eq_nil_of_length_eq_zero hl
    subst e
    rw [F_L_isLaid_L58]
    by_cases c : (p : Int) < 14
    · rw [if_pos c]
      refine (q_c2 I).go (fun h1 I1 => ?_)
      rw [if_pos (by show ((([] : List Int).length : Nat) : Int) ≤ 0; decide)]
      exact ⟨h1, rfl, hist, I1⟩
    · rw [if_neg c]
      exact ⟨h, rfl, hist, I⟩
  | succ m ih =>
    intro fuel p l hist h hl hp hf I
    obtain ⟨fuel, rfl⟩ : ∃ n, fuel = n + 1 := ⟨fuel - 1, by omega⟩
    have c : (p : Int) < 14 := by omega
    have c2 : ¬ ((l.length : Nat) : Int) ≤ 0 := by omega
    have pm : p + 1 ≤ 1000 ∧ p + 1 + m ≤ 14 ∧ m < fuel ∧ p + 1 + m = p + (m + 1) := by omega
    rw [F_L_isLaid_L58, if_pos c]
    refine (q_c2 I).go (fun h1 I1 => ?_)
    rw [show (T3 g l).2.2.1 = l from rfl, if_neg c2]
    refine (q_out I1 (t := 2) (by decide) (i := 0) (by show 0 < l.length; omega)).go (fun h2 I2 => ?_)
    rw [wr_p1 pm.1, ← pm.2.2.2]
    exact ih fuel (p + 1) (del l 0) _ h2 (by rw [del_len (by omega)]; omega) pm.2.1 pm.2.2.1 I2
theorem ins_take {l : List Int} {p : Nat} (hp : p < l.length) : ins (l.take p) p (l.getD p (-1)) = l.take (p + 1) := by
  unfold ins
  rw [List.take_take, Nat.min_self, List.drop_eq_nil_of_le (by rw [List.length_take]; omega), List.take_succ, List.getElem?_eq_getElem hp, List.getD_eq_getElem?_getD, List.getElem?_eq_getElem hp]
  rfl
/-- the third text is made as the one that the patches go from -/
theorem isA_fill (og : OKg g) (x1 x2 x5 x6 x7 x8 : Int) : ∀ (m fuel p : Nat) (hist : List SG) (h : MH), p + m = (fT g dn).length → m < fuel → INV h (T3 g ((fT g dn).take p)) hist sv →
    TO (F_L_isLaid_L92 x1 x2 (if dn = 0 then (0 : Int) else 1) ((fT g dn).length : Int) x5 x6 x7 x8 fuel (p : Int) h) (fun h' => (((fT g dn).length : Int), h')) (fun h' => ∃ hist', INV h' (T3 g (fT g dn)) hist' sv) := by
  have ol := fT_ok og dn
  intro m
  induction m with
  | zero =>
    intro fuel p hist h hp hf I
    obtain ⟨fuel, rfl⟩ : ∃ n, fuel = n + 1 := ⟨fuel - 1, by omega⟩
    have e : p = (fT g dn).length := by omega
    rw [F_L_isLaid_L92, if_neg (by omega), e]
    rw [e, List.take_length] at I
    exact ⟨h, rfl, hist, I⟩
  | succ m ih =>
    intro fuel p hist h hp hf I
    obtain ⟨fuel, rfl⟩ : ∃ n, fuel = n + 1 := ⟨fuel - 1, by omega⟩
    have l14 := ol.1
    have pm : p + 1 ≤ 1000 ∧ p + 1 + m = (fT g dn).length ∧ m < fuel ∧ p < (fT g dn).length := by omega
    have hv : 0 ≤ (fT g dn).getD p (-1) ∧ (fT g dn).getD p (-1) ≤ 8 := by
      rw [List.getD_eq_getElem?_getD, List.getElem?_eq_getElem pm.2.2.2]
      exact ol.2 _ (List.getElem_mem pm.2.2.2)
    have el : ((fT g dn).take p).length = p := by rw [List.length_take]; omega
    have hline := q_lF I dn (p := p) pm.2.2.2
    rw [F_L_isLaid_L92, if_pos (lt_int pm.2.2.2), show F_X_line (if dn = 0 then (0 : Int) else 1) (p : Int) h = (fT g dn).getD p (-1) from hline]
    refine (q_new I (t := 2) (by decide) (i := p) (v := (fT g dn).getD p (-1)) hv (by show p ≤ ((fT g dn).take p).length; omega) (by show ((fT g dn).take p).length < 14; omega)).go (fun h1 I1 => ?_)
    have e : setT (T3 g ((fT g dn).take p)) 2 (ins (getT (T3 g ((fT g dn).take p)) 2) p ((fT g dn).getD p (-1))) = T3 g ((fT g dn).take (p + 1)) := by
      rw [setT_2]
      exact congrArg (T3 g) (ins_take pm.2.2.2)
    rw [e] at I1
    rw [wr_p1 pm.1]
    exact ih fuel (p + 1) _ h1 pm.2.1 pm.2.2.1 I1
theorem sRA_T {g : SG} {ks : List Int} {ss : List Int} (R : RDS ks ss g.1 g.2.1) (dn : Int) : fT g dn = pt ks ss (sR dn) 0 ks.length ∧ tT g dn = pt ks ss (sA dn) 0 ks.length := by
  obtain ⟨r2, r1, -⟩ := R
  unfold fT tT sR sA
  by_cases c : dn = 0
  · rw [if_pos c, if_pos c, if_pos c, if_pos c]; exact ⟨r2.symm, r1.symm⟩
  · rw [if_neg c, if_neg c, if_neg c, if_neg c]; exact ⟨r1.symm, r2.symm⟩
/-- each patch would be laid at its place -/
theorem isA_each (W : VWG g ks H) (V : VF g ks H) (x3 x5 x6 x7 x8 : Int) : ∀ (m fuel p : Nat) (h : MH), p + m = H.length → m < fuel → INV h (T3 g (fT g dn)) hist sv →
    TO (F_L_isLaid_L141 dn (H.length : Int) x3 x5 x6 x7 x8 fuel 1 (p : Int) h) (fun h' => ((1 : Int), (H.length : Int), h')) (fun h' => INV h' (T3 g (fT g dn)) hist sv) := by
  obtain ⟨hs, hko, hl, h28, hso, hr, l1, l2⟩ := V
  have h14 := hs.len14 h28
  have ls := lay_self (ss := vss g.1 g.2.1) hs hko dn (g.2.2.2.1).toNat (sRA_T hr dn).1
  intro m
  induction m with
  | zero =>
    intro fuel p h hp hf I
    obtain ⟨fuel, rfl⟩ : ∃ n, fuel = n + 1 := ⟨fuel - 1, by omega⟩
    have e : p = H.length := by omega
    rw [F_L_isLaid_L141, if_neg (by omega), e]
    exact ⟨h, rfl, I⟩
  | succ m ih =>
    intro fuel p h hp hf I
    obtain ⟨fuel, rfl⟩ : ∃ n, fuel = n + 1 := ⟨fuel - 1, by omega⟩
    have pm : p + 1 ≤ 1000 ∧ p + 1 + m = H.length ∧ m < fuel ∧ p < H.length := by omega
    have c2 : (p : Int) < 28 := by omega
    have lp := ls.2.1 p pm.2.2.2
    rw [F_L_isLaid_L141, if_pos (lt_int pm.2.2.2), if_pos c2, jk2_q, jk1_q, if_neg one_ne]
    refine (q_iflaid I (T3_view _ W) pm.2.2.2 dn (S := lay ks (vss g.1 g.2.1) H (g.2.2.2.1).toNat dn (fT g dn)) rfl).go (fun h1 I1 => ?_)
    rw [if_neg lp.1, lp.2, if_pos (by decide), wr_p1 pm.1]
    exact ih fuel (p + 1) h1 pm.2.1 pm.2.2.1 I1
/-- the third text is the other one -/
theorem isA_same (x6 x8 : Int) {g' : SG} (I : INV h g' hist sv) (ht : g'.2.2.1 = tT g' dn) : ∀ (m fuel p : Nat), p + m = (tT g' dn).length → m < fuel →
    F_L_isLaid_L285 (if dn = 0 then (0 : Int) else 1) ((tT g' dn).length : Int) x6 x8 h fuel 1 (p : Int) = some (1, ((tT g' dn).length : Int)) := by
  have og := I.og
  have l14 : (tT g' dn).length ≤ 14 := by rw [← ht]; exact og.2.2.1.1
  intro m
  induction m with
  | zero =>
    intro fuel p hp hf
    obtain ⟨fuel, rfl⟩ : ∃ n, fuel = n + 1 := ⟨fuel - 1, by omega⟩
    have e : p = (tT g' dn).length := by omega
    rw [F_L_isLaid_L285, if_neg (by omega), e]
  | succ m ih =>
    intro fuel p hp hf
    obtain ⟨fuel, rfl⟩ : ∃ n, fuel = n + 1 := ⟨fuel - 1, by omega⟩
    have pm : p + 1 ≤ 1000 ∧ p + 1 + m = (tT g' dn).length ∧ m < fuel ∧ p < (tT g' dn).length := by omega
    have e2 : F_X_line 2 (p : Int) h = (tT g' dn).getD p (-1) := by
      rw [q_line2 I (Int.natCast_nonneg _), ht, if_pos (lt_int pm.2.2.2), lgn]
    rw [F_L_isLaid_L285, if_pos (lt_int pm.2.2.2), if_neg one_ne, jn1_q, e2, q_lT I dn pm.2.2.2, if_pos rfl, wr_p1 pm.1]
    exact ih fuel (p + 1) pm.2.1 pm.2.2.1
theorem wr_idn {x : Int} (h : inR x) : wr (x + 0) = x := by
  rw [Int.add_zero]
  exact wr_id h
theorem L_isLaid (I : INV h g hist sv) (hin : inR g.2.2.2.2.2.2) (dn : Int) : TO (F_L_isLaid dn h) (fun h' => ((1 : Int), h')) (fun h' => ∃ hist', INV h' g hist' (some g)) := by
  obtain ⟨ks, H, W⟩ := vwg_ex I
  have og := I.og
  have V := W.vf og
  have hs := V.1
  have hko := V.2.1
  have h28 := V.2.2.2.1
  have hr := V.2.2.2.2.2.1
  have h14 := hs.len14 h28
  have ot := fT_ok og dn
  have ls := lay_self (ss := vss g.1 g.2.1) hs hko dn (g.2.2.2.1).toNat (sRA_T hr dn).1
  have hF : H.length < FUEL ∧ (fT g dn).length < FUEL ∧ g.2.2.1.length < FUEL ∧ g.2.2.1.length ≤ 14 ∧ ¬ (H.length : Int) = -3 := by
    have := og.2.2.1.1
    have := ot.1
    rw [FUEL_eq]
    omega
  unfold F_L_isLaid
  refine (q_c7 I W).go (fun h1 I1 => ?_)
  rw [jn1_q]
  refine (q_cF I1 dn).go (fun h2 I2 => ?_)
  refine (q_cT I2 dn).go (fun h3 I3 => ?_)
  refine (q_c12 I3).go (fun h4 I4 => ?_)
  refine (q_c13 I4).go (fun h5 I5 => ?_)
  refine (q_save I5).go (fun h6 I6 => ?_)
  obtain ⟨h7, e7, hist7, I7⟩ := isA_empty (g := g) dn (H.length : Int) (if dn = 0 then (0 : Int) else 1) ((fT g dn).length : Int) ((tT g dn).length : Int) g.2.2.2.2.2.1 g.2.2.2.2.2.2 (dst g.1 g.2.1) g.2.2.1.length FUEL 0 g.2.2.1 hist h6 rfl (by omega) hF.2.2.1 I6
  have e7' : F_L_isLaid_L58 dn (H.length : Int) (if dn = 0 then (0 : Int) else 1) ((fT g dn).length : Int) ((tT g dn).length : Int) g.2.2.2.2.2.1 g.2.2.2.2.2.2 (dst g.1 g.2.1) FUEL 0 h6 = some (((0 + g.2.2.1.length : Nat) : Int), h7) := e7
  rw [e7', ob2_s]
  obtain ⟨h8, e8, hist8, I8⟩ := isA_fill (dn := dn) og dn (H.length : Int) ((tT g dn).length : Int) g.2.2.2.2.2.1 g.2.2.2.2.2.2 (dst g.1 g.2.1) (fT g dn).length FUEL 0 hist7 h7 (by omega) hF.2.1 I7
  have e8' : F_L_isLaid_L92 dn (H.length : Int) (if dn = 0 then (0 : Int) else 1) ((fT g dn).length : Int) ((tT g dn).length : Int) g.2.2.2.2.2.1 g.2.2.2.2.2.2 (dst g.1 g.2.1) FUEL 0 h7 = some (((fT g dn).length : Int), h8) := e8
  rw [e8', ob2_s]
  refine (q_c2 I8).go (fun h9 I9 => ?_)
  rw [show (T3 g (fT g dn)).2.2.1 = fT g dn from rfl, jn1_q, if_pos rfl]
  obtain ⟨h10, e10, I10⟩ := isA_each W V (if dn = 0 then (0 : Int) else 1) ((tT g dn).length : Int) g.2.2.2.2.2.1 g.2.2.2.2.2.2 (dst g.1 g.2.1) H.length FUEL 0 h9 (by omega) hF.1 I9
  have e10' : F_L_isLaid_L141 dn (H.length : Int) (if dn = 0 then (0 : Int) else 1) ((tT g dn).length : Int) g.2.2.2.2.2.1 g.2.2.2.2.2.2 (dst g.1 g.2.1) FUEL 1 0 h9 = some ((1 : Int), (H.length : Int), h10) := e10
  rw [ob3_t e10']
  obtain ⟨y1, y2⟩ := q_lay I10 (T3_view _ W) dn (S := lay ks (vss g.1 g.2.1) H (g.2.2.2.1).toNat dn (fT g dn)) rfl
  by_cases c : (lay ks (vss g.1 g.2.1) H (g.2.2.2.1).toNat dn (fT g dn)).2.2.2.2.1 ≤ 14
  · obtain ⟨a, oS⟩ := y1 c
    rw [ls.2.2] at a
    refine a.go (fun h11 I11 => ?_)
    have eS : (lay ks (vss g.1 g.2.1) H (g.2.2.2.1).toNat dn (fT g dn)).1 = tT g dn := ls.1.trans (sRA_T hr dn).2.symm
    have eG : layG (T3 g (fT g dn)) (lay ks (vss g.1 g.2.1) H (g.2.2.2.1).toNat dn (fT g dn)) (H.length : Int) = (g.1, g.2.1, tT g dn, g.2.2.2.1, g.2.2.2.2.1, wr (g.2.2.2.2.2.1 + (H.length : Int)), g.2.2.2.2.2.2) := by
      unfold layG
      rw [eS, ls.2.2, Int.sub_self, show wr 0 = 0 by decide]
      rw [show (T3 g (fT g dn)).2.2.2.2.2.2 = g.2.2.2.2.2.2 from rfl, wr_idn hin]
      rfl
    rw [eG] at I11
    rw [if_neg hF.2.2.2.2, jk2_q, jk1_q, if_neg one_ne, if_pos rfl]
    refine (q_c12 I11).go (fun h12 I12 => ?_)
    rw [if_pos rfl]
    refine (q_c13 I12).go (fun h13 I13 => ?_)
    rw [if_pos rfl]
    refine (q_c2 I13).go (fun h14 I14 => ?_)
    rw [if_pos rfl]
    have hlen : (tT g dn).length < FUEL := by
      have := I14.og.2.2.1.1
      have e : (tT g dn).length ≤ 14 := this
      rw [FUEL_eq]
      omega
    have sm := isA_same (dn := dn) g.2.2.2.2.2.1 (dst g.1 g.2.1) I14 (by rfl) (tT g dn).length FUEL 0 (by show 0 + (tT g dn).length = (tT g dn).length; omega) hlen
    have sm' : F_L_isLaid_L285 (if dn = 0 then (0 : Int) else 1) ((tT g dn).length : Int) g.2.2.2.2.2.1 (dst g.1 g.2.1) h14 FUEL 1 0 = some (1, ((tT g dn).length : Int)) := sm
    dsimp only
    rw [sm', ob2_s, if_neg one_ne]
    refine (q_restore I14).go (fun h15 I15 => ?_)
    rw [if_pos rfl]
    refine (q_c12 I15).go (fun h16 I16 => ?_)
    rw [if_pos rfl]
    exact TO.done (f := fun h' => ((1 : Int), h')) ⟨_, I16⟩
  · refine (y2 c).go (fun h11 I11 => ?_)
    rw [if_pos rfl, if_neg one_ne]
    refine (q_restore I11).go (fun h12 I12 => ?_)
    rw [if_pos rfl]
    refine (q_c12 I12).go (fun h13 I13 => ?_)
    rw [if_pos rfl]
    exact TO.done (f := fun h' => ((1 : Int), h')) ⟨_, I13⟩
end LAID

/-! ===== the reference lays ===== -/
theorem jk1_p {α γ β : Type} (f : α → γ) (g : (α → γ) → β) : jk1 f g = g f := by rw [jk1]
theorem jk4_p {α0 α1 α2 α3 γ β : Type} (f : α0 → α1 → α2 → α3 → γ) (g : (α0 → α1 → α2 → α3 → γ) → β) : jk4 f g = g f := by rw [jk4]
def LMM (h : MH) (S : LayS) : Prop := ML84 h S.1 ∧ (∀ j, j < S.2.1.length → h 85 j = S.2.1.getD j (-1)) ∧ (∀ j, j < S.2.2.1.length → h 86 j = S.2.2.1.getD j (-1)) ∧ h 76 16 = (if S.2.2.2.2.1 ≤ 14 then 0 else 1)
def FY (h h' : MH) : Prop := ∀ x y, x ≠ 84 → x ≠ 85 → x ≠ 86 → ¬ (x = 76 ∧ (y = 13 ∨ y = 16)) → h' x y = h x y
theorem FY.tr {h1 h2 h3 : MH} (a : FY h1 h2) (b : FY h2 h3) : FY h1 h3 := fun x y p q r s => (b x y p q r s).trans (a x y p q r s)
theorem FY.rf (h : MH) : FY h h := fun _ _ _ _ _ _ => rfl
theorem FY.mv2 {h h' : MH} {ks ss : List Int} (F : FY h h') (V : MV2 h ks ss) : MV2 h' ks ss := by
  obtain ⟨a, b, c, d, e⟩ := V
  have n76 : ¬ ((76 : Nat) = 76 ∧ ((11 : Nat) = 13 ∨ (11 : Nat) = 16)) := by decide
  exact ⟨by rw [F 76 11 (by decide) (by decide) (by decide) n76]; exact a, b, c, fun p hp => by rw [F 83 p (by decide) (by decide) (by decide) (fun z => absurd z.1 (by decide))]; exact d p hp, fun p hp => by rw [F 82 p (by decide) (by decide) (by decide) (fun z => absurd z.1 (by decide))]; exact e p hp⟩
theorem FY.r77 {h h' : MH} (F : FY h h') : h' 77 = h 77 := funext fun y => F 77 y (by decide) (by decide) (by decide) (fun z => absurd z.1 (by decide))
theorem app_all {f : Nat → Int} {l : List Int} {v : Int} (h : ∀ j, j < l.length → f j = l.getD j (-1)) (hv : f l.length = v) : ∀ j, j < (l ++ [v]).length → f j = (l ++ [v]).getD j (-1) := by
  intro j hj
  rw [List.length_append, List.length_singleton] at hj
  by_cases c : j = l.length
  · rw [c, snoc_get]; exact hv
  · rw [List.getD_eq_getElem?_getD, List.getElem?_append_left (by omega), ← List.getD_eq_getElem?_getD]
    exact h j (by omega)
theorem imax14 (a b : Int) : (if imax a b ≤ 14 then (0 : Int) else 1) = if (if a ≤ 14 then (0 : Int) else 1) = 0 then (if b ≤ 14 then 0 else 1) else 1 := by
  unfold imax
  by_cases c1 : a ≤ 14
  · rw [if_pos c1, if_pos rfl]
    by_cases c2 : a < b
    · rw [if_pos c2]
    · rw [if_neg c2, if_pos c1, if_pos (by omega)]
  · rw [if_neg c1, if_neg (show ¬ (1 : Int) = 0 by decide)]
    by_cases c2 : a < b
    · rw [if_pos c2, if_neg (by omega)]
    · rw [if_neg c2, if_neg c1]
theorem M_lay_step {h : MH} {g : SG} {ks ss : List Int} {H : HL} (og : OKg g) (Hs : SM (h 77) g) (V : MV2 h ks ss) (hk : KOK ks) (hs : HSP ks H) {k : Nat} {q : Nat × Nat} (hq : H[k]? = some q) {most : Nat} {dn : Int} (hc : cn ks (sR dn) 0 ks.length ≤ 14) {S : LayS} (I : LI ks H dn g.2.2.1.length k S) (M : LMM h S) (n : Nat) :
    ∃ h', F_M_lays_L79 (most : Int) (sR dn) (sA dn) (n + 1) S.2.2.2.1 S.2.2.2.2.2.1 S.2.2.2.2.2.2.2 (k : Int) h = F_M_lays_L79 (most : Int) (sR dn) (sA dn) n (lst ks ss H most dn k S).2.2.2.1 (lst ks ss H most dn k S).2.2.2.2.2.1 (lst ks ss H most dn k S).2.2.2.2.2.2.2 ((k + 1 : Nat) : Int) h' ∧ LMM h' (lst ks ss H most dn k S) ∧ FY h h' := by
  have h28 := V.2.2.1
  have h14 := hs.len14 h28
  have hkl := (List.getElem?_eq_some_iff.mp hq).1
  have hm := List.mem_of_getElem? hq
  have q1 := hs.1.2 q hm
  have q2 := hs.2.1 q hm
  have n0 := og.2.2.1.1
  have B := lay_bd (ss := ss) (most := most) hs hk h28 hq n0 hc I
  have pf := part_facts (ss := ss) hs hk hq most (sR dn) (sRA dn).1
  have ar := ard_bd hs hq most
  have e1 := pvE_le hs hq
  have e2 := nxT_ge hs hq
  obtain ⟨L, m2, m3, m4⟩ := M
  obtain ⟨i1, i2, i3, i4, i5, i6, i7, i8⟩ := I
  have nb : ard H ks.length k q most 0 ≤ q.1 ∧ aT H ks.length k q most ≤ 99 ∧ aE H ks.length k q most ≤ 99 ∧ aT H ks.length k q most ≤ aE H ks.length k q most ∧ aE H ks.length k q most ≤ ks.length ∧ aT H ks.length k q most ≤ 28 ∧ ard H ks.length k q most 1 ≤ 28 ∧ q.1 ≤ q.2 ∧ k + 1 ≤ 99 ∧ aT H ks.length k q most ≤ ks.length := by omega
  have gk : 0 ≤ (k : Int) ∧ (k : Int) < 28 := ⟨Int.natCast_nonneg _, by omega⟩
  have x1 : (q.1 : Int) + ((q.2 - q.1 : Nat) : Int) = (q.2 : Int) := by omega
  have x2 : q.2 ≤ 99 := by omega
  have hf := fnd_spec (T := S.1) (out := oP ks ss H most dn k q) (first := S.2.2.2.2.2.2.2) (w := wP ks H most dn k q S) 113 0
  have hfe : fnd S.1 (oP ks ss H most dn k q) S.2.2.2.2.2.2.2 (wP ks H most dn k q S) 113 0 = fP ks ss H most dn k q S := rfl
  rw [hfe] at hf
  have Bf : -4 ≤ fP ks ss H most dn k q S ∧ fP ks ss H most dn k q S ≤ 28 := by
    rcases hf with e | e
    · rw [e]; decide
    · have := fit_in e; omega
  have FF : fP ks ss H most dn k q S ≠ -4 → fP ks ss H most dn k q S = ((fP ks ss H most dn k q S).toNat : Int) ∧ (fP ks ss H most dn k q S).toNat + (oP ks ss H most dn k q).length ≤ S.1.length ∧ S.1.length + (iP ks ss H most dn k q).length ≤ 28 + (oP ks ss H most dn k q).length ∧ (-1000 ≤ fP ks ss H most dn k q S + ((iP ks ss H most dn k q).length : Int) ∧ fP ks ss H most dn k q S + ((iP ks ss H most dn k q).length : Int) ≤ 1000) ∧
      (-1000 ≤ fP ks ss H most dn k q S + ((iP ks ss H most dn k q).length : Int) - ((ard H ks.length k q most 1 : Nat) : Int) ∧ fP ks ss H most dn k q S + ((iP ks ss H most dn k q).length : Int) - ((ard H ks.length k q most 1 : Nat) : Int) ≤ 1000) ∧ (-1000 ≤ S.2.2.2.1 + 1 ∧ S.2.2.2.1 + 1 ≤ 1000) ∧ (-1000 ≤ S.2.2.2.2.2.1 + (fP ks ss H most dn k q S - wP ks H most dn k q S) ∧ S.2.2.2.2.2.1 + (fP ks ss H most dn k q S - wP ks H most dn k q S) ≤ 1000) := by
    intro hne
    have hx := fit_in (hf.resolve_left hne)
    omega
  have hlk : F_M_looks (wP ks H most dn k q S) S.2.2.2.2.2.2.2 ((aT H ks.length k q most : Nat) : Int) ((aE H ks.length k q most : Nat) : Int) (sR dn) h = some (fP ks ss H most dn k q S) :=
    M_looks V L (sR dn) nb.2.2.2.1 nb.2.2.2.2.1 i8.1 ⟨by omega, by omega⟩
  have ew : wr (wr (wr (((aT H ks.length k q most : Nat) : Int) - cn ks (sR dn) 0 (aT H ks.length k q most) + (S.1.length : Int)) - (g.2.2.1.length : Int)) + S.2.2.2.2.2.1) = wP ks H most dn k q S := by
    unfold wP
    rw [wr2' (w := ((aT H ks.length k q most : Nat) : Int) - cn ks (sR dn) 0 (aT H ks.length k q most) + S.2.2.2.2.2.2.1) (by omega) ⟨by omega, by omega⟩ ⟨by omega, by omega⟩]
    exact wr_id ⟨by omega, by omega⟩
  have ed : wr (fP ks ss H most dn k q S - wP ks H most dn k q S) = fP ks ss H most dn k q S - wP ks H most dn k q S := wr_id ⟨by omega, by omega⟩
  have hlb : F_M_linesBut 0 ((aT H ks.length k q most : Nat) : Int) (sR dn) h = some (((aT H ks.length k q most : Nat) : Int) - cn ks (sR dn) 0 (aT H ks.length k q most)) := by
    have := M_linesBut V (a := 0) (b := aT H ks.length k q most) (Nat.zero_le _) nb.2.2.2.2.2.2.2.2.2 (sR dn)
    rw [Nat.sub_zero] at this
    exact this
  have ua : wr ((q.1 : Int) - ((ard H ks.length k q most 0 : Nat) : Int)) = ((aT H ks.length k q most : Nat) : Int) := wr_m _ (Int.ofNat_sub nb.1).symm nb.2.1
  have ue : wr (wr ((q.1 : Int) + ((q.2 - q.1 : Nat) : Int)) + ((ard H ks.length k q most 1 : Nat) : Int)) = ((aE H ks.length k q most : Nat) : Int) := by
    rw [wr_m q.2 x1 x2]
    exact wr_m _ (Int.natCast_add _ _).symm nb.2.2.1
  have uk : wr ((k : Int) + 1) = ((k + 1 : Nat) : Int) := wr_m _ (Int.natCast_add _ _).symm nb.2.2.2.2.2.2.2.2.1
  rw [F_M_lays_L79, M_hunks V hk hs, ob1_s, if_pos (lt_int hkl), M_start V hk hs hq, ob1_s, M_around V hk hs hq most 1, ob1_s, M_around V hk hs hq most 0, ob1_s, M_size V hs hm, ob1_s, ua, hlb, ob1_s, M_lines2 Hs, ob1_s, L.2.1, ew, ue, hlk, ob1_s]
  rw [gd_pos gk, gd_pos gk, gd_pos gk, gd_pos gk, jk4_p, nn]
  have e85 : up h 85 k (fP ks ss H most dn k q S) 85 k = fP ks ss H most dn k q S := up_at _ _ _ _
  rw [e85, ed]
  have f1 : FY h (up (up h 85 k (fP ks ss H most dn k q S)) 86 k (fP ks ss H most dn k q S - wP ks H most dn k q S)) := fun x y _ b c _ => by rw [up_ne c, up_ne b]
  have e85' : up (up h 85 k (fP ks ss H most dn k q S)) 86 k (fP ks ss H most dn k q S - wP ks H most dn k q S) 85 k = fP ks ss H most dn k q S := by rw [up_other (fun z => absurd z.1 (by decide)), up_at]
  have e86' : up (up h 85 k (fP ks ss H most dn k q S)) 86 k (fP ks ss H most dn k q S - wP ks H most dn k q S) 86 k = fP ks ss H most dn k q S - wP ks H most dn k q S := up_at _ _ _ _
  have m2' : ∀ j, j < k → up (up h 85 k (fP ks ss H most dn k q S)) 86 k (fP ks ss H most dn k q S - wP ks H most dn k q S) 85 j = S.2.1.getD j (-1) := fun j hj => by
    rw [up_ne (by decide), up_if, if_neg (Nat.ne_of_lt hj)]; exact m2 j (by rw [i2]; exact hj)
  have m3' : ∀ j, j < k → up (up h 85 k (fP ks ss H most dn k q S)) 86 k (fP ks ss H most dn k q S - wP ks H most dn k q S) 86 j = S.2.2.1.getD j (-1) := fun j hj => by
    rw [up_if, if_neg (Nat.ne_of_lt hj), up_ne (by decide)]; exact m3 j (by rw [i3]; exact hj)
  have L' : ML84 (up (up h 85 k (fP ks ss H most dn k q S)) 86 k (fP ks ss H most dn k q S - wP ks H most dn k q S)) S.1 := ⟨fun p hp => by rw [up_ne (by decide), up_ne (by decide)]; exact L.1 p hp, by rw [up_ne (by decide), up_ne (by decide)]; exact L.2.1, L.2.2⟩
  have m4' : up (up h 85 k (fP ks ss H most dn k q S)) 86 k (fP ks ss H most dn k q S - wP ks H most dn k q S) 76 16 = (if S.2.2.2.2.1 ≤ 14 then 0 else 1) := by rw [up_ne (by decide), up_ne (by decide)]; exact m4
  generalize up (up h 85 k (fP ks ss H most dn k q S)) 86 k (fP ks ss H most dn k q S - wP ks H most dn k q S) = h1 at *
  have V1 := f1.mv2 V
  rw [e85', uk]
  unfold lst
  rw [hq]
  dsimp only
  by_cases c : fP ks ss H most dn k q S = -4
  · rw [if_pos c, if_pos c]
    refine ⟨h1, rfl, ⟨L', ?_, ?_, m4'⟩, f1⟩
    · exact app_all (fun j hj => m2' j (by rw [i2] at hj; exact hj)) (by rw [i2]; exact e85')
    · exact app_all (fun j hj => m3' j (by rw [i3] at hj; exact hj)) (by rw [i3]; exact e86')
  · rw [if_neg c, if_neg c]
    obtain ⟨F1, F2, F3, F4, F5, F6, F7⟩ := FF c
    have lo : F_M_linesBut ((aT H ks.length k q most : Nat) : Int) ((aE H ks.length k q most : Nat) : Int) (sR dn) h1 = some ((oP ks ss H most dn k q).length : Int) := by
      rw [M_linesBut V1 nb.2.2.2.1 nb.2.2.2.2.1 (sR dn)]
      exact congrArg some (pt_len ks ss _ _ _).symm
    obtain ⟨h32, f32, L32, fx⟩ := M_replaces V1 L' (sA dn) (a := aT H ks.length k q most) (b := aE H ks.length k q most) (f := (fP ks ss H most dn k q S).toNat) (o := (oP ks ss H most dn k q).length) nb.2.2.2.1 nb.2.2.2.2.1 F2 F3
    rw [← F1] at f32
    have V32 := V1.frx fx
    have li : F_M_linesBut ((aT H ks.length k q most : Nat) : Int) ((aE H ks.length k q most : Nat) : Int) (sA dn) h32 = some ((iP ks ss H most dn k q).length : Int) := by
      rw [M_linesBut V32 nb.2.2.2.1 nb.2.2.2.2.1 (sA dn)]
      exact congrArg some (pt_len ks ss _ _ _).symm
    have y85 : ∀ j, h32 85 j = h1 85 j := fun j => fx 85 j (by decide) (fun z => absurd z.1 (by decide))
    have y86 : ∀ j, h32 86 j = h1 86 j := fun j => fx 86 j (by decide) (fun z => absurd z.1 (by decide))
    have y16 : h32 76 16 = (if S.2.2.2.2.1 ≤ 14 then 0 else 1) := by rw [fx 76 16 (by decide) (by decide)]; exact m4'
    have fin : ∀ v, v = (if imax S.2.2.2.2.1 ((rp S.1 (fP ks ss H most dn k q S).toNat (oP ks ss H most dn k q).length (iP ks ss H most dn k q)).length : Int) ≤ 14 then (0 : Int) else 1) →
        LMM (up h32 76 16 v) (rp S.1 (fP ks ss H most dn k q S).toNat (oP ks ss H most dn k q).length (iP ks ss H most dn k q), S.2.1 ++ [fP ks ss H most dn k q S], S.2.2.1 ++ [fP ks ss H most dn k q S - wP ks H most dn k q S],
      S.2.2.2.1 + 1, imax S.2.2.2.2.1 ((rp S.1 (fP ks ss H most dn k q S).toNat (oP ks ss H most dn k q).length (iP ks ss H most dn k q)).length : Int), S.2.2.2.2.2.1 + (fP ks ss H most dn k q S - wP ks H most dn k q S),
      S.2.2.2.2.2.2.1 + (((iP ks ss H most dn k q).length : Int) - ((oP ks ss H most dn k q).length : Int)), fP ks ss H most dn k q S + ((iP ks ss H most dn k q).length : Int) - ((ard H ks.length k q most 1 : Nat) : Int)) ∧ FY h (up h32 76 16 v) := by
      intro v hv
      refine ⟨⟨⟨fun p hp => by rw [up_ne (by decide)]; exact L32.1 p hp, by rw [up_other (by decide)]; exact L32.2.1, L32.2.2⟩, ?_, ?_, ?_⟩, ?_⟩
      · exact app_all (fun j hj => by rw [up_ne (by decide), y85]; exact m2' j (by rw [i2] at hj; exact hj)) (by rw [up_ne (by decide), y85, i2]; exact e85')
      · exact app_all (fun j hj => by rw [up_ne (by decide), y86]; exact m3' j (by rw [i3] at hj; exact hj)) (by rw [up_ne (by decide), y86, i3]; exact e86')
      · rw [up_at]; exact hv
      · refine f1.tr (fun x y a1 a2 a3 a4 => ?_)
        by_cases e : x = 76
        · subst e
          rw [up_other (fun z => a4 ⟨rfl, Or.inr z.2⟩)]
          exact fx 76 y (by decide) (fun z => a4 ⟨rfl, Or.inl z.2⟩)
        · rw [up_ne e]
          exact fx x y a1 (fun z => e z.1)
    rw [gd_pos gk, lo, ob1_s, f32, ob1_s, gd_pos gk, gd_pos gk, li, ob1_s, jk1_p, jk1_p, y86, y85, e85', e86', y16, L32.2.1, wr_id (z := S.2.2.2.1 + 1) ⟨Int.le_trans (by decide) F6.1, Int.le_trans F6.2 (by decide)⟩,
      wr_id (z := S.2.2.2.2.2.1 + (fP ks ss H most dn k q S - wP ks H most dn k q S)) ⟨Int.le_trans (by decide) F7.1, Int.le_trans F7.2 (by decide)⟩, wr2' (x := fP ks ss H most dn k q S) (y := ((iP ks ss H most dn k q).length : Int)) (z := ((ard H ks.length k q most 1 : Nat) : Int)) rfl F4 F5]
    have ix := imax14 S.2.2.2.2.1 ((rp S.1 (fP ks ss H most dn k q S).toNat (oP ks ss H most dn k q).length (iP ks ss H most dn k q)).length : Int)
    by_cases c1 : S.2.2.2.2.1 ≤ 14
    · rw [if_pos c1, if_pos rfl] at ix
      rw [if_pos c1, if_pos rfl]
      by_cases c2 : ((rp S.1 (fP ks ss H most dn k q S).toNat (oP ks ss H most dn k q).length (iP ks ss H most dn k q)).length : Int) ≤ 14
      · rw [if_pos c2] at ix
        have c2' : ((rp S.1 (fP ks ss H most dn k q S).toNat (oP ks ss H most dn k q).length (pt ks ss (sA dn) (aT H ks.length k q most) (aE H ks.length k q most - aT H ks.length k q most))).length : Int) ≤ 14 := c2
        rw [if_pos c2']
        dsimp only
        rw [gd_pos (Or.inl rfl : (0 : Int) = 0 ∨ (0 : Int) = 1)]
        obtain ⟨z1, z2⟩ := fin 0 ix.symm
        exact ⟨_, rfl, z1, z2⟩
      · rw [if_neg c2] at ix
        have c2' : ¬ ((rp S.1 (fP ks ss H most dn k q S).toNat (oP ks ss H most dn k q).length (pt ks ss (sA dn) (aT H ks.length k q most) (aE H ks.length k q most - aT H ks.length k q most))).length : Int) ≤ 14 := c2
        rw [if_neg c2']
        dsimp only
        rw [gd_pos (Or.inr rfl : (1 : Int) = 0 ∨ (1 : Int) = 1)]
        obtain ⟨z1, z2⟩ := fin 1 ix.symm
        exact ⟨_, rfl, z1, z2⟩
    · rw [if_neg c1, if_neg (show ¬ (1 : Int) = 0 by decide)] at ix
      rw [if_neg c1, if_neg (show ¬ (1 : Int) = 0 by decide)]
      dsimp only
      rw [gd_pos (Or.inr rfl : (1 : Int) = 0 ∨ (1 : Int) = 1)]
      obtain ⟨z1, z2⟩ := fin 1 ix.symm
      exact ⟨_, rfl, z1, z2⟩

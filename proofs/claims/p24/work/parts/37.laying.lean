/-! ===== the system lays ===== -/
theorem La_out_loop {T out : List Int} {p : Nat} (hp : p + out.length ≤ T.length) (hT : T.length ≤ 28) : ∀ (n m : Nat) (h : MH), RW h 66 (rp T p m []) → RW h 68 out → m ≤ out.length → out.length < m + n →
    ∃ h' x, F_La_replaceAt_L2 (p : Int) n (m : Int) h = some (x, h') ∧ RW h' 66 (rp T p out.length []) ∧ FR [66, 67] h h' := by
  intro n
  induction n with
  | zero => intro m h _ _ h1 h2; omega
  | succ n ih =>
    intro m h R1 R2 h1 h2
    unfold F_La_replaceAt_L2
    rw [R2.size]
    by_cases hc : m < out.length
    · have e1 : wr ((m : Int) + 1) = ((m + 1 : Nat) : Int) := by rw [wr_id (by omega)]; omega
      have hl := rp_len (T := T) (p := p) (n := m) [] (by omega)
      rw [List.length_nil] at hl
      obtain ⟨h1', f1, A, B⟩ := Ro_putOut R1 (i := (p : Int)) (Int.natCast_nonneg _) (by omega)
      rw [nn, rp_del (by omega)] at A
      rw [if_pos (lt_int hc), f1, ob1_s, e1]
      obtain ⟨h', x, g1, g2, g3⟩ := ih (m + 1) h1' A (R2.fr B (by decide) (by decide)) (by omega) (by omega)
      exact ⟨h', x, g1, g2, B.tr g3⟩
    · rw [if_neg (nlt_int hc)]
      rw [show m = out.length by omega] at R1 ⊢
      exact ⟨h, _, rfl, R1, FR.rf _ _⟩
theorem La_in_loop {T inn : List Int} {p k : Nat} (hp : p + k ≤ T.length) (hT : T.length - k + inn.length ≤ 28) : ∀ (n m : Nat) (h : MH), RW h 66 (rp T p k (inn.take m)) → RW h 70 inn → m ≤ inn.length → inn.length < m + n →
    ∃ h' x, F_La_replaceAt_L29 (p : Int) n (m : Int) h = some (x, h') ∧ RW h' 66 (rp T p k inn) ∧ FR [66, 67] h h' := by
  intro n
  induction n with
  | zero => intro m h _ _ h1 h2; omega
  | succ n ih =>
    intro m h R1 R2 h1 h2
    unfold F_La_replaceAt_L29
    rw [R2.size]
    by_cases hc : m < inn.length
    · have hT2 : T.length ≤ 28 + k := by omega
      have e1 : wr ((m : Int) + 1) = ((m + 1 : Nat) : Int) := by rw [wr_id (by omega)]; omega
      have e2 : wr ((p : Int) + (m : Int)) = ((p + m : Nat) : Int) := by
        have := R1.2.2.1
        rw [rp_len _ hp] at this
        rw [wr_id (by omega)]; omega
      have hm : (inn.take m).length = m := by rw [List.length_take, Nat.min_eq_left (by omega)]
      have hl := rp_len (T := T) (p := p) (n := k) (inn.take m) hp
      rw [hm] at hl
      rw [if_pos (lt_int hc), R2.at, e1, e2]
      obtain ⟨h1', f1, A, B⟩ := Ro_putIn R1 (i := ((p + m : Nat) : Int)) (v := lg inn (m : Int)) (Int.natCast_nonneg _) (by omega) (by show _ < 28; omega)
      have ev : lg inn (m : Int) = inn[m] := by
        rw [lg_in (Int.natCast_nonneg _), nn, List.getD_eq_getElem?_getD, List.getElem?_eq_getElem hc]
        rfl
      have er : ins (rp T p k (inn.take m)) (p + m) (lg inn (m : Int)) = rp T p k (inn.take (m + 1)) := by
        have := rp_ins (T := T) (p := p) (n := k) (I := inn.take m) (lg inn (m : Int)) hp
        rw [hm] at this
        rw [this, ev, List.take_succ_eq_append_getElem hc]
      rw [nn, er] at A
      rw [f1, ob1_s]
      obtain ⟨h', x, g1, g2, g3⟩ := ih (m + 1) h1' A (R2.fr B (by decide) (by decide)) (by omega) (by omega)
      exact ⟨h', x, g1, g2, B.tr g3⟩
    · rw [if_neg (nlt_int hc)]
      rw [List.take_of_length_le (by omega)] at R1
      exact ⟨h, _, rfl, R1, FR.rf _ _⟩
theorem La_replaceAt {h : MH} {T out inn : List Int} (R1 : RW h 66 T) (R2 : RW h 68 out) (R3 : RW h 70 inn) {p : Int} (h0 : 0 ≤ p) (hp : p + (out.length : Int) ≤ (T.length : Int)) (hl : T.length + inn.length ≤ 28 + out.length) :
    ∃ h', F_La_replaceAt p h = some h' ∧ RW h' 66 (rp T p.toNat out.length inn) ∧ FR [66, 67] h h' := by
  have hT : T.length ≤ 28 := R1.2.2.1
  have ho : out.length ≤ 28 := R2.2.2.1
  have hi : inn.length ≤ 28 := R3.2.2.1
  have ep : p = (p.toNat : Int) := by omega
  generalize p.toNat = a at *
  subst ep
  obtain ⟨h1, x1, f1, A1, B1⟩ := La_out_loop (T := T) (out := out) (p := a) (by omega) hT FUEL 0 h (by rw [rp_0]; exact R1) R2 (Nat.zero_le _) (by rw [FUEL_eq]; omega)
  obtain ⟨h2, x2, f2, A2, B2⟩ := La_in_loop (T := T) (inn := inn) (p := a) (k := out.length) (by omega) (by omega) FUEL 0 h1 (by rw [List.take_zero]; exact A1) (R3.fr B1 (by decide) (by decide)) (Nat.zero_le _) (by rw [FUEL_eq]; omega)
  rw [show ((0 : Nat) : Int) = 0 from rfl] at f1 f2
  unfold F_La_replaceAt
  rw [f1, ob2_s, f2, ob2_s]
  exact ⟨h2, rfl, A2, B1.tr B2⟩
def LM (h : MH) (S : LayS) : Prop := RW h 66 S.1 ∧ RW h 72 S.2.1 ∧ RW h 74 S.2.2.1 ∧ h 65 5 = S.2.2.2.1 ∧ h 65 6 = S.2.2.2.2.1 ∧ h 65 7 = S.2.2.2.2.2.1 ∧ h 65 8 = S.2.2.2.2.2.2.1 ∧ h 65 9 = S.2.2.2.2.2.2.2
def LR : List Nat := [65, 66, 67, 68, 69, 70, 71, 72, 73, 74, 75]
theorem VC.fr {h h' : MH} {ks ss : List Int} {H : HL} {S : List Nat} (V : VC h ks ss H) (F : FR S h h') (hS : ∀ x ∈ S, x < 55 ∨ 64 < x) : VC h' ks ss H := by
  obtain ⟨a, b, c, d, e, f⟩ := V
  have hn : ∀ x, 55 ≤ x → x ≤ 64 → x ∉ S := fun x h1 h2 hm => by have := hS x hm; omega
  exact ⟨a.fr F (hn 55 (by omega) (by omega)) (hn 56 (by omega) (by omega)), b.fr F (hn 57 (by omega) (by omega)) (hn 58 (by omega) (by omega)), c.fr F (hn 59 (by omega) (by omega)) (hn 60 (by omega) (by omega)), d.fr F (hn 61 (by omega) (by omega)) (hn 62 (by omega) (by omega)), e.fr F (hn 63 (by omega) (by omega)) (hn 64 (by omega) (by omega)), f⟩
theorem wr2 {x y z w : Int} (h : w = x + y + z) (h1 : -1000 ≤ x + y ∧ x + y ≤ 1000) (h2 : -1000 ≤ w ∧ w ≤ 1000) : wr (wr (x + y) + z) = w := by
  rw [wr_id (z := x + y) (by omega), wr_id (by omega)]; exact h.symm
theorem wr2' {x y z w : Int} (h : w = x + y - z) (h1 : -1000 ≤ x + y ∧ x + y ≤ 1000) (h2 : -1000 ≤ w ∧ w ≤ 1000) : wr (wr (x + y) - z) = w := by
  rw [wr_id (z := x + y) (by omega), wr_id (by omega)]; exact h.symm
theorem La_tail {h8 : MH} {T' inn out P W : List Int} {laid lng shift growth f d bel : Int} (R1 : RW h8 66 T') (R2 : RW h8 68 out) (R3 : RW h8 70 inn) (R4 : RW h8 72 P) (R5 : RW h8 74 W)
    (m4 : h8 65 5 = laid) (m5 : h8 65 6 = lng) (m6 : h8 65 7 = shift) (m7 : h8 65 8 = growth) (b1 : -500 ≤ laid ∧ laid ≤ 500) (b2 : -500 ≤ shift + d ∧ shift + d ≤ 500) (b3 : -200 ≤ growth ∧ growth ≤ 200) (b4 : -200 ≤ f ∧ f ≤ 200) (b5 : 0 ≤ bel ∧ bel ≤ 100) :
    ∃ h', jn1 (up h8 65 8 (wr ((h8 65 8) + (wr ((F_Ro_size 70 h8) - (F_Ro_size 68 h8)))))) (fun (h10 : MH) => jn1 (up h10 65 7 (wr ((h10 65 7) + d))) (fun (h12 : MH) => jn1 (up h12 65 9 (wr ((wr (f + (F_Ro_size 70 h12))) - bel))) (fun (h14 : MH) => jn1 (up h14 65 6 (imax (h14 65 6) (F_Ro_size 66 h14))) (fun (h16 : MH) => jn1 (up h16 65 5 (wr ((h16 65 5) + 1))) (fun (h18 : MH) => some h18))))) = some h' ∧
      LM h' (T', P, W, laid + 1, imax lng (T'.length : Int), shift + d, growth + ((inn.length : Int) - (out.length : Int)), f + (inn.length : Int) - bel) ∧ FR [65] h8 h' := by
  have c1 : T'.length ≤ 28 := R1.2.2.1
  have c2 : out.length ≤ 28 := R2.2.2.1
  have c3 : inn.length ≤ 28 := R3.2.2.1
  have g1 : wr ((h8 65 8) + (wr ((F_Ro_size 70 h8) - (F_Ro_size 68 h8)))) = growth + ((inn.length : Int) - (out.length : Int)) := by
    rw [R3.size, R2.size, m7, wr_id (z := (inn.length : Int) - (out.length : Int)) (by omega), wr_id (by omega)]
  rw [jn1_p, g1]
  have k1 : ∀ v : Int, up h8 65 8 v 65 7 = shift := fun v => by rw [up_other (by decide)]; exact m6
  rw [jn1_p, k1, wr_id (z := shift + d) (by omega), jn1_p]
  have k2 : ∀ v w : Int, F_Ro_size 70 (up (up h8 65 8 v) 65 7 w) = (inn.length : Int) := fun v w => ((R3.upo (by decide) (by decide)).upo (by decide) (by decide)).size
  rw [k2, wr2' (x := f) (y := (inn.length : Int)) (z := bel) rfl (by omega) (by omega), jn1_p]
  have k3 : ∀ v w u : Int, F_Ro_size 66 (up (up (up h8 65 8 v) 65 7 w) 65 9 u) = (T'.length : Int) := fun v w u => (((R1.upo (by decide) (by decide)).upo (by decide) (by decide)).upo (by decide) (by decide)).size
  have k4 : ∀ v w u : Int, up (up (up h8 65 8 v) 65 7 w) 65 9 u 65 6 = lng := fun v w u => by rw [up_other (by decide), up_other (by decide), up_other (by decide)]; exact m5
  rw [k3, k4, jn1_p]
  have k5 : ∀ v w u t : Int, up (up (up (up h8 65 8 v) 65 7 w) 65 9 u) 65 6 t 65 5 = laid := fun v w u t => by rw [up_other (by decide), up_other (by decide), up_other (by decide), up_other (by decide)]; exact m4
  rw [k5, wr_id (z := laid + 1) (by omega)]
  refine ⟨_, rfl, ⟨?_, ?_, ?_, ?_, ?_, ?_, ?_, ?_⟩, ?_⟩
  · exact ((((R1.upo (by decide) (by decide)).upo (by decide) (by decide)).upo (by decide) (by decide)).upo (by decide) (by decide)).upo (by decide) (by decide)
  · exact ((((R4.upo (by decide) (by decide)).upo (by decide) (by decide)).upo (by decide) (by decide)).upo (by decide) (by decide)).upo (by decide) (by decide)
  · exact ((((R5.upo (by decide) (by decide)).upo (by decide) (by decide)).upo (by decide) (by decide)).upo (by decide) (by decide)).upo (by decide) (by decide)
  · rw [up_at]
  · rw [up_other (by decide), up_at]
  · rw [up_other (by decide), up_other (by decide), up_other (by decide), up_at]
  · rw [up_other (by decide), up_other (by decide), up_other (by decide), up_other (by decide), up_at]
  · rw [up_other (by decide), up_other (by decide), up_at]
  · exact ((((FR.up (by decide)).tr (FR.up (by decide))).tr (FR.up (by decide))).tr (FR.up (by decide))).tr (FR.up (by decide))
theorem La_layOne {h : MH} {ks ss : List Int} {H : HL} (V : VC h ks ss H) (hk : KOK ks) {k : Nat} {q : Nat × Nat} (hq : H[k]? = some q) {most : Nat} {dn : Int} {n0 : Nat} (hn0 : n0 ≤ 14) (hc : cn ks (sR dn) 0 ks.length ≤ 14) {S : LayS} (I : LI ks H dn n0 k S) (M : LM h S) :
    ∃ h', F_La_layOne (k : Int) (most : Int) dn h = some h' ∧ LM h' (lst ks ss H most dn k S) ∧ FR LR h h' := by
  have hs := V.2.2.2.2.2.1
  have h28 := V.2.2.2.2.2.2.2
  have h14 := hs.len14 h28
  have hkl := (List.getElem?_eq_some_iff.mp hq).1
  have B := lay_bd (ss := ss) (most := most) hs hk h28 hq hn0 hc I
  have pf := part_facts (ss := ss) hs hk hq most (sR dn) (sRA dn).1
  have ar := ard_bd hs hq most
  have e1 := pvE_le hs hq
  have e2 := nxT_ge hs hq
  have vq := V.q hq
  obtain ⟨m1, m2, m3, m4, m5, m6, m7, m8⟩ := M
  obtain ⟨i1, i2, i3, i4, i5, i6, i7, i8⟩ := I
  have nb : ard H ks.length k q most 0 ≤ q.1 ∧ aT H ks.length k q most ≤ 99 ∧ aE H ks.length k q most ≤ 99 ∧ aT H ks.length k q most ≤ aE H ks.length k q most ∧ aE H ks.length k q most ≤ ks.length ∧ aT H ks.length k q most ≤ 28 ∧ ard H ks.length k q most 1 ≤ 28 := by omega
  have ua : wr ((q.1 : Int) - ((ard H ks.length k q most 0 : Nat) : Int)) = ((aT H ks.length k q most : Nat) : Int) := wr_m _ (Int.ofNat_sub nb.1).symm nb.2.1
  have ue : wr ((q.2 : Int) + ((ard H ks.length k q most 1 : Nat) : Int)) = ((aE H ks.length k q most : Nat) : Int) := wr_m _ (Int.natCast_add _ _).symm nb.2.2.1
  obtain ⟨h1, f1, r1, r2, w1⟩ := La_takeParts V (a := aT H ks.length k q most) (b := aE H ks.length k q most) nb.2.2.2.1 nb.2.2.2.2.1 dn
  have V1 : VC h1 ks ss H := V.fr w1 (by decide)
  have n66 : RW h1 66 S.1 := m1.fr w1 (by decide) (by decide)
  have n72 : RW h1 72 S.2.1 := m2.fr w1 (by decide) (by decide)
  have n74 : RW h1 74 S.2.2.1 := m3.fr w1 (by decide) (by decide)
  have n65 : h1 65 = h 65 := w1 65 (by decide)
  have ah : (if dn = 0 then F_V_oldAhead ((aT H ks.length k q most : Nat) : Int) h1 else F_V_newAhead ((aT H ks.length k q most : Nat) : Int) h1) = some (((aT H ks.length k q most : Nat) : Int) - cn ks (sR dn) 0 (aT H ks.length k q most)) := by
    have := V_ahead V1.1 (p := aT H ks.length k q most) nb.2.2.2.2.2.1
    unfold sR
    by_cases c : dn = 0
    · rw [if_pos c, if_pos c]; exact this.2
    · rw [if_neg c, if_neg c]; exact this.1
  unfold F_La_layOne
  rw [V_top V hq, V_end V hq, V_around V hq most 0, V_around V hq most 1, ua, ue, f1, ob1_s]
  have key : ∀ (X : Int → Option MH), jk1 X (fun kj4 => if dn = 0 then ob1 (F_V_oldAhead ((aT H ks.length k q most : Nat) : Int) h1) (fun (r22 : Int) => kj4 r22) else ob1 (F_V_newAhead ((aT H ks.length k q most : Nat) : Int) h1) (fun (r24 : Int) => kj4 r24)) = X (((aT H ks.length k q most : Nat) : Int) - cn ks (sR dn) 0 (aT H ks.length k q most)) := by
    intro X
    show (if dn = 0 then ob1 (F_V_oldAhead ((aT H ks.length k q most : Nat) : Int) h1) (fun (r22 : Int) => X r22) else ob1 (F_V_newAhead ((aT H ks.length k q most : Nat) : Int) h1) (fun (r24 : Int) => X r24)) = _
    by_cases c : dn = 0
    · rw [if_pos c] at ah ⊢; rw [ah]; rfl
    · rw [if_neg c] at ah ⊢; rw [ah]; rfl
  rw [key]
  have ew : wr (wr (((aT H ks.length k q most : Nat) : Int) - cn ks (sR dn) 0 (aT H ks.length k q most) + h1 65 8) + h1 65 7) = wP ks H most dn k q S := by
    rw [n65, m7, m6]
    exact wr2 rfl ⟨by omega, by omega⟩ ⟨by omega, by omega⟩
  rw [ew]
  have hf := fnd_spec (T := S.1) (out := oP ks ss H most dn k q) (first := S.2.2.2.2.2.2.2) (w := wP ks H most dn k q S) 113 0
  have hse : F_La_search (wP ks H most dn k q S) h1 = some (fP ks ss H most dn k q S) := La_search n66 r1 B.2.2.1 (w := wP ks H most dn k q S) (first := S.2.2.2.2.2.2.2) (by rw [n65]; exact m8) (by omega)
  have hfe : fnd S.1 (oP ks ss H most dn k q) S.2.2.2.2.2.2.2 (wP ks H most dn k q S) 113 0 = fP ks ss H most dn k q S := rfl
  rw [hfe] at hf
  rw [hse, ob1_s]
  have Bf : -4 ≤ fP ks ss H most dn k q S ∧ fP ks ss H most dn k q S ≤ 28 := by
    rcases hf with e | e
    · rw [e]; decide
    · have := fit_in e; omega
  have ed : wr (fP ks ss H most dn k q S - wP ks H most dn k q S) = fP ks ss H most dn k q S - wP ks H most dn k q S := wr_id ⟨by omega, by omega⟩
  rw [ed]
  obtain ⟨A1, C1⟩ := Ro_add n72 (fP ks ss H most dn k q S) (by show _ < 28; omega)
  obtain ⟨A2, C2⟩ := Ro_add (n74.fr C1 (by decide) (by decide)) (fP ks ss H most dn k q S - wP ks H most dn k q S) (by show _ < 28; omega)
  have A1' := A1.fr C2 (by decide) (by decide)
  have W2 : FR LR h (F_Ro_add 74 (fP ks ss H most dn k q S - wP ks H most dn k q S) (F_Ro_add 72 (fP ks ss H most dn k q S) h1)) := ((w1.mono (S' := LR) (by decide)).tr (C1.mono (S' := LR) (by decide))).tr (C2.mono (S' := LR) (by decide))
  have W12 : FR [72, 73, 74, 75] h1 (F_Ro_add 74 (fP ks ss H most dn k q S - wP ks H most dn k q S) (F_Ro_add 72 (fP ks ss H most dn k q S) h1)) := (C1.mono (S' := [72, 73, 74, 75]) (by decide)).tr (C2.mono (S' := [72, 73, 74, 75]) (by decide))
  generalize F_Ro_add 74 (fP ks ss H most dn k q S - wP ks H most dn k q S) (F_Ro_add 72 (fP ks ss H most dn k q S) h1) = h2 at *
  have p65 : h2 65 = h 65 := by rw [W12 65 (by decide)]; exact n65
  unfold lst
  rw [hq]
  dsimp only
  by_cases c : fP ks ss H most dn k q S = -4
  · rw [if_pos c, if_pos c]
    refine ⟨h2, rfl, ⟨n66.fr W12 (by decide) (by decide), A1', A2, ?_, ?_, ?_, ?_, ?_⟩, W2⟩
    · rw [p65]; exact m4
    · rw [p65]; exact m5
    · rw [p65]; exact m6
    · rw [p65]; exact m7
    · rw [p65]; exact m8
  · rw [if_neg c, if_neg c]
    obtain ⟨x1, x2, x3⟩ := fit_in (hf.resolve_left c)
    obtain ⟨h8, f8, R8, w8⟩ := La_replaceAt (n66.fr W12 (by decide) (by decide)) (r1.fr W12 (by decide) (by decide)) (r2.fr W12 (by decide) (by decide)) (p := fP ks ss H most dn k q S) (by omega) x2 (by
      have y1 := B.2.2.2.2.2.1
      have y2 := B.2.2.2.2.2.2.1
      have y3 : ((pt ks ss (sA dn) (aT H ks.length k q most) (aE H ks.length k q most - aT H ks.length k q most)).length : Int) = ((iP ks ss H most dn k q).length : Int) := rfl
      have y4 : ((pt ks ss (sR dn) (aT H ks.length k q most) (aE H ks.length k q most - aT H ks.length k q most)).length : Int) = ((oP ks ss H most dn k q).length : Int) := rfl
      omega)
    rw [f8, ob1_s]
    have q65 : h8 65 = h 65 := by rw [w8 65 (by decide)]; exact p65
    obtain ⟨h', g1, g2, g3⟩ := La_tail (d := fP ks ss H most dn k q S - wP ks H most dn k q S) (f := fP ks ss H most dn k q S) (bel := ((ard H ks.length k q most 1 : Nat) : Int)) R8 ((r1.fr W12 (by decide) (by decide)).fr w8 (by decide) (by decide)) ((r2.fr W12 (by decide) (by decide)).fr w8 (by decide) (by decide)) (A1'.fr w8 (by decide) (by decide)) (A2.fr w8 (by decide) (by decide))
      (laid := S.2.2.2.1) (lng := S.2.2.2.2.1) (shift := S.2.2.2.2.2.1) (growth := S.2.2.2.2.2.2.1) (by rw [q65]; exact m4) (by rw [q65]; exact m5) (by rw [q65]; exact m6) (by rw [q65]; exact m7) (by omega) (by omega) (by omega) (by omega) (by omega)
    refine ⟨h', g1, g2, (W2.tr (w8.mono (S' := LR) (by decide))).tr (g3.mono (S' := LR) (by decide))⟩
/-- all hunks from k on -/
def lsn (ks ss : List Int) (H : HL) (most : Nat) (dn : Int) : Nat → Nat → LayS → LayS
  | 0, _, S => S
  | n + 1, k, S => lsn ks ss H most dn n (k + 1) (lst ks ss H most dn k S)
theorem La_all_loop {ks ss : List Int} {H : HL} (hk : KOK ks) {most : Nat} {dn : Int} {n0 : Nat} (hn0 : n0 ≤ 14) (hc : cn ks (sR dn) 0 ks.length ≤ 14) : ∀ (n r k : Nat) (h : MH) (S : LayS), VC h ks ss H → LM h S → LI ks H dn n0 k S → k + r = H.length → r < n →
    ∃ h' x, F_La_layAll_L50 (most : Int) dn n (k : Int) h = some (x, h') ∧ LM h' (lsn ks ss H most dn r k S) ∧ LI ks H dn n0 H.length (lsn ks ss H most dn r k S) ∧ FR LR h h' := by
  intro n
  induction n with
  | zero => intro r k h S _ _ _ _ h2; omega
  | succ n ih =>
    intro r k h S V M I h1 h2
    have hs := V.2.2.2.2.2.1
    have h28 := V.2.2.2.2.2.2.2
    have h14 := hs.len14 h28
    unfold F_La_layAll_L50 F_V_hunks
    rw [V.2.2.1.size, tops_len]
    cases r with
    | zero =>
      rw [if_neg (by omega)]
      rw [show k = H.length by omega] at I
      exact ⟨h, _, rfl, M, I, FR.rf _ _⟩
    | succ r =>
      have hkl : k < H.length := by omega
      have hq : H[k]? = some (H[k]'hkl) := List.getElem?_eq_getElem _
      generalize H[k]'hkl = q at hq
      have e1 : wr ((k : Int) + 1) = ((k + 1 : Nat) : Int) := by rw [wr_id (by omega)]; omega
      obtain ⟨h1', f1, M1, w1⟩ := La_layOne V hk hq (most := most) hn0 hc I M
      have I1 := lst_ok (ss := ss) (most := most) hs hk h28 hq hn0 hc I
      rw [if_pos (lt_int hkl), f1, ob1_s, e1, lsn]
      obtain ⟨h', x, g1, g2, g3, g4⟩ := ih r (k + 1) h1' _ (V.fr w1 (by decide)) M1 I1 (by omega) (by omega)
      exact ⟨h', x, g1, g2, g3, w1.tr g4⟩
def S0 (T : List Int) : LayS := (T, [], [], 0, 0, 0, 0, 0)
def lay (ks ss : List Int) (H : HL) (most : Nat) (dn : Int) (T : List Int) : LayS := lsn ks ss H most dn H.length 0 (S0 T)
theorem LI0 {ks : List Int} {H : HL} (dn : Int) {T : List Int} (hT : T.length ≤ 14) : LI ks H dn T.length 0 (S0 T) := by
  refine ⟨?_, rfl, rfl, (by decide : (0 : Int) ≤ 0 ∧ (0 : Int) ≤ 0), (by decide : (0 : Int) ≤ 0 ∧ (0 : Int) ≤ 28), (by decide : (-56 : Int) ≤ 0 + 0 ∧ (0 : Int) + 0 ≤ 56), ?_, (by decide : (0 : Int) ≤ 0 ∧ (0 : Int) ≤ 100)⟩
  · show (T.length : Int) ≤ 14 + cn ks (sR dn) 0 0
    rw [show cn ks (sR dn) 0 0 = 0 from rfl]; omega
  · show (0 : Int) = (T.length : Int) - (T.length : Int)
    omega
theorem La_layAll {h : MH} {ks ss : List Int} {H : HL} (V : VC h ks ss H) (hk : KOK ks) {o : Nat} {T : List Int} (RT : RW h o T) (ho : o < 55) (hT : T.length ≤ 14) (most : Nat) (dn : Int) (hc : cn ks (sR dn) 0 ks.length ≤ 14) :
    ∃ h', F_La_layAll o (most : Int) dn h = some h' ∧ LM h' (lay ks ss H most dn T) ∧ LI ks H dn T.length H.length (lay ks ss H most dn T) ∧ FR LR h h' := by
  have h14 := V.2.2.2.2.2.1.len14 V.2.2.2.2.2.2.2
  unfold F_La_layAll
  obtain ⟨h1, f1, A1, w1⟩ := Ro_become (h := h) (o := 66) rfl RT (by omega) (by show _ ≤ 28; omega)
  rw [f1, ob1_s]
  obtain ⟨A2, w2⟩ := Ro_emptyOut (h := h1) (o := 72) rfl
  obtain ⟨A3, w3⟩ := Ro_emptyOut (h := F_Ro_emptyOut 72 h1) (o := 74) rfl
  have W3 : FR LR h (F_Ro_emptyOut 74 (F_Ro_emptyOut 72 h1)) := ((w1.mono (S' := LR) (by decide)).tr (w2.mono (S' := LR) (by decide))).tr (w3.mono (S' := LR) (by decide))
  have B1 := (A1.fr w2 (by decide) (by decide)).fr w3 (by decide) (by decide)
  have B2 := A2.fr w3 (by decide) (by decide)
  generalize F_Ro_emptyOut 74 (F_Ro_emptyOut 72 h1) = h2 at *
  have M : LM (up (up (up (up (up h2 65 5 0) 65 6 0) 65 7 0) 65 8 0) 65 9 0) (S0 T) := by
    refine ⟨?_, ?_, ?_, ?_, ?_, ?_, ?_, ?_⟩
    · exact ((((B1.upo (by decide) (by decide)).upo (by decide) (by decide)).upo (by decide) (by decide)).upo (by decide) (by decide)).upo (by decide) (by decide)
    · exact ((((B2.upo (by decide) (by decide)).upo (by decide) (by decide)).upo (by decide) (by decide)).upo (by decide) (by decide)).upo (by decide) (by decide)
    · exact ((((A3.upo (by decide) (by decide)).upo (by decide) (by decide)).upo (by decide) (by decide)).upo (by decide) (by decide)).upo (by decide) (by decide)
    · rw [up_other (by decide), up_other (by decide), up_other (by decide), up_other (by decide), up_at]; rfl
    · rw [up_other (by decide), up_other (by decide), up_other (by decide), up_at]; rfl
    · rw [up_other (by decide), up_other (by decide), up_at]; rfl
    · rw [up_other (by decide), up_at]; rfl
    · rw [up_at]; rfl
  have W4 : FR LR h2 (up (up (up (up (up h2 65 5 0) 65 6 0) 65 7 0) 65 8 0) 65 9 0) := ((((FR.up (by decide)).tr (FR.up (by decide))).tr (FR.up (by decide))).tr (FR.up (by decide))).tr (FR.up (by decide))
  obtain ⟨h', x, g1, g2, g3, g4⟩ := La_all_loop hk (most := most) hT hc FUEL H.length 0 _ (S0 T) (V.fr (W3.tr W4) (by decide)) M (LI0 dn hT) (by omega) (by rw [FUEL_eq]; omega)
  rw [show ((0 : Nat) : Int) = 0 from rfl] at g1
  rw [g1]
  exact ⟨h', rfl, g2, g3, (W3.tr W4).tr g4⟩

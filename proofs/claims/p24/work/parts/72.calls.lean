/-! ===== what the class answers: calls that change ===== -/
theorem ob4_s {α0 α1 α2 α3 β : Type} {x : α0} {y : α1} {z : α2} {u : α3} {f : α0 → α1 → α2 → α3 → Option β} : ob4 (some (x, y, z, u)) f = f x y z u := rfl
theorem jn1_q {α β : Type} (v : α) (f : α → β) : jn1 v f = f v := rfl
section CHG
variable {h : MH} {g : SG} {hist : List SG} {sv : Option SG}
theorem q_save (I : INV h g hist sv) : AK (F_X_save h) (dst g.1 g.2.1) g hist (some g) := by
  obtain ⟨pad, C, og, oh, os⟩ := I
  obtain ⟨c1, c2, c3, c4, c5⟩ := C
  obtain ⟨h1, f1, s1, w1⟩ := St_become (o := 10) (p := 3) rfl c2 (by decide)
  have C1 : CR (up h1 0 3 1) pad g hist (some g) := by
    refine ⟨(c1.fr w1 (by decide) (by decide)).upo (by decide) (by decide), ?_, ?_, by rw [up_at]; rfl, fun q hq => ?_⟩
    · exact (c2.fr w1 (by decide)).fr (FR.up (S := [0]) (by simp)) (by decide)
    · exact (c3.fr w1 (by decide)).fr (FR.up (S := [0]) (by simp)) (by decide)
    · cases hq
      exact s1.fr (FR.up (S := [0]) (by simp)) (by decide)
  obtain ⟨h2, f2, w2⟩ := X_now C1 og
  refine ⟨h2, ?_, pad, C1.fr w2 (by decide), og, oh, fun q hq => by cases hq; exact og⟩
  unfold F_X_save
  rw [f1, ob1_s, f2, ob2_s]
theorem q_restore {x : SG} (I : INV h g hist (some x)) : AK (F_X_restore h) (dst x.1 x.2.1) x (hpush hist g) (some x) := by
  obtain ⟨pad, C, og, oh, os⟩ := I
  have ox := os x rfl
  obtain ⟨h1, f1, a1, w1⟩ := Hi_record C.2.2.1 C.2.1
  have C1 := C.rec w1 a1
  have s10 : ST h1 10 x := C1.2.2.2.2 x rfl
  obtain ⟨h2, f2, s2, w2⟩ := St_become (o := 3) (p := 10) rfl s10 (by decide)
  have C2 : CR h2 pad x (hpush hist g) (some x) := by
    obtain ⟨c1, c2, c3, c4, c5⟩ := C1
    refine ⟨c1.fr w2 (by decide) (by decide), s2, c3.fr w2 (by decide), by rw [w2 0 (by decide)]; exact c4, fun q hq => (c5 q hq).fr w2 (by decide)⟩
  obtain ⟨h3, f3, w3⟩ := X_now C2 ox
  refine ⟨h3, ?_, pad, C2.fr w3 (by decide), ox, hpush_ok oh og, os⟩
  unfold F_X_restore
  have e : h 0 3 = 1 := C.2.2.2.1
  rw [if_neg (by rw [e]; decide), f1, ob1_s, f2, ob1_s, f3, ob2_s]
theorem q_restore_none (I : INV h g hist none) : AK (F_X_restore h) (-2) g hist none := by
  have I0 := I
  obtain ⟨pad, C, og, oh, os⟩ := I
  refine ⟨h, ?_, I0⟩
  unfold F_X_restore
  have e : h 0 3 = 0 := C.2.2.2.1
  rw [if_pos e]
theorem q_undo_none (I : INV h g [] sv) : AK (F_X_undo h) (-2) g [] sv := by
  have I0 := I
  obtain ⟨pad, C, og, oh, os⟩ := I
  refine ⟨h, ?_, I0⟩
  unfold F_X_undo F_Hi_isEmpty
  have e : h 17 1 = 0 := C.2.2.1.1
  rw [if_pos e, if_neg (show ¬ (1 : Int) = 0 by decide)]
theorem q_undo {x : SG} (I : INV h g (hist ++ [x]) sv) : AK (F_X_undo h) (hist.length : Int) x hist sv := by
  obtain ⟨pad, C, og, oh, os⟩ := I
  obtain ⟨c1, c2, c3, c4, c5⟩ := C
  obtain ⟨h1, f1, a1, a2, w1⟩ := Hi_takeBack c3
  have ln : h 17 1 = ((hist.length + 1 : Nat) : Int) := by rw [c3.1, List.length_append]; rfl
  refine ⟨h1, ?_, pad, ⟨c1.fr w1 (by decide) (by decide), a2, a1, by rw [w1 0 (by decide)]; exact c4, fun q hq => (c5 q hq).fr w1 (by decide)⟩, oh x (by simp), fun q hq => oh q (by simp [hq]), os⟩
  unfold F_X_undo F_Hi_isEmpty F_Hi_size
  have e : (if h 17 1 = 0 then (1 : Int) else 0) = 0 := if_neg (by omega)
  rw [if_pos e, f1, ob1_s, a1.1]
theorem q_set0 (I : INV h g hist sv) {p2 : Int} (hp : 0 ≤ p2 ∧ p2 ≤ 3) : AK (F_X_set 0 p2 h) g.2.2.2.1 (g.1, g.2.1, g.2.2.1, p2, g.2.2.2.2) (hpush hist g) sv := by
  obtain ⟨pad, C, og, oh, os⟩ := I
  obtain ⟨h1, f1, a1, w1⟩ := Hi_record C.2.2.1 C.2.1
  obtain ⟨c1, ⟨d0, d1, d2, d3, d4, d5, d6, d7⟩, c3, c4, c5⟩ := C.rec w1 a1
  have F : FR [3] h1 (up h1 3 3 p2) := FR.up (by simp)
  refine ⟨up h1 3 3 p2, ?_, pad, ⟨c1.fr F (by decide) (by decide), ⟨d0, d1.fr F (by decide) (by decide), d2.fr F (by decide) (by decide), d3.fr F (by decide) (by decide), by rw [up_at], by rw [up_other (by decide)]; exact d5, by rw [up_other (by decide)]; exact d6, by rw [up_other (by decide)]; exact d7⟩, c3.fr F (by decide), by rw [F 0 (by decide)]; exact c4, fun q hq => (c5 q hq).fr F (by decide)⟩, ⟨og.1, og.2.1, og.2.2.1, hp, og.2.2.2.2⟩, hpush_ok oh og, os⟩
  unfold F_X_set F_St_setting F_St_changeSetting
  rw [jk1_p, if_pos rfl, if_neg (by omega), jn1_p, if_pos rfl, if_pos hp.2, f1, ob1_s, if_pos rfl, if_pos rfl, d4]
theorem q_set1 (I : INV h g hist sv) {p2 : Int} (hp : 0 ≤ p2 ∧ p2 ≤ 1) : AK (F_X_set 1 p2 h) g.2.2.2.2.1 (g.1, g.2.1, g.2.2.1, g.2.2.2.1, p2, g.2.2.2.2.2) (hpush hist g) sv := by
  obtain ⟨pad, C, og, oh, os⟩ := I
  obtain ⟨h1, f1, a1, w1⟩ := Hi_record C.2.2.1 C.2.1
  obtain ⟨c1, ⟨d0, d1, d2, d3, d4, d5, d6, d7⟩, c3, c4, c5⟩ := C.rec w1 a1
  have F : FR [3] h1 (up h1 3 4 p2) := FR.up (by simp)
  have z1 : ¬ (1 : Int) = 0 := by decide
  refine ⟨up h1 3 4 p2, ?_, pad, ⟨c1.fr F (by decide) (by decide), ⟨d0, d1.fr F (by decide) (by decide), d2.fr F (by decide) (by decide), d3.fr F (by decide) (by decide), by rw [up_other (by decide)]; exact d4, by rw [up_at], by rw [up_other (by decide)]; exact d6, by rw [up_other (by decide)]; exact d7⟩, c3.fr F (by decide), by rw [F 0 (by decide)]; exact c4, fun q hq => (c5 q hq).fr F (by decide)⟩, ⟨og.1, og.2.1, og.2.2.1, og.2.2.2.1, hp⟩, hpush_ok oh og, os⟩
  unfold F_X_set F_St_setting F_St_changeSetting
  rw [jk1_p, if_neg z1, if_pos rfl, if_neg (by omega), jn1_p, if_neg z1, if_pos hp.2, f1, ob1_s, if_neg z1, if_neg z1, d5]
/-- a call that records and changes one text -/
theorem q_text (I : INV h g hist sv) {t : Nat} (ht : t ≤ 2) {l : List Int} (ol : OKt l) {x : Option (Int × MH)} {r : Int}
    (hX : ∀ pad h1, CR h pad g hist sv → F_Hi_record 3 h = some h1 → CR h1 pad g (hpush hist g) sv → ∃ h', x = some (r, h') ∧ RW h' (4 + 2 * t) l ∧ FR [4 + 2 * t, 4 + 2 * t + 1] h1 h') : AK x r (setT g t l) (hpush hist g) sv := by
  obtain ⟨pad, C, og, oh, os⟩ := I
  obtain ⟨h1, f1, a1, w1⟩ := Hi_record C.2.2.1 C.2.1
  have C1 := C.rec w1 a1
  obtain ⟨h', x1, x2, x3⟩ := hX pad h1 C f1 C1
  exact ⟨h', x1, pad, C1.setT ht x2 x3, og.setT ht ol, hpush_ok oh og, os⟩
theorem q_new (I : INV h g hist sv) {t : Nat} (ht : t ≤ 2) {i : Nat} {v : Int} (hv : 0 ≤ v ∧ v ≤ 8) (hi : i ≤ (getT g t).length) (hf : (getT g t).length < 14) : AK (F_X_edit (t : Int) (i : Int) v h) ((getT g t).length + 1) (setT g t (ins (getT g t) i v)) (hpush hist g) sv := by
  have ol := I.og.getT ht
  refine q_text I ht (ins_ok ol hi hv hf) (fun pad h1 C f1 C1 => ?_)
  obtain ⟨h', a, b, c⟩ := Ro_putIn (C1.2.1.getT ht) (i := (i : Int)) (v := v) (by omega) (by omega) (by rw [(kd_text ht).2.1]; exact hf)
  rw [nn] at b
  refine ⟨h', ?_, b, c⟩
  rw [X_edit_new C ht hv ⟨Int.natCast_nonneg _, by omega⟩ (by omega), f1, ob1_s, a, ob1_s, b.size, ins_len hi]
  rfl
theorem q_full (I : INV h g hist sv) {t : Nat} (ht : t ≤ 2) {i : Nat} {v : Int} (hv : 0 ≤ v ∧ v ≤ 8) (hi : i ≤ (getT g t).length) (hf : ¬ (getT g t).length < 14) : AK (F_X_edit (t : Int) (i : Int) v h) (-3) g hist sv := by
  have I0 := I
  obtain ⟨pad, C, og, oh, os⟩ := I
  exact ⟨h, X_edit_full C ht hv ⟨Int.natCast_nonneg _, by omega⟩ (by omega), I0⟩
theorem q_ch (I : INV h g hist sv) {t : Nat} (ht : t ≤ 2) {i : Nat} {v : Int} (hv : 0 ≤ v ∧ v ≤ 8) (hi : i < (getT g t).length) : AK (F_X_edit (t : Int) (i : Int) (10 + v) h) ((getT g t).length) (setT g t ((getT g t).set i v)) (hpush hist g) sv := by
  have ol := I.og.getT ht
  refine q_text I ht (lset_ok ol hv) (fun pad h1 C f1 C1 => ?_)
  obtain ⟨b, c⟩ := Ro_change (C1.2.1.getT ht) (i : Int) v (by omega) (by omega)
  rw [nn] at b
  refine ⟨_, ?_, b, c⟩
  have e : 10 + v - 10 = v := by omega
  rw [X_edit_ch C (by unfold inR; omega) ht (by omega) ⟨Int.natCast_nonneg _, by omega⟩, f1, ob1_s, e, b.size, lset_len]
theorem q_out (I : INV h g hist sv) {t : Nat} (ht : t ≤ 2) {i : Nat} (hi : i < (getT g t).length) : AK (F_X_edit (t : Int) (i : Int) 20 h) ((getT g t).length - 1) (setT g t (del (getT g t) i)) (hpush hist g) sv := by
  have ol := I.og.getT ht
  refine q_text I ht (del_ok ol hi) (fun pad h1 C f1 C1 => ?_)
  obtain ⟨h', a, b, c⟩ := Ro_putOut (C1.2.1.getT ht) (i := (i : Int)) (by omega) (by omega)
  rw [nn] at b
  refine ⟨h', ?_, b, c⟩
  rw [X_edit_out C (by unfold inR; omega) ht rfl ⟨Int.natCast_nonneg _, by omega⟩, f1, ob1_s, a, ob1_s, b.size, del_len hi]
  congr 2
  omega
theorem q_noline (I : INV h g hist sv) {t : Nat} (ht : t ≤ 2) {p3 : Int} (h3 : inR p3) (hr : RG p3) (hn : ¬ (0 ≤ p3 ∧ p3 ≤ 8)) : AK (F_X_edit (t : Int) ((getT g t).length : Int) p3 h) (-1) g hist sv := by
  have I0 := I
  obtain ⟨pad, C, og, oh, os⟩ := I
  exact ⟨h, X_edit_line C h3 ht hr (by omega), I0⟩
theorem q_swap (I : INV h g hist sv) {a b : Nat} (ha : a ≤ 2) (hb : b ≤ 2) (hab : a ≠ b) : AK (F_X_swap (a : Int) (b : Int) h) (dst (setT (setT g a (getT g b)) b (getT g a)).1 (setT (setT g a (getT g b)) b (getT g a)).2.1) (setT (setT g a (getT g b)) b (getT g a)) (hpush hist g) sv := by
  obtain ⟨pad, C, og, oh, os⟩ := I
  have oa := og.getT ha
  have ob := og.getT hb
  have og2 : OKg (setT (setT g a (getT g b)) b (getT g a)) := (og.setT ha ob).setT hb oa
  have hne : ¬ (a : Int) = (b : Int) := by omega
  obtain ⟨ka1, ka2, ka3⟩ := kd_text ha
  obtain ⟨kb1, kb2, kb3⟩ := kd_text hb
  obtain ⟨h1, f1, a1, w1⟩ := Hi_record C.2.2.1 C.2.1
  have C1 := C.rec w1 a1
  obtain ⟨h2, f2, R2, w2⟩ := Ro_become (o := 47) (p := 4 + 2 * a) rfl (C1.2.1.getT ha) (by omega) (by show _ ≤ 14; exact oa.1)
  have C2 : CR h2 pad g (hpush hist g) sv := C1.fr w2 (by decide)
  obtain ⟨h3, f3, R3, w3⟩ := Ro_become (o := 4 + 2 * a) (p := 4 + 2 * b) ka1 (C2.2.1.getT hb) (by omega) (by rw [ka2]; exact ob.1)
  have C3 := C2.setT ha R3 w3
  have R23 : RW h3 47 (getT g a) := R2.fr w3 (by simp; omega) (by simp; omega)
  obtain ⟨h4, f4, R4, w4⟩ := Ro_become (o := 4 + 2 * b) (p := 47) kb1 R23 (by omega) (by rw [kb2]; exact oa.1)
  have C4 := C3.setT hb R4 w4
  obtain ⟨h5, f5, w5⟩ := X_now C4 og2
  refine ⟨h5, ?_, pad, C4.fr w5 (by decide), og2, hpush_ok oh og, os⟩
  unfold F_X_swap
  rw [X_isText_1 ha, if_neg one_ne, X_isText_1 hb, if_neg one_ne, if_neg hne, f1, ob1_s, ka3, kb3, f2, ob1_s, f3, ob1_s, f4, ob1_s, f5, ob2_s]
/-- the laying of the view's patches on the third text -/
theorem lay_w (I : INV h g hist sv) {ks : List Int} {H : HL} (W : VWG g ks H) (dn : Int) : ∃ pad h1 h3, CR h3 pad g hist sv ∧ F_X_show h = some h1 ∧ VC h1 ks (vss g.1 g.2.1) H ∧ F_St_setting 3 0 h1 = ((g.2.2.2.1).toNat : Int) ∧ F_La_layAll (F_St_text 3 2) ((g.2.2.2.1).toNat : Int) dn h1 = some h3 ∧ LM h3 (lay ks (vss g.1 g.2.1) H (g.2.2.2.1).toNat dn g.2.2.1) ∧ LI ks H dn g.2.2.1.length H.length (lay ks (vss g.1 g.2.1) H (g.2.2.2.1).toNat dn g.2.2.1) ∧ FR LR h1 h3 ∧ GS (lay ks (vss g.1 g.2.1) H (g.2.2.2.1).toNat dn g.2.2.1) ∧ H.length ≤ 14 := by
  obtain ⟨pad, C, og, oh, os⟩ := I
  obtain ⟨H0, hs0, rfl, rfl⟩ := W
  obtain ⟨h1, H1, f1, hs1, V, hk, w1⟩ := X_show C og
  have e := HSP.uniq hs0 hs1
  subst e
  have sf := shw_facts og hs0
  have hs := V.2.2.2.2.2.1
  have h28 := V.2.2.2.2.2.2.2
  have most : g.2.2.2.1 = ((g.2.2.2.1).toNat : Int) := by have := og.2.2.2.1; omega
  have set0 : F_St_setting 3 0 h1 = ((g.2.2.2.1).toNat : Int) := by
    rw [← most]
    unfold F_St_setting
    rw [if_pos rfl, w1 3 (by decide)]; exact C.2.1.2.2.2.2.1
  obtain ⟨h3, f3, L3, I3, w3⟩ := X_lay_all C og V hk hs0 w1 (g.2.2.2.1).toNat dn
  have gs : GS (lay (shw g H0).1 (vss g.1 g.2.1) (shw g H0).2 (g.2.2.2.1).toNat dn g.2.2.1) := by
    unfold lay
    refine GS_lsn sf.1 sf.2.1 sf.2.2.1 (vss_ok og.1 og.2.1) _ _ _ ⟨og.2.2.1.2, ?_⟩
    have := imax_le1 14 (0 : Int)
    have o2 := og.2.2.1.1
    show (g.2.2.1.length : Int) ≤ imax 14 0
    omega
  exact ⟨pad, h1, h3, (C.fr w1 (by decide)).fr w3 (by decide), f1, V, set0, f3, L3, I3, w3, gs, hs.len14 h28⟩
theorem q_iflaid (I : INV h g hist sv) {ks : List Int} {H : HL} (W : VWG g ks H) {k : Nat} (hk : k < H.length) (dn : Int) {S : LayS} (hS : lay ks (vss g.1 g.2.1) H (g.2.2.2.1).toNat dn g.2.2.1 = S) :
    AK (F_X_ifLaid (k : Int) dn 1 h) (if S.2.1.getD k (-1) = -4 then -4 else wr (S.2.2.1.getD k (-1) + 100)) g hist sv := by
  have I0 := I
  obtain ⟨pad, h1, h3, C3, f1, V, set0, f3, L3, I3, w3, gs, h14⟩ := lay_w I W dn
  obtain ⟨pad0, C, og, oh, os⟩ := I0
  rw [hS] at L3 I3
  refine ⟨h3, ?_, pad, C3, og, oh, os⟩
  have pe : F_La_placeOf (k : Int) h3 = S.2.1.getD k (-1) := by unfold F_La_placeOf; rw [L3.2.1.at, lgn]
  have le : F_La_lowerOf (k : Int) h3 = S.2.2.1.getD k (-1) := by unfold F_La_lowerOf; rw [L3.2.2.1.at, lgn]
  unfold F_X_ifLaid
  rw [jk1_p, if_neg (show ¬ (1 : Int) = 0 by decide), if_pos rfl, f1, ob1_s, V_has V, if_pos (show 0 ≤ (k : Int) ∧ (k : Int) < (H.length : Int) by omega), if_neg (show ¬ (1 : Int) = 0 by decide), set0, f3, ob1_s, pe, le, if_neg (show ¬ (1 : Int) = 0 by decide)]
  split <;> rfl
/-- the state behind a laying: layG -/
theorem q_lay (I : INV h g hist sv) {ks : List Int} {H : HL} (W : VWG g ks H) (dn : Int) {S : LayS} (hS : lay ks (vss g.1 g.2.1) H (g.2.2.2.1).toNat dn g.2.2.1 = S) :
    (S.2.2.2.2.1 ≤ 14 → AK (F_X_lay dn h) S.2.2.2.1 (layG g S (H.length : Int)) (hpush hist g) sv ∧ OKt S.1) ∧ (¬ S.2.2.2.2.1 ≤ 14 → AK (F_X_lay dn h) (-3) g hist sv) := by
  have I0 := I
  obtain ⟨pad, h1, h3, C3, f1, V, set0, f3, L3, I3, w3, gs, h14⟩ := lay_w I W dn
  obtain ⟨pad0, C, og, oh, os⟩ := I0
  rw [hS] at L3 I3 gs
  have eL : F_La_longest h3 = S.2.2.2.2.1 := L3.2.2.2.2.1
  refine ⟨fun c => ?_, fun c => ⟨h3, ?_, pad, C3, og, oh, os⟩⟩
  · have oS : OKt S.1 := by
      refine ⟨?_, gs.1⟩
      have := gs.2
      unfold imax at this
      split at this <;> omega
    refine ⟨?_, oS⟩
    obtain ⟨h6, f6, a6, w6⟩ := Hi_record C3.2.2.1 C3.2.1
    have C6 := C3.rec w6 a6
    have R6 : RW h6 66 S.1 := L3.1.fr w6 (by decide) (by decide)
    obtain ⟨h8, f8, R8, w8⟩ := Ro_become (o := 8) (p := 66) rfl R6 (by decide) (by show _ ≤ 14; exact oS.1)
    have C8 : CR h8 pad (setT g 2 S.1) (hpush hist g) sv := C6.setT (t := 2) (by decide) R8 w8
    have lh : F_La_laid h8 = S.2.2.2.1 := by
      unfold F_La_laid
      rw [w8 65 (by decide), w6 65 (by decide)]
      exact L3.2.2.2.1
    have hh8 : F_V_hunks h8 = (H.length : Int) := by
      unfold F_V_hunks
      have R59 : RW h8 59 (tops H) := ((V.2.2.1.fr w3 (by decide) (by decide)).fr w6 (by decide) (by decide)).fr w8 (by decide) (by decide)
      rw [R59.size, tops_len]
    obtain ⟨c1, ⟨d0, d1, d2, d3, d4, d5, d6, d7⟩, c3, c4, c5⟩ := C8
    have e5 : up h8 3 5 (wr (h8 3 5 + S.2.2.2.1)) 3 6 = g.2.2.2.2.2.2 := by rw [up_other (by decide)]; exact d7
    have e6 : h8 3 5 = g.2.2.2.2.2.1 := d6
    have F8 : FR [3] h8 (up (up h8 3 5 (wr (g.2.2.2.2.2.1 + S.2.2.2.1))) 3 6 (wr (g.2.2.2.2.2.2 + wr ((H.length : Int) - S.2.2.2.1)))) := (FR.up (by decide)).tr (FR.up (by decide))
    refine ⟨up (up h8 3 5 (wr (g.2.2.2.2.2.1 + S.2.2.2.1))) 3 6 (wr (g.2.2.2.2.2.2 + wr ((H.length : Int) - S.2.2.2.1))), ?_, pad, ⟨c1.fr F8 (by decide) (by decide), ⟨d0, d1.fr F8 (by decide) (by decide), d2.fr F8 (by decide) (by decide), d3.fr F8 (by decide) (by decide), by rw [up_other (by decide), up_other (by decide)]; exact d4, by rw [up_other (by decide), up_other (by decide)]; exact d5, by rw [up_other (by decide), up_at]; rfl, by rw [up_at]; rfl⟩, c3.fr F8 (by decide), by rw [F8 0 (by decide)]; exact c4, fun q hq => (c5 q hq).fr F8 (by decide)⟩, ⟨og.1, og.2.1, oS, og.2.2.2⟩, hpush_ok oh og, os⟩
    unfold F_X_lay F_St_addPatches
    rw [f1, ob1_s, set0, f3, ob1_s, eL, if_pos c, f6, ob1_s, show F_St_text 3 2 = 8 by decide, f8, ob1_s, lh, hh8, e5, e6]
    have e7 : F_La_laid (up (up h8 3 5 (wr (g.2.2.2.2.2.1 + S.2.2.2.1))) 3 6 (wr (g.2.2.2.2.2.2 + wr ((H.length : Int) - S.2.2.2.1)))) = S.2.2.2.1 := by
      rw [← lh]
      unfold F_La_laid
      rw [up_ne (by decide), up_ne (by decide)]
    rw [e7]
  · unfold F_X_lay
    rw [f1, ob1_s, set0, f3, ob1_s, eL, if_neg c]
theorem q_least0 (I : INV h g hist sv) (c : g.1.length = 0) : AK (F_X_least h) (-2) g hist sv := by
  have I0 := I
  obtain ⟨pad, C, og, oh, os⟩ := I
  have x0 : RW h 4 g.1 := (X_text C).1
  have ei : F_Ro_isEmpty 4 h = 1 := by
    unfold F_Ro_isEmpty
    rw [if_pos (by rw [x0.2.1]; omega)]
  refine ⟨h, ?_, I0⟩
  unfold F_X_least
  rw [show F_St_text 3 0 = 4 by decide, ei, if_neg one_ne]
theorem q_least (I : INV h g hist sv) (c : g.1.length ≠ 0) : AK (F_X_least h) (lbs g.1 g.2.1 g.1.length 0 0 29).1 g hist sv := by
  obtain ⟨pad, C, og, oh, os⟩ := I
  have x0 : RW h 4 g.1 := (X_text C).1
  have x1 : RW h 6 g.2.1 := (X_text C).2.1
  have l0 := og.1.1
  have l1 := og.2.1.1
  have ei : F_Ro_isEmpty 4 h = 0 := by
    unfold F_Ro_isEmpty
    rw [if_neg (by rw [x0.2.1]; omega)]
  obtain ⟨h', f, w⟩ := X_least_loop l0 l1 g.1.length FUEL 0 0 29 h x0 x1 (by omega) (by rw [FUEL_eq]; omega)
  rw [show ((0 : Nat) : Int) = 0 from rfl] at f
  refine ⟨h', ?_, pad, C.fr (w.mono (S' := SCR) (by decide)) (by decide), og, oh, os⟩
  unfold F_X_least
  rw [show F_St_text 3 0 = 4 by decide, ei, if_pos rfl, f, ob4_s]
theorem q_steps (I : INV h g hist sv) : AK (F_X_distance 1 h) ((ed g.1 g.2.1 g.1.length g.2.1.length : Nat) : Int) g hist sv := by
  obtain ⟨pad, C, og, oh, os⟩ := I
  obtain ⟨x0, x1, -⟩ := X_text C
  obtain ⟨h', f, w⟩ := C_bySteps og.1.1 og.2.1.1 (h := h) x0 x1
  refine ⟨h', ?_, pad, C.fr (w.mono (S' := SCR) (by decide)) (by decide), og, oh, os⟩
  unfold F_X_distance
  rw [if_neg (show ¬ (1 : Int) = 0 by decide), if_pos rfl, show F_St_text 3 0 = 4 by decide, show F_St_text 3 1 = 6 by decide, f, ob2_s]
/-- how alike: the same double as the law makes -/
theorem q_alike (I : INV h g hist sv) {k n : Nat} (hk : kp g.1 g.2.1 0 0 = (k : Int)) (hn : n = g.1.length + g.2.1.length) :
    ∃ h', F_X_alike h = some ((if n = 0 then FP.dconst1 else FP.ddiv (FP.i2d (Int32.ofInt ((2 * k : Nat) : Int))) (FP.i2d (Int32.ofInt (n : Int)))), h') ∧ INV h' g hist sv := by
  have I0 := I
  obtain ⟨pad, C, og, oh, os⟩ := I
  obtain ⟨x0, x1, x2⟩ := X_text C
  have l1 := og.1.1
  have l2 := og.2.1.1
  have kb := kp_b g.1 g.2.1 0 0
  have k28 : 2 * k ≤ 28 := by omega
  have n28 : n ≤ 28 := by omega
  have e1 : wr ((g.1.length : Int) + (g.2.1.length : Int)) = (n : Int) := by rw [wr_id (by omega)]; omega
  have e2 : wr (2 * kp g.1 g.2.1 0 0) = ((2 * k : Nat) : Int) := by rw [hk, wr_id (by omega)]; omega
  have hX : F_X_alike h = (if (n : Int) = 0 then some (FP.dconst1, h) else (ob2 (F_C_keptOf 4 6 h) (fun (r2 : Int) (h3 : MH) => gd (FP.ddiv (FP.i2d (Int32.ofInt (wr (2 * r2)))) (FP.i2d (Int32.ofInt (n : Int))) &&& 0x7fffffffffffffff ≤ 0x7ff0000000000000) (some (FP.ddiv (FP.i2d (Int32.ofInt (wr (2 * r2)))) (FP.i2d (Int32.ofInt (n : Int))), h3))))) := by
    unfold F_X_alike
    rw [x0.size, x1.size, e1]
    rfl
  by_cases c : n = 0
  · have c' : (n : Int) = 0 := by omega
    rw [if_pos c'] at hX
    rw [if_pos c]
    exact ⟨h, hX, I0⟩
  · have c' : ¬ (n : Int) = 0 := by omega
    obtain ⟨d1, d2⟩ := fp_div k28 n28 c
    obtain ⟨h', f, F1⟩ := C_keptOf (o := 4) (p := 6) x0 x1 (by decide) (by decide) l1 l2
    rw [if_neg c', f, ob2_s, e2, gd_pos d1] at hX
    rw [if_neg c]
    exact ⟨h', hX, pad, C.fr (F1.mono (S' := SCR) (by decide)) (by decide), og, oh, os⟩
end CHG
/-! ===== both distances are one ===== -/
theorem ed_up (l1 l2 : List Int) : ∀ (f i j : Nat), i ≤ l1.length → j ≤ l2.length → (l1.length - i) + (l2.length - j) ≤ f → ((ed l1 l2 l1.length l2.length : Nat) : Int) + 2 * kp l1 l2 i j ≤ ((ed l1 l2 i j : Nat) : Int) + (l1.length : Int) - (i : Int) + (l2.length : Int) - (j : Int) := by
  intro f
  induction f with
  | zero =>
    intro i j h1 h2 h3
    have e1 : i = l1.length := by omega
    have e2 : j = l2.length := by omega
    subst e1; subst e2
    rw [kp_out (by omega)]
    omega
  | succ f ih =>
    intro i j h1 h2 h3
    by_cases ci : i < l1.length
    · by_cases cj : j < l2.length
      · by_cases he : l1.getD i (-1) = l2.getD j (-1)
        · have a := ih (i + 1) (j + 1) (by omega) (by omega) (by omega)
          rw [ed_m ⟨ci, cj, he⟩] at a
          rw [kp_eq ⟨ci, cj⟩ he]
          omega
        · have a := ih (i + 1) j (by omega) (by omega) (by omega)
          have b := ih i (j + 1) (by omega) (by omega) (by omega)
          have c := ed_1 l1 l2 i j
          rw [kp_ne ⟨ci, cj⟩ he]
          unfold imax
          split <;> omega
      · have a := ih (i + 1) j (by omega) (by omega) (by omega)
        have c := ed_1 l1 l2 i j
        rw [kp_out (by omega)] at a ⊢
        omega
    · by_cases cj : j < l2.length
      · have a := ih i (j + 1) (by omega) (by omega) (by omega)
        have c := ed_1 l1 l2 i j
        rw [kp_out (by omega)] at a ⊢
        omega
      · have e1 : i = l1.length := by omega
        have e2 : j = l2.length := by omega
        subst e1; subst e2
        rw [kp_out (by omega)]
        omega
theorem kp_col (l1 l2 : List Int) : ∀ (j : Nat), kp l1 l2 0 j ≤ kp l1 l2 0 0 := by
  intro j
  induction j with
  | zero => exact Int.le_refl _
  | succ j ih => have := kp_m l1 l2 0 j; omega
theorem kp_row (l1 l2 : List Int) : ∀ (i : Nat), kp l1 l2 i 0 ≤ kp l1 l2 0 0 := by
  intro i
  induction i with
  | zero => exact Int.le_refl _
  | succ i ih => have := kp_m l1 l2 i 0; omega
theorem ed_dn (l1 l2 : List Int) : ∀ (f i j : Nat), i + j ≤ f → i ≤ l1.length → j ≤ l2.length → (i : Int) + (j : Int) - ((ed l1 l2 i j : Nat) : Int) + 2 * kp l1 l2 i j ≤ 2 * kp l1 l2 0 0 := by
  intro f
  induction f with
  | zero =>
    intro i j h0 h1 h2
    have e1 : i = 0 := by omega
    have e2 : j = 0 := by omega
    subst e1; subst e2
    rw [ed_0]
    omega
  | succ f ih =>
    intro i j h0 h1 h2
    cases i with
    | zero => have := kp_col l1 l2 j; rw [ed_0]; omega
    | succ i =>
      cases j with
      | zero => have := kp_row l1 l2 (i + 1); rw [ed_i0]; omega
      | succ j =>
        by_cases he : l1.getD i (-1) = l2.getD j (-1)
        · have a := ih i j (by omega) (by omega) (by omega)
          rw [ed_m ⟨by omega, by omega, he⟩]
          rw [kp_eq ⟨by omega, by omega⟩ he] at a
          omega
        · have a := ih i (j + 1) (by omega) (by omega) (by omega)
          have b := ih (i + 1) j (by omega) (by omega) (by omega)
          have m1 := kp_m l1 l2 i (j + 1)
          have m2 := kp_m l1 l2 (i + 1) j
          rw [ed_n (fun z => he z.2.2)]
          omega
theorem ed_dst (l1 l2 : List Int) : ((ed l1 l2 l1.length l2.length : Nat) : Int) = dst l1 l2 := by
  have a := ed_up l1 l2 (l1.length + l2.length) 0 0 (Nat.zero_le _) (Nat.zero_le _) (by omega)
  have b := ed_dn l1 l2 (l1.length + l2.length) l1.length l2.length (Nat.le_refl _) (Nat.le_refl _) (Nat.le_refl _)
  rw [kp_out (i := l1.length) (j := l2.length) (by omega)] at b
  rw [ed_0] at a
  unfold dst
  omega

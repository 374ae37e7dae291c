/-! ===== one of the texts, by its number; to load ===== -/
def getT (g : SG) (t : Nat) : List Int := if t = 0 then g.1 else if t = 1 then g.2.1 else g.2.2.1
def setT (g : SG) (t : Nat) (l : List Int) : SG := (if t = 0 then l else g.1, if t = 1 then l else g.2.1, if t = 2 then l else g.2.2.1, g.2.2.2)
theorem t012 {t : Nat} (ht : t ≤ 2) : t = 0 ∨ t = 1 ∨ t = 2 := by omega
theorem ST.getT {h : MH} {g : SG} {t : Nat} (H : ST h 3 g) (ht : t ≤ 2) : RW h (4 + 2 * t) (getT g t) := by
  rcases t012 ht with rfl | rfl | rfl
  · exact H.2.1
  · exact H.2.2.1
  · exact H.2.2.2.1
theorem kd_text {t : Nat} (ht : t ≤ 2) : kd (4 + 2 * t) = 5 ∧ al (4 + 2 * t + 1) = 14 ∧ F_St_text 3 (t : Int) = 4 + 2 * t := by
  rcases t012 ht with rfl | rfl | rfl
  · decide
  · decide
  · decide
theorem ST.setT {h h' : MH} {g : SG} {t : Nat} {l : List Int} (H : ST h 3 g) (ht : t ≤ 2) (R : RW h' (4 + 2 * t) l) (F : FR [4 + 2 * t, 4 + 2 * t + 1] h h') : ST h' 3 (setT g t l) := by
  obtain ⟨a, b, c, d, e1, e2, e3, e4⟩ := H
  rcases t012 ht with rfl | rfl | rfl
  · exact ⟨a, R, c.fr F (by decide) (by decide), d.fr F (by decide) (by decide), by rw [F 3 (by decide)]; exact e1, by rw [F 3 (by decide)]; exact e2, by rw [F 3 (by decide)]; exact e3, by rw [F 3 (by decide)]; exact e4⟩
  · exact ⟨a, b.fr F (by decide) (by decide), R, d.fr F (by decide) (by decide), by rw [F 3 (by decide)]; exact e1, by rw [F 3 (by decide)]; exact e2, by rw [F 3 (by decide)]; exact e3, by rw [F 3 (by decide)]; exact e4⟩
  · exact ⟨a, b.fr F (by decide) (by decide), c.fr F (by decide) (by decide), R, by rw [F 3 (by decide)]; exact e1, by rw [F 3 (by decide)]; exact e2, by rw [F 3 (by decide)]; exact e3, by rw [F 3 (by decide)]; exact e4⟩
theorem SM.getT {f : Nat → Int} {g : SG} {t : Nat} (H : SM f g) (ht : t ≤ 2) : f (15 * t) = ((getT g t).length : Int) ∧ ∀ p, p < (getT g t).length → f (15 * t + 1 + p) = (getT g t).getD p (-1) := by
  rcases t012 ht with rfl | rfl | rfl
  · exact H.1
  · exact H.2.1
  · exact H.2.2.1
theorem SM.setT {f f' : Nat → Int} {g : SG} {t : Nat} {l : List Int} (H : SM f g) (og : OKg g) (ht : t ≤ 2) (h0 : f' (15 * t) = (l.length : Int)) (h1 : ∀ p, p < l.length → f' (15 * t + 1 + p) = l.getD p (-1)) (hf : ∀ j, j < 15 * t ∨ 15 * t + 15 ≤ j → f' j = f j) : SM f' (setT g t l) := by
  obtain ⟨⟨a1, a2⟩, ⟨b1, b2⟩, ⟨c1, c2⟩, d1, d2, d3, d4⟩ := H
  have l0 := og.1.1
  have l1 := og.2.1.1
  have l2 := og.2.2.1.1
  rcases t012 ht with rfl | rfl | rfl
  · exact ⟨⟨h0, h1⟩, ⟨by rw [hf 15 (by omega)]; exact b1, fun p hp => by rw [hf _ (by omega)]; exact b2 p hp⟩, ⟨by rw [hf 30 (by omega)]; exact c1, fun p hp => by rw [hf _ (by omega)]; exact c2 p hp⟩, by rw [hf 45 (by omega)]; exact d1, by rw [hf 46 (by omega)]; exact d2, by rw [hf 47 (by omega)]; exact d3, by rw [hf 48 (by omega)]; exact d4⟩
  · exact ⟨⟨by rw [hf 0 (by omega)]; exact a1, fun p hp => by have hp' : p < g.1.length := hp; rw [hf _ (by omega)]; exact a2 p hp⟩, ⟨h0, h1⟩, ⟨by rw [hf 30 (by omega)]; exact c1, fun p hp => by rw [hf _ (by omega)]; exact c2 p hp⟩, by rw [hf 45 (by omega)]; exact d1, by rw [hf 46 (by omega)]; exact d2, by rw [hf 47 (by omega)]; exact d3, by rw [hf 48 (by omega)]; exact d4⟩
  · exact ⟨⟨by rw [hf 0 (by omega)]; exact a1, fun p hp => by have hp' : p < g.1.length := hp; rw [hf _ (by omega)]; exact a2 p hp⟩, ⟨by rw [hf 15 (by omega)]; exact b1, fun p hp => by have hp' : p < g.2.1.length := hp; rw [hf _ (by omega)]; exact b2 p hp⟩, ⟨h0, h1⟩, by rw [hf 45 (by omega)]; exact d1, by rw [hf 46 (by omega)]; exact d2, by rw [hf 47 (by omega)]; exact d3, by rw [hf 48 (by omega)]; exact d4⟩
theorem OKg.getT {g : SG} (og : OKg g) {t : Nat} (ht : t ≤ 2) : OKt (getT g t) := by
  rcases t012 ht with rfl | rfl | rfl
  · exact og.1
  · exact og.2.1
  · exact og.2.2.1
theorem OKg.setT {g : SG} (og : OKg g) {t : Nat} (ht : t ≤ 2) {l : List Int} (hl : OKt l) : OKg (setT g t l) := by
  obtain ⟨a, b, c, d⟩ := og
  rcases t012 ht with rfl | rfl | rfl
  · exact ⟨hl, b, c, d⟩
  · exact ⟨a, hl, c, d⟩
  · exact ⟨a, b, hl, d⟩
theorem getT_setT {g : SG} {t : Nat} (ht : t ≤ 2) {l : List Int} : getT (setT g t l) t = l := by
  rcases t012 ht with rfl | rfl | rfl <;> rfl
theorem wr_15 {t : Nat} (ht : t ≤ 2) : wr (15 * (t : Int)) = ((15 * t : Nat) : Int) := by rw [wr_id (by omega)]; omega
theorem M_linesT {h : MH} {g : SG} (H : SM (h 77) g) {t : Nat} (ht : t ≤ 2) : F_M_lines (t : Int) h = some ((getT g t).length : Int) := by
  unfold F_M_lines
  rw [wr_15 ht, gd_pos (by omega), nn]
  exact congrArg some (H.getT ht).1
theorem X_isText_1 {t : Nat} (ht : t ≤ 2) : F_X_isText (t : Int) = 1 := by
  unfold F_X_isText
  rw [if_neg (by omega), if_pos (by omega)]
theorem X_isText_0 {p1 : Int} (hp : ¬ (0 ≤ p1 ∧ p1 ≤ 2)) : F_X_isText p1 = 0 := by
  unfold F_X_isText
  by_cases c : p1 < 0
  · rw [if_pos c]
  · rw [if_neg c, if_neg (by omega)]
/-- the signs of a pad -/
def sgs (pad : List Int) : List Int := pad.map sg_indexOf
def GOODP (pad : List Int) : Prop := pad.length ≤ 14 ∧ ∀ p, p < pad.length → ¬ F_M_signOf (pad.getD p (-1)) = -4
theorem fault_says {hm : MH} {pad : List Int} (m1 : hm 76 6 = (pad.length : Int)) (m2 : pad.length ≤ 40) (m3 : ∀ p, p < pad.length → hm 80 p = pad.getD p (-1)) : ∀ (n i : Nat) (r : Int ⊕ Int), i ≤ 14 → i ≤ pad.length → F_M_fault_L2 hm n (i : Int) = some r → (∃ x, r = .inl x ∧ 0 ≤ x) ∨ (∃ x, r = .inr x ∧ pad.length ≤ 14 ∧ ∀ p, i ≤ p → p < pad.length → ¬ F_M_signOf (pad.getD p (-1)) = -4) := by
  intro n
  induction n with
  | zero => intro i r _ _ h; cases h
  | succ n ih =>
    intro i r h0 h1 h
    unfold F_M_fault_L2 at h
    rw [m1] at h
    by_cases c : i < pad.length
    · rw [if_pos (lt_int c)] at h
      by_cases c2 : i = 14
      · rw [if_pos (by omega)] at h
        exact Or.inl ⟨(i : Int), (Option.some.inj h).symm, by omega⟩
      · have i40 : 0 ≤ (i : Int) ∧ (i : Int) < 40 := by omega
        have e1 : wr ((i : Int) + 1) = ((i + 1 : Nat) : Int) := by rw [wr_id (by omega)]; omega
        rw [if_neg (show ¬ (i : Int) = 14 by omega), gd_pos i40, nn, m3 i c, e1] at h
        by_cases c3 : F_M_signOf (pad.getD i (-1)) = -4
        · rw [if_pos c3] at h
          exact Or.inl ⟨(i : Int), (Option.some.inj h).symm, by omega⟩
        · rw [if_neg c3] at h
          rcases ih (i + 1) r (by omega) (by omega) h with q | ⟨x, q1, q2, q3⟩
          · exact Or.inl q
          · refine Or.inr ⟨x, q1, q2, fun p hp1 hp2 => ?_⟩
            by_cases hpi : p = i
            · rw [hpi]; exact c3
            · exact q3 p (by omega) hp2
    · rw [if_neg (nlt_int c)] at h
      exact Or.inr ⟨(i : Int), (Option.some.inj h).symm, by omega, fun p hp1 hp2 => absurd hp2 (by omega)⟩
theorem fault_none {hm : MH} {pad : List Int} {g : SG} {hist : List SG} {sv : Option SG} (M : MRR hm pad g hist sv) (hf : F_M_fault hm = some (-4)) : GOODP pad := by
  unfold F_M_fault at hf
  cases hr : F_M_fault_L2 hm FUEL 0 with
  | none => rw [hr] at hf; cases hf
  | some r =>
    rcases fault_says M.2.2.2.1.1 M.2.2.2.1.2.1 M.2.2.2.1.2.2 FUEL 0 r (by decide) (Nat.zero_le _) hr with ⟨x, rfl, h0⟩ | ⟨x, rfl, h1, h2⟩
    · rw [hr] at hf
      have hf : some x = some (-4) := hf
      cases hf
      omega
    · exact ⟨h1, fun p hp => h2 p (Nat.zero_le _) hp⟩
theorem sgs_at {pad : List Int} {p : Nat} (hp : p < pad.length) : (sgs pad).getD p (-1) = sg_indexOf (pad.getD p (-1)) := by
  unfold sgs
  rw [List.getD_eq_getElem?_getD, List.getElem?_map, List.getD_eq_getElem?_getD, List.getElem?_eq_getElem hp]
  rfl
theorem sgs_len (pad : List Int) : (sgs pad).length = pad.length := List.length_map ..
theorem good_sign {pad : List Int} (op : OKp pad) (gp : GOODP pad) {p : Nat} (hp : p < pad.length) : pad.getD p (-1) % 65536 = pad.getD p (-1) ∧ F_M_signOf (pad.getD p (-1)) = sg_indexOf (pad.getD p (-1)) ∧ 0 ≤ sg_indexOf (pad.getD p (-1)) ∧ sg_indexOf (pad.getD p (-1)) ≤ 8 := by
  have pv : pad.getD p (-1) = pad[p] := by rw [List.getD_eq_getElem?_getD, List.getElem?_eq_getElem hp]; rfl
  have st := sign_two (op _ (List.getElem_mem hp))
  rw [← pv] at st
  rcases st.2 with ⟨s1, s2⟩ | ⟨s1, s2, s3⟩
  · exact absurd s1 (gp.2 p hp)
  · exact ⟨st.1, s3, s1, s2⟩
theorem sgs_ok {pad : List Int} (op : OKp pad) (gp : GOODP pad) : OKt (sgs pad) := by
  refine ⟨by rw [sgs_len]; exact gp.1, fun x hx => ?_⟩
  obtain ⟨p, hp, rfl⟩ := List.mem_iff_getElem.mp hx
  have hp' : p < pad.length := by rw [← sgs_len]; exact hp
  have e : (sgs pad)[p] = (sgs pad).getD p (-1) := by rw [List.getD_eq_getElem?_getD, List.getElem?_eq_getElem hp]; rfl
  rw [e, sgs_at hp']
  exact (good_sign op gp hp').2.2
theorem X_load_loop {t : Nat} (ht : t ≤ 2) {pad : List Int} (op : OKp pad) (gp : GOODP pad) : ∀ (n i : Nat) (h : MH), RW h (4 + 2 * t) ((sgs pad).take i) → RW h 1 pad → i ≤ pad.length → pad.length < i + n →
    ∃ h', F_X_load_L47 (4 + 2 * t) n (i : Int) h = some ((pad.length : Int), h') ∧ RW h' (4 + 2 * t) (sgs pad) ∧ RW h' 1 pad ∧ FR [4 + 2 * t, 4 + 2 * t + 1] h h' := by
  intro n
  induction n with
  | zero => intro i h _ _ h1 h2; omega
  | succ n ih =>
    intro i h Ho Hp h1 h2
    have l14 := gp.1
    have ll := sgs_len pad
    unfold F_X_load_L47
    rw [Hp.size]
    by_cases hi : i < pad.length
    · have e1 : wr ((i : Int) + 1) = ((i + 1 : Nat) : Int) := by rw [wr_id (by omega)]; omega
      have gs := good_sign op gp hi
      have pd : F_X_padSign (i : Int) h = sg_indexOf (pad.getD i (-1)) := by
        unfold F_X_padSign
        rw [Hp.at, lg_in (Int.natCast_nonneg _), nn, gs.1]
      rw [if_pos (lt_int hi), pd, e1]
      obtain ⟨A, B⟩ := Ro_add Ho (sg_indexOf (pad.getD i (-1))) (by rw [(kd_text ht).2.1, List.length_take]; omega)
      have hl : (sgs pad).take i ++ [sg_indexOf (pad.getD i (-1))] = (sgs pad).take (i + 1) := by
        rw [← sgs_at hi, List.take_succ, List.getD_eq_getElem?_getD, List.getElem?_eq_getElem (by omega)]
        rfl
      rw [hl] at A
      obtain ⟨h', e, C, D, E⟩ := ih (i + 1) _ A (Hp.off B (kd_text ht).1 (by omega)) (by omega) (by omega)
      exact ⟨h', e, C, D, B.tr E⟩
    · rw [if_neg (nlt_int hi)]
      have : i = pad.length := by omega
      subst this
      refine ⟨h, rfl, ?_, Hp, FR.rf _ _⟩
      rw [← ll, List.take_length] at Ho
      exact Ho
theorem M_load_loop {t : Nat} (ht : t ≤ 2) {pad : List Int} (op : OKp pad) (gp : GOODP pad) : ∀ (n i : Nat) (h : MH), h 76 6 = (pad.length : Int) → (∀ p, p < pad.length → h 80 p = pad.getD p (-1)) → i ≤ pad.length → pad.length < i + n →
    ∃ h', F_M_load_L42 (t : Int) n (i : Int) h = some ((pad.length : Int), h') ∧ (∀ j, h' 77 j = if 15 * t + 1 + i ≤ j ∧ j < 15 * t + 1 + pad.length then (sgs pad).getD (j - (15 * t + 1)) (-1) else h 77 j) ∧ FR [77] h h' := by
  intro n
  induction n with
  | zero => intro i h _ _ h1 h2; omega
  | succ n ih =>
    intro i h m1 m3 h1 h2
    have l14 := gp.1
    unfold F_M_load_L42
    rw [m1]
    by_cases hi : i < pad.length
    · have e1 : wr ((i : Int) + 1) = ((i + 1 : Nat) : Int) := by rw [wr_id (by omega)]; omega
      have e2 : wr (wr (wr (15 * (t : Int)) + 1) + (i : Int)) = ((15 * t + 1 + i : Nat) : Int) := by rw [wr_15 ht, wr_id (z := ((15 * t : Nat) : Int) + 1) (by omega), wr_id (by omega)]; omega
      have g1 : 0 ≤ (i : Int) ∧ (i : Int) < 40 := by omega
      have g2 : 0 ≤ ((15 * t + 1 + i : Nat) : Int) ∧ ((15 * t + 1 + i : Nat) : Int) < 49 := by omega
      have gs := good_sign op gp hi
      have sa := sgs_at hi
      rw [if_pos (lt_int hi), gd_pos g1, e2, gd_pos g2, e1, nn, nn, m3 i hi, gs.2.1, ← sa]
      obtain ⟨h', a, b, c⟩ := ih (i + 1) (up h 77 (15 * t + 1 + i) ((sgs pad).getD i (-1))) (by rw [up_ne (by decide)]; exact m1) (fun p hp => by rw [up_ne (by decide)]; exact m3 p hp) (by omega) (by omega)
      refine ⟨h', a, fun j => ?_, (FR.up (by simp)).tr c⟩
      rw [b, up_if]
      by_cases c1 : 15 * t + 1 + i ≤ j ∧ j < 15 * t + 1 + pad.length
      · rw [if_pos c1]
        by_cases c2 : 15 * t + 1 + (i + 1) ≤ j ∧ j < 15 * t + 1 + pad.length
        · rw [if_pos c2]
        · have ej : j = 15 * t + 1 + i := by omega
          have ei : j - (15 * t + 1) = i := by omega
          rw [if_neg c2, if_pos ej, ei]
      · rw [if_neg c1, if_neg (by omega), if_neg (by omega)]
    · rw [if_neg (nlt_int hi)]
      have : i = pad.length := by omega
      subst this
      exact ⟨h, rfl, fun j => by rw [if_neg (by omega)], FR.rf _ _⟩
/-- nothing happens: both answer the same number -/
theorem step_flat {X M : MH → Option (Int × MH)} {h : MH} {pad : List Int} {g : SG} {hist : List SG} {sv : Option SG} (C : CR h pad g hist sv) (r : Int) (hX : X h = some (r, h)) (hM : ∀ hm, MRR hm pad g hist sv → M hm = some (r, hm)) : STEP X M h pad g hist sv pad g hist sv := ⟨r, h, hX, C, fun _ _ => rfl, fun hm hh => ⟨hm, hM hm hh, hh, fun _ _ => rfl⟩⟩
theorem step_load_no {h : MH} {pad : List Int} {g : SG} {hist : List SG} {sv : Option SG} (C : CR h pad g hist sv) {p1 : Int} (hp : ¬ (0 ≤ p1 ∧ p1 ≤ 2)) : STEP (F_X_load p1) (F_M_load p1) h pad g hist sv pad g hist sv := by
  refine step_flat C (-1) ?_ (fun hm hh => ?_)
  · unfold F_X_load
    rw [X_isText_0 hp, if_pos rfl]
  · unfold F_M_load
    rw [M_in_0 hp, if_pos rfl]
theorem step_load_bad {h : MH} {pad : List Int} {g : SG} {hist : List SG} {sv : Option SG} (C : CR h pad g hist sv) (op : OKp pad) {t : Nat} (ht : t ≤ 2) {x : Int} (hx : F_X_fault h = some x) (h4 : ¬ x = -4) : STEP (F_X_load (t : Int)) (F_M_load (t : Int)) h pad g hist sv pad g hist sv := by
  refine step_flat C (-2) ?_ (fun hm hh => ?_)
  · unfold F_X_load
    rw [X_isText_1 ht, if_neg (show ¬ (1 : Int) = 0 by decide), hx, ob1_s, if_neg h4]
  · obtain ⟨r, a, b⟩ := sim_fault C op hh
    have : r = x := Option.some.inj (a.symm.trans hx)
    subst this
    unfold F_M_load
    rw [M_in_1 (by omega), if_neg (show ¬ (1 : Int) = 0 by decide), b, ob1_s, if_neg h4]
theorem step_load {h : MH} {pad : List Int} {g : SG} {hist : List SG} {sv : Option SG} (C : CR h pad g hist sv) (og : OKg g) (oh : OKh hist) (op : OKp pad) (gp : GOODP pad) {t : Nat} (ht : t ≤ 2) (hx : F_X_fault h = some (-4)) : STEP (F_X_load (t : Int)) (F_M_load (t : Int)) h pad g hist sv [] (setT g t (sgs pad)) (hpush hist g) sv := by
  obtain ⟨k1, k2, k3⟩ := kd_text ht
  have ll := sgs_len pad
  obtain ⟨h1, f1, a1, w1⟩ := Hi_record C.2.2.1 C.2.1
  have C1 := C.rec w1 a1
  obtain ⟨A, B⟩ := Ro_emptyOut (h := h1) (o := 4 + 2 * t) k1
  obtain ⟨h2, f2, R2, P2, w2⟩ := X_load_loop ht op gp FUEL 0 (F_Ro_emptyOut (4 + 2 * t) h1) A (C1.1.off B k1 (by omega)) (Nat.zero_le _) (by have := gp.1; rw [FUEL_eq]; omega)
  rw [show ((0 : Nat) : Int) = 0 from rfl] at f2
  have W := B.tr w2
  have S2 := C1.2.1.setT ht R2 W
  obtain ⟨A3, B3⟩ := Ro_emptyOut (h := h2) (o := 1) rfl
  have nin : ∀ x : Nat, x < 4 ∨ 9 < x → x ∉ [4 + 2 * t, 4 + 2 * t + 1] := fun x hx hm => by simp at hm; omega
  have R3 : RW (F_Ro_emptyOut 1 h2) (4 + 2 * t) (sgs pad) := R2.off B3 rfl (by omega)
  refine ⟨(pad.length : Int), F_Ro_emptyOut 1 h2, ?_, ⟨A3, S2.fr B3 (by decide), ?_, ?_, ?_⟩, fun i hi => ?_, fun hm hh => ?_⟩
  · unfold F_X_load
    rw [X_isText_1 ht, if_neg (show ¬ (1 : Int) = 0 by decide), hx, ob1_s, if_pos rfl, f1, ob1_s, k3, f2, ob2_s, R3.size, ll]
  · exact (C1.2.2.1.fr W (fun x hx => by simp at hx; omega)).fr B3 (by decide)
  · rw [B3 0 (by decide), W 0 (nin 0 (by omega))]
    exact C1.2.2.2.1
  · intro q hq
    exact ((C1.2.2.2.2 q hq).fr W (fun x hx => by simp at hx; omega)).fr B3 (by decide)
  · rw [B3 i (by simp; omega), W i (nin i (by omega)), w1 i (fun z => by have := HS_lo i z; omega)]
  · obtain ⟨r, a, b⟩ := sim_fault C op hh
    have : r = -4 := Option.some.inj (a.symm.trans hx)
    subst this
    obtain ⟨hm1, g1, M1, r1⟩ := M_remembers (hist := hist) (g := g) hh.2.1 hh.1 oh og
    obtain ⟨m1, m2, m3, m4, m5⟩ := hh.rec r1 M1
    obtain ⟨hm2, c1, c2, c3⟩ := M_load_loop ht op gp FUEL 0 (up hm1 77 (15 * t) (pad.length : Int)) (by rw [up_ne (by decide)]; exact m4.1) (fun p hp => by rw [up_ne (by decide)]; exact m4.2.2 p hp) (Nat.zero_le _) (by have := gp.1; rw [FUEL_eq]; omega)
    rw [show ((0 : Nat) : Int) = 0 from rfl] at c1
    have l14 := gp.1
    have rr : ∀ i, i ≠ 77 → hm2 i = hm1 i := fun i x1 => by rw [c3 i (by simpa using x1), up_ne x1]
    have S3 : SM (up hm2 76 6 0 77) (setT g t (sgs pad)) := by
      refine m1.setT og ht ?_ (fun p hp => ?_) (fun j hj => ?_)
      · rw [up_ne (by decide), c2, if_neg (by omega), up_at, ll]
      · rw [up_ne (by decide), c2, if_pos (by omega)]
        congr 1
        omega
      · rw [up_ne (by decide), c2, if_neg (by omega), up_other (by omega)]
    refine ⟨up hm2 76 6 0, ?_, ⟨S3, ⟨by rw [up_other (by decide), rr 76 (by decide)]; exact m2.1, m2.2.1, by rw [up_ne (by decide), rr 78 (by decide)]; exact m2.2.2⟩, ⟨by rw [up_other (by decide), rr 76 (by decide)]; exact m3.1, by rw [up_ne (by decide), rr 79 (by decide)]; exact m3.2⟩, ⟨by rw [up_at]; rfl, by decide, fun p hp => absurd hp (Nat.not_lt_zero _)⟩, by rw [up_other (by decide), rr 76 (by decide)]; exact m5⟩, fun i hi => ?_⟩
    · have g2 : 0 ≤ ((15 * t : Nat) : Int) ∧ ((15 * t : Nat) : Int) < 49 := by omega
      unfold F_M_load
      rw [M_in_1 (by omega), if_neg (show ¬ (1 : Int) = 0 by decide), b, ob1_s, if_pos rfl, g1, ob1_s, wr_15 ht, gd_pos g2, nn, m4.1, c1, ob2_s, M_linesT S3 ht, ob1_s, getT_setT ht, ll]
    · rw [up_ne (by omega), rr i (by omega)]
      exact funext fun y => r1 i y (by omega) (fun z => by omega)

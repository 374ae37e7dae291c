/-! ===== the reference puts a part in another's place ===== -/
theorem rp_get {T I : List Int} {f o p : Nat} (h : f + o ≤ T.length) : (rp T f o I).getD p (-1) = if p < f then T.getD p (-1) else if p < f + I.length then I.getD (p - f) (-1) else T.getD (p + o - I.length) (-1) := by
  unfold rp
  have e : (T.take f).length = f := by rw [List.length_take, Nat.min_eq_left (by omega)]
  rw [List.getD_eq_getElem?_getD]
  by_cases c1 : p < f
  · rw [if_pos c1, List.getElem?_append_left (by omega), List.getElem?_take, if_pos c1, List.getD_eq_getElem?_getD]
  · rw [if_neg c1, List.getElem?_append_right (by omega), e]
    by_cases c2 : p < f + I.length
    · rw [if_pos c2, List.getElem?_append_left (by omega), List.getD_eq_getElem?_getD]
    · rw [if_neg c2, List.getElem?_append_right (by omega), List.getElem?_drop, List.getD_eq_getElem?_getD, show f + o + (p - f - I.length) = p + o - I.length by omega]
theorem snoc_get (l : List Int) (v : Int) : (l ++ [v]).getD l.length (-1) = v := by
  rw [List.getD_eq_getElem?_getD, List.getElem?_append_right (Nat.le_refl _), Nat.sub_self]
  rfl
theorem MV2.up84 {h : MH} {ks ss : List Int} (V : MV2 h ks ss) (i : Nat) (v : Int) : MV2 (up h 84 i v) ks ss := by
  obtain ⟨a, b, c, d, e⟩ := V
  exact ⟨by rw [up_ne (by decide)]; exact a, b, c, fun p hp => by rw [up_ne (by decide)]; exact d p hp, fun p hp => by rw [up_ne (by decide)]; exact e p hp⟩
theorem M_down_loop {T : List Int} {h0 : MH} {f o i : Nat} (hi : i ≤ o) (hT : f + o ≤ T.length) (h28 : T.length ≤ 28) (L : ∀ p, p < T.length → h0 84 p = T.getD p (-1)) (x1 x3 x4 x5 : Int) : ∀ (n m : Nat) (h : MH), (∀ p, h 84 p = if f + i ≤ p ∧ p < f + i + m then T.getD (p + o - i) (-1) else h0 84 p) → h 76 13 = (T.length : Int) → f + o + m ≤ T.length → T.length < f + o + m + n →
    ∃ h' x, F_M_replaces_L69 x1 x3 x4 x5 ((i : Int) - (o : Int)) n ((f + o + m : Nat) : Int) h = some (x, h') ∧ (∀ p, h' 84 p = if f + i ≤ p ∧ p < T.length - o + i then T.getD (p + o - i) (-1) else h0 84 p) ∧ FR [84] h h' := by
  intro n
  induction n with
  | zero => intro m h _ _ h1 h2; omega
  | succ n ih =>
    intro m h hp h13 h1 h2
    unfold F_M_replaces_L69
    rw [h13]
    by_cases hc : f + o + m < T.length
    · have e1 : wr (((f + o + m : Nat) : Int) + 1) = ((f + o + (m + 1) : Nat) : Int) := by rw [wr_id (by omega)]; omega
      have e2 : wr (((f + o + m : Nat) : Int) + ((i : Int) - (o : Int))) = ((f + i + m : Nat) : Int) := by rw [wr_id (by omega)]; omega
      rw [if_pos (lt_int hc), e1, e2, gd_pos ⟨Int.natCast_nonneg _, by omega⟩, gd_pos ⟨Int.natCast_nonneg _, by omega⟩, nn, nn]
      have rd : h 84 (f + o + m) = T.getD (f + o + m) (-1) := by
        rw [hp, if_neg (by omega)]
        exact L _ hc
      rw [rd]
      obtain ⟨h', x, g1, g2, g3⟩ := ih (m + 1) (up h 84 (f + i + m) (T.getD (f + o + m) (-1))) (fun p => by
        rw [up_if, hp]
        by_cases c : p = f + i + m
        · rw [if_pos c, if_pos (by omega), show p + o - i = f + o + m by omega]
        · rw [if_neg c]
          by_cases c2 : f + i ≤ p ∧ p < f + i + m
          · rw [if_pos c2, if_pos (by omega)]
          · rw [if_neg c2, if_neg (by omega)]) (by rw [up_ne (by decide)]; exact h13) (by omega) (by omega)
      exact ⟨h', x, g1, g2, (FR.up (by simp)).tr g3⟩
    · rw [if_neg (nlt_int hc)]
      refine ⟨h, _, rfl, fun p => ?_, FR.rf _ _⟩
      rw [hp, show f + i + m = T.length - o + i by omega]
theorem M_up_loop {T : List Int} {h0 : MH} {f o i : Nat} (hi : o ≤ i) (hT : f + o ≤ T.length) (h28 : T.length ≤ 28) (hi28 : i ≤ 28) (L : ∀ p, p < T.length → h0 84 p = T.getD p (-1)) (x3 x4 x5 : Int) : ∀ (n m : Nat) (h : MH), (∀ p, h 84 p = if T.length - o + i ≤ p + m ∧ p < T.length - o + i then T.getD (p + o - i) (-1) else h0 84 p) → m ≤ T.length - (f + o) → T.length - (f + o) < m + n →
    ∃ h' x, F_M_replaces_L30 (f : Int) (o : Int) x3 x4 x5 ((i : Int) - (o : Int)) n ((T.length : Int) - 1 - (m : Int)) h = some (x, h') ∧ (∀ p, h' 84 p = if f + i ≤ p ∧ p < T.length - o + i then T.getD (p + o - i) (-1) else h0 84 p) ∧ FR [84] h h' := by
  intro n
  induction n with
  | zero => intro m h _ h1 h2; omega
  | succ n ih =>
    intro m h hp h1 h2
    unfold F_M_replaces_L30
    rw [wr_id (z := (f : Int) + (o : Int)) (by omega)]
    by_cases hc : m < T.length - (f + o)
    · have e1 : wr ((T.length : Int) - 1 - (m : Int) + (-1)) = (T.length : Int) - 1 - ((m + 1 : Nat) : Int) := by rw [wr_id (by omega)]; omega
      have e2 : wr ((T.length : Int) - 1 - (m : Int) + ((i : Int) - (o : Int))) = ((T.length - o + i - 1 - m : Nat) : Int) := by rw [wr_id (by omega)]; omega
      have e3 : ((T.length : Int) - 1 - (m : Int)).toNat = T.length - 1 - m := by omega
      rw [if_neg (by omega), e1, e2, gd_pos (by omega), gd_pos ⟨Int.natCast_nonneg _, by omega⟩, nn, e3]
      have rd : h 84 (T.length - 1 - m) = T.getD (T.length - 1 - m) (-1) := by
        rw [hp, if_neg (by omega)]
        exact L _ (by omega)
      rw [rd]
      obtain ⟨h', x, g1, g2, g3⟩ := ih (m + 1) (up h 84 (T.length - o + i - 1 - m) (T.getD (T.length - 1 - m) (-1))) (fun p => by
        rw [up_if, hp]
        by_cases c : p = T.length - o + i - 1 - m
        · rw [if_pos c, if_pos (by omega), show p + o - i = T.length - 1 - m by omega]
        · rw [if_neg c]
          by_cases c2 : T.length - o + i ≤ p + m ∧ p < T.length - o + i
          · rw [if_pos c2, if_pos (by omega)]
          · rw [if_neg c2, if_neg (by omega)]) (by omega) (by omega)
      exact ⟨h', x, g1, g2, (FR.up (by simp)).tr g3⟩
    · rw [if_pos (by omega)]
      refine ⟨h, _, rfl, fun p => ?_, FR.rf _ _⟩
      rw [hp]
      by_cases c : f + i ≤ p ∧ p < T.length - o + i
      · rw [if_pos c, if_pos (by omega)]
      · rw [if_neg c, if_neg (by omega)]
theorem M_put_loop {ks ss : List Int} (kd : Int) {a b f : Nat} (hab : a ≤ b) (hb : b ≤ ks.length) (hf : f ≤ 28) {h1 : MH} : ∀ (n m : Nat) (h : MH), MV2 h ks ss → (∀ p, h 84 p = if f ≤ p ∧ p < f + (pt ks ss kd a m).length then (pt ks ss kd a m).getD (p - f) (-1) else h1 84 p) → a + m ≤ b → b < a + m + n →
    ∃ h' x y, F_M_replaces_L118 (b : Int) kd n ((f + (pt ks ss kd a m).length : Nat) : Int) ((a + m : Nat) : Int) h = some (x, y, h') ∧ MV2 h' ks ss ∧ (∀ p, h' 84 p = if f ≤ p ∧ p < f + (pt ks ss kd a (b - a)).length then (pt ks ss kd a (b - a)).getD (p - f) (-1) else h1 84 p) ∧ FR [84] h h' := by
  intro n
  induction n with
  | zero => intro m h _ _ h1 h2; omega
  | succ n ih =>
    intro m h V hp h1 h2
    have h28 := V.2.2.1
    unfold F_M_replaces_L118
    by_cases hc : a + m < b
    · have e1 : wr (((a + m : Nat) : Int) + 1) = ((a + (m + 1) : Nat) : Int) := by rw [wr_id (by omega)]; omega
      have lm := pt_le ks ss kd a m
      rw [if_pos (lt_int hc), e1, gd_pos ⟨Int.natCast_nonneg _, by omega⟩, nn, V.2.2.2.1 _ (by omega)]
      dsimp only [jk2]
      by_cases ck : ks.getD (a + m) (-1) = kd
      · have hp1 : pt ks ss kd a (m + 1) = pt ks ss kd a m := by rw [pt, if_pos ck, List.append_nil]
        have := ih (m + 1) h V (by rw [hp1]; exact hp) (by omega) (by omega)
        rw [hp1] at this
        rw [if_pos ck]
        exact this
      · have hp1 : pt ks ss kd a (m + 1) = pt ks ss kd a m ++ [ss.getD (a + m) (-1)] := by rw [pt, if_neg ck]
        have e2 : wr (((f + (pt ks ss kd a m).length : Nat) : Int) + 1) = ((f + (pt ks ss kd a (m + 1)).length : Nat) : Int) := by
          rw [hp1, List.length_append, List.length_singleton, wr_id (by omega)]; omega
        rw [if_neg ck, gd_pos ⟨Int.natCast_nonneg _, by omega⟩, gd_pos ⟨Int.natCast_nonneg _, by omega⟩, nn, V.2.2.2.2 _ (by omega), e2]
        obtain ⟨h', x, y, g1, g2, g3, g4⟩ := ih (m + 1) (up h 84 (f + (pt ks ss kd a m).length) (ss.getD (a + m) (-1))) (V.up84 _ _) (fun p => by
          rw [up_if, hp, hp1, List.length_append, List.length_singleton]
          by_cases c : p = f + (pt ks ss kd a m).length
          · rw [if_pos c, if_pos (by omega), show p - f = (pt ks ss kd a m).length by omega]
            exact (snoc_get (pt ks ss kd a m) (ss.getD (a + m) (-1))).symm
          · rw [if_neg c]
            by_cases c2 : f ≤ p ∧ p < f + (pt ks ss kd a m).length
            · rw [if_pos c2, if_pos (by omega), List.getD_eq_getElem?_getD, List.getD_eq_getElem?_getD, List.getElem?_append_left (by omega)]
            · rw [if_neg c2, if_neg (by omega)]) (by omega) (by omega)
        exact ⟨h', x, y, g1, g2, g3, (FR.up (by simp)).tr g4⟩
    · rw [if_neg (nlt_int hc), show b - a = m by omega]
      exact ⟨h, _, _, rfl, V, hp, FR.rf _ _⟩
def FX (h h' : MH) : Prop := ∀ x y, x ≠ 84 → ¬ (x = 76 ∧ y = 13) → h' x y = h x y
theorem MV2.frx {h h' : MH} {ks ss : List Int} (V : MV2 h ks ss) (F : FX h h') : MV2 h' ks ss := by
  obtain ⟨a, b, c, d, e⟩ := V
  exact ⟨by rw [F 76 11 (by decide) (by decide)]; exact a, b, c, fun p hp => by rw [F 83 p (by decide) (fun z => absurd z.1 (by decide))]; exact d p hp, fun p hp => by rw [F 82 p (by decide) (fun z => absurd z.1 (by decide))]; exact e p hp⟩
theorem M_replaces {h : MH} {ks ss T : List Int} (V : MV2 h ks ss) (L : ML84 h T) (kd : Int) {a b f o : Nat} (hab : a ≤ b) (hb : b ≤ ks.length) (hT : f + o ≤ T.length) (hl : T.length + (pt ks ss kd a (b - a)).length ≤ 28 + o) :
    ∃ h', F_M_replaces (f : Int) (o : Int) (a : Int) (b : Int) kd h = some h' ∧ ML84 h' (rp T f o (pt ks ss kd a (b - a))) ∧ FX h h' := by
  have h28 := V.2.2.1
  obtain ⟨L1, L2, L3⟩ := L
  have hpl := pt_len ks ss kd a (b - a)
  have hple := pt_le ks ss kd a (b - a)
  have put := fun (h1 : MH) => M_put_loop (ks := ks) (ss := ss) kd (a := a) (b := b) (f := f) hab hb (by omega) (h1 := h1) FUEL 0 h1
  have hfin := rp_len (T := T) (p := f) (n := o) (pt ks ss kd a (b - a)) hT
  unfold F_M_replaces
  rw [M_linesBut V hab hb kd, ← hpl, ob1_s]
  generalize hI : pt ks ss kd a (b - a) = I at *
  have ew : wr ((I.length : Int) - (o : Int)) = (I.length : Int) - (o : Int) := wr_id ⟨by omega, by omega⟩
  rw [ew]
  have mid : ∃ h1, (∀ X : MH → Option MH, (if (I.length : Int) - (o : Int) ≤ 0 then ob2 (F_M_replaces_L69 (f : Int) (a : Int) (b : Int) kd ((I.length : Int) - (o : Int)) FUEL (wr ((f : Int) + (o : Int))) h) (fun (x8_11 : Int) (h12 : MH) => X h12) else ob2 (F_M_replaces_L30 (f : Int) (o : Int) (a : Int) (b : Int) kd ((I.length : Int) - (o : Int)) FUEL (wr ((h 76 13) - 1)) h) (fun (x8_14 : Int) (h15 : MH) => X h15)) = X h1) ∧ (∀ p, h1 84 p = if f + I.length ≤ p ∧ p < T.length - o + I.length then T.getD (p + o - I.length) (-1) else h 84 p) ∧ FR [84] h h1 := by
    by_cases c : I.length ≤ o
    · obtain ⟨h1, x, g1, g2, g3⟩ := M_down_loop (T := T) (h0 := h) (f := f) (o := o) (i := I.length) c hT L3 L1 (f : Int) (a : Int) (b : Int) kd FUEL 0 h (fun p => by rw [if_neg (by omega)]) L2 (by omega) (by rw [FUEL_eq]; omega)
      refine ⟨h1, fun X => ?_, g2, g3⟩
      rw [if_pos (by omega), wr_m (z := (f : Int) + (o : Int)) (f + o) (Int.natCast_add _ _).symm (by omega)]
      rw [Nat.add_zero] at g1
      rw [g1, ob2_s]
    · obtain ⟨h1, x, g1, g2, g3⟩ := M_up_loop (T := T) (h0 := h) (f := f) (o := o) (i := I.length) (by omega) hT L3 (by omega) L1 (a : Int) (b : Int) kd FUEL 0 h (fun p => by rw [if_neg (by omega)]) (by omega) (by rw [FUEL_eq]; omega)
      refine ⟨h1, fun X => ?_, g2, g3⟩
      rw [if_neg (by omega), L2, wr_id (z := (T.length : Int) - 1) (by omega)]
      rw [show (T.length : Int) - 1 - ((0 : Nat) : Int) = (T.length : Int) - 1 from Int.sub_zero _] at g1
      rw [g1, ob2_s]
  obtain ⟨h1, m1, m2, m3⟩ := mid
  dsimp only [jk1]
  rw [m1]
  have u13 : h1 76 13 = (T.length : Int) := by rw [m3 76 (by decide)]; exact L2
  have V1 : MV2 h1 ks ss := V.frx (fun x y hx _ => by rw [m3 x (by simpa using hx)])
  rw [u13, wr_id (z := (T.length : Int) + ((I.length : Int) - (o : Int))) (by omega)]
  have V2 : MV2 (up h1 76 13 ((T.length : Int) + ((I.length : Int) - (o : Int)))) ks ss := V1.frx (fun x y hx hy => by
    by_cases e : x = 76
    · subst e; rw [up_other (fun z => hy ⟨rfl, z.2⟩)]
    · rw [up_ne e])
  obtain ⟨h', x, y, g1, g2, g3, g4⟩ := M_put_loop (ks := ks) (ss := ss) kd (a := a) (b := b) (f := f) hab hb (by omega) (h1 := h1) FUEL 0 _ V2 (fun p => by rw [up_ne (by decide), if_neg (by rw [show (pt ks ss kd a 0).length = 0 from rfl]; omega)]) (by omega) (by rw [FUEL_eq]; omega)
  rw [show (pt ks ss kd a 0).length = 0 from rfl, Nat.add_zero, Nat.add_zero] at g1
  rw [g1, ob3_s]
  rw [hI] at g3
  refine ⟨h', rfl, ⟨fun p hpl2 => ?_, ?_, by omega⟩, fun x y hx hy => ?_⟩
  · rw [g3, rp_get hT, m2]
    by_cases c1 : p < f
    · rw [if_neg (by omega), if_neg (by omega), if_pos c1]
      exact L1 p (by omega)
    · rw [if_neg c1]
      by_cases c2 : p < f + I.length
      · rw [if_pos (by omega), if_pos c2]
      · rw [if_neg (by omega), if_pos (by omega), if_neg c2]
  · rw [g4 76 (by decide), up_at]; omega
  · rw [g4 x (by simpa using hx)]
    by_cases e : x = 76
    · subst e; rw [up_other (fun z => hy ⟨rfl, z.2⟩), m3 76 (by decide)]
    · rw [up_ne e, m3 x (by simpa using hx)]

/-! ===== the reference looks for a place ===== -/
def ML84 (h : MH) (T : List Int) : Prop := (∀ p, p < T.length → h 84 p = T.getD p (-1)) ∧ h 76 13 = (T.length : Int) ∧ T.length ≤ 28
theorem lg_app {l : List Int} {v : Int} {i : Nat} (h : i < l.length) : lg (l ++ [v]) (i : Int) = lg l (i : Int) := by
  rw [lg_in (Int.natCast_nonneg _), lg_in (Int.natCast_nonneg _), nn, List.getD_eq_getElem?_getD, List.getD_eq_getElem?_getD, List.getElem?_append_left h]
theorem lg_app_last {l : List Int} {v : Int} : lg (l ++ [v]) (l.length : Int) = v := by
  rw [lg_in (Int.natCast_nonneg _), nn, List.getD_eq_getElem?_getD, List.getElem?_append_right (Nat.le_refl _), Nat.sub_self]
  rfl
theorem mtb_app (T : List Int) {l : List Int} {v p : Int} : ∀ n, n ≤ l.length → mtb T (l ++ [v]) p n = mtb T l p n := by
  intro n
  induction n with
  | zero => intro _; rfl
  | succ n ih =>
    intro h
    rw [mtb, mtb, ih (by omega), lg_app (by omega)]
theorem mtb_snoc (T : List Int) {l : List Int} {v p : Int} : mtb T (l ++ [v]) p (l ++ [v]).length = (mtb T l p l.length && decide (v = lg T (p + (l.length : Int)))) := by
  rw [List.length_append, List.length_singleton, mtb, mtb_app T _ (Nat.le_refl _), lg_app_last]
theorem pt_mono (ks ss : List Int) (k : Int) (a : Nat) {m : Nat} : ∀ n, m ≤ n → (pt ks ss k a m).length ≤ (pt ks ss k a n).length := by
  intro n
  induction n with
  | zero => intro h; rw [show m = 0 by omega]; exact Nat.le_refl _
  | succ n ih =>
    intro h
    by_cases c : m = n + 1
    · rw [c]; exact Nat.le_refl _
    · have := ih (by omega)
      rw [pt, List.length_append]
      omega
theorem M_fits_loop {h : MH} {ks ss T : List Int} (V : MV2 h ks ss) (L : ML84 h T) (kd : Int) {a b : Nat} {p : Int} (hab : a ≤ b) (hb : b ≤ ks.length) (h0 : 0 ≤ p) (hp : p + ((pt ks ss kd a (b - a)).length : Int) ≤ (T.length : Int)) : ∀ (n m : Nat), a + m ≤ b → b < a + m + n →
    ∃ x y, F_M_fits_L9 (b : Int) kd h n (p + ((pt ks ss kd a m).length : Int)) (if mtb T (pt ks ss kd a m) p (pt ks ss kd a m).length = true then 1 else 0) ((a + m : Nat) : Int) = some (x, (if mtb T (pt ks ss kd a (b - a)) p (pt ks ss kd a (b - a)).length = true then 1 else 0), y) := by
  intro n
  induction n with
  | zero => intro m h1 h2; omega
  | succ n ih =>
    intro m h1 h2
    have h28 := V.2.2.1
    have hT := L.2.2
    unfold F_M_fits_L9
    by_cases hc : a + m < b
    · have e1 : wr (((a + m : Nat) : Int) + 1) = ((a + (m + 1) : Nat) : Int) := by rw [wr_id (by omega)]; omega
      have lm := pt_le ks ss kd a m
      obtain ⟨x, y, g⟩ := ih (m + 1) (by omega) (by omega)
      rw [if_pos (lt_int hc)]
      dsimp only [jk1]
      rw [gd_pos ⟨Int.natCast_nonneg _, by omega⟩, gd_pos ⟨Int.natCast_nonneg _, by omega⟩, gd_pos ⟨Int.natCast_nonneg _, by omega⟩, nn, V.2.2.2.1 _ (by omega), V.2.2.2.2 _ (by omega), jn1_p, jn1_p, e1]
      by_cases ck : ks.getD (a + m) (-1) = kd
      · have hp1 : pt ks ss kd a (m + 1) = pt ks ss kd a m := by rw [pt, if_pos ck, List.append_nil]
        rw [hp1] at g
        rw [if_pos ck, if_pos ck, wr_id (z := p + ((pt ks ss kd a m).length : Int) + 0) (by omega), Int.add_zero]
        by_cases c1 : mtb T (pt ks ss kd a m) p (pt ks ss kd a m).length = true
        · rw [if_pos c1] at g ⊢
          rw [if_neg (by decide)]
          exact ⟨x, y, g⟩
        · rw [if_neg c1] at g ⊢
          rw [if_pos rfl]
          exact ⟨x, y, g⟩
      · have hp1 : pt ks ss kd a (m + 1) = pt ks ss kd a m ++ [ss.getD (a + m) (-1)] := by rw [pt, if_neg ck]
        have mo := pt_mono ks ss kd a (m := m + 1) (b - a) (by omega)
        rw [hp1, List.length_append, List.length_singleton] at mo
        rw [hp1, mtb_snoc, List.length_append, List.length_singleton] at g
        have e2 : wr (p + ((pt ks ss kd a m).length : Int) + 1) = p + (((pt ks ss kd a m).length + 1 : Nat) : Int) := by rw [wr_id (by omega)]; omega
        rw [if_neg ck, if_neg ck, e2]
        by_cases c1 : mtb T (pt ks ss kd a m) p (pt ks ss kd a m).length = true
        · rw [c1, Bool.true_and] at g
          have hg : h 84 (p + ((pt ks ss kd a m).length : Int)).toNat = lg T (p + ((pt ks ss kd a m).length : Int)) := by
            rw [lg_in (by omega)]
            exact L.1 _ (by omega)
          rw [if_pos c1, if_neg (by decide), gd_pos (by omega), hg]
          by_cases c2 : lg T (p + ((pt ks ss kd a m).length : Int)) = ss.getD (a + m) (-1)
          · rw [show decide (ss.getD (a + m) (-1) = lg T (p + ((pt ks ss kd a m).length : Int))) = true from decide_eq_true c2.symm, if_pos rfl] at g
            rw [if_pos c2, gd_pos ⟨Int.natCast_nonneg _, by omega⟩]
            exact ⟨x, y, g⟩
          · rw [show decide (ss.getD (a + m) (-1) = lg T (p + ((pt ks ss kd a m).length : Int))) = false from decide_eq_false (fun z => c2 z.symm), if_neg (by decide)] at g
            rw [if_neg c2, gd_pos ⟨Int.natCast_nonneg _, by omega⟩]
            exact ⟨x, y, g⟩
        · rw [show mtb T (pt ks ss kd a m) p (pt ks ss kd a m).length = false from Bool.eq_false_iff.mpr c1, Bool.false_and, if_neg (by decide)] at g
          rw [if_neg c1, if_pos rfl]
          exact ⟨x, y, g⟩
    · rw [if_neg (nlt_int hc), show b - a = m by omega]
      exact ⟨_, _, rfl⟩
theorem M_fits {h : MH} {ks ss T : List Int} (V : MV2 h ks ss) (L : ML84 h T) (kd : Int) {a b : Nat} {p : Int} (hab : a ≤ b) (hb : b ≤ ks.length) (h0 : 0 ≤ p) (hp : p + ((pt ks ss kd a (b - a)).length : Int) ≤ (T.length : Int)) : F_M_fits p (a : Int) (b : Int) kd h = some (if mtb T (pt ks ss kd a (b - a)) p (pt ks ss kd a (b - a)).length = true then 1 else 0) := by
  have h28 := V.2.2.1
  obtain ⟨x, y, f⟩ := M_fits_loop V L kd hab hb h0 hp FUEL 0 (by omega) (by rw [FUEL_eq]; omega)
  rw [show pt ks ss kd a 0 = [] from rfl, show mtb T [] p ([] : List Int).length = true from rfl, if_pos rfl, show p + (([] : List Int).length : Int) = p from Int.add_zero p, Nat.add_zero] at f
  unfold F_M_fits
  rw [f, ob3_s, gd_pos]
  split
  · exact Or.inr rfl
  · exact Or.inl rfl
theorem M_looks_loop {h : MH} {ks ss T : List Int} (V : MV2 h ks ss) (L : ML84 h T) (kd : Int) {a b : Nat} {w first : Int} (hab : a ≤ b) (hb : b ≤ ks.length) (h0 : 0 ≤ first) (hw : -500 ≤ w ∧ w ≤ 500) : ∀ (n r d : Nat), d + r = 200 → r < n →
    os (F_M_looks_L19 w first (a : Int) (b : Int) kd ((T.length : Int) - ((pt ks ss kd a (b - a)).length : Int)) h n (d : Int)) (fun (a : Int) => some a) (fun (_ : Int) => some (-4)) = some (fnd T (pt ks ss kd a (b - a)) first w r d) := by
  intro n
  induction n with
  | zero => intro r d h1 h2; omega
  | succ n ih =>
    intro r d h1 h2
    unfold F_M_looks_L19
    cases r with
    | zero => rw [if_neg (by omega)]; rfl
    | succ r =>
      have nx := ih r (d + 1) (by omega) (by omega)
      have e1 : wr ((d : Int) + 1) = ((d + 1 : Nat) : Int) := by rw [wr_id (by omega)]; omega
      rw [if_pos (by omega), wr_id (z := w - (d : Int)) (by omega), wr_id (z := w + (d : Int)) (by omega), e1, fnd]
      dsimp only [jk1]
      have one : ∀ v : Int, (F_M_in v first ((T.length : Int) - ((pt ks ss kd a (b - a)).length : Int)) = 0 ∧ fit T (pt ks ss kd a (b - a)) first v = false) ∨ (F_M_in v first ((T.length : Int) - ((pt ks ss kd a (b - a)).length : Int)) = 1 ∧ F_M_fits v (a : Int) (b : Int) kd h = some (if fit T (pt ks ss kd a (b - a)) first v = true then 1 else 0)) := by
        intro v
        by_cases c : first ≤ v ∧ v ≤ (T.length : Int) - ((pt ks ss kd a (b - a)).length : Int)
        · right
          refine ⟨M_in_1 c, ?_⟩
          rw [M_fits V L kd hab hb (by omega) (by omega)]
          unfold fit
          rw [show decide (first ≤ v ∧ v + ((pt ks ss kd a (b - a)).length : Int) ≤ (T.length : Int)) = true from decide_eq_true (by omega), Bool.true_and]
        · left
          refine ⟨M_in_0 c, ?_⟩
          unfold fit
          rw [show decide (first ≤ v ∧ v + ((pt ks ss kd a (b - a)).length : Int) ≤ (T.length : Int)) = false from decide_eq_false (by omega), Bool.false_and]
      have two : ∀ (X Y : Option (Sum Int Int)) (v : Int), (if F_M_in v first ((T.length : Int) - ((pt ks ss kd a (b - a)).length : Int)) = 0 then X else ob1 (F_M_fits v (a : Int) (b : Int) kd h) (fun r => if r = 0 then X else Y)) = if fit T (pt ks ss kd a (b - a)) first v = true then Y else X := by
        intro X Y v
        rcases one v with ⟨o1, o2⟩ | ⟨o1, o2⟩
        · rw [o1, o2, if_pos rfl, if_neg (by decide)]
        · rw [o1, o2, if_neg (by decide), ob1_s]
          by_cases c : fit T (pt ks ss kd a (b - a)) first v = true
          · rw [if_pos c, if_pos c, if_neg (by decide)]
          · rw [if_neg c, if_neg c, if_pos rfl]
      rw [two, two]
      by_cases c1 : fit T (pt ks ss kd a (b - a)) first (w - (d : Int)) = true
      · rw [if_pos c1, if_pos c1]; rfl
      · rw [if_neg c1, if_neg c1]
        by_cases c2 : fit T (pt ks ss kd a (b - a)) first (w + (d : Int)) = true
        · rw [if_pos c2, if_pos c2]; rfl
        · rw [if_neg c2, if_neg c2]
          exact nx
theorem M_looks {h : MH} {ks ss T : List Int} (V : MV2 h ks ss) (L : ML84 h T) (kd : Int) {a b : Nat} {w first : Int} (hab : a ≤ b) (hb : b ≤ ks.length) (h0 : 0 ≤ first) (hw : -80 ≤ w ∧ w ≤ 100) : F_M_looks w first (a : Int) (b : Int) kd h = some (fnd T (pt ks ss kd a (b - a)) first w 113 0) := by
  have h28 := V.2.2.1
  have hT := L.2.2
  have hl := pt_len ks ss kd a (b - a)
  have hle := pt_le ks ss kd a (b - a)
  unfold F_M_looks
  rw [M_linesBut V hab hb kd, ← hl, ob1_s, L.2.1, wr_id (z := (T.length : Int) - ((pt ks ss kd a (b - a)).length : Int)) (by omega)]
  have := M_looks_loop V L kd hab hb (w := w) h0 (by omega) FUEL 200 0 rfl (by rw [FUEL_eq]; omega)
  rw [show ((0 : Nat) : Int) = 0 from rfl] at this
  rw [this]
  have fm := fnd_more (T := T) (out := pt ks ss kd a (b - a)) (first := first) (w := w) 113 87 0 (fun e he => by
    constructor
    · refine Bool.eq_false_iff.mpr (fun z => ?_)
      have := fit_in z
      omega
    · refine Bool.eq_false_iff.mpr (fun z => ?_)
      have := fit_in z
      omega)
  exact congrArg some fm

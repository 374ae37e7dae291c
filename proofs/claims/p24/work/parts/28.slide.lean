/-! ===== slides, worths, places ===== -/
def bar (ks ss : List Int) (t e : Int) (dn : Int) : Int :=
  if dn = 0 then (if lg ss (t - 1) = -1 then 2 else if lg ss (t - 1) = lg ss (e - 1) then (if lg ks (t - 2) ≤ 0 then 0 else 4) else 3)
  else (if lg ss e = -1 then 2 else if lg ss e = lg ss t then (if lg ks (e + 1) ≤ 0 then 0 else 4) else 3)
theorem V_barAt {h : MH} {ks ss : List Int} (R : RW h 55 ks) (Rs : RW h 57 ss) {t e dn : Int} (h1 : -1000 ≤ t ∧ t ≤ 1000) (h2 : -1000 ≤ e ∧ e ≤ 1000) : F_V_barAt t e dn h = bar ks ss t e dn := by
  unfold F_V_barAt bar
  dsimp only [jn1]
  by_cases hd : dn = 0
  · rw [if_pos hd, if_pos hd, if_pos hd, if_pos hd]
    simp (disch := omega) only [wr_id]
    rw [Rs.at, Rs.at, R.at]
  · rw [if_neg hd, if_neg hd, if_neg hd, if_neg hd]
    simp (disch := omega) only [wr_id]
    rw [Rs.at, Rs.at, R.at]
def SOK (ss : List Int) : Prop := ∀ x ∈ ss, 0 ≤ x
theorem SOK.get {ss : List Int} (hs : SOK ss) {p : Nat} (hp : p < ss.length) : 0 ≤ ss.getD p (-1) := by
  rw [List.getD_eq_getElem?_getD, List.getElem?_eq_getElem hp]
  exact hs _ (List.getElem_mem hp)
theorem SOK.out {ss : List Int} (hs : SOK ss) {i : Int} : lg ss i = -1 ↔ (i < 0 ∨ (ss.length : Int) ≤ i) := by
  constructor
  · intro h
    by_cases h0 : i < 0
    · exact Or.inl h0
    · by_cases h1 : (ss.length : Int) ≤ i
      · exact Or.inr h1
      · rw [lg_in (by omega)] at h
        have := hs.get (p := i.toNat) (by omega)
        omega
  · rintro (h | h)
    · exact lg_neg h
    · exact lg_out h
/-- by how many lines, one after the other -/
def wy (dn : Int) : Int := if dn = 0 then -1 else 1
def rcf (ks ss : List Int) (dn : Int) : Nat → Int → Int → Nat
  | 0, _, _ => 0
  | f + 1, t, e => if bar ks ss t e dn = 0 then rcf ks ss dn f (t + wy dn) (e + wy dn) + 1 else 0
theorem bar_in {ks ss : List Int} (hs : SOK ss) {t e dn : Int} (h : bar ks ss t e dn = 0) : (dn = 0 → 0 ≤ t - 1) ∧ (dn ≠ 0 → e < (ss.length : Int)) := by
  unfold bar at h
  constructor
  · intro hd
    rw [if_pos hd] at h
    by_cases c : lg ss (t - 1) = -1
    · rw [if_pos c] at h; exact absurd h (by decide)
    · have := mt hs.out.mpr c
      omega
  · intro hd
    rw [if_neg hd] at h
    by_cases c : lg ss e = -1
    · rw [if_pos c] at h; exact absurd h (by decide)
    · have := mt hs.out.mpr c
      omega
theorem wy_cases (dn : Int) : (dn = 0 ∧ wy dn = -1) ∨ (dn ≠ 0 ∧ wy dn = 1) := by
  unfold wy
  by_cases h : dn = 0
  · exact Or.inl ⟨h, if_pos h⟩
  · exact Or.inr ⟨h, if_neg h⟩
theorem wy_m (dn : Int) (m : Nat) (hm : m ≤ 100) : -100 ≤ wy dn * (m : Int) ∧ wy dn * (m : Int) ≤ 100 ∧ wr (wy dn * (m : Int)) = wy dn * (m : Int) ∧ wr ((m : Int) * wy dn) = wy dn * (m : Int) := by
  rcases wy_cases dn with ⟨_, b⟩ | ⟨_, b⟩
  · rw [b]
    refine ⟨by omega, by omega, wr_id (by omega), ?_⟩
    rw [wr_id (by omega)]; omega
  · rw [b]
    refine ⟨by omega, by omega, wr_id (by omega), ?_⟩
    rw [wr_id (by omega)]; omega
theorem rcf_spec {ks ss : List Int} (hs : SOK ss) (dn : Int) : ∀ (f : Nat) (t e : Int), 0 ≤ t → e ≤ (ss.length : Int) → (dn = 0 → t < (f : Int)) → (dn ≠ 0 → (ss.length : Int) - e < (f : Int)) →
    (∀ j : Nat, j < rcf ks ss dn f t e → bar ks ss (t + wy dn * j) (e + wy dn * j) dn = 0) ∧ bar ks ss (t + wy dn * (rcf ks ss dn f t e : Nat)) (e + wy dn * (rcf ks ss dn f t e : Nat)) dn ≠ 0 ∧ 0 ≤ t + wy dn * (rcf ks ss dn f t e : Nat) ∧ e + wy dn * (rcf ks ss dn f t e : Nat) ≤ (ss.length : Int) := by
  intro f
  induction f with
  | zero =>
    intro t e h1 h2 h3 h4
    rcases wy_cases dn with ⟨a, b⟩ | ⟨a, b⟩
    · have := h3 a; omega
    · have := h4 a; omega
  | succ f ih =>
    intro t e h1 h2 h3 h4
    rw [rcf]
    by_cases hb : bar ks ss t e dn = 0
    · rw [if_pos hb]
      have hin := bar_in hs hb
      have w := wy_cases dn
      obtain ⟨g1, g2, g3, g4⟩ := ih (t + wy dn) (e + wy dn) (by
        rcases w with ⟨a, b⟩ | ⟨a, b⟩
        · have := hin.1 a; omega
        · omega) (by
        rcases w with ⟨a, b⟩ | ⟨a, b⟩
        · omega
        · have := hin.2 a; omega) (fun a => by have := h3 a; rcases w with ⟨a2, b⟩ | ⟨a2, b⟩ <;> omega) (fun a => by have := h4 a; rcases w with ⟨a2, b⟩ | ⟨a2, b⟩ <;> omega)
      generalize rcf ks ss dn f (t + wy dn) (e + wy dn) = N at g1 g2 g3 g4 ⊢
      have em : ∀ (x : Int) (j : Nat), x + wy dn + wy dn * (j : Int) = x + wy dn * ((j + 1 : Nat) : Int) := by
        intro x j
        rcases w with ⟨_, b⟩ | ⟨_, b⟩ <;> rw [b] <;> omega
      rw [em, em] at g2
      rw [em] at g3 g4
      refine ⟨fun j hj => ?_, g2, g3, g4⟩
      cases j with
      | zero =>
        have e0 : ∀ x : Int, x + wy dn * ((0 : Nat) : Int) = x := by intro x; rcases w with ⟨_, b⟩ | ⟨_, b⟩ <;> rw [b] <;> omega
        rw [e0, e0]; exact hb
      | succ j =>
        have := g1 j (by omega)
        rw [em, em] at this
        exact this
    · rw [if_neg hb]
      have e0 : ∀ x : Int, x + wy dn * ((0 : Nat) : Int) = x := by intro x; rcases wy_cases dn with ⟨_, b⟩ | ⟨_, b⟩ <;> rw [b] <;> omega
      rw [e0, e0]
      exact ⟨fun j hj => absurd hj (Nat.not_lt_zero _), hb, h1, h2⟩
def slc (ks ss : List Int) (q : Nat × Nat) (dn : Int) : Nat := rcf ks ss dn 29 (q.1 : Int) (q.2 : Int)
def sld (ks ss : List Int) (q : Nat × Nat) (dn : Int) : Nat := if pl ks q = 1 then slc ks ss q dn else 0
theorem slc_spec {ks ss : List Int} (hs : SOK ss) (q : Nat × Nat) (dn : Int) (h1 : q.1 < q.2) (h2 : q.2 ≤ ss.length) (h3 : ss.length ≤ 28) :
    (∀ j : Nat, j < slc ks ss q dn → bar ks ss ((q.1 : Int) + wy dn * j) ((q.2 : Int) + wy dn * j) dn = 0) ∧ bar ks ss ((q.1 : Int) + wy dn * (slc ks ss q dn : Nat)) ((q.2 : Int) + wy dn * (slc ks ss q dn : Nat)) dn ≠ 0 ∧ 0 ≤ (q.1 : Int) + wy dn * (slc ks ss q dn : Nat) ∧ (q.2 : Int) + wy dn * (slc ks ss q dn : Nat) ≤ (ss.length : Int) :=
  rcf_spec hs dn 29 (q.1 : Int) (q.2 : Int) (Int.natCast_nonneg _) (by omega) (fun _ => by omega) (fun _ => by omega)
theorem slc_le {ks ss : List Int} (hs : SOK ss) (q : Nat × Nat) (dn : Int) (h1 : q.1 < q.2) (h2 : q.2 ≤ ss.length) (h3 : ss.length ≤ 28) : (dn = 0 → slc ks ss q dn ≤ q.1) ∧ (dn ≠ 0 → q.2 + slc ks ss q dn ≤ ss.length) ∧ slc ks ss q dn < ss.length := by
  obtain ⟨-, -, a, b⟩ := slc_spec (ks := ks) hs q dn h1 h2 h3
  rcases wy_cases dn with ⟨c, w⟩ | ⟨c, w⟩
  · rw [w] at a b
    exact ⟨fun _ => by omega, fun z => absurd c z, by omega⟩
  · rw [w] at a b
    exact ⟨fun z => absurd z c, fun _ => by omega, by omega⟩
theorem pls_lg {ks : List Int} {H : HL} {k : Nat} {q : Nat × Nat} (h : H[k]? = some q) : lg (pls ks H) (k : Int) = pl ks q := by
  rw [lg_in (Int.natCast_nonneg _), nn, List.getD_eq_getElem?_getD]
  unfold pls
  rw [List.getElem?_map, h]
  rfl
theorem pl_01 (ks : List Int) (q : Nat × Nat) : pl ks q = 0 ∨ pl ks q = 1 := by
  unfold pl
  split
  · exact Or.inr rfl
  · exact Or.inl rfl
theorem V_isPlain {h : MH} {ks ss : List Int} {H : HL} (V : VC h ks ss H) {k : Nat} {q : Nat × Nat} (hq : H[k]? = some q) : F_V_isPlain (k : Int) h = pl ks q := by
  unfold F_V_isPlain
  rw [V.2.2.2.2.1.at, pls_lg hq]
  rcases pl_01 ks q with e | e <;> rw [e] <;> rfl
theorem V_top {h : MH} {ks ss : List Int} {H : HL} (V : VC h ks ss H) {k : Nat} {q : Nat × Nat} (hq : H[k]? = some q) : F_V_top (k : Int) h = (q.1 : Int) := by
  unfold F_V_top
  rw [V.2.2.1.at, tops_lg hq]
theorem V_end {h : MH} {ks ss : List Int} {H : HL} (V : VC h ks ss H) {k : Nat} {q : Nat × Nat} (hq : H[k]? = some q) : F_V_end (k : Int) h = (q.2 : Int) := by
  unfold F_V_end
  rw [V.2.2.2.1.at, ends_lg hq]
theorem VC.q {h : MH} {ks ss : List Int} {H : HL} (V : VC h ks ss H) {k : Nat} {q : Nat × Nat} (hq : H[k]? = some q) : q.1 < q.2 ∧ q.2 ≤ ks.length ∧ q.2 ≤ ss.length ∧ ss.length ≤ 28 ∧ ks.length ≤ 28 := by
  have hm := List.mem_of_getElem? hq
  obtain ⟨-, -, -, -, -, hs, a, b⟩ := V
  have := hs.2.1 q hm
  exact ⟨hs.1.2 q hm, this, by omega, by omega, b⟩
theorem V_reach_loop {h : MH} {ks ss : List Int} {H : HL} (V : VC h ks ss H) (hso : SOK ss) {k : Nat} {q : Nat × Nat} (hq : H[k]? = some q) (dn : Int) : ∀ (n m : Nat), m ≤ slc ks ss q dn → slc ks ss q dn < m + n → F_V_reach_L23 (k : Int) dn (wy dn) h n (m : Int) = some ((slc ks ss q dn : Nat) : Int) := by
  intro n
  induction n with
  | zero => intro m h1 h2; omega
  | succ n ih =>
    intro m h1 h2
    obtain ⟨a1, a2, a3, a4, a5⟩ := V.q hq
    obtain ⟨s1, s2, s3, s4⟩ := slc_spec (ks := ks) hso q dn a1 a3 a4
    have s5 := slc_le (ks := ks) hso q dn a1 a3 a4
    have w := wy_cases dn
    unfold F_V_reach_L23 F_V_size
    rw [V_top V hq, V_end V hq, V.1.size]
    have wm := wy_m dn m (by omega)
    have a6 := V.2.2.2.2.2.2.1
    have e1 : wr ((q.1 : Int) + wr (wy dn * (m : Int))) = (q.1 : Int) + wy dn * (m : Int) := by
      rw [wm.2.2.1, wr_id (by omega)]
    have e2 : wr ((q.2 : Int) + wr (wy dn * (m : Int))) = (q.2 : Int) + wy dn * (m : Int) := by
      rw [wm.2.2.1, wr_id (by omega)]
    rw [e1, e2, V_barAt V.1 V.2.1 (by omega) (by omega)]
    by_cases hc : m = slc ks ss q dn
    · rw [hc, if_neg s2]
      split <;> rfl
    · rw [if_pos (by omega), if_pos (s1 m (by omega)), wr_id (by omega)]
      exact ih (m + 1) (by omega) (by omega)
theorem V_reach {h : MH} {ks ss : List Int} {H : HL} (V : VC h ks ss H) (hso : SOK ss) {k : Nat} {q : Nat × Nat} (hq : H[k]? = some q) (dn : Int) : F_V_reach (k : Int) dn h = some ((sld ks ss q dn : Nat) : Int) := by
  obtain ⟨a1, a2, a3, a4, a5⟩ := V.q hq
  have s5 := slc_le (ks := ks) hso q dn a1 a3 a4
  unfold F_V_reach sld
  rw [V_isPlain V hq]
  dsimp only [jn1]
  rcases pl_01 ks q with e | e
  · rw [e, if_pos rfl, if_neg (by decide)]; rfl
  · rw [e, if_neg (by decide), if_pos rfl]
    have := V_reach_loop V hso hq dn FUEL 0 (Nat.zero_le _) (by rw [FUEL_eq]; omega)
    unfold wy at this
    rw [show ((0 : Nat) : Int) = 0 from rfl] at this
    rw [this]
    rfl
/-- the worth of a place -/
def wth (ss : List Int) (t e : Int) : Int := (if t = 0 ∨ lg ss (t - 1) = 6 then 4 else 0) + (if lg ss (e - 1) = 6 then 2 else 0) + (if lg ss t = 7 then 1 else 0) + (if lg ss (e - 1) = 8 then 3 else 0)
theorem wth_bd (ss : List Int) (t e : Int) : 0 ≤ wth ss t e ∧ wth ss t e ≤ 10 := by
  unfold wth
  have i4 : ∀ (c : Prop) [Decidable c] (v : Int), 0 ≤ v → 0 ≤ (if c then v else 0) ∧ (if c then v else 0) ≤ v := by
    intro c _ v hv
    split <;> omega
  have a := i4 (t = 0 ∨ lg ss (t - 1) = 6) 4 (by decide)
  have b := i4 (lg ss (e - 1) = 6) 2 (by decide)
  have c := i4 (lg ss t = 7) 1 (by decide)
  have d := i4 (lg ss (e - 1) = 8) 3 (by decide)
  omega
theorem wsum {a b c d : Int} (ha : 0 ≤ a ∧ a ≤ 4) (hb : 0 ≤ b ∧ b ≤ 4) (hc : 0 ≤ c ∧ c ≤ 4) (hd : 0 ≤ d ∧ d ≤ 4) : wr (wr (wr (a + b) + c) + d) = a + b + c + d := by
  rw [wr_id (z := a + b) (by omega), wr_id (z := a + b + c) (by omega), wr_id (by omega)]
theorem i04 (c : Prop) [Decidable c] (v : Int) (hv : 0 ≤ v ∧ v ≤ 4) : 0 ≤ (if c then v else 0) ∧ (if c then v else 0) ≤ 4 := by split <;> omega
theorem V_worthAt {h : MH} {ss : List Int} (Rs : RW h 57 ss) (hso : SOK ss) (hlen : ss.length ≤ 28) {t e : Int} (h0 : 0 ≤ t) (h1 : t < e) (h2 : e ≤ (ss.length : Int)) : F_V_worthAt t e h = wth ss t e := by
  unfold F_V_worthAt wth
  dsimp only [jk1, jn1]
  rw [wr_id (z := t - 1) (by omega), wr_id (z := e - 1) (by omega), Rs.at, Rs.at, Rs.at]
  have key : ∀ s3 : Int, (0 ≤ s3 ∧ s3 ≤ 4) → (if lg ss (e - 1) = 8 then wr (wr (wr (s3 + (if lg ss (e - 1) = 6 then 2 else 0)) + (if lg ss t = 7 then 1 else 0)) + 3) else wr (wr (wr (s3 + (if lg ss (e - 1) = 6 then 2 else 0)) + (if lg ss t = 7 then 1 else 0)) + 0)) = s3 + (if lg ss (e - 1) = 6 then 2 else 0) + (if lg ss t = 7 then 1 else 0) + (if lg ss (e - 1) = 8 then 3 else 0) := by
    intro s3 h3
    have w3 := wsum h3 (i04 (lg ss (e - 1) = 6) 2 (by decide)) (i04 (lg ss t = 7) 1 (by decide)) (d := 3) (by decide)
    have w0 := wsum h3 (i04 (lg ss (e - 1) = 6) 2 (by decide)) (i04 (lg ss t = 7) 1 (by decide)) (d := 0) (by decide)
    rw [w3, w0]
    split <;> rfl
  rw [key 4 (by decide), key 0 (by decide)]
  by_cases c : lg ss (t - 1) = 6
  · rw [if_pos c, if_pos (Or.inr c)]
  · rw [if_neg c]
    by_cases c2 : t = 0
    · rw [if_pos (hso.out.mpr (Or.inl (by omega))), if_pos (Or.inl c2)]
    · rw [if_neg (fun z => by have := hso.out.mp z; omega), if_neg (show ¬ (t = 0 ∨ lg ss (t - 1) = 6) from fun z => z.elim c2 c)]

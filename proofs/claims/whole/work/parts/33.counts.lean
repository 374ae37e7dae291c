/-! ===== what is counted over the view ===== -/
theorem cn_all {ks : List Int} {k : Int} (a n : Nat) : cn ks k a n ≤ (n : Int) := (cn_bd ks k a n).2
theorem M_linesBut_loop {h : MH} {ks ss : List Int} (V : MV2 h ks ss) {a b : Nat} (hb : b ≤ ks.length) (kd : Int) : ∀ (n m : Nat), a + m ≤ b → b < a + m + n → F_M_linesBut_L6 (b : Int) kd h n ((m : Int) - cn ks kd a m) ((a + m : Nat) : Int) = some (((b - a : Nat) : Int) - cn ks kd a (b - a), (b : Int)) := by
  intro n
  induction n with
  | zero => intro m h1 h2; omega
  | succ n ih =>
    intro m h1 h2
    have h28 := V.2.2.1
    unfold F_M_linesBut_L6
    by_cases hc : a + m < b
    · have hbd := cn_bd ks kd a m
      have e2 : wr (((a + m : Nat) : Int) + 1) = ((a + (m + 1) : Nat) : Int) := by rw [wr_id (by omega)]; omega
      rw [if_pos (lt_int hc), gd_pos ⟨Int.natCast_nonneg _, by omega⟩, jn1_p, nn, V.2.2.2.1 _ (by omega), e2]
      have e1 : wr ((m : Int) - cn ks kd a m + (if ks.getD (a + m) (-1) = kd then 0 else 1)) = ((m + 1 : Nat) : Int) - cn ks kd a (m + 1) := by
        rw [cn]
        by_cases c : ks.getD (a + m) (-1) = kd
        · rw [if_pos c, if_pos c, wr_id (by omega)]; omega
        · rw [if_neg c, if_neg c, wr_id (by omega)]; omega
      rw [e1]
      exact ih (m + 1) (by omega) (by omega)
    · rw [if_neg (nlt_int hc)]
      have e : a + m = b := by omega
      rw [e, show b - a = m by omega]
theorem M_linesBut {h : MH} {ks ss : List Int} (V : MV2 h ks ss) {a b : Nat} (hab : a ≤ b) (hb : b ≤ ks.length) (kd : Int) : F_M_linesBut (a : Int) (b : Int) kd h = some (((b - a : Nat) : Int) - cn ks kd a (b - a)) := by
  have h28 := V.2.2.1
  have := M_linesBut_loop V (a := a) hb kd FUEL 0 (by omega) (by rw [FUEL_eq]; omega)
  unfold F_M_linesBut
  rw [show cn ks kd a 0 = 0 from rfl, show ((0 : Nat) : Int) - 0 = 0 from rfl, Nat.add_zero] at this
  rw [this]
  rfl
theorem V_ahead {h : MH} {ks : List Int} (R : RW h 55 ks) {p : Nat} (hp : p ≤ 28) : F_V_newAhead (p : Int) h = some ((p : Int) - cn ks 1 0 p) ∧ F_V_oldAhead (p : Int) h = some ((p : Int) - cn ks 2 0 p) := by
  unfold F_V_newAhead F_V_oldAhead
  have b1 := cn_bd ks 1 0 p
  have b2 := cn_bd ks 2 0 p
  have e1 := V_linesWithin (k := 1) R (Nat.zero_le p) hp
  have e2 := V_linesWithin (k := 2) R (Nat.zero_le p) hp
  rw [show ((0 : Nat) : Int) = 0 from rfl, Nat.sub_zero] at e1 e2
  rw [e1, e2, ob1_s, ob1_s, wr_id (by omega), wr_id (by omega)]
  exact ⟨rfl, rfl⟩
theorem V_linesOfKind {h : MH} {ks : List Int} (R : RW h 55 ks) (hl : ks.length ≤ 28) (kd : Int) : F_V_linesOfKind kd h = some (cn ks kd 0 ks.length) := by
  have e1 := V_linesWithin (k := kd) R (Nat.zero_le ks.length) hl
  unfold F_V_linesOfKind F_V_size
  rw [R.size]
  rw [show ((0 : Nat) : Int) = 0 from rfl] at e1
  rw [e1]
  rfl
theorem M_linesOf_loop {h : MH} {ks ss : List Int} (V : MV2 h ks ss) (kd : Int) : ∀ (n m : Nat), m ≤ ks.length → ks.length < m + n → F_M_linesOf_L4 kd h n (cn ks kd 0 m) (m : Int) = some (cn ks kd 0 ks.length, (ks.length : Int)) := by
  intro n
  induction n with
  | zero => intro m h1 h2; omega
  | succ n ih =>
    intro m h1 h2
    have h28 := V.2.2.1
    unfold F_M_linesOf_L4
    rw [V.1]
    by_cases hc : m < ks.length
    · have hbd := cn_bd ks kd 0 m
      have e2 : wr ((m : Int) + 1) = ((m + 1 : Nat) : Int) := by rw [wr_id (by omega)]; omega
      rw [if_pos (lt_int hc), gd_pos ⟨Int.natCast_nonneg _, by omega⟩, jn1_p, nn, V.2.2.2.1 _ hc, e2]
      have e1 : wr (cn ks kd 0 m + (if ks.getD m (-1) = kd then 1 else 0)) = cn ks kd 0 (m + 1) := by
        rw [cn, Nat.zero_add, wr_id (by split <;> omega)]
      rw [e1]
      exact ih (m + 1) (by omega) (by omega)
    · rw [if_neg (nlt_int hc)]
      have e : m = ks.length := by omega
      rw [e]
theorem M_linesOf {h : MH} {ks ss : List Int} (V : MV2 h ks ss) (kd : Int) : F_M_linesOf kd h = some (cn ks kd 0 ks.length) := by
  have h28 := V.2.2.1
  have := M_linesOf_loop V kd FUEL 0 (Nat.zero_le _) (by rw [FUEL_eq]; omega)
  unfold F_M_linesOf
  rw [show cn ks kd 0 0 = 0 from rfl, show ((0 : Nat) : Int) = 0 from rfl] at this
  rw [this]
  rfl
/-- the hunk that a line of the view lies in -/
def hkO (ks : List Int) (H : HL) (p : Nat) : Int := if 0 < ks.getD p (-1) then (nt H (p + 1) : Int) - 1 else -4
theorem V_hunkOf_loop {h : MH} {ks ss : List Int} {H : HL} (V : VC h ks ss H) {p : Nat} : ∀ (n i : Nat), i ≤ H.length → H.length < i + n → (∀ (j : Nat) (q : Nat × Nat), j < i → H[j]? = some q → ¬ (q.1 ≤ p ∧ p < q.2)) →
    F_V_hunkOf_L2 (p : Int) h n (i : Int) = (if 0 < ks.getD p (-1) then some (Sum.inl ((nt H (p + 1) : Int) - 1)) else some (Sum.inr (H.length : Int))) := by
  intro n
  induction n with
  | zero => intro i h1 h2; omega
  | succ n ih =>
    intro i h1 h2 h3
    have hs := V.2.2.2.2.2.1
    have h14 := hs.len14 V.2.2.2.2.2.2.2
    unfold F_V_hunkOf_L2 F_V_hunks
    rw [V.2.2.1.size, tops_len]
    dsimp only [jk1]
    by_cases hc : i < H.length
    · have hq : H[i]? = some (H[i]'hc) := List.getElem?_eq_getElem _
      generalize H[i]'hc = q at hq
      have e1 : wr ((i : Int) + 1) = ((i + 1 : Nat) : Int) := by rw [wr_id (by omega)]; omega
      rw [if_pos (lt_int hc), V_top V hq, V_end V hq, e1]
      by_cases c : q.1 ≤ p ∧ p < q.2
      · rw [if_pos (Int.ofNat_le.mpr c.1), if_pos (lt_int c.2), if_pos (show 0 < ks.getD p (-1) from hs.inn (List.mem_of_getElem? hq) p c.1 c.2), nt_in hs.1 hq c.1 c.2]
        rw [show ((i + 1 : Nat) : Int) - 1 = (i : Int) by omega]
      · have := ih (i + 1) (by omega) (by omega) (fun j r hj hr => by
          by_cases e : j = i
          · subst e; rw [hq] at hr; cases hr; exact c
          · exact h3 j r (by omega) hr)
        rw [this]
        by_cases c1 : q.1 ≤ p
        · rw [if_pos (Int.ofNat_le.mpr c1), if_neg (nlt_int (fun z => c ⟨c1, z⟩))]
        · rw [if_neg (by omega)]
    · rw [if_neg (nlt_int hc), if_neg (show ¬ 0 < ks.getD p (-1) from fun z => by
        obtain ⟨q, hq, a, b⟩ := (hs.2.2 p).mp z
        obtain ⟨j, hj⟩ := List.getElem?_of_mem hq
        have := (List.getElem?_eq_some_iff.mp hj).1
        exact h3 j q (by omega) hj ⟨a, b⟩)]
      rw [show i = H.length by omega]
theorem V_hunkOf {h : MH} {ks ss : List Int} {H : HL} (V : VC h ks ss H) (p : Nat) : F_V_hunkOf (p : Int) h = some (hkO ks H p) := by
  have h14 := V.2.2.2.2.2.1.len14 V.2.2.2.2.2.2.2
  have := V_hunkOf_loop V (p := p) FUEL 0 (Nat.zero_le _) (by rw [FUEL_eq]; omega) (fun j q hj => absurd hj (Nat.not_lt_zero _))
  rw [show ((0 : Nat) : Int) = 0 from rfl] at this
  unfold F_V_hunkOf hkO
  rw [this]
  split <;> rfl
theorem M_hunkAt_loop {h : MH} {ks ss : List Int} {H : HL} (V : MV2 h ks ss) (hk : KOK ks) (hs : HSP ks H) {x : Nat} (hx : x < ks.length) : ∀ (n p : Nat), p ≤ x + 1 → x + 1 < p + n → F_M_hunkAt_L4 (x : Int) h n (nt H p : Int) (p : Int) = some ((nt H (x + 1) : Int), ((x + 1 : Nat) : Int)) := by
  intro n
  induction n with
  | zero => intro p h1 h2; omega
  | succ n ih =>
    intro p h1 h2
    have hl := V.2.2.1
    have h14 := hs.len14 hl
    unfold F_M_hunkAt_L4
    by_cases hc : p ≤ x
    · rw [if_pos (Int.ofNat_le.mpr hc)]
      obtain ⟨r, f, hr⟩ := M_begins V hk (p := p) (by omega)
      rw [f, ob1_s, jn1_p]
      have hb := nt_le H p
      have w1 : wr ((p : Int) + 1) = ((p + 1 : Nat) : Int) := by rw [wr_id (by omega)]; omega
      rw [w1]
      rcases hr with ⟨h3, rfl⟩ | ⟨h3, rfl⟩
      · obtain ⟨q, hq, e⟩ := hs.beg.mp h3
        obtain ⟨k, hk2⟩ := List.getElem?_of_mem hq
        subst e
        rw [if_neg (by decide), nt_at hs.1 hk2, wr_id (by
          have := (List.getElem?_eq_some_iff.mp hk2).1
          omega)]
        have := ih (q.1 + 1) (by omega) (by omega)
        rw [nt_yes hs.1 hk2] at this
        exact this
      · rw [if_pos rfl, wr_id (by omega), Int.add_zero]
        have := ih (p + 1) (by omega) (by omega)
        rw [nt_no (fun q hq e => h3 (hs.beg.mpr ⟨q, hq, e⟩))] at this
        exact this
    · rw [if_neg (by omega), show p = x + 1 by omega]
theorem M_hunkAt {h : MH} {ks ss : List Int} {H : HL} (V : MV2 h ks ss) (hk : KOK ks) (hs : HSP ks H) {x : Nat} (hx : x < ks.length) : F_M_hunkAt (x : Int) h = some (hkO ks H x) := by
  have hl := V.2.2.1
  have h14 := hs.len14 hl
  have := M_hunkAt_loop V hk hs hx FUEL 0 (Nat.zero_le _) (by rw [FUEL_eq]; omega)
  rw [nt_zero (fun q hq => Nat.zero_le _), show ((0 : Nat) : Int) = 0 from rfl] at this
  have hb := nt_le H (x + 1)
  unfold F_M_hunkAt hkO
  rw [this]
  show gd (0 ≤ (x : Int) ∧ (x : Int) < 28) _ = _
  rw [gd_pos ⟨Int.natCast_nonneg _, by omega⟩, nn, V.2.2.2.1 _ hx]
  have hv := hk.get hx
  by_cases c : ks.getD x (-1) = 0
  · rw [if_pos c, if_neg (by omega)]
  · rw [if_neg c, if_pos (by omega), wr_id (by omega)]

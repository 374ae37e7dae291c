/-! ===== hunks: rows of the view, side by side, that come or go ===== -/
abbrev HL : Type := List (Nat × Nat)
def tops (H : HL) : List Int := H.map (fun q => (q.1 : Int))
def ends (H : HL) : List Int := H.map (fun q => (q.2 : Int))
def kz (ks : List Int) (p : Nat) : Prop := 0 < ks.getD p (-1)
theorem kz_lt {ks : List Int} {p : Nat} (h : kz ks p) : p < ks.length := by
  rcases Nat.lt_or_ge p ks.length with q | q
  · exact q
  · unfold kz at h
    rw [List.getD_eq_getElem?_getD, List.getElem?_eq_none q] at h
    exact absurd h (by decide)
def SO (H : HL) : Prop := H.Pairwise (fun q r => q.2 < r.1) ∧ ∀ q ∈ H, q.1 < q.2
/-- H are the hunks of the kinds ks -/
def HSP (ks : List Int) (H : HL) : Prop := SO H ∧ (∀ q ∈ H, q.2 ≤ ks.length) ∧ ∀ p, kz ks p ↔ ∃ q ∈ H, q.1 ≤ p ∧ p < q.2
/-- how many hunks begin ahead of p -/
def nt (H : HL) (p : Nat) : Nat := (H.filter (fun q => decide (q.1 < p))).length
theorem nt_cons (a : Nat × Nat) (H : HL) (p : Nat) : nt (a :: H) p = (if a.1 < p then 1 else 0) + nt H p := by
  unfold nt
  rw [List.filter_cons]
  by_cases h : a.1 < p
  · rw [if_pos (by simpa using h), if_pos h, List.length_cons]; omega
  · rw [if_neg (by simpa using h), if_neg h]; omega
theorem SO.tail {a : Nat × Nat} {H : HL} (h : SO (a :: H)) : SO H := ⟨(List.pairwise_cons.mp h.1).2, fun q hq => h.2 q (List.mem_cons_of_mem _ hq)⟩
theorem SO.head {a : Nat × Nat} {H : HL} (h : SO (a :: H)) : a.1 < a.2 ∧ ∀ q ∈ H, a.2 < q.1 := ⟨h.2 a List.mem_cons_self, (List.pairwise_cons.mp h.1).1⟩
theorem nt_zero {H : HL} {p : Nat} (h : ∀ q ∈ H, p ≤ q.1) : nt H p = 0 := by
  unfold nt
  rw [List.length_eq_zero_iff, List.filter_eq_nil_iff]
  intro q hq
  have := h q hq
  simp
  omega
theorem nt_all {H : HL} {p : Nat} (h : ∀ q ∈ H, q.1 < p) : nt H p = H.length := by
  unfold nt
  rw [List.filter_eq_self.mpr (fun q hq => by simpa using h q hq)]
theorem nt_le (H : HL) (p : Nat) : nt H p ≤ H.length := List.length_filter_le _ _
theorem nt_at : ∀ {H : HL} {k : Nat} {q : Nat × Nat}, SO H → H[k]? = some q → nt H q.1 = k := by
  intro H
  induction H with
  | nil => intro k q _ h; simp at h
  | cons a H ih =>
    intro k q hs h
    have hh := hs.head
    rw [nt_cons]
    cases k with
    | zero =>
      simp at h
      subst h
      rw [if_neg (by omega), nt_zero (fun r hr => by have := hh.2 r hr; omega)]
    | succ k =>
      rw [List.getElem?_cons_succ] at h
      have := hh.2 q (List.mem_of_getElem? h)
      rw [if_pos (by omega), ih hs.tail h]
      omega
theorem nt_in : ∀ {H : HL} {k p : Nat} {q : Nat × Nat}, SO H → H[k]? = some q → q.1 ≤ p → p < q.2 → nt H (p + 1) = k + 1 := by
  intro H
  induction H with
  | nil => intro k p q _ h; simp at h
  | cons a H ih =>
    intro k p q hs h h1 h2
    have hh := hs.head
    rw [nt_cons]
    cases k with
    | zero =>
      simp at h
      subst h
      rw [if_pos (by omega), nt_zero (fun r hr => by have := hh.2 r hr; omega)]
    | succ k =>
      rw [List.getElem?_cons_succ] at h
      have := hh.2 q (List.mem_of_getElem? h)
      rw [if_pos (by omega), ih hs.tail h h1 h2]
      omega
theorem nt_no {H : HL} {p : Nat} (h : ∀ q ∈ H, q.1 ≠ p) : nt H (p + 1) = nt H p := by
  unfold nt
  congr 1
  apply List.filter_congr
  intro q hq
  have := h q hq
  by_cases hc : q.1 < p
  · simp [hc]; omega
  · simp [hc]; omega
theorem nt_yes {H : HL} {k : Nat} {q : Nat × Nat} (hs : SO H) (h : H[k]? = some q) : nt H (q.1 + 1) = k + 1 :=
  nt_in hs h (Nat.le_refl _) (hs.2 q (List.mem_of_getElem? h))
theorem SO.lt {H : HL} (hs : SO H) {i j : Nat} {q r : Nat × Nat} (hi : H[i]? = some q) (hj : H[j]? = some r) (hij : i < j) : q.2 < r.1 := by
  obtain ⟨h1, e1⟩ := List.getElem?_eq_some_iff.mp hi
  obtain ⟨h2, e2⟩ := List.getElem?_eq_some_iff.mp hj
  have := List.pairwise_iff_getElem.mp hs.1 i j h1 h2 hij
  rw [e1, e2] at this
  exact this
/-- a place begins a hunk just when it is one's top -/
theorem HSP.beg {ks : List Int} {H : HL} (hs : HSP ks H) {p : Nat} : (kz ks p ∧ (p = 0 ∨ ¬ kz ks (p - 1))) ↔ ∃ q ∈ H, q.1 = p := by
  constructor
  · rintro ⟨h1, h2⟩
    obtain ⟨q, hq, a, b⟩ := (hs.2.2 p).mp h1
    refine ⟨q, hq, ?_⟩
    rcases h2 with h2 | h2
    · omega
    · by_cases hc : q.1 = p
      · exact hc
      · exact absurd ((hs.2.2 (p - 1)).mpr ⟨q, hq, by omega, by omega⟩) h2
  · rintro ⟨q, hq, rfl⟩
    have hlt := hs.1.2 q hq
    refine ⟨(hs.2.2 q.1).mpr ⟨q, hq, Nat.le_refl _, hlt⟩, ?_⟩
    by_cases h0 : q.1 = 0
    · exact Or.inl h0
    · right
      intro hk
      obtain ⟨r, hr, a, b⟩ := (hs.2.2 _).mp hk
      obtain ⟨i, hi⟩ := List.getElem?_of_mem hq
      obtain ⟨j, hj⟩ := List.getElem?_of_mem hr
      rcases Nat.lt_trichotomy i j with c | c | c
      · have := hs.1.lt hi hj c
        omega
      · subst c
        rw [hi] at hj
        cases hj
        omega
      · have := hs.1.lt hj hi c
        omega
/-- behind a hunk nothing comes or goes -/
theorem HSP.fin {ks : List Int} {H : HL} (hs : HSP ks H) {q : Nat × Nat} (hq : q ∈ H) : ¬ kz ks q.2 := by
  intro hk
  obtain ⟨r, hr, a, b⟩ := (hs.2.2 _).mp hk
  have hlt := hs.1.2 q hq
  obtain ⟨i, hi⟩ := List.getElem?_of_mem hq
  obtain ⟨j, hj⟩ := List.getElem?_of_mem hr
  rcases Nat.lt_trichotomy i j with c | c | c
  · have := hs.1.lt hi hj c
    omega
  · subst c
    rw [hi] at hj
    cases hj
    omega
  · have := hs.1.lt hj hi c
    omega
theorem HSP.ahead {ks : List Int} {H : HL} (hs : HSP ks H) {q : Nat × Nat} (hq : q ∈ H) (h0 : 0 < q.1) : ¬ kz ks (q.1 - 1) := by
  have := (hs.beg (p := q.1)).mpr ⟨q, hq, rfl⟩
  rcases this.2 with h | h
  · omega
  · exact h
theorem SO.len {H : HL} (hs : SO H) {n : Nat} (h : ∀ q ∈ H, q.2 ≤ n) : 2 * H.length ≤ n + 1 := by
  have key : ∀ (H : HL) (m : Nat), SO H → (∀ q ∈ H, m ≤ q.1) → (∀ q ∈ H, q.2 ≤ n) → H = [] ∨ 2 * H.length + m ≤ n + 1 := by
    intro H
    induction H with
    | nil => intro m _ _ _; exact Or.inl rfl
    | cons a H ih =>
      intro m hs h1 h2
      have hh := hs.head
      have ha := h1 a List.mem_cons_self
      have hb := h2 a List.mem_cons_self
      right
      rcases ih (a.2 + 1) hs.tail (fun q hq => by have := hh.2 q hq; omega) (fun q hq => h2 q (List.mem_cons_of_mem _ hq)) with e | e
      · rw [e, List.length_cons, List.length_nil]; omega
      · rw [List.length_cons]; omega
  rcases key H 0 hs (fun q _ => Nat.zero_le _) h with e | e
  · rw [e, List.length_nil]; omega
  · omega
/-- how many of n places from a on are of a kind -/
def cn (ks : List Int) (k : Int) (a : Nat) : Nat → Int
  | 0 => 0
  | n + 1 => cn ks k a n + (if ks.getD (a + n) (-1) = k then 1 else 0)
theorem cn_bd (ks : List Int) (k : Int) (a : Nat) : ∀ n, 0 ≤ cn ks k a n ∧ cn ks k a n ≤ (n : Int) := by
  intro n
  induction n with
  | zero => exact ⟨Int.le_refl _, Int.le_refl _⟩
  | succ n ih =>
    rw [cn]
    split <;> omega
theorem V_linesWithin_loop {ks : List Int} {k : Int} {h : MH} (R : RW h 55 ks) {a b : Nat} (hb : b ≤ 28) : ∀ (n m : Nat), a + m ≤ b → b < a + m + n → F_V_linesWithin_L6 (b : Int) k h n (cn ks k a m) ((a + m : Nat) : Int) = some (cn ks k a (b - a), (b : Int)) := by
  intro n
  induction n with
  | zero => intro m h1 h2; omega
  | succ n ih =>
    intro m h1 h2
    unfold F_V_linesWithin_L6
    dsimp only [jn1]
    by_cases hc : a + m < b
    · rw [if_pos (lt_int hc), R.at, lg_in (Int.natCast_nonneg _), nn]
      have hbd := cn_bd ks k a m
      have e1 : wr (cn ks k a m + (if ks.getD (a + m) (-1) = k then 1 else 0)) = cn ks k a (m + 1) := by
        rw [cn, wr_id (by split <;> omega)]
      have e2 : wr (((a + m : Nat) : Int) + 1) = ((a + (m + 1) : Nat) : Int) := by rw [wr_id (by omega)]; omega
      rw [e1, e2]
      exact ih (m + 1) (by omega) (by omega)
    · rw [if_neg (nlt_int hc)]
      have : a + m = b := by omega
      rw [this, show b - a = m by omega]
theorem V_linesWithin {ks : List Int} {k : Int} {h : MH} (R : RW h 55 ks) {a b : Nat} (hab : a ≤ b) (hb : b ≤ 28) : F_V_linesWithin (a : Int) (b : Int) k h = some (cn ks k a (b - a)) := by
  unfold F_V_linesWithin
  have := V_linesWithin_loop (k := k) R (a := a) hb FUEL 0 (by omega) (by rw [FUEL_eq]; omega)
  rw [show cn ks k a 0 = 0 from rfl] at this
  rw [Nat.add_zero] at this
  rw [this]
  rfl
/-- 1 where a hunk is a plain one -/
def pl (ks : List Int) (q : Nat × Nat) : Int := if cn ks 1 q.1 (q.2 - q.1) = 0 ∨ cn ks 2 q.1 (q.2 - q.1) = 0 then 1 else 0
def pls (ks : List Int) (H : HL) : List Int := H.map (pl ks)
theorem inHunk_eq {ks : List Int} {h : MH} (R : RW h 55 ks) (p : Nat) : F_V_inHunk (p : Int) h = 0 ↔ ¬ kz ks p := by
  unfold F_V_inHunk
  rw [R.at, lg_in (Int.natCast_nonneg _), nn]
  unfold kz
  by_cases hc : ks.getD p (-1) ≤ 0
  · rw [if_pos hc]; exact ⟨fun _ => by omega, fun _ => rfl⟩
  · rw [if_neg hc]; exact ⟨fun z => absurd z (by decide), fun z => by omega⟩
theorem inHunk_neg {ks : List Int} {h : MH} (R : RW h 55 ks) {p : Int} (hp : p < 0) : F_V_inHunk p h = 0 := by
  unfold F_V_inHunk
  rw [R.at, lg_neg hp]
  rfl

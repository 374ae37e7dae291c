/-! ===== sums over the hunks; the longest run of kept lines ===== -/
def sm (f : Nat × Nat → Int) (H : HL) : Nat → Int
  | 0 => 0
  | n + 1 => sm f H n + f (H.getD n (0, 0))
theorem hget {H : HL} {i : Nat} {q : Nat × Nat} (h : H[i]? = some q) : H.getD i (0, 0) = q := by rw [List.getD_eq_getElem?_getD, h]; rfl
theorem sm_bd {f : Nat × Nat → Int} {H : HL} (hf : ∀ q ∈ H, 0 ≤ f q ∧ f q ≤ 10) : ∀ n, n ≤ H.length → 0 ≤ sm f H n ∧ sm f H n ≤ 10 * (n : Int) := by
  intro n
  induction n with
  | zero => intro _; exact ⟨Int.le_refl _, Int.le_refl _⟩
  | succ n ih =>
    intro hn
    have a := ih (by omega)
    have hq : H[n]? = some (H[n]'(by omega)) := List.getElem?_eq_getElem _
    have b := hf _ (List.mem_of_getElem? hq)
    rw [sm, hget hq]
    omega
def slf (ks ss : List Int) (q : Nat × Nat) : Int := if sld ks ss q 0 + sld ks ss q 1 = 0 then 0 else 1
def wof (ss : List Int) (q : Nat × Nat) : Int := wth ss (q.1 : Int) (q.2 : Int)
theorem slf_eq {ks ss : List Int} (hs : SOK ss) (q : Nat × Nat) (h1 : q.1 < q.2) (h2 : q.2 ≤ ss.length) (h3 : ss.length ≤ 28) : (if wr (((sld ks ss q 0 : Nat) : Int) + ((sld ks ss q 1 : Nat) : Int)) ≤ 0 then (0 : Int) else 1) = slf ks ss q ∧ (if wr (((sld ks ss q 1 : Nat) : Int) + ((sld ks ss q 0 : Nat) : Int)) ≤ 0 then (0 : Int) else 1) = slf ks ss q := by
  have a := sld_le (ks := ks) hs q h1 h2 h3
  unfold slf
  generalize sld ks ss q 0 = x at a ⊢
  generalize sld ks ss q 1 = y at a ⊢
  rw [wr_id (by omega), wr_id (by omega)]
  by_cases c : x + y = 0
  · rw [if_pos c, if_pos (by omega), if_pos (by omega)]; exact ⟨rfl, rfl⟩
  · rw [if_neg c, if_neg (by omega), if_neg (by omega)]; exact ⟨rfl, rfl⟩
theorem f_bd {ks ss : List Int} (H : HL) : (∀ q ∈ H, 0 ≤ pl ks q ∧ pl ks q ≤ 10) ∧ (∀ q ∈ H, 0 ≤ slf ks ss q ∧ slf ks ss q ≤ 10) ∧ (∀ q ∈ H, 0 ≤ wof ss q ∧ wof ss q ≤ 10) := by
  refine ⟨fun q _ => ?_, fun q _ => ?_, fun q _ => wth_bd _ _ _⟩
  · rcases pl_01 ks q with e | e <;> rw [e] <;> decide
  · unfold slf; split <;> decide
theorem V_worth {h : MH} {ks ss : List Int} {H : HL} (V : VC h ks ss H) (hso : SOK ss) {k : Nat} {q : Nat × Nat} (hq : H[k]? = some q) : F_V_worth (k : Int) h = wof ss q := by
  obtain ⟨a1, a2, a3, a4, a5⟩ := V.q hq
  unfold F_V_worth wof
  rw [V_top V hq, V_end V hq, V_worthAt V.2.1 hso a4 (Int.natCast_nonneg _) (lt_int a1) (by omega)]
theorem V_plain_loop {h : MH} {ks ss : List Int} {H : HL} (V : VC h ks ss H) : ∀ (n i : Nat), i ≤ H.length → H.length < i + n → F_V_plainHunks_L4 h n (sm (pl ks) H i) (i : Int) = some (sm (pl ks) H H.length, (H.length : Int)) := by
  intro n
  induction n with
  | zero => intro i h1 h2; omega
  | succ n ih =>
    intro i h1 h2
    have h14 := V.2.2.2.2.2.1.len14 V.2.2.2.2.2.2.2
    have bd := sm_bd (f_bd (ks := ks) (ss := ss) H).1 i h1
    unfold F_V_plainHunks_L4 F_V_hunks
    rw [V.2.2.1.size, tops_len]
    by_cases hc : i < H.length
    · have hq : H[i]? = some (H[i]'hc) := List.getElem?_eq_getElem _
      generalize H[i]'hc = q at hq
      have e1 : wr ((i : Int) + 1) = ((i + 1 : Nat) : Int) := by rw [wr_id (by omega)]; omega
      have e2 : (if pl ks q = 0 then (0 : Int) else 1) = pl ks q := by rcases pl_01 ks q with e | e <;> rw [e] <;> rfl
      have e3 : wr (sm (pl ks) H i + pl ks q) = sm (pl ks) H (i + 1) := by
        rw [sm, hget hq]
        rcases pl_01 ks q with e | e <;> rw [e] <;> exact wr_id (by omega)
      rw [if_pos (lt_int hc), V_isPlain V hq, jn1_p, e2, e3, e1]
      exact ih (i + 1) (by omega) (by omega)
    · rw [if_neg (nlt_int hc), show i = H.length by omega]
theorem V_plainHunks {h : MH} {ks ss : List Int} {H : HL} (V : VC h ks ss H) : F_V_plainHunks h = some (sm (pl ks) H H.length) := by
  have h14 := V.2.2.2.2.2.1.len14 V.2.2.2.2.2.2.2
  have := V_plain_loop V FUEL 0 (Nat.zero_le _) (by rw [FUEL_eq]; omega)
  rw [show sm (pl ks) H 0 = 0 from rfl, show ((0 : Nat) : Int) = 0 from rfl] at this
  unfold F_V_plainHunks
  rw [this]
  rfl
theorem V_sliding_loop {h : MH} {ks ss : List Int} {H : HL} (V : VC h ks ss H) (hso : SOK ss) : ∀ (n i : Nat), i ≤ H.length → H.length < i + n → F_V_slidingHunks_L4 h n (sm (slf ks ss) H i) (i : Int) = some (sm (slf ks ss) H H.length, (H.length : Int)) := by
  intro n
  induction n with
  | zero => intro i h1 h2; omega
  | succ n ih =>
    intro i h1 h2
    have h14 := V.2.2.2.2.2.1.len14 V.2.2.2.2.2.2.2
    have bd := sm_bd (f_bd (ks := ks) (ss := ss) H).2.1 i h1
    unfold F_V_slidingHunks_L4 F_V_hunks
    rw [V.2.2.1.size, tops_len]
    by_cases hc : i < H.length
    · have hq : H[i]? = some (H[i]'hc) := List.getElem?_eq_getElem _
      generalize H[i]'hc = q at hq
      obtain ⟨a1, a2, a3, a4, a5⟩ := V.q hq
      have e1 : wr ((i : Int) + 1) = ((i + 1 : Nat) : Int) := by rw [wr_id (by omega)]; omega
      have e2 := (slf_eq (ks := ks) hso q a1 a3 a4).1
      have bq := (f_bd (ks := ks) (ss := ss) H).2.1 q (List.mem_of_getElem? hq)
      have e3 : wr (sm (slf ks ss) H i + slf ks ss q) = sm (slf ks ss) H (i + 1) := by
        rw [sm, hget hq]
        exact wr_id (by omega)
      rw [if_pos (lt_int hc), V_reach V hso hq, ob1_s, V_reach V hso hq, ob1_s, jn1_p, e2, e3, e1]
      exact ih (i + 1) (by omega) (by omega)
    · rw [if_neg (nlt_int hc), show i = H.length by omega]
theorem V_slidingHunks {h : MH} {ks ss : List Int} {H : HL} (V : VC h ks ss H) (hso : SOK ss) : F_V_slidingHunks h = some (sm (slf ks ss) H H.length) := by
  have h14 := V.2.2.2.2.2.1.len14 V.2.2.2.2.2.2.2
  have := V_sliding_loop V hso FUEL 0 (Nat.zero_le _) (by rw [FUEL_eq]; omega)
  rw [show sm (slf ks ss) H 0 = 0 from rfl, show ((0 : Nat) : Int) = 0 from rfl] at this
  unfold F_V_slidingHunks
  rw [this]
  rfl
theorem V_worths_loop {h : MH} {ks ss : List Int} {H : HL} (V : VC h ks ss H) (hso : SOK ss) : ∀ (n i : Nat), i ≤ H.length → H.length < i + n → F_V_worthOfAll_L4 h n (sm (wof ss) H i) (i : Int) = some (sm (wof ss) H H.length, (H.length : Int)) := by
  intro n
  induction n with
  | zero => intro i h1 h2; omega
  | succ n ih =>
    intro i h1 h2
    have h14 := V.2.2.2.2.2.1.len14 V.2.2.2.2.2.2.2
    have bd := sm_bd (f_bd (ks := ks) (ss := ss) H).2.2 i h1
    unfold F_V_worthOfAll_L4 F_V_hunks
    rw [V.2.2.1.size, tops_len]
    by_cases hc : i < H.length
    · have hq : H[i]? = some (H[i]'hc) := List.getElem?_eq_getElem _
      generalize H[i]'hc = q at hq
      have e1 : wr ((i : Int) + 1) = ((i + 1 : Nat) : Int) := by rw [wr_id (by omega)]; omega
      have bq := (f_bd (ks := ks) (ss := ss) H).2.2 q (List.mem_of_getElem? hq)
      have e3 : wr (sm (wof ss) H i + wof ss q) = sm (wof ss) H (i + 1) := by
        rw [sm, hget hq]
        exact wr_id (by omega)
      rw [if_pos (lt_int hc), V_worth V hso hq, e3, e1]
      exact ih (i + 1) (by omega) (by omega)
    · rw [if_neg (nlt_int hc), show i = H.length by omega]
theorem V_worthOfAll {h : MH} {ks ss : List Int} {H : HL} (V : VC h ks ss H) (hso : SOK ss) : F_V_worthOfAll h = some (sm (wof ss) H H.length) := by
  have h14 := V.2.2.2.2.2.1.len14 V.2.2.2.2.2.2.2
  have := V_worths_loop V hso FUEL 0 (Nat.zero_le _) (by rw [FUEL_eq]; omega)
  rw [show sm (wof ss) H 0 = 0 from rfl, show ((0 : Nat) : Int) = 0 from rfl] at this
  unfold F_V_worthOfAll
  rw [this]
  rfl
/-- what the reference sums up for an asking -/
def ask (ks ss : List Int) (x : Int) (q : Nat × Nat) : Int := if x = 10 then wof ss q else if x = 9 then slf ks ss q else pl ks q
theorem ask_bd {ks ss : List Int} {H : HL} (x : Int) : ∀ q ∈ H, 0 ≤ ask ks ss x q ∧ ask ks ss x q ≤ 10 := by
  intro q hq
  have f := f_bd (ks := ks) (ss := ss) H
  unfold ask
  split
  · exact f.2.2 q hq
  · split
    · exact f.2.1 q hq
    · exact f.1 q hq
/-- the longest run of kept lines: from a place on, the best so far and the run -/
def lks (ks : List Int) : Nat → Nat → Int → Int → Int × Int
  | 0, _, b, r => (b, r)
  | n + 1, p, b, r => lks ks n (p + 1) (imax b (if ks.getD p (-1) = 0 then r + 1 else 0)) (if ks.getD p (-1) = 0 then r + 1 else 0)
theorem V_longest_loop {h : MH} {ks ss : List Int} {H : HL} (V : VC h ks ss H) (hk : KOK ks) : ∀ (n m p : Nat) (b r : Int), p + m = ks.length → m < n → 0 ≤ r ∧ r ≤ (p : Int) →
    F_V_longestKept_L6 h n b r (p : Int) = some ((lks ks m p b r).1, (lks ks m p b r).2, (ks.length : Int)) := by
  intro n
  induction n with
  | zero => intro m p b r h1 h2; omega
  | succ n ih =>
    intro m p b r h1 h2 h3
    have h28 := V.2.2.2.2.2.2.2
    unfold F_V_longestKept_L6 F_V_size
    rw [V.1.size]
    cases m with
    | zero => rw [if_neg (by omega), show p = ks.length by omega]; rfl
    | succ m =>
      have e1 : wr ((p : Int) + 1) = ((p + 1 : Nat) : Int) := by rw [wr_id (by omega)]; omega
      have e2 : (if F_V_inHunk (p : Int) h = 0 then wr (r + 1) else 0) = (if ks.getD p (-1) = 0 then r + 1 else 0) := by
        rw [wr_id (by omega)]
        by_cases c : kz ks p
        · rw [if_neg (fun z => (inHunk_eq V.1 p).mp z c), if_neg (by unfold kz at c; omega)]
        · rw [if_pos ((inHunk_eq V.1 p).mpr c), if_pos ((hk.not (by omega)).mp c)]
      rw [if_pos (by omega), jn1_p, e2, e1, lks]
      exact ih m (p + 1) _ _ (by omega) (by omega) (by split <;> omega)
theorem V_longestKept {h : MH} {ks ss : List Int} {H : HL} (V : VC h ks ss H) (hk : KOK ks) : F_V_longestKept h = some (lks ks ks.length 0 0 0).1 := by
  have h28 := V.2.2.2.2.2.2.2
  have := V_longest_loop V hk FUEL ks.length 0 0 0 (by omega) (by rw [FUEL_eq]; omega) (by decide)
  rw [show ((0 : Nat) : Int) = 0 from rfl] at this
  unfold F_V_longestKept
  rw [this]
  rfl

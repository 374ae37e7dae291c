/-! ===== a hunk of the view: where it slides, its worths, its lines around ===== -/
section HF
variable {ks ss : List Int} {H : HL} {k : Nat} {q : Nat × Nat}
theorem hk_two (hs : HSP ks H) (hk : KOK ks) (hm : q ∈ H) : cn ks 1 q.1 (q.2 - q.1) + cn ks 2 q.1 (q.2 - q.1) = ((q.2 - q.1 : Nat) : Int) := by
  have a1 := hs.1.2 q hm
  have a2 := hs.2.1 q hm
  refine cn_two _ (fun p h1 h2 => ?_)
  have hz : kz ks p := (hs.2.2 p).mpr ⟨q, hm, h1, by omega⟩
  have := hk.get (p := p) (by omega)
  unfold kz at hz
  omega
theorem slide_up2 (hso : SOK ss) (h1 : q.1 < q.2) (h2 : q.2 ≤ ss.length) (h3 : ss.length ≤ 28) {p : Nat} (hp : q.1 ≤ p + slc ks ss q 0) (hp2 : p < q.1) : ss.getD p (-1) = ss.getD (p + (q.2 - q.1)) (-1) ∧ lg ks ((p : Int) - 1) ≤ 0 := by
  have u := (slc_spec (ks := ks) hso q 0 h1 h2 h3).1 (q.1 - 1 - p) (by omega)
  rw [show wy 0 = -1 from rfl] at u
  obtain ⟨x, y⟩ := bar_up u
  rw [show (q.1 : Int) + -1 * ((q.1 - 1 - p : Nat) : Int) - 1 = (p : Int) by omega, show (q.2 : Int) + -1 * ((q.1 - 1 - p : Nat) : Int) - 1 = ((p + (q.2 - q.1) : Nat) : Int) by omega, lgn, lgn] at x
  rw [show (q.1 : Int) + -1 * ((q.1 - 1 - p : Nat) : Int) - 2 = (p : Int) - 1 by omega] at y
  exact ⟨x, y⟩
/-- above the hunk, as far as it slides -/
theorem above_ok (hs : HSP ks H) (hk : KOK ks) (hl : ks.length = ss.length) (h28 : ks.length ≤ 28) (hso : SOK ss) (hm : q ∈ H) {p : Nat} (hp : q.1 ≤ p + sld ks ss q 0) (hp2 : p < q.1) : ks.getD p (-1) = 0 ∧ ss.getD p (-1) = ss.getD (p + (q.2 - q.1)) (-1) := by
  have a1 := hs.1.2 q hm
  have a2 := hs.2.1 q hm
  unfold sld at hp
  by_cases c : pl ks q = 1
  · rw [if_pos c] at hp
    refine ⟨(hk.not (by omega)).mp ?_, (slide_up2 hso a1 (by omega) (by omega) hp hp2).1⟩
    by_cases d : p + 1 = q.1
    · have := hs.ahead hm (by omega)
      rwa [show q.1 - 1 = p by omega] at this
    · have := (slide_up2 (ks := ks) hso a1 (by omega) (by omega) (p := p + 1) (by omega) (by omega)).2
      rw [show ((p + 1 : Nat) : Int) - 1 = (p : Int) by omega, lgn] at this
      unfold kz
      omega
  · rw [if_neg c] at hp
    omega
/-- below the hunk -/
theorem below_ok (hs : HSP ks H) (hk : KOK ks) (hl : ks.length = ss.length) (h28 : ks.length ≤ 28) (hso : SOK ss) (hm : q ∈ H) {p : Nat} (hp : p ≤ q.1 + sld ks ss q 1) (hp2 : q.1 < p) : ks.getD (p + (q.2 - q.1) - 1) (-1) = 0 ∧ ss.getD (p + (q.2 - q.1) - 1) (-1) = ss.getD (p - 1) (-1) := by
  have a1 := hs.1.2 q hm
  have a2 := hs.2.1 q hm
  have b := sld_le (ks := ks) hso q a1 (by omega) (by omega)
  unfold sld at hp b
  by_cases c : pl ks q = 1
  · rw [if_pos c] at hp
    rw [if_pos c, if_pos c] at b
    have e : p - 1 + (q.2 - q.1) = p + (q.2 - q.1) - 1 := by omega
    have x := slide_dn (ks := ks) hso q a1 (by omega) (by omega) (p := p - 1) (by omega) (by omega)
    rw [e] at x
    refine ⟨(hk.not (by omega)).mp ?_, x.1.symm⟩
    by_cases d : p = q.1 + 1
    · have := hs.fin hm
      rwa [show p + (q.2 - q.1) - 1 = q.2 by omega]
    · have y := (slide_dn (ks := ks) hso q a1 (by omega) (by omega) (p := p - 2) (by omega) (by omega)).2
      rw [show ((p - 2 + (q.2 - q.1) : Nat) : Int) + 1 = ((p + (q.2 - q.1) - 1 : Nat) : Int) by omega, lgn] at y
      unfold kz
      omega
  · rw [if_neg c] at hp
    omega
/-- why it cannot slide, and whether -/
theorem why_iff (hso : SOK ss) (h1 : q.1 < q.2) (h2 : q.2 ≤ ss.length) (h3 : ss.length ≤ 28) (dn : Int) : (if (if pl ks q = 0 then 1 else bar ks ss (q.1 : Int) (q.2 : Int) dn) = 0 then (1 : Int) else 0) = (if ((sld ks ss q dn : Nat) : Int) ≤ 0 then 0 else 1) := by
  have u := slc_spec (ks := ks) hso q dn h1 h2 h3
  unfold sld
  rcases pl_01 ks q with c | c
  · rw [if_pos c, if_neg one_ne, if_neg (show ¬ pl ks q = 1 by omega), if_pos (by decide)]
  · rw [if_neg (show ¬ pl ks q = 0 by omega), if_pos c]
    by_cases d : slc ks ss q dn = 0
    · have x := u.2.1
      rw [d, show wy dn * ((0 : Nat) : Int) = 0 from Int.mul_zero _, Int.add_zero, Int.add_zero] at x
      rw [if_neg x, if_pos (by omega)]
    · have x := u.1 0 (by omega)
      rw [show wy dn * ((0 : Nat) : Int) = 0 from Int.mul_zero _, Int.add_zero, Int.add_zero] at x
      rw [if_pos x, if_neg (by omega)]
theorem bsl_max (w : Nat → Int) : ∀ (n b c : Nat), w b ≤ w (bsl w n b c) ∧ ∀ j, c ≤ j → j < c + n → w j ≤ w (bsl w n b c) := by
  intro n
  induction n with
  | zero => intro b c; rw [bsl]; exact ⟨Int.le_refl _, fun j h1 h2 => by omega⟩
  | succ n ih =>
    intro b c
    rw [bsl]
    obtain ⟨x, y⟩ := ih (if w c < w b then b else c) (c + 1)
    have z : w b ≤ w (if w c < w b then b else c) ∧ w c ≤ w (if w c < w b then b else c) := by
      by_cases d : w c < w b
      · rw [if_pos d]; omega
      · rw [if_neg d]; omega
    refine ⟨by omega, fun j h1 h2 => ?_⟩
    by_cases e : j = c
    · subst e; omega
    · exact y j (by omega) (by omega)
/-- the worth of a place -/
def wf (ss : List Int) (z p : Nat) : Int := wth ss (p : Int) ((p + z : Nat) : Int)
theorem bt_max (hso : SOK ss) (h1 : q.1 < q.2) (h2 : q.2 ≤ ss.length) (h3 : ss.length ≤ 28) {p : Nat} (hp : q.1 ≤ p + sld ks ss q 0) (hp2 : p ≤ q.1 + sld ks ss q 1) : wf ss (q.2 - q.1) p ≤ wf ss (q.2 - q.1) (bt ks ss q) := by
  have b := sld_le (ks := ks) hso q h1 h2 h3
  have m := bsl_max (fun c => wth ss (c : Int) ((c + (q.2 - q.1) : Nat) : Int)) (sld ks ss q 0 + sld ks ss q 1) (q.1 - sld ks ss q 0) (q.1 - sld ks ss q 0 + 1)
  by_cases c : p = q.1 - sld ks ss q 0
  · rw [c]; exact m.1
  · exact m.2 p (by omega) (by omega)
theorem wf_at {z p : Nat} (hz : 1 ≤ z) : wf ss z p = (if p = 0 ∨ ss.getD (p - 1) (-1) = 6 then 4 else 0) + (if ss.getD (p + z - 1) (-1) = 6 then 2 else 0) + (if ss.getD p (-1) = 7 then 1 else 0) + (if ss.getD (p + z - 1) (-1) = 8 then 3 else 0) := by
  unfold wf wth
  rw [show ((p + z : Nat) : Int) - 1 = ((p + z - 1 : Nat) : Int) by omega, lgn, lgn]
  congr 3
  by_cases c : p = 0
  · rw [if_pos (Or.inl (by omega)), if_pos (Or.inl c)]
  · rw [show (p : Int) - 1 = ((p - 1 : Nat) : Int) by omega, lgn]
    by_cases d : ss.getD (p - 1) (-1) = 6
    · rw [if_pos (Or.inr d), if_pos (Or.inr d)]
    · rw [if_neg (fun x => x.elim (fun y => by omega) d), if_neg (fun x => x.elim c d)]
/-- the greatest so far -/
def mxf (ss : List Int) (z : Nat) : Nat → Nat → Int → Int
  | 0, _, v => v
  | m + 1, p, v => mxf ss z m (p + 1) (imax v (wf ss z p))
theorem mxf_spec (ss : List Int) (z : Nat) : ∀ (m p : Nat) (v : Int), v ≤ mxf ss z m p v ∧ (∀ j, p ≤ j → j < p + m → wf ss z j ≤ mxf ss z m p v) ∧ (mxf ss z m p v = v ∨ ∃ j, p ≤ j ∧ j < p + m ∧ mxf ss z m p v = wf ss z j) := by
  intro m
  induction m with
  | zero => intro p v; rw [mxf]; exact ⟨Int.le_refl _, fun j h1 h2 => by omega, Or.inl rfl⟩
  | succ m ih =>
    intro p v
    rw [mxf]
    obtain ⟨x, y, w⟩ := ih (p + 1) (imax v (wf ss z p))
    have i1 := imax_le1 v (wf ss z p)
    have i2 := imax_le2 v (wf ss z p)
    refine ⟨by omega, fun j h1 h2 => ?_, ?_⟩
    · by_cases e : j = p
      · subst e; omega
      · exact y j (by omega) (by omega)
    · rcases w with w | ⟨j, j1, j2, j3⟩
      · rw [w]
        unfold imax
        by_cases d : v < wf ss z p
        · rw [if_pos d]; exact Or.inr ⟨p, by omega, by omega, rfl⟩
        · rw [if_neg d]; exact Or.inl rfl
      · exact Or.inr ⟨j, by omega, by omega, j3⟩
theorem mxf_best (hso : SOK ss) (h1 : q.1 < q.2) (h2 : q.2 ≤ ss.length) (h3 : ss.length ≤ 28) : mxf ss (q.2 - q.1) (sld ks ss q 0 + sld ks ss q 1 + 1) (q.1 - sld ks ss q 0) (-1) = wf ss (q.2 - q.1) (bt ks ss q) := by
  have b := sld_le (ks := ks) hso q h1 h2 h3
  have r := bt_range (ks := ks) hso q h1 h2 h3
  obtain ⟨x, y, w⟩ := mxf_spec ss (q.2 - q.1) (sld ks ss q 0 + sld ks ss q 1 + 1) (q.1 - sld ks ss q 0) (-1)
  have u := y (bt ks ss q) (by omega) (by omega)
  have p0 : 0 ≤ wf ss (q.2 - q.1) (bt ks ss q) := (wth_bd ss _ _).1
  rcases w with w | ⟨j, j1, j2, j3⟩
  · omega
  · have := bt_max (ks := ks) hso h1 h2 h3 (p := j) (by omega) (by omega)
    omega
/-- the kept lines ahead, one by one -/
theorem ahead_iff (hs : HSP ks H) (hk : KOK ks) (hq : H[k]? = some q) (most : Nat) {j : Nat} (hj : 1 ≤ j) : j ≤ ard H ks.length k q most 0 ↔ (j ≤ most ∧ j ≤ q.1 ∧ ks.getD (q.1 - j) (-1) = 0 ∧ (j = 1 ∨ j - 1 ≤ ard H ks.length k q most 0)) := by
  have pv := pvE_le hs hq
  have hm := List.mem_of_getElem? hq
  have a1 := hs.1.2 q hm
  have a2 := hs.2.1 q hm
  have e : ard H ks.length k q most 0 = nmin most (q.1 - pvE H k) := by unfold ard gap; rw [if_pos rfl]
  have n1 : ∀ i, i ≤ nmin most (q.1 - pvE H k) ↔ i ≤ most ∧ i ≤ q.1 - pvE H k := fun i => by
    unfold nmin
    split <;> omega
  rw [e]
  constructor
  · intro h
    have := (n1 j).mp h
    refine ⟨this.1, by omega, (hk.not (by omega)).mp (pv.2.1 _ (by omega) (by omega)), Or.inr (by omega)⟩
  · intro ⟨h1, h2, h3, h4⟩
    have h5 : j - 1 ≤ q.1 - pvE H k := by
      rcases h4 with h4 | h4
      · omega
      · exact ((n1 _).mp h4).2
    refine (n1 j).mpr ⟨h1, ?_⟩
    by_cases c : j ≤ q.1 - pvE H k
    · exact c
    · have hz := pv.2.2 (by omega)
      have e2 : pvE H k - 1 = q.1 - j := by omega
      rw [e2] at hz
      unfold kz at hz
      omega
end HF

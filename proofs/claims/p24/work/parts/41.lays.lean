/-! ===== both lay alike ===== -/
/-- how many lines of a kind there are -/
theorem cn_cons (x : Int) (l : List Int) (k : Int) : ∀ n, cn (x :: l) k 0 (n + 1) = (if x = k then 1 else 0) + cn l k 0 n := by
  intro n
  induction n with
  | zero => rw [cn, cn, cn, Nat.zero_add, List.getD_cons_zero, Int.zero_add, Int.add_zero]
  | succ n ih =>
    rw [cn, ih, cn, Nat.zero_add, Nat.zero_add, List.getD_cons_succ]
    omega
theorem vw_cn (l1 l2 : List Int) : ∀ (f i j : Nat), i ≤ l1.length → j ≤ l2.length → cn ((vw l1 l2 f i j).map Prod.fst) 1 0 ((vw l1 l2 f i j).map Prod.fst).length ≤ (l1.length : Int) - (i : Int) ∧ cn ((vw l1 l2 f i j).map Prod.fst) 2 0 ((vw l1 l2 f i j).map Prod.fst).length ≤ (l2.length : Int) - (j : Int) := by
  intro f
  induction f with
  | zero =>
    intro i j hi hj
    rw [vw]
    show (0 : Int) ≤ _ ∧ (0 : Int) ≤ _
    omega
  | succ f ih =>
    intro i j hi hj
    rw [vw]
    by_cases hd : i < l1.length ∨ j < l2.length
    · rw [if_pos hd, List.map_cons, List.length_cons, cn_cons, cn_cons]
      rcases stp_cases l1 l2 i j hd with ⟨e, a, b⟩ | ⟨e, a⟩ | ⟨e, a⟩
      · rw [e, if_neg (show ¬ (0 : Int) = 2 by decide), if_neg (show ¬ (0 : Int) = 1 by decide)]
        have := ih (i + 1) (j + 1) (by omega) (by omega)
        simp only [show ¬ (0 : Int) = 2 by decide, show ¬ (0 : Int) = 1 by decide, if_false]
        omega
      · rw [e]
        have := ih (i + 1) j (by omega) hj
        simp only [show ¬ (1 : Int) = 2 by decide, if_false, if_true]
        omega
      · rw [e]
        have := ih i (j + 1) hi (by omega)
        simp only [show ¬ (2 : Int) = 1 by decide, if_false, if_true]
        omega
    · rw [if_neg hd]
      show (0 : Int) ≤ _ ∧ (0 : Int) ≤ _
      omega
theorem cn_set {l : List Int} {v k : Int} {i : Nat} (hi : i < l.length) : ∀ n, i < n → cn (l.set i v) k 0 n = cn l k 0 n - (if l.getD i (-1) = k then 1 else 0) + (if v = k then 1 else 0) := by
  intro n
  induction n with
  | zero => intro h; omega
  | succ n ih =>
    intro h
    rw [cn, cn, Nat.zero_add]
    have hg : (l.set i v).getD n (-1) = if i = n then v else l.getD n (-1) := by
      rw [List.getD_eq_getElem?_getD, List.getElem?_set]
      by_cases c : i = n
      · rw [if_pos c, if_pos (by omega), if_pos c]; rfl
      · rw [if_neg c, if_neg c, List.getD_eq_getElem?_getD]
    rw [hg]
    by_cases c : i = n
    · rw [if_pos c]
      have hb : cn (l.set i v) k 0 n = cn l k 0 n := cn_congr n (fun p h1 h2 => by
        rw [List.getD_eq_getElem?_getD, List.getElem?_set, if_neg (by omega), List.getD_eq_getElem?_getD])
      rw [hb, c]
      omega
    · rw [if_neg c, ih (by omega)]
      omega
theorem fill_cn {l : List Int} {v k : Int} {a : Nat} : ∀ m, a + m ≤ l.length → cn (fill v l a m) k 0 l.length = cn l k 0 l.length - cn l k a m + (if v = k then (m : Int) else 0) := by
  intro m
  induction m with
  | zero => intro _; rw [fill, cn]; split <;> omega
  | succ m ih =>
    intro h
    have hg : (fill v l a m).getD (a + m) (-1) = l.getD (a + m) (-1) := by rw [fill_get, if_neg (by omega)]
    rw [fill, cn_set (by rw [fill_len]; omega) _ (by omega), ih (by omega), hg, cn]
    by_cases c : v = k
    · rw [if_pos c, if_pos c, if_pos c]; omega
    · rw [if_neg c, if_neg c, if_neg c]; omega
theorem cn_two {ks : List Int} {a : Nat} : ∀ n, (∀ p, a ≤ p → p < a + n → ks.getD p (-1) = 1 ∨ ks.getD p (-1) = 2) → cn ks 1 a n + cn ks 2 a n = (n : Int) := by
  intro n
  induction n with
  | zero => intro _; rfl
  | succ n ih =>
    intro h
    have := ih (fun p h1 h2 => h p h1 (by omega))
    rw [cn, cn]
    rcases h (a + n) (by omega) (by omega) with e | e
    · rw [e, if_pos rfl, if_neg (by decide)]; omega
    · rw [e, if_pos rfl, if_neg (by decide)]; omega
theorem cn_one {ks : List Int} {a : Nat} {k : Int} (h : ks.getD a (-1) = k) : ∀ n, 0 < n → 1 ≤ cn ks k a n := by
  intro n
  induction n with
  | zero => intro h0; omega
  | succ n ih =>
    intro _
    rw [cn]
    by_cases c : n = 0
    · subst c
      rw [Nat.add_zero, if_pos h, cn]
      decide
    · have := ih (by omega)
      split <;> omega
theorem pl_cn {ks : List Int} {H : HL} (hs : HSP ks H) (hk : KOK ks) {q : Nat × Nat} (hm : q ∈ H) (hp : pl ks q = 1) (kd : Int) (hkd : kd = 1 ∨ kd = 2) : cn ks kd q.1 (q.2 - q.1) = if ks.getD q.1 (-1) = kd then ((q.2 - q.1 : Nat) : Int) else 0 := by
  have a1 := hs.1.2 q hm
  have a2 := hs.2.1 q hm
  have hv : ∀ p, q.1 ≤ p → p < q.1 + (q.2 - q.1) → ks.getD p (-1) = 1 ∨ ks.getD p (-1) = 2 := by
    intro p h1 h2
    have z := hs.inn hm p h1 (by omega)
    have := hk.get (p := p) (by omega)
    unfold kz at z
    omega
  have t := cn_two (q.2 - q.1) hv
  unfold pl at hp
  have hor : cn ks 1 q.1 (q.2 - q.1) = 0 ∨ cn ks 2 q.1 (q.2 - q.1) = 0 := by
    by_cases c : cn ks 1 q.1 (q.2 - q.1) = 0 ∨ cn ks 2 q.1 (q.2 - q.1) = 0
    · exact c
    · rw [if_neg c] at hp; exact absurd hp (by decide)
  rcases hv q.1 (Nat.le_refl _) (by omega) with e | e
  · have o := cn_one e (q.2 - q.1) (by omega)
    rcases hkd with rfl | rfl
    · rw [if_pos e]; omega
    · rw [if_neg (by rw [e]; decide)]; omega
  · have o := cn_one e (q.2 - q.1) (by omega)
    rcases hkd with rfl | rfl
    · rw [if_neg (by rw [e]; decide)]; omega
    · rw [if_pos e]; omega
theorem mv_cn {ks : List Int} {H : HL} (hs : HSP ks H) (hk : KOK ks) {q : Nat × Nat} (hm : q ∈ H) (hp : pl ks q = 1) {b : Nat} (hf : free ks q b) (kd : Int) (hkd : kd = 1 ∨ kd = 2) : cn (mv ks q b) kd 0 ks.length = cn ks kd 0 ks.length := by
  have a1 := hs.1.2 q hm
  have a2 := hs.2.1 q hm
  have fl := hf.1
  have i1 := fill_cn (l := ks) (v := 0) (k := kd) (a := q.1) (q.2 - q.1) (by omega)
  have o1 := fill_cn (l := fill 0 ks q.1 (q.2 - q.1)) (v := ks.getD q.1 (-1)) (k := kd) (a := b) (q.2 - q.1) (by rw [fill_len]; omega)
  have z : cn (fill 0 ks q.1 (q.2 - q.1)) kd b (q.2 - q.1) = 0 := cn_zero _ (fun p h1 h2 => by
    rw [fill_get]
    by_cases c : q.1 ≤ p ∧ p < q.1 + (q.2 - q.1) ∧ p < ks.length
    · rw [if_pos c]; omega
    · rw [if_neg c]
      have := (hk.not (by omega)).mp (hf.2 p (Or.inl (by omega)) (Or.inl (by omega)) (by omega))
      rw [this]; omega)
  rw [fill_len] at o1
  unfold mv
  rw [o1, i1, z, pl_cn hs hk hm hp kd hkd, if_neg (show ¬ (0 : Int) = kd by omega)]
  omega
theorem st1_cn {ks ss : List Int} {H : HL} (hs : HSP ks H) (hk : KOK ks) (hso : SOK ss) (hl : ks.length = ss.length) (h28 : ks.length ≤ 28) (k : Nat) (kd : Int) (hkd : kd = 1 ∨ kd = 2) : cn (st1 ss (ks, H) k).1 kd 0 ks.length = cn ks kd 0 ks.length := by
  unfold st1
  dsimp only
  cases hq : H[k]? with
  | none => rfl
  | some q =>
    dsimp only
    by_cases hp : pl ks q = 0
    · rw [if_pos hp]
    · rw [if_neg hp]
      have hm := List.mem_of_getElem? hq
      exact mv_cn hs hk hm (pl_1 hp) (bt_free hs hso hl h28 hm (pl_1 hp)) kd hkd
theorem stn_cn {ss : List Int} (hso : SOK ss) (kd : Int) (hkd : kd = 1 ∨ kd = 2) : ∀ (r k : Nat) (ks : List Int) (H : HL), HSP ks H → KOK ks → ks.length = ss.length → ks.length ≤ 28 → cn (stn ss r k (ks, H)).1 kd 0 ks.length = cn ks kd 0 ks.length := by
  intro r
  induction r with
  | zero => intro k ks H _ _ _ _; rfl
  | succ r ih =>
    intro k ks H a b c d
    have so := st1_ok a b hso c d k
    rw [stn]
    have := ih (k + 1) _ _ so.1 so.2.1 (by rw [so.2.2.1]; exact c) (by rw [so.2.2.1]; exact d)
    rw [so.2.2.1, st1_cn a b hso c d k kd hkd] at this
    exact this
theorem shw_facts {g : SG} (og : OKg g) {H : HL} (hs : HSP (vks g.1 g.2.1) H) : HSP (shw g H).1 (shw g H).2 ∧ KOK (shw g H).1 ∧ (shw g H).1.length = (vss g.1 g.2.1).length ∧ (shw g H).1.length ≤ 28 ∧ (∀ kd, kd = 1 ∨ kd = 2 → cn (shw g H).1 kd 0 (shw g H).1.length ≤ 14) := by
  have hk := vks_ok og.1 og.2.1
  have hso := sok_of og.1 og.2.1
  have hle := vks_le g.1 g.2.1
  have hl := vks_len g.1 g.2.1
  have l0 := og.1.1
  have l1 := og.2.1.1
  have hc : ∀ kd, kd = 1 ∨ kd = 2 → cn (vks g.1 g.2.1) kd 0 (vks g.1 g.2.1).length ≤ 14 := by
    intro kd hkd
    have := vw_cn g.1 g.2.1 (g.1.length + g.2.1.length) 0 0 (Nat.zero_le _) (Nat.zero_le _)
    have e : (vw g.1 g.2.1 (g.1.length + g.2.1.length) 0 0).map Prod.fst = vks g.1 g.2.1 := rfl
    rw [e] at this
    rcases hkd with rfl | rfl <;> omega
  unfold shw
  by_cases c : g.2.2.2.2.1 = 1
  · rw [if_pos c]
    have so := stn_ok hso H.length 0 _ H hs hk hl (by omega)
    refine ⟨so.1, so.2.1, by rw [so.2.2.1]; exact hl, by rw [so.2.2.1]; omega, fun kd hkd => ?_⟩
    rw [so.2.2.1, stn_cn hso kd hkd H.length 0 _ H hs hk hl (by omega)]
    exact hc kd hkd
  · rw [if_neg c]
    exact ⟨hs, hk, hl, by show (vks g.1 g.2.1).length ≤ 28; omega, hc⟩

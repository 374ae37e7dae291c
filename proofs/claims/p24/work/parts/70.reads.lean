/-! ===== what the view tells of the two texts ===== -/
theorem pt_split (ks ss : List Int) (k : Int) (a m : Nat) : ∀ n, pt ks ss k a (m + n) = pt ks ss k a m ++ pt ks ss k (a + m) n := by
  intro n
  induction n with
  | zero => rw [Nat.add_zero, pt, List.append_nil]
  | succ n ih =>
    rw [show m + (n + 1) = (m + n) + 1 by omega, pt, pt, ih, List.append_assoc, show a + (m + n) = a + m + n by omega]
/-- the signs of the lines from a on -/
def sgm (ss : List Int) (a : Nat) : Nat → List Int
  | 0 => []
  | n + 1 => sgm ss a n ++ [ss.getD (a + n) (-1)]
theorem pt_every {ks ss : List Int} {k : Int} {a : Nat} : ∀ n, (∀ p, a ≤ p → p < a + n → ks.getD p (-1) ≠ k) → pt ks ss k a n = sgm ss a n := by
  intro n
  induction n with
  | zero => intro _; rfl
  | succ n ih =>
    intro h
    rw [pt, sgm, ih (fun p h1 h2 => h p h1 (by omega)), if_neg (h (a + n) (by omega) (by omega))]
theorem pt_nothing {ks ss : List Int} {k : Int} {a : Nat} : ∀ n, (∀ p, a ≤ p → p < a + n → ks.getD p (-1) = k) → pt ks ss k a n = [] := by
  intro n
  induction n with
  | zero => intro _; rfl
  | succ n ih =>
    intro h
    rw [pt, ih (fun p h1 h2 => h p h1 (by omega)), if_pos (h (a + n) (by omega) (by omega))]
    rfl
theorem pt_cong {ks ks' ss : List Int} {k : Int} {a : Nat} : ∀ n, (∀ p, a ≤ p → p < a + n → ks'.getD p (-1) = ks.getD p (-1)) → pt ks' ss k a n = pt ks ss k a n := by
  intro n
  induction n with
  | zero => intro _; rfl
  | succ n ih =>
    intro h
    rw [pt, pt, ih (fun p h1 h2 => h p h1 (by omega)), h (a + n) (by omega) (by omega)]
theorem sgm_eq {ss : List Int} {a b : Nat} : ∀ n, (∀ i, i < n → ss.getD (a + i) (-1) = ss.getD (b + i) (-1)) → sgm ss a n = sgm ss b n := by
  intro n
  induction n with
  | zero => intro _; rfl
  | succ n ih =>
    intro h
    rw [sgm, sgm, ih (fun i hi => h i (by omega)), h n (by omega)]
theorem pl_same {ks : List Int} {H : HL} (hs : HSP ks H) (hk : KOK ks) {q : Nat × Nat} (hm : q ∈ H) (hp : pl ks q = 1) : (ks.getD q.1 (-1) = 1 ∨ ks.getD q.1 (-1) = 2) ∧ ∀ p, q.1 ≤ p → p < q.2 → ks.getD p (-1) = ks.getD q.1 (-1) := by
  have a1 := hs.1.2 q hm
  have a2 := hs.2.1 q hm
  have hin : ∀ p, q.1 ≤ p → p < q.2 → ks.getD p (-1) = 1 ∨ ks.getD p (-1) = 2 := by
    intro p h1 h2
    have hz : kz ks p := (hs.2.2 p).mpr ⟨q, hm, h1, h2⟩
    have := hk.get (p := p) (by omega)
    unfold kz at hz
    omega
  have h0 := hin q.1 (Nat.le_refl _) a1
  refine ⟨h0, fun p h1 h2 => ?_⟩
  have key : ∀ (kd : Int), (∃ p, q.1 ≤ p ∧ p < q.2 ∧ ks.getD p (-1) = kd) → cn ks kd q.1 (q.2 - q.1) ≠ 0 := by
    intro kd ⟨p, g1, g2, g3⟩
    have : ∀ n, p < q.1 + n → 1 ≤ cn ks kd q.1 n := by
      intro n
      induction n with
      | zero => intro h; omega
      | succ n ih =>
        intro h
        rw [cn]
        have b := cn_bd ks kd q.1 n
        by_cases c : p = q.1 + n
        · rw [← c, if_pos g3]; omega
        · have := ih (by omega)
          split <;> omega
    have := this (q.2 - q.1) (by omega)
    omega
  have hpp := hin p h1 h2
  unfold pl at hp
  split at hp
  · rename_i c
    rcases c with c | c
    · have n1 : ∀ p', q.1 ≤ p' → p' < q.2 → ks.getD p' (-1) ≠ 1 := fun p' x y z => key 1 ⟨p', x, y, z⟩ c
      have := n1 p h1 h2
      have := n1 q.1 (Nat.le_refl _) a1
      omega
    · have n1 : ∀ p', q.1 ≤ p' → p' < q.2 → ks.getD p' (-1) ≠ 2 := fun p' x y z => key 2 ⟨p', x, y, z⟩ c
      have := n1 p h1 h2
      have := n1 q.1 (Nat.le_refl _) a1
      omega
  · exact absurd hp (by decide)
theorem mv_pt {ks ss : List Int} {H : HL} (hs : HSP ks H) (hk : KOK ks) {q : Nat × Nat} (hm : q ∈ H) (hp : pl ks q = 1) {b : Nat} (hf : free ks q b)
    (hS : ∀ p, (b ≤ p ∧ p < q.1) ∨ (q.1 ≤ p ∧ p < b) → ss.getD p (-1) = ss.getD (p + (q.2 - q.1)) (-1)) (k : Int) (hkd : k = 1 ∨ k = 2) : pt (mv ks q b) ss k 0 ks.length = pt ks ss k 0 ks.length := by
  have a1 := hs.1.2 q hm
  have a2 := hs.2.1 q hm
  have fl := hf.1
  obtain ⟨c0, cs⟩ := pl_same hs hk hm hp
  have g := fun p => mv_get ks q b p a1 a2
  have kept : ∀ p, p < ks.length → (b ≤ p + 1 ∨ q.1 ≤ p + 1) → (p ≤ b + (q.2 - q.1) ∨ p ≤ q.2) → (p < q.1 ∨ q.2 ≤ p) → ks.getD p (-1) = 0 := fun p h0 h1 h2 h3 => (hk.not h0).mp (hf.2 p h1 h2 h3)
  generalize hc : ks.getD q.1 (-1) = c at *
  rcases Nat.le_total b q.1 with hb | hb
  · have e : ks.length = b + ((q.1 - b) + (q.2 - q.1)) + (ks.length - q.2) := by omega
    rw [e, pt_split, pt_split, pt_split ks, pt_split ks]
    have o1 : pt (mv ks q b) ss k 0 b = pt ks ss k 0 b := pt_cong _ (fun p h1 h2 => by rw [g p, if_neg (by omega), if_neg (by omega)])
    have o2 : pt (mv ks q b) ss k (0 + (b + ((q.1 - b) + (q.2 - q.1)))) (ks.length - q.2) = pt ks ss k (0 + (b + ((q.1 - b) + (q.2 - q.1)))) (ks.length - q.2) := pt_cong _ (fun p h1 h2 => by rw [g p, if_neg (by omega), if_neg (by omega)])
    rw [o1, o2]
    congr 2
    by_cases hkc : c = k
    · have x1 : pt ks ss k (0 + b) ((q.1 - b) + (q.2 - q.1)) = sgm ss b (q.1 - b) := by
        rw [pt_split, Nat.zero_add, pt_every (a := b) (q.1 - b) (fun p h1 h2 => by rw [kept p (by omega) (by omega) (by omega) (by omega)]; omega), pt_nothing (q.2 - q.1) (fun p h1 h2 => by rw [cs p (by omega) (by omega)]; exact hkc), List.append_nil]
      have x2 : pt (mv ks q b) ss k (0 + b) ((q.1 - b) + (q.2 - q.1)) = sgm ss (b + (q.2 - q.1)) (q.1 - b) := by
        rw [show (q.1 - b) + (q.2 - q.1) = (q.2 - q.1) + (q.1 - b) by omega, pt_split, Nat.zero_add, pt_nothing (a := b) (q.2 - q.1) (fun p h1 h2 => by rw [g p, if_pos (by omega)]; exact hkc), pt_every (q.1 - b) (fun p h1 h2 => by
          rw [g p, if_neg (by omega)]
          by_cases d : q.1 ≤ p ∧ p < q.2
          · rw [if_pos d]; omega
          · rw [if_neg d, kept p (by omega) (by omega) (by omega) (by omega)]; omega), List.nil_append]
      rw [x1, x2]
      refine sgm_eq _ (fun i hi => ?_)
      have := hS (b + i) (Or.inl (by omega))
      rw [this, show b + (q.2 - q.1) + i = b + i + (q.2 - q.1) by omega]
    · rw [pt_every _ (fun p h1 h2 => ?_), pt_every _ (fun p h1 h2 => ?_)]
      · by_cases d : q.1 ≤ p ∧ p < q.2
        · rw [cs p d.1 d.2]; exact hkc
        · rw [kept p (by omega) (by omega) (by omega) (by omega)]; omega
      · rw [g p]
        by_cases d1 : b ≤ p ∧ p < b + (q.2 - q.1) ∧ p < ks.length
        · rw [if_pos d1]; exact hkc
        · rw [if_neg d1]
          by_cases d : q.1 ≤ p ∧ p < q.2
          · rw [if_pos d]; omega
          · rw [if_neg d, kept p (by omega) (by omega) (by omega) (by omega)]; omega
  · have e : ks.length = q.1 + ((b - q.1) + (q.2 - q.1)) + (ks.length - (b + (q.2 - q.1))) := by omega
    rw [e, pt_split, pt_split, pt_split ks, pt_split ks]
    have o1 : pt (mv ks q b) ss k 0 q.1 = pt ks ss k 0 q.1 := pt_cong _ (fun p h1 h2 => by rw [g p, if_neg (by omega), if_neg (by omega)])
    have o2 : pt (mv ks q b) ss k (0 + (q.1 + ((b - q.1) + (q.2 - q.1)))) (ks.length - (b + (q.2 - q.1))) = pt ks ss k (0 + (q.1 + ((b - q.1) + (q.2 - q.1)))) (ks.length - (b + (q.2 - q.1))) := pt_cong _ (fun p h1 h2 => by rw [g p, if_neg (by omega), if_neg (by omega)])
    rw [o1, o2]
    congr 2
    by_cases hkc : c = k
    · have x1 : pt ks ss k (0 + q.1) ((b - q.1) + (q.2 - q.1)) = sgm ss q.2 (b - q.1) := by
        rw [show (b - q.1) + (q.2 - q.1) = (q.2 - q.1) + (b - q.1) by omega, pt_split, Nat.zero_add, pt_nothing (a := q.1) (q.2 - q.1) (fun p h1 h2 => by rw [cs p (by omega) (by omega)]; exact hkc), List.nil_append, show q.1 + (q.2 - q.1) = q.2 by omega, pt_every (b - q.1) (fun p h1 h2 => by rw [kept p (by omega) (by omega) (by omega) (by omega)]; omega)]
      have x2 : pt (mv ks q b) ss k (0 + q.1) ((b - q.1) + (q.2 - q.1)) = sgm ss q.1 (b - q.1) := by
        rw [pt_split, Nat.zero_add, pt_nothing (q.2 - q.1) (fun p h1 h2 => by rw [g p, if_pos (by omega)]; exact hkc), List.append_nil, pt_every (b - q.1) (fun p h1 h2 => by
          rw [g p, if_neg (by omega)]
          by_cases d : q.1 ≤ p ∧ p < q.2
          · rw [if_pos d]; omega
          · rw [if_neg d, kept p (by omega) (by omega) (by omega) (by omega)]; omega)]
      rw [x1, x2]
      refine sgm_eq _ (fun i hi => ?_)
      have := hS (q.1 + i) (Or.inr (by omega))
      rw [this, show q.1 + i + (q.2 - q.1) = q.2 + i by omega]
    · rw [pt_every _ (fun p h1 h2 => ?_), pt_every _ (fun p h1 h2 => ?_)]
      · by_cases d : q.1 ≤ p ∧ p < q.2
        · rw [cs p d.1 d.2]; exact hkc
        · rw [kept p (by omega) (by omega) (by omega) (by omega)]; omega
      · rw [g p]
        by_cases d1 : b ≤ p ∧ p < b + (q.2 - q.1) ∧ p < ks.length
        · rw [if_pos d1]; exact hkc
        · rw [if_neg d1]
          by_cases d : q.1 ≤ p ∧ p < q.2
          · rw [if_pos d]; omega
          · rw [if_neg d, kept p (by omega) (by omega) (by omega) (by omega)]; omega
/-- where a hunk slides, the signs are the same -/
theorem lgn (l : List Int) (p : Nat) : lg l (p : Int) = l.getD p (-1) := by rw [lg_in (Int.natCast_nonneg _), nn]
theorem bar_up {ks ss : List Int} {t e : Int} (h : bar ks ss t e 0 = 0) : lg ss (t - 1) = lg ss (e - 1) ∧ lg ks (t - 2) ≤ 0 := by
  unfold bar at h
  rw [if_pos rfl] at h
  split at h
  · exact absurd h (by decide)
  · split at h
    · rename_i c
      split at h
      · exact ⟨c, by assumption⟩
      · exact absurd h (by decide)
    · exact absurd h (by decide)
theorem bar_dn {ks ss : List Int} {t e : Int} (h : bar ks ss t e 1 = 0) : lg ss e = lg ss t ∧ lg ks (e + 1) ≤ 0 := by
  unfold bar at h
  rw [if_neg (by decide)] at h
  split at h
  · exact absurd h (by decide)
  · split at h
    · rename_i c
      split at h
      · exact ⟨c, by assumption⟩
      · exact absurd h (by decide)
    · exact absurd h (by decide)
theorem slide_up {ks ss : List Int} (hs : SOK ss) (q : Nat × Nat) (h1 : q.1 < q.2) (h2 : q.2 ≤ ss.length) (h3 : ss.length ≤ 28) {p : Nat} (hp : q.1 ≤ p + slc ks ss q 0) (hp2 : p < q.1) : ss.getD p (-1) = ss.getD (p + (q.2 - q.1)) (-1) ∧ (p = 0 ∨ q.1 = p + slc ks ss q 0 ∨ lg ks ((p : Int) - 1) ≤ 0 ) := by
  have u := (slc_spec (ks := ks) hs q 0 h1 h2 h3).1 (q.1 - 1 - p) (by omega)
  rw [show wy 0 = -1 from rfl] at u
  obtain ⟨x, y⟩ := bar_up u
  rw [show (q.1 : Int) + -1 * ((q.1 - 1 - p : Nat) : Int) - 1 = (p : Int) by omega, show (q.2 : Int) + -1 * ((q.1 - 1 - p : Nat) : Int) - 1 = ((p + (q.2 - q.1) : Nat) : Int) by omega, lgn, lgn] at x
  rw [show (q.1 : Int) + -1 * ((q.1 - 1 - p : Nat) : Int) - 2 = (p : Int) - 1 by omega] at y
  exact ⟨x, Or.inr (Or.inr y)⟩
theorem slide_dn {ks ss : List Int} (hs : SOK ss) (q : Nat × Nat) (h1 : q.1 < q.2) (h2 : q.2 ≤ ss.length) (h3 : ss.length ≤ 28) {p : Nat} (hp : p < q.1 + slc ks ss q 1) (hp2 : q.1 ≤ p) : ss.getD p (-1) = ss.getD (p + (q.2 - q.1)) (-1) ∧ lg ks (((p + (q.2 - q.1) : Nat) : Int) + 1) ≤ 0 := by
  have u := (slc_spec (ks := ks) hs q 1 h1 h2 h3).1 (p - q.1) (by omega)
  rw [show wy 1 = 1 from rfl] at u
  obtain ⟨x, y⟩ := bar_dn u
  rw [show (q.1 : Int) + 1 * ((p - q.1 : Nat) : Int) = (p : Int) by omega, show (q.2 : Int) + 1 * ((p - q.1 : Nat) : Int) = ((p + (q.2 - q.1) : Nat) : Int) by omega, lgn, lgn] at x
  rw [show (q.2 : Int) + 1 * ((p - q.1 : Nat) : Int) + 1 = ((p + (q.2 - q.1) : Nat) : Int) + 1 by omega] at y
  exact ⟨x.symm, y⟩
theorem st1_pt {ks ss : List Int} {H : HL} (hs : HSP ks H) (hk : KOK ks) (hso : SOK ss) (hl : ks.length = ss.length) (h28 : ks.length ≤ 28) (j : Nat) (k : Int) (hkd : k = 1 ∨ k = 2) : pt (st1 ss (ks, H) j).1 ss k 0 ks.length = pt ks ss k 0 ks.length := by
  unfold st1
  dsimp only
  cases hq : H[j]? with
  | none => rfl
  | some q =>
    dsimp only
    by_cases hp : pl ks q = 0
    · rw [if_pos hp]
    · rw [if_neg hp]
      have hm := List.mem_of_getElem? hq
      have hp1 := pl_1 hp
      have a1 := hs.1.2 q hm
      have a2 := hs.2.1 q hm
      have r := bt_range (ks := ks) hso q a1 (by omega) (by omega)
      have e0 : sld ks ss q 0 = slc ks ss q 0 := by unfold sld; rw [if_pos hp1]
      have e1 : sld ks ss q 1 = slc ks ss q 1 := by unfold sld; rw [if_pos hp1]
      rw [e0, e1] at r
      refine mv_pt hs hk hm hp1 (bt_free hs hso hl h28 hm hp1) (fun p hh => ?_) k hkd
      rcases hh with hh | hh
      · exact (slide_up hso q a1 (by omega) (by omega) (ks := ks) (p := p) (by omega) (by omega)).1
      · exact (slide_dn hso q a1 (by omega) (by omega) (ks := ks) (p := p) (by omega) (by omega)).1
theorem stn_pt {ss : List Int} (hso : SOK ss) (kd : Int) (hkd : kd = 1 ∨ kd = 2) : ∀ (r k : Nat) (ks : List Int) (H : HL), HSP ks H → KOK ks → ks.length = ss.length → ks.length ≤ 28 → pt (stn ss r k (ks, H)).1 ss kd 0 ks.length = pt ks ss kd 0 ks.length := by
  intro r
  induction r with
  | zero => intro k ks H _ _ _ _; rfl
  | succ r ih =>
    intro k ks H a b c d
    have so := st1_ok a b hso c d k
    rw [stn]
    have := ih (k + 1) _ _ so.1 so.2.1 (by rw [so.2.2.1]; exact c) (by rw [so.2.2.1]; exact d)
    rw [so.2.2.1, st1_pt a b hso c d k kd hkd] at this
    exact this
theorem pt_cons (x y : Int) (ks ss : List Int) (k : Int) : ∀ n, pt (x :: ks) (y :: ss) k 0 (n + 1) = (if x = k then [] else [y]) ++ pt ks ss k 0 n := by
  intro n
  induction n with
  | zero => rw [pt, pt, pt]; simp
  | succ n ih =>
    rw [pt, ih, pt, List.append_assoc]
    congr 2
def rdk (k : Int) : List (Int × Int) → List Int
  | [] => []
  | q :: l => (if q.1 = k then [] else [q.2]) ++ rdk k l
theorem pt_rdk (k : Int) : ∀ l : List (Int × Int), pt (l.map Prod.fst) (l.map Prod.snd) k 0 l.length = rdk k l := by
  intro l
  induction l with
  | nil => rfl
  | cons q l ih => rw [List.map_cons, List.map_cons, List.length_cons, pt_cons, ih, rdk]
theorem drop_at {l : List Int} {i : Nat} (hi : i < l.length) : l.drop i = l.getD i (-1) :: l.drop (i + 1) := by
  rw [List.drop_eq_getElem_cons hi, List.getD_eq_getElem?_getD, List.getElem?_eq_getElem hi]
  rfl
theorem vw_read (l1 l2 : List Int) : ∀ (f i j : Nat), i ≤ l1.length → j ≤ l2.length → (l1.length - i) + (l2.length - j) ≤ f →
    rdk 2 (vw l1 l2 f i j) = l1.drop i ∧ rdk 1 (vw l1 l2 f i j) = l2.drop j ∧ ((vw l1 l2 f i j).length : Int) = (l1.length : Int) - (i : Int) + (l2.length : Int) - (j : Int) - kp l1 l2 i j := by
  intro f
  induction f with
  | zero =>
    intro i j h1 h2 h3
    have e1 : i = l1.length := by omega
    have e2 : j = l2.length := by omega
    subst e1; subst e2
    rw [vw, rdk, rdk, List.drop_length, List.drop_length, kp_out (by omega)]
    refine ⟨rfl, rfl, ?_⟩
    simp only [List.length_nil]; omega
  | succ f ih =>
    intro i j h1 h2 h3
    rw [vw]
    by_cases hd : i < l1.length ∨ j < l2.length
    · rw [if_pos hd]
      by_cases c0 : i < l1.length ∧ j < l2.length ∧ l1.getD i (-1) = l2.getD j (-1)
      · rw [stp_0 c0, if_neg (by decide), if_neg (by decide), if_neg (by decide)]
        obtain ⟨x1, x2, x3⟩ := ih (i + 1) (j + 1) (by omega) (by omega) (by omega)
        rw [rdk, rdk, List.length_cons, x1, x2, if_neg (by show ¬ (0 : Int) = 2; decide), if_neg (by show ¬ (0 : Int) = 1; decide), drop_at c0.1, drop_at c0.2.1, kp_eq ⟨c0.1, c0.2.1⟩ c0.2.2]
        refine ⟨rfl, by show [l1.getD i (-1)] ++ _ = _; rw [c0.2.2]; rfl, ?_⟩
        omega
      · by_cases c1 : i < l1.length ∧ (l2.length ≤ j ∨ kp l1 l2 i (j + 1) ≤ kp l1 l2 (i + 1) j)
        · rw [stp_1 c0 c1, if_neg (by decide), if_neg (by decide), if_pos rfl]
          obtain ⟨x1, x2, x3⟩ := ih (i + 1) j (by omega) (by omega) (by omega)
          have ek : kp l1 l2 i j = kp l1 l2 (i + 1) j := by
            by_cases d : l2.length ≤ j
            · rw [kp_out (by omega), kp_out (by omega)]
            · rw [kp_ne ⟨c1.1, by omega⟩ (fun z => c0 ⟨c1.1, by omega, z⟩)]
              have := c1.2
              unfold imax
              split <;> omega
          rw [rdk, rdk, List.length_cons, x1, x2, if_neg (by show ¬ (1 : Int) = 2; decide), if_pos (by show (1 : Int) = 1; rfl), drop_at c1.1, ek]
          refine ⟨rfl, rfl, ?_⟩
          omega
        · rw [stp_2 c0 c1, if_pos rfl, if_pos rfl, if_neg (by decide)]
          have hj : j < l2.length := by
            rcases hd with hd | hd
            · rcases Nat.lt_or_ge j l2.length with z | z
              · exact z
              · exact absurd ⟨hd, Or.inl z⟩ c1
            · exact hd
          obtain ⟨x1, x2, x3⟩ := ih i (j + 1) (by omega) (by omega) (by omega)
          have ek : kp l1 l2 i j = kp l1 l2 i (j + 1) := by
            by_cases d : l1.length ≤ i
            · rw [kp_out (by omega), kp_out (by omega)]
            · rw [kp_ne ⟨by omega, hj⟩ (fun z => c0 ⟨by omega, hj, z⟩)]
              have : ¬ kp l1 l2 i (j + 1) ≤ kp l1 l2 (i + 1) j := fun z => c1 ⟨by omega, Or.inr z⟩
              unfold imax
              split <;> omega
          rw [rdk, rdk, List.length_cons, x1, x2, if_pos (by show (2 : Int) = 2; rfl), if_neg (by show ¬ (2 : Int) = 1; decide), drop_at hj, ek]
          refine ⟨rfl, rfl, ?_⟩
          omega
    · rw [if_neg hd]
      have e1 : i = l1.length := by omega
      have e2 : j = l2.length := by omega
      subst e1; subst e2
      rw [rdk, rdk, List.drop_length, List.drop_length, kp_out (by omega)]
      refine ⟨rfl, rfl, ?_⟩
      simp only [List.length_nil]; omega
/-- the view tells both texts, and is as long as they and their distance ask -/
def RDS (ks ss : List Int) (l1 l2 : List Int) : Prop := pt ks ss 2 0 ks.length = l1 ∧ pt ks ss 1 0 ks.length = l2 ∧ (ks.length : Int) = (l1.length : Int) + (l2.length : Int) - kp l1 l2 0 0
theorem shw_reads {g : SG} (og : OKg g) {H : HL} (hs : HSP (vks g.1 g.2.1) H) : RDS (shw g H).1 (vss g.1 g.2.1) g.1 g.2.1 := by
  have hk := vks_ok og.1 og.2.1
  have hso := sok_of og.1 og.2.1
  have hle := vks_le g.1 g.2.1
  have hl := vks_len g.1 g.2.1
  have l0 := og.1.1
  have l1 := og.2.1.1
  obtain ⟨x1, x2, x3⟩ := vw_read g.1 g.2.1 (g.1.length + g.2.1.length) 0 0 (Nat.zero_le _) (Nat.zero_le _) (by omega)
  have p2 := pt_rdk 2 (vl g.1 g.2.1)
  have p1 := pt_rdk 1 (vl g.1 g.2.1)
  have el : (vks g.1 g.2.1).length = (vl g.1 g.2.1).length := by unfold vks; rw [List.length_map]
  have base : RDS (vks g.1 g.2.1) (vss g.1 g.2.1) g.1 g.2.1 := by
    refine ⟨?_, ?_, ?_⟩
    · rw [el]; exact p2.trans x1
    · rw [el]; exact p1.trans x2
    · rw [el]; have := x3; unfold vl; omega
  unfold shw
  by_cases c : g.2.2.2.2.1 = 1
  · rw [if_pos c]
    have so := stn_ok hso H.length 0 _ H hs hk hl (by omega)
    unfold RDS
    rw [so.2.2.1, stn_pt hso 2 (Or.inr rfl) H.length 0 _ H hs hk hl (by omega), stn_pt hso 1 (Or.inl rfl) H.length 0 _ H hs hk hl (by omega)]
    exact base
  · rw [if_neg c]
    exact base

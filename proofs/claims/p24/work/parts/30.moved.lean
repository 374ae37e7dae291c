/-! ===== every hunk at its best place ===== -/
theorem cn_congr {ks ks' : List Int} {k : Int} {a : Nat} : ∀ (n : Nat), (∀ p, a ≤ p → p < a + n → ks'.getD p (-1) = ks.getD p (-1)) → cn ks' k a n = cn ks k a n := by
  intro n
  induction n with
  | zero => intro _; rfl
  | succ n ih =>
    intro h
    rw [cn, cn, ih (fun p h1 h2 => h p h1 (by omega)), h (a + n) (by omega) (by omega)]
theorem cn_zero {ks : List Int} {k : Int} {a : Nat} : ∀ (n : Nat), (∀ p, a ≤ p → p < a + n → ks.getD p (-1) ≠ k) → cn ks k a n = 0 := by
  intro n
  induction n with
  | zero => intro _; rfl
  | succ n ih =>
    intro h
    rw [cn, ih (fun p h1 h2 => h p h1 (by omega)), if_neg (h (a + n) (by omega) (by omega))]
    rfl
theorem kok_of {l : List Int} (h : ∀ p, p < l.length → l.getD p (-1) = 0 ∨ l.getD p (-1) = 1 ∨ l.getD p (-1) = 2) : KOK l := by
  intro x hx
  obtain ⟨i, hi⟩ := List.getElem?_of_mem hx
  have hl := (List.getElem?_eq_some_iff.mp hi).1
  have := h i hl
  rw [List.getD_eq_getElem?_getD, hi] at this
  exact this
theorem mv_kok {ks : List Int} (hk : KOK ks) {q : Nat × Nat} (h1 : q.1 < q.2) (h2 : q.2 ≤ ks.length) (b : Nat) : KOK (mv ks q b) := by
  refine kok_of (fun p hp => ?_)
  rw [mv_len] at hp
  rw [mv_get ks q b p h1 h2]
  split
  · exact hk.get (by omega)
  · split
    · exact Or.inl rfl
    · exact hk.get hp
theorem bt_free {ks ss : List Int} {H : HL} (hs : HSP ks H) (hso : SOK ss) (hl : ks.length = ss.length) (h28 : ks.length ≤ 28) {q : Nat × Nat} (hm : q ∈ H) (hp : pl ks q = 1) : free ks q (bt ks ss q) := by
  have a1 := hs.1.2 q hm
  have a2 := hs.2.1 q hm
  have s := sld_le (ks := ks) hso q a1 (by omega) (by omega)
  have r := bt_range (ks := ks) hso q a1 (by omega) (by omega)
  have u := (slc_spec (ks := ks) hso q 0 a1 (by omega) (by omega)).1
  have d := (slc_spec (ks := ks) hso q 1 a1 (by omega) (by omega)).1
  have e0 : sld ks ss q 0 = slc ks ss q 0 := by unfold sld; rw [if_pos hp]
  have e1 : sld ks ss q 1 = slc ks ss q 1 := by unfold sld; rw [if_pos hp]
  rw [e0, e1] at s r
  generalize bt ks ss q = b at r ⊢
  refine ⟨by omega, fun p g1 g2 g3 => ?_⟩
  have ge : q.1 - slc ks ss q 0 ≤ p + 1 ∧ p ≤ q.2 + slc ks ss q 1 := by omega
  rcases g3 with g3 | g3
  · by_cases c : p + 1 = q.1
    · have := hs.ahead hm (by omega)
      rw [show q.1 - 1 = p by omega] at this
      exact this
    · have hj : q.1 - 2 - p < slc ks ss q 0 := by omega
      have hb := u _ hj
      rw [show wy 0 = -1 from rfl] at hb
      unfold bar at hb
      rw [if_pos rfl] at hb
      have ei : (q.1 : Int) + -1 * ((q.1 - 2 - p : Nat) : Int) - 2 = (p : Int) := by omega
      rw [ei] at hb
      unfold kz
      have el : lg ks (p : Int) = ks.getD p (-1) := by rw [lg_in (Int.natCast_nonneg _), nn]
      rw [el] at hb
      intro hc
      rw [if_neg (show ¬ ks.getD p (-1) ≤ 0 by omega)] at hb
      split at hb
      · exact absurd hb (by decide)
      · split at hb
        · exact absurd hb (by decide)
        · exact absurd hb (by decide)
  · by_cases c : p = q.2
    · subst c; exact hs.fin hm
    · have hj : p - q.2 - 1 < slc ks ss q 1 := by omega
      have hb := d _ hj
      rw [show wy 1 = 1 from rfl] at hb
      unfold bar at hb
      rw [if_neg (show ¬ (1 : Int) = 0 by decide)] at hb
      have ei : (q.2 : Int) + 1 * ((p - q.2 - 1 : Nat) : Int) + 1 = (p : Int) := by omega
      rw [ei] at hb
      unfold kz
      have el : lg ks (p : Int) = ks.getD p (-1) := by rw [lg_in (Int.natCast_nonneg _), nn]
      rw [el] at hb
      intro hc
      rw [if_neg (show ¬ ks.getD p (-1) ≤ 0 by omega)] at hb
      split at hb
      · exact absurd hb (by decide)
      · split at hb
        · exact absurd hb (by decide)
        · exact absurd hb (by decide)
theorem mv_pls {ks : List Int} {H : HL} (hs : HSP ks H) (hk : KOK ks) {k : Nat} {q : Nat × Nat} (hq : H[k]? = some q) (hp : pl ks q = 1) {b : Nat} (hf : free ks q b) : pls (mv ks q b) (H.set k (b, b + (q.2 - q.1))) = pls ks H := by
  have hm := List.mem_of_getElem? hq
  have a1 := hs.1.2 q hm
  have a2 := hs.2.1 q hm
  have hs2 := hs.move hq hf
  have hkl := (List.getElem?_eq_some_iff.mp hq).1
  have hsetk : (H.set k (b, b + (q.2 - q.1)))[k]? = some (b, b + (q.2 - q.1)) := by
    rw [List.getElem?_set, if_pos rfl, if_pos hkl]
  apply List.ext_getElem?
  intro j
  unfold pls
  rw [List.getElem?_map, List.getElem?_map]
  by_cases hjk : j = k
  · subst hjk
    rw [hsetk, hq]
    refine congrArg some ?_
    rw [hp]
    have hv := hk.get (p := q.1) (by omega)
    have hz : kz ks q.1 := hs.inn hm q.1 (Nat.le_refl _) a1
    unfold kz at hz
    have hval : ∀ p, b ≤ p → p < b + (b + (q.2 - q.1) - b) → (mv ks q b).getD p (-1) = ks.getD q.1 (-1) := by
      intro p h1 h2
      have := hf.1
      rw [mv_get ks q b p a1 a2, if_pos (by omega)]
    show pl (mv ks q b) (b, b + (q.2 - q.1)) = 1
    unfold pl
    rcases hv with e | e | e
    · omega
    · exact if_pos (Or.inr (cn_zero _ (fun p h1 h2 => by rw [hval p h1 h2, e]; decide)))
    · exact if_pos (Or.inl (cn_zero _ (fun p h1 h2 => by rw [hval p h1 h2, e]; decide)))
  · rw [List.getElem?_set, if_neg (fun z => hjk z.symm)]
    cases hr : H[j]? with
    | none => rfl
    | some r =>
      refine congrArg some ?_
      have hrm := List.mem_of_getElem? hr
      have r1 := hs.1.2 r hrm
      have r2 := hs.2.1 r hrm
      have hset : (H.set k (b, b + (q.2 - q.1)))[j]? = some r := by rw [List.getElem?_set, if_neg (fun z => hjk z.symm)]; exact hr
      have hc : ∀ kd, cn (mv ks q b) kd r.1 (r.2 - r.1) = cn ks kd r.1 (r.2 - r.1) := by
        intro kd
        apply cn_congr
        intro p h1 h2
        rw [mv_get ks q b p a1 a2]
        rcases Nat.lt_or_gt_of_ne hjk with c | c
        · have x1 := hs.1.lt hr hq c
          have x2 : r.2 < b := hs2.1.lt hset hsetk c
          rw [if_neg (by omega), if_neg (by omega)]
        · have x1 := hs.1.lt hq hr c
          have x2 : b + (q.2 - q.1) < r.1 := hs2.1.lt hsetk hset c
          rw [if_neg (by omega), if_neg (by omega)]
      unfold pl
      rw [hc, hc]
/-- one hunk settles; all of them, from one on -/
def st1 (ss : List Int) (s : List Int × HL) (k : Nat) : List Int × HL :=
  match s.2[k]? with
  | some q => if pl s.1 q = 0 then s else (mv s.1 q (bt s.1 ss q), s.2.set k (bt s.1 ss q, bt s.1 ss q + (q.2 - q.1)))
  | none => s
def stn (ss : List Int) : Nat → Nat → (List Int × HL) → (List Int × HL)
  | 0, _, s => s
  | n + 1, k, s => stn ss n (k + 1) (st1 ss s k)
theorem pl_1 {ks : List Int} {q : Nat × Nat} (h : ¬ pl ks q = 0) : pl ks q = 1 := (pl_01 ks q).resolve_left h
theorem st1_ok {ks ss : List Int} {H : HL} (hs : HSP ks H) (hk : KOK ks) (hso : SOK ss) (hl : ks.length = ss.length) (h28 : ks.length ≤ 28) (k : Nat) :
    HSP (st1 ss (ks, H) k).1 (st1 ss (ks, H) k).2 ∧ KOK (st1 ss (ks, H) k).1 ∧ (st1 ss (ks, H) k).1.length = ks.length ∧ (st1 ss (ks, H) k).2.length = H.length ∧ pls (st1 ss (ks, H) k).1 (st1 ss (ks, H) k).2 = pls ks H := by
  unfold st1
  dsimp only
  cases hq : H[k]? with
  | none => exact ⟨hs, hk, rfl, rfl, rfl⟩
  | some q =>
    dsimp only
    by_cases hp : pl ks q = 0
    · rw [if_pos hp]; exact ⟨hs, hk, rfl, rfl, rfl⟩
    · rw [if_neg hp]
      have hm := List.mem_of_getElem? hq
      have hf := bt_free hs hso hl h28 hm (pl_1 hp)
      exact ⟨hs.move hq hf, mv_kok hk (hs.1.2 q hm) (hs.2.1 q hm) _, mv_len _ _ _, by simp, mv_pls hs hk hq (pl_1 hp) hf⟩
theorem V_moveTo {h : MH} {ks ss : List Int} {H : HL} (V : VC h ks ss H) (hk : KOK ks) {k : Nat} {q : Nat × Nat} (hq : H[k]? = some q) (hp : pl ks q = 1) {b : Nat} (hf : free ks q b) :
    ∃ h', F_V_moveTo (k : Int) (b : Int) h = some h' ∧ VC h' (mv ks q b) ss (H.set k (b, b + (q.2 - q.1))) ∧ FR VS h h' := by
  obtain ⟨a1, a2, a3, a4, a5⟩ := V.q hq
  have V0 := V
  obtain ⟨R1, R2, R3, R4, R5, hs, hl, h28⟩ := V
  have hkl := (List.getElem?_eq_some_iff.mp hq).1
  have hfl := hf.1
  unfold F_V_moveTo
  rw [V_top V0 hq, V_end V0 hq, R1.at, lg_in (Int.natCast_nonneg _), nn]
  have e1 : wr (wr ((b : Int) + (q.2 : Int)) - (q.1 : Int)) = ((b + (q.2 - q.1) : Nat) : Int) := by
    rw [wr_id (z := (b : Int) + (q.2 : Int)) (by omega), wr_id (by omega)]; omega
  rw [e1]
  obtain ⟨h1, x1, f1, r1, w1⟩ := V_move0 (h0 := h) hq (x2 := (b : Int)) (x3 := ks.getD q.1 (-1)) (x4 := ((b + (q.2 - q.1) : Nat) : Int)) 0 a2 a5 FUEL 0 h R1 R4 (by omega) (by rw [FUEL_eq]; omega)
  rw [Nat.add_zero] at f1
  rw [f1]
  obtain ⟨h2, x2, f2, r2, w2⟩ := V_move1 (x1 := (k : Int)) (x2 := (b : Int)) (l := fill 0 ks q.1 (q.2 - q.1)) (ks.getD q.1 (-1)) (a := b) (e := b + (q.2 - q.1)) (by rw [fill_len]; exact hfl) (by rw [fill_len]; exact a5) FUEL 0 h1 r1 (by omega) (by rw [FUEL_eq]; omega)
  rw [Nat.add_zero] at f2
  show ∃ h', ob2 (F_V_moveTo_L64 (k : Int) (b : Int) (ks.getD q.1 (-1)) ((b + (q.2 - q.1) : Nat) : Int) FUEL (b : Int) h1) _ = some h' ∧ _
  rw [f2]
  refine ⟨_, rfl, ?_⟩
  have W := w1.tr w2
  have S2 : RW h2 57 ss := R2.fr W (by decide) (by decide)
  have S3 : RW h2 59 (tops H) := R3.fr W (by decide) (by decide)
  have S4 : RW h2 61 (ends H) := R4.fr W (by decide) (by decide)
  have S5 : RW h2 63 (pls ks H) := R5.fr W (by decide) (by decide)
  rw [show b + (q.2 - q.1) - b = q.2 - q.1 by omega] at r2
  obtain ⟨A, B⟩ := Ro_change S3 (k : Int) (b : Int) (Int.natCast_nonneg _) (by rw [tops_len]; omega)
  obtain ⟨C, D⟩ := Ro_change (S4.off B rfl (by omega)) (k : Int) ((b + (q.2 - q.1) : Nat) : Int) (Int.natCast_nonneg _) (by rw [ends_len]; omega)
  rw [nn] at A C
  refine ⟨⟨(r2.off B rfl (by omega)).off D rfl (by omega), (S2.off B rfl (by omega)).off D rfl (by omega), ?_, ?_, ?_, hs.move hq hf, ?_, ?_⟩, ?_⟩
  · rw [tops_set]; exact A.off D rfl (by omega)
  · rw [ends_set]; exact C
  · rw [mv_pls hs hk hq hp hf]; exact (S5.off B rfl (by omega)).off D rfl (by omega)
  · rw [mv_len]; exact hl
  · rw [mv_len]; exact h28
  · exact ((W.mono (by decide)).tr (B.mono (by decide))).tr (D.mono (by decide))
theorem V_settle_loop {ss : List Int} (hso : SOK ss) : ∀ (n r k : Nat) (h : MH) (ks : List Int) (H : HL), VC h ks ss H → KOK ks → k + r = H.length → r < n →
    ∃ h' x, F_V_settle_L2 n (k : Int) h = some (x, h') ∧ VC h' (stn ss r k (ks, H)).1 ss (stn ss r k (ks, H)).2 ∧ FR VS h h' := by
  intro n
  induction n with
  | zero => intro r k h ks H _ _ _ h2; omega
  | succ n ih =>
    intro r k h ks H V hk h1 h2
    have hl := V.2.2.2.2.2.2.1
    have h28 := V.2.2.2.2.2.2.2
    have hs := V.2.2.2.2.2.1
    have h14 := hs.len14 h28
    unfold F_V_settle_L2 F_V_hunks
    dsimp only [jk1]
    rw [V.2.2.1.size, tops_len]
    cases r with
    | zero =>
      rw [if_neg (by omega)]
      exact ⟨h, _, rfl, V, FR.rf _ _⟩
    | succ r =>
      rw [if_pos (by omega)]
      have hq : H[k]? = some (H[k]'(by omega)) := List.getElem?_eq_getElem _
      generalize H[k]'(by omega) = q at hq
      have e1 : wr ((k : Int) + 1) = ((k + 1 : Nat) : Int) := by rw [wr_id (by omega)]; omega
      rw [V_isPlain V hq, e1, stn]
      have so := st1_ok hs hk hso hl h28 k
      by_cases hp : pl ks q = 0
      · have es : st1 ss (ks, H) k = (ks, H) := by unfold st1; dsimp only; rw [hq]; dsimp only; rw [if_pos hp]
        rw [if_pos hp, es]
        exact ih r (k + 1) h ks H V hk (by omega) (by omega)
      · have es : st1 ss (ks, H) k = (mv ks q (bt ks ss q), H.set k (bt ks ss q, bt ks ss q + (q.2 - q.1))) := by unfold st1; dsimp only; rw [hq]; dsimp only; rw [if_neg hp]
        rw [es] at so
        rw [if_neg hp, V_bestTop V hso hq, ob1_s, es]
        obtain ⟨h3, f3, v3, w3⟩ := V_moveTo V hk hq (pl_1 hp) (bt_free hs hso hl h28 (List.mem_of_getElem? hq) (pl_1 hp))
        rw [f3, ob1_s]
        obtain ⟨h', x, g1, g2, g3⟩ := ih r (k + 1) h3 _ _ v3 so.2.1 (by rw [so.2.2.2.1]; omega) (by omega)
        exact ⟨h', x, g1, g2, w3.tr g3⟩
theorem V_settle {h : MH} {ks ss : List Int} {H : HL} (V : VC h ks ss H) (hk : KOK ks) (hso : SOK ss) : ∃ h', F_V_settle h = some h' ∧ VC h' (stn ss H.length 0 (ks, H)).1 ss (stn ss H.length 0 (ks, H)).2 ∧ FR VS h h' := by
  have h14 := V.2.2.2.2.2.1.len14 V.2.2.2.2.2.2.2
  obtain ⟨h', x, g1, g2, g3⟩ := V_settle_loop hso FUEL H.length 0 h ks H V hk (by omega) (by rw [FUEL_eq]; omega)
  unfold F_V_settle
  rw [show ((0 : Nat) : Int) = 0 from rfl] at g1
  rw [g1]
  exact ⟨h', rfl, g2, g3⟩

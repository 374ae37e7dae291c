/-! ===== around a hunk; lines but of one kind; the hunk of a line ===== -/
def pvE (H : HL) (k : Nat) : Nat := if k = 0 then 0 else ((H[k - 1]?).map (fun q => q.2)).getD 0
def nxT (H : HL) (k L : Nat) : Nat := ((H[k + 1]?).map (fun q => q.1)).getD L
/-- how many kept lines stand directly ahead of a hunk, or directly behind it -/
def gap (H : HL) (L : Nat) (k : Nat) (q : Nat × Nat) (dn : Int) : Nat := if dn = 0 then q.1 - pvE H k else nxT H k L - q.2
theorem HSP.idle {ks : List Int} {H : HL} (hs : HSP ks H) {p : Nat} {lo hi : Nat} (h1 : ∀ (j : Nat) (r : Nat × Nat), H[j]? = some r → j < lo → r.2 ≤ p) (h2 : ∀ (j : Nat) (r : Nat × Nat), H[j]? = some r → lo ≤ j → p < r.1) : ¬ kz ks p := by
  intro hk
  obtain ⟨r, hr, a, b⟩ := (hs.2.2 p).mp hk
  obtain ⟨j, hj⟩ := List.getElem?_of_mem hr
  rcases Nat.lt_or_ge j lo with c | c
  · have := h1 j r hj c; omega
  · have := h2 j r hj c; omega
theorem pvE_le {ks : List Int} {H : HL} (hs : HSP ks H) {k : Nat} {q : Nat × Nat} (hq : H[k]? = some q) : pvE H k ≤ q.1 ∧ (∀ p, pvE H k ≤ p → p < q.1 → ¬ kz ks p) ∧ (0 < pvE H k → kz ks (pvE H k - 1)) := by
  unfold pvE
  by_cases h0 : k = 0
  · rw [if_pos h0]
    subst h0
    refine ⟨Nat.zero_le _, fun p _ hp => hs.idle (lo := 0) (hi := 0) (fun j r hj hlt => absurd hlt (Nat.not_lt_zero _)) (fun j r hj _ => ?_), fun h => absurd h (Nat.lt_irrefl _)⟩
    rcases Nat.eq_zero_or_pos j with e | e
    · subst e; rw [hq] at hj; cases hj; exact hp
    · have a := hs.1.lt hq hj e
      have b := hs.1.2 q (List.mem_of_getElem? hq)
      omega
  · rw [if_neg h0]
    have hkl := (List.getElem?_eq_some_iff.mp hq).1
    have hr : H[k - 1]? = some (H[k - 1]'(by omega)) := List.getElem?_eq_getElem _
    generalize H[k - 1]'(by omega) = r at hr
    rw [hr]
    have hrm := List.mem_of_getElem? hr
    have r1 := hs.1.2 r hrm
    have rq := hs.1.lt hr hq (by omega)
    refine ⟨by show r.2 ≤ q.1; omega, fun p hp1 hp2 => hs.idle (lo := k) (hi := k) (fun j s hj hlt => ?_) (fun j s hj hge => ?_), fun _ => ?_⟩
    · have hp1' : r.2 ≤ p := hp1
      by_cases e : j = k - 1
      · subst e; rw [hr] at hj; cases hj; exact hp1'
      · have a := hs.1.lt hj hr (by omega)
        omega
    · by_cases e : j = k
      · subst e; rw [hq] at hj; cases hj; exact hp2
      · have a := hs.1.lt hq hj (by omega)
        have b := hs.1.2 q (List.mem_of_getElem? hq)
        omega
    · show kz ks (r.2 - 1)
      exact hs.inn hrm (r.2 - 1) (by omega) (by omega)
theorem nxT_ge {ks : List Int} {H : HL} (hs : HSP ks H) {k : Nat} {q : Nat × Nat} (hq : H[k]? = some q) : q.2 ≤ nxT H k ks.length ∧ nxT H k ks.length ≤ ks.length ∧ (∀ p, q.2 ≤ p → p < nxT H k ks.length → ¬ kz ks p) ∧ (nxT H k ks.length < ks.length → kz ks (nxT H k ks.length)) := by
  have hm := List.mem_of_getElem? hq
  have q1 := hs.1.2 q hm
  have q2 := hs.2.1 q hm
  have hlow : ∀ p, q.2 ≤ p → ∀ (j : Nat) (r : Nat × Nat), H[j]? = some r → j < k + 1 → r.2 ≤ p := by
    intro p hp j r hj hlt
    by_cases e : j = k
    · subst e; rw [hq] at hj; cases hj; exact hp
    · have := hs.1.lt hj hq (by omega); omega
  unfold nxT
  cases hr : H[k + 1]? with
  | none =>
    refine ⟨q2, Nat.le_refl _, fun p hp1 hp2 => hs.idle (lo := k + 1) (hi := 0) (hlow p hp1) (fun j r hj hge => ?_), fun h => absurd h (Nat.lt_irrefl _)⟩
    have a := List.getElem?_eq_none_iff.mp hr
    have b := (List.getElem?_eq_some_iff.mp hj).1
    omega
  | some r =>
    have hrm := List.mem_of_getElem? hr
    have r1 := hs.1.2 r hrm
    have r2 := hs.2.1 r hrm
    have rq := hs.1.lt hq hr (by omega)
    refine ⟨by show q.2 ≤ r.1; omega, by show r.1 ≤ ks.length; omega, fun p hp1 hp2 => hs.idle (lo := k + 1) (hi := 0) (hlow p hp1) (fun j s hj hge => ?_), fun _ => hs.inn hrm r.1 (Nat.le_refl _) r1⟩
    have hp2' : p < r.1 := hp2
    by_cases e : j = k + 1
    · subst e; rw [hr] at hj; cases hj; exact hp2'
    · have := hs.1.lt hr hj (by omega); omega
def nmin (a b : Nat) : Nat := if b < a then b else a
theorem imin_nat {a b : Nat} : imin (a : Int) (b : Int) = ((nmin a b : Nat) : Int) := by
  unfold imin nmin
  split <;> split <;> omega
def ard (H : HL) (L : Nat) (k : Nat) (q : Nat × Nat) (most : Nat) (dn : Int) : Nat := nmin most (gap H L k q dn)
theorem V_has {h : MH} {ks ss : List Int} {H : HL} (V : VC h ks ss H) (i : Int) : F_V_has i h = if 0 ≤ i ∧ i < (H.length : Int) then 1 else 0 := by
  unfold F_V_has F_V_hunks
  rw [V.2.2.1.size, tops_len]
  by_cases h1 : i < 0
  · rw [if_pos h1, if_neg (by omega)]
  · rw [if_neg h1]
    by_cases h2 : i < (H.length : Int)
    · rw [if_pos h2, if_pos (by omega)]
    · rw [if_neg h2, if_neg (by omega)]
theorem jn1_p {α β : Type} (v : α) (f : α → β) : jn1 v f = f v := by rw [jn1]
theorem wr_m {z : Int} (n : Nat) (h : z = (n : Int)) (hn : n ≤ 99) : wr z = (n : Int) := by rw [wr_id (by omega)]; exact h
theorem V_gapU {h : MH} {ks ss : List Int} {H : HL} (V : VC h ks ss H) {k : Nat} {q : Nat × Nat} (hq : H[k]? = some q) : (if F_V_has (wr ((k : Int) - 1)) h = 0 then (0 : Int) else F_V_end (wr ((k : Int) - 1)) h) = ((pvE H k : Nat) : Int) := by
  have a5 := (V.q hq).2.2.2.2
  have hs := V.2.2.2.2.2.1
  have h14 := hs.len14 a5
  have hkl := (List.getElem?_eq_some_iff.mp hq).1
  rw [V_has V, wr_id (z := (k : Int) - 1) (by omega)]
  unfold pvE
  by_cases h0 : k = 0
  · rw [if_neg (show ¬ (0 ≤ (k : Int) - 1 ∧ (k : Int) - 1 < (H.length : Int)) by omega), if_pos rfl, if_pos h0]
    rfl
  · rw [if_pos (show 0 ≤ (k : Int) - 1 ∧ (k : Int) - 1 < (H.length : Int) by omega), if_neg (by decide), if_neg h0]
    have hr : H[k - 1]? = some (H[k - 1]'(by omega)) := List.getElem?_eq_getElem _
    generalize H[k - 1]'(by omega) = r at hr
    rw [show (k : Int) - 1 = ((k - 1 : Nat) : Int) by omega, V_end V hr, hr]
    rfl
theorem V_gapD {h : MH} {ks ss : List Int} {H : HL} (V : VC h ks ss H) {k : Nat} {q : Nat × Nat} (hq : H[k]? = some q) : (if F_V_has (wr ((k : Int) + 1)) h = 0 then F_V_size h else F_V_top (wr ((k : Int) + 1)) h) = ((nxT H k ks.length : Nat) : Int) := by
  have a5 := (V.q hq).2.2.2.2
  have hs := V.2.2.2.2.2.1
  have h14 := hs.len14 a5
  have hkl := (List.getElem?_eq_some_iff.mp hq).1
  rw [V_has V, wr_id (z := (k : Int) + 1) (by omega)]
  unfold nxT
  by_cases h0 : k + 1 < H.length
  · rw [if_pos (show 0 ≤ (k : Int) + 1 ∧ (k : Int) + 1 < (H.length : Int) by omega), if_neg (by decide)]
    have hr : H[k + 1]? = some (H[k + 1]'h0) := List.getElem?_eq_getElem _
    generalize H[k + 1]'h0 = r at hr
    rw [show (k : Int) + 1 = ((k + 1 : Nat) : Int) by omega, V_top V hr, hr]
    rfl
  · rw [if_neg (show ¬ (0 ≤ (k : Int) + 1 ∧ (k : Int) + 1 < (H.length : Int)) by omega), if_pos rfl, List.getElem?_eq_none (by omega)]
    unfold F_V_size
    exact V.1.size
theorem V_around {h : MH} {ks ss : List Int} {H : HL} (V : VC h ks ss H) {k : Nat} {q : Nat × Nat} (hq : H[k]? = some q) (most : Nat) (dn : Int) : F_V_around (k : Int) (most : Int) dn h = ((ard H ks.length k q most dn : Nat) : Int) := by
  obtain ⟨a1, a2, a3, a4, a5⟩ := V.q hq
  have hs := V.2.2.2.2.2.1
  have e1 := (pvE_le hs hq).1
  have e2 := nxT_ge hs hq
  have b1 : q.1 - pvE H k ≤ 99 := by omega
  have b2 : nxT H k ks.length - q.2 ≤ 99 := by omega
  unfold F_V_around
  rw [jn1_p, jn1_p, jn1_p, V_gapU V hq, V_gapD V hq, V_top V hq, V_end V hq, wr_m (q.1 - pvE H k) (Int.ofNat_sub e1).symm b1, wr_m (nxT H k ks.length - q.2) (Int.ofNat_sub e2.1).symm b2]
  unfold ard gap
  rw [← imin_nat]
  by_cases hd : dn = 0
  · rw [if_pos hd, if_pos hd]
  · rw [if_neg hd, if_neg hd]
theorem M_around_loop {h : MH} {ks ss : List Int} (V : MV2 h ks ss) (hk : KOK ks) {x5 dn : Int} {most G : Nat} (hx : -100 ≤ x5 ∧ x5 ≤ 100) (hb : G ≤ 28) (hG : ∀ j : Nat, j < G → lg ks (x5 + wy dn * (j : Int)) = 0) (hE : lg ks (x5 + wy dn * (G : Int)) ≠ 0) : ∀ (n m : Nat), m ≤ most → m ≤ G → nmin most G < m + n →
    F_M_around_L33 (most : Int) (wy dn) x5 h n (m : Int) = some ((nmin most G : Nat) : Int) := by
  intro n
  induction n with
  | zero => intro m h1 h2 h3; unfold nmin at h3; split at h3 <;> omega
  | succ n ih =>
    intro m h1 h2 h3
    have h28 := V.2.2.1
    have wm := wy_m dn m (by omega)
    unfold F_M_around_L33
    rw [wm.2.2.2, V.1]
    by_cases c1 : m < most
    · rw [if_pos (lt_int c1), wr_id (z := x5 + wy dn * (m : Int)) (by omega), wr_id (z := (ks.length : Int) - 1) (by omega)]
      by_cases c2 : m < G
      · have g := hG m c2
        generalize x5 + wy dn * (m : Int) = i at g ⊢
        have hin : 0 ≤ i ∧ i < (ks.length : Int) := by
          constructor
          · rcases Int.lt_or_le i 0 with z | z
            · rw [lg_neg z] at g; exact absurd g (by decide)
            · exact z
          · rcases Int.lt_or_le i (ks.length : Int) with z | z
            · exact z
            · rw [lg_out z] at g; exact absurd g (by decide)
        rw [M_in_1 (by omega), if_neg (by decide), gd_pos (by omega), V.kd hin.1 hin.2, if_pos g, wr_id (by omega)]
        have := ih (m + 1) (by omega) (by omega) (by omega)
        exact this
      · have e : m = G := by omega
        subst e
        have en : nmin most m = m := by unfold nmin; rw [if_pos c1]
        rw [en]
        generalize x5 + wy dn * (m : Int) = i at hE ⊢
        by_cases c3 : 0 ≤ i ∧ i ≤ (ks.length : Int) - 1
        · rw [M_in_1 c3, if_neg (by decide), gd_pos (by omega), V.kd (by omega) (by omega), if_neg hE]
        · rw [M_in_0 c3, if_pos rfl]
    · rw [if_neg (nlt_int c1)]
      have e : nmin most G = m := by unfold nmin; split <;> omega
      rw [e]
theorem kept_lg {ks : List Int} (hk : KOK ks) {p : Nat} (hp : p < ks.length) (h : ¬ kz ks p) : lg ks (p : Int) = 0 := by
  rw [lg_in (Int.natCast_nonneg _), nn]
  exact (hk.not hp).mp h
theorem kz_lg {ks : List Int} {p : Nat} (h : kz ks p) : lg ks (p : Int) ≠ 0 := by
  rw [lg_in (Int.natCast_nonneg _), nn]
  unfold kz at h
  omega
theorem M_around {h : MH} {ks ss : List Int} {H : HL} (V : MV2 h ks ss) (hk : KOK ks) (hs : HSP ks H) {k : Nat} {q : Nat × Nat} (hq : H[k]? = some q) (most : Nat) (dn : Int) : F_M_around (q.1 : Int) dn (most : Int) h = some ((ard H ks.length k q most dn : Nat) : Int) := by
  have hm := List.mem_of_getElem? hq
  have a1 := hs.1.2 q hm
  have a2 := hs.2.1 q hm
  have h28 := V.2.2.1
  have e1 := pvE_le hs hq
  have e2 := nxT_ge hs hq
  unfold F_M_around
  dsimp only [jn1, jk1]
  by_cases hd : dn = 0
  · subst hd
    rw [if_pos rfl, if_pos rfl, wr_id (z := (q.1 : Int) - 1) (by omega)]
    have hg : gap H ks.length k q 0 = q.1 - pvE H k := by unfold gap; rw [if_pos rfl]
    have := M_around_loop V hk (x5 := (q.1 : Int) - 1) (dn := 0) (most := most) (G := q.1 - pvE H k) (by omega) (by omega) (fun j hj => by
      rw [show (q.1 : Int) - 1 + wy 0 * (j : Int) = ((q.1 - 1 - j : Nat) : Int) by rw [show wy 0 = -1 from rfl]; omega]
      exact kept_lg hk (by omega) (e1.2.1 _ (by omega) (by omega))) (by
      by_cases c : 0 < pvE H k
      · rw [show (q.1 : Int) - 1 + wy 0 * ((q.1 - pvE H k : Nat) : Int) = ((pvE H k - 1 : Nat) : Int) by rw [show wy 0 = -1 from rfl]; omega]
        exact kz_lg (e1.2.2 c)
      · rw [lg_neg (by rw [show wy 0 = -1 from rfl]; omega)]; decide) FUEL 0 (Nat.zero_le _) (Nat.zero_le _) (by rw [FUEL_eq]; unfold nmin; split <;> omega)
    rw [show wy 0 = -1 from rfl, show ((0 : Nat) : Int) = 0 from rfl] at this
    rw [this]
    unfold ard
    rw [hg]
    rfl
  · rw [if_neg hd, if_neg hd, M_size V hs hm, ob1_s]
    have ew : wr ((q.1 : Int) + ((q.2 - q.1 : Nat) : Int)) = (q.2 : Int) := by rw [wr_id (by omega)]; omega
    rw [ew]
    have hw : wy dn = 1 := by unfold wy; rw [if_neg hd]
    have hg : gap H ks.length k q dn = nxT H k ks.length - q.2 := by unfold gap; rw [if_neg hd]
    have := M_around_loop V hk (x5 := (q.2 : Int)) (dn := dn) (most := most) (G := nxT H k ks.length - q.2) (by omega) (by omega) (fun j hj => by
      rw [show (q.2 : Int) + wy dn * (j : Int) = ((q.2 + j : Nat) : Int) by rw [hw]; omega]
      exact kept_lg hk (by omega) (e2.2.2.1 _ (by omega) (by omega))) (by
      rw [show (q.2 : Int) + wy dn * ((nxT H k ks.length - q.2 : Nat) : Int) = ((nxT H k ks.length : Nat) : Int) by rw [hw]; omega]
      by_cases c : nxT H k ks.length < ks.length
      · exact kz_lg (e2.2.2.2 c)
      · rw [lg_out (by omega)]; decide) FUEL 0 (Nat.zero_le _) (Nat.zero_le _) (by rw [FUEL_eq]; unfold nmin; split <;> omega)
    rw [hw, show ((0 : Nat) : Int) = 0 from rfl] at this
    rw [this]
    unfold ard
    rw [hg]
    rfl

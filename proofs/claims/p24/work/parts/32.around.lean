/-! ===== around a hunk; lines but of one kind; the hunk of a line ===== -/
def pvE (H : HL) (k : Nat) : Nat := if k = 0 then 0 else ((H[k - 1]?).map (fun q => q.2)).getD 0
def nxT (H : HL) (k L : Nat) : Nat := ((H[k + 1]?).map (fun q => q.1)).getD L
/-- how many kept lines stand directly ahead of a hunk, or directly behind it -/
def gap (H : HL) (L : Nat) (k : Nat) (q : Nat × Nat) (dn : Int) : Nat := if dn = 0 then q.1 - pvE H k else nxT H k L - q.2
theorem HSP.idle {ks : List Int} {H : HL} (hs : HSP ks H) {p : Nat} {lo hi : Nat} (h1 : ∀ (j : Nat) (r : Nat × Nat), H[j]? = some r → j < lo → r.2 ≤ p) (h2 : ∀ (j : Nat) (r : Nat × Nat), H[j]? = some r → lo ≤ j → p < r.1) : ¬ kz ks p := by
  intro hk
  obtain ⟨r, hr, a, b⟩ := (hs.2.2 p).mp hk
  obtain ⟨j, hj⟩ := List.getElem?_of_mem hr
  rcases Nat.lt_or_ge j lo with c | c
  · have := h1 j r hj c; omega
  · have := h2 j r hj c; omega
theorem pvE_le {ks : List Int} {H : HL} (hs : HSP ks H) {k : Nat} {q : Nat × Nat} (hq : H[k]? = some q) : pvE H k ≤ q.1 ∧ (∀ p, pvE H k ≤ p → p < q.1 → ¬ kz ks p) ∧ (0 < pvE H k → kz ks (pvE H k - 1)) := by
  unfold pvE
  by_cases h0 : k = 0
  · rw [if_pos h0]
    subst h0
    refine ⟨Nat.zero_le _, fun p _ hp => hs.idle (lo := 0) (hi := 0) (fun j r hj hlt => absurd hlt (Nat.not_lt_zero _)) (fun j r hj _ => ?_), fun h => absurd h (Nat.lt_irrefl _)⟩
    rcases Nat.eq_zero_or_pos j with e | e
    · subst e; rw [hq] at hj; cases hj; exact hp
    · have a := hs.1.lt hq hj e
      have b := hs.1.2 q (List.mem_of_getElem? hq)
      omega
  · rw [if_neg h0]
    have hkl := (List.getElem?_eq_some_iff.mp hq).1
    have hr : H[k - 1]? = some (H[k - 1]'(by omega)) := List.getElem?_eq_getElem _
    generalize H[k - 1]'(by omega) = r at hr
    rw [hr]
    have hrm := List.mem_of_getElem? hr
    have r1 := hs.1.2 r hrm
    have rq := hs.1.lt hr hq (by omega)
    refine ⟨by show r.2 ≤ q.1; omega, fun p hp1 hp2 => hs.idle (lo := k) (hi := k) (fun j s hj hlt => ?_) (fun j s hj hge => ?_), fun _ => ?_⟩
    · have hp1' : r.2 ≤ p := hp1
      by_cases e : j = k - 1
      · subst e; rw [hr] at hj; cases hj; exact hp1'
      · have a := hs.1.lt hj hr (by omega)
        omega
    · by_cases e : j = k
      · subst e; rw [hq] at hj; cases hj; exact hp2
      · have a := hs.1.lt hq hj (by omega)
        have b := hs.1.2 q (List.mem_of_getElem? hq)
        omega
    · show kz ks (r.2 - 1)
      exact hs.inn hrm (r.2 - 1) (by omega) (by omega)
theorem nxT_ge {ks : List Int} {H : HL} (hs : HSP ks H) {k : Nat} {q : Nat × Nat} (hq : H[k]? = some q) : q.2 ≤ nxT H k ks.length ∧ nxT H k ks.length ≤ ks.length ∧ (∀ p, q.2 ≤ p → p < nxT H k ks.length → ¬ kz ks p) ∧ (nxT H k ks.length < ks.length → kz ks (nxT H k ks.length)) := by
  have hm := List.mem_of_getElem? hq
  have q1 := hs.1.2 q hm
  have q2 := hs.2.1 q hm
  have hlow : ∀ p, q.2 ≤ p → ∀ (j : Nat) (r : Nat × Nat), H[j]? = some r → j < k + 1 → r.2 ≤ p := by
    intro p hp j r hj hlt
    by_cases e : j = k
    · subst e; rw [hq] at hj; cases hj; exact hp
    · have := hs.1.lt hj hq (by omega); omega
  unfold nxT
  cases hr : H[k + 1]? with
  | none =>
    refine ⟨q2, Nat.le_refl _, fun p hp1 hp2 => hs.idle (lo := k + 1) (hi := 0) (hlow p hp1) (fun j r hj hge => ?_), fun h => absurd h (Nat.lt_irrefl _)⟩
    have a := List.getElem?_eq_none_iff.mp hr
    have b := (List.getElem?_eq_some_iff.mp hj).1
    omega
  | some r =>
    have hrm := List.mem_of_getElem? hr
    have r1 := hs.1.2 r hrm
    have r2 := hs.2.1 r hrm
    have rq := hs.1.lt hq hr (by omega)
    refine ⟨by show q.2 ≤ r.1; omega, by show r.1 ≤ ks.length; omega, fun p hp1 hp2 => hs.idle (lo := k + 1) (hi := 0) (hlow p hp1) (fun j s hj hge => ?_), fun _ => hs.inn hrm r.1 (Nat.le_refl _) r1⟩
    have hp2' : p < r.1 := hp2
    by_cases e : j = k + 1
    · subst e; rw [hr] at hj; cases hj; exact hp2'
    · have := hs.1.lt hr hj (by omega); omega
def nmin (a b : Nat) : Nat := if b < a then b else a
theorem imin_nat {a b : Nat} : imin (a : Int) (b : Int) = ((nmin a b : Nat) : Int) := by
  unfold imin nmin
  split <;> split <;> omega
def ard (H : HL) (L : Nat) (k : Nat) (q : Nat × Nat) (most : Nat) (dn : Int) : Nat := nmin most (gap H L k q dn)
theorem V_has {h : MH} {ks ss : List Int} {H : HL} (V : VC h ks ss H) (i : Int) : F_V_has i h = if 0 ≤ i ∧ i < (H.length : Int) then 1 else 0 := by
  unfold F_V_has F_V_hunks
  rw [V.2.2.1.size, tops_len]
  by_cases h1 : i < 0
  · rw [if_pos h1, if_neg (by omega)]
  · rw [if_neg h1]
    by_cases h2 : i < (H.length : Int)
    · rw [if_pos h2, if_pos (by omega)]
    · rw [if_neg h2, if_neg (by omega)]
theorem jn1_p {α β : Type} (v : α) (f : α → β) : jn1 v f = f v := by rw [jn1]
theorem wr_m {z : Int} (n : Nat) (h : z = (n : Int)) (hn : n ≤ 99) : wr z = (n : Int) := by rw [wr_id (by omega)]; exact h
theorem V_gapU {h : MH} {ks ss : List Int} {H : HL} (V : VC h ks ss H) {k : Nat} {q : Nat × Nat} (hq : H[k]? = some q) : (if F_V_has (wr ((k : Int) - 1)) h = 0 then (0 : Int) else F_V_end (wr ((k : Int) - 1)) h) = ((pvE H k : Nat) : Int) := by
  have a5 := (V.q hq).2.2.2.2
  have hs := V.2.2.2.2.2.1
  have h14 := hs.len14 a5
  have hkl := (List.getElem?_eq_some_iff.mp hq).1
  rw [V_has V, wr_id (z := (k : Int) - 1) (by omega)]
  unfold pvE
  by_cases h0 : k = 0
  · rw [if_neg (show ¬ (0 ≤ (k : Int) - 1 ∧ (k : Int) - 1 < (H.length : Int)) by omega), if_pos rfl, if_pos h0]
    rfl
  · rw [if_pos (show 0 ≤ (k : Int) - 1 ∧ (k : Int) - 1 < (H.length : Int) by omega), if_neg (by decide), if_neg h0]
    have hr : H[k - 1]? = some (H[k - 1]'(by omega)) := List.getElem?_eq_getElem _
    generalize H[k - 1]'(by omega) = r at hr
    rw [show (k : Int) - 1 = ((k - 1 : Nat) : Int) by omega, V_end V hr, hr]
    rfl
theorem V_gapD {h : MH} {ks ss : List Int} {H : HL} (V : VC h ks ss H) {k : Nat} {q : Nat × Nat} (hq : H[k]? = some q) : (if F_V_has (wr ((k : Int) + 1)) h = 0 then F_V_size h else F_V_top (wr ((k : Int) + 1)) h) = ((nxT H k ks.length : Nat) : Int) := by
  have a5 := (V.q hq).2.2.2.2
  have hs := V.2.2.2.2.2.1
  have h14 := hs.len14 a5
  have hkl := (List.getElem?_eq_some_iff.mp hq).1
  rw [V_has V, wr_id (z := (k : Int) + 1) (by omega)]
  unfold nxT
  by_cases h0 : k + 1 < H.length
  · rw [if_pos (show 0 ≤ (k : Int) + 1 ∧ (k : Int) + 1 < (H.length : Int) by omega), if_neg (by decide)]
    have hr : H[k + 1]? = some (H[k + 1]'h0) := List.getElem?_eq_getElem _
    generalize H[k + 1]'h0 = r at hr
    rw [show (k : Int) + 1 = ((k + 1 : Nat) : Int) by omega, V_top V hr, hr]
    rfl
  · rw [if_neg (show ¬ (0 ≤ (k : Int) + 1 ∧ (k : Int) + 1 < (H.length : Int)) by omega), if_pos rfl, List.getElem?_eq_none (by omega)]
    unfold F_V_size
    exact V.1.size
theorem V_around {h : MH} {ks ss : List Int} {H : HL} (V : VC h ks ss H) {k : Nat} {q : Nat × Nat} (hq : H[k]? = some q) (most : Nat) (dn : Int) : F_V_around (k : Int) (most : Int) dn h = ((ard H ks.length k q most dn : Nat) : Int) := by
  obtain ⟨a1, a2, a3, a4, a5⟩ := V.q hq
  have hs := V.2.2.2.2.2.1
  have e1 := (pvE_le hs hq).1
  have e2 := nxT_ge hs hq
  have b1 : q.1 - pvE H k ≤ 99 := by omega
  have b2 : nxT H k ks.length - q.2 ≤ 99 := by omega
  unfold F_V_around
  rw [jn1_p, jn1_p, jn1_p, V_gapU V hq, V_gapD V hq, V_top V hq, V_end V hq, wr_m (q.1 - pvE H k) (Int.ofNat_sub e1).symm b1, wr_m (nxT H k ks.length - q.2) (Int.ofNat_sub e2.1).symm b2]
  unfold ard gap
  rw [← imin_nat]
  by_cases hd : dn = 0
  · rw [if_pos hd, if_pos hd]
  · rw [if_neg hd, if_neg hd]
theorem kept_lg {ks : List Int} (hk : KOK ks) {p : Nat} (hp : p < ks.length) (h : ¬ kz ks p) : lg ks (p : Int) = 0 := by
  rw [lg_in (Int.natCast_nonneg _), nn]
  exact (hk.not hp).mp h
theorem kz_lg {ks : List Int} {p : Nat} (h : kz ks p) : lg ks (p : Int) ≠ 0 := by
  rw [lg_in (Int.natCast_nonneg _), nn]
  unfold kz at h
  omega

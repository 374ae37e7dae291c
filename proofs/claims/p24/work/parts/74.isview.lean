/-! ===== the law's isView ===== -/
def TO {β : Type} (x : Option β) (f : MH → β) (Q : MH → Prop) : Prop := ∃ h', x = some (f h') ∧ Q h'
theorem os_r {α β γ : Type} {b : β} {f : α → Option γ} {g : β → Option γ} : os (some (Sum.inr b)) f g = g b := rfl
theorem AK.go {x : Option (Int × MH)} {r : Int} {g : SG} {hist : List SG} {sv : Option SG} (a : AK x r g hist sv) {β : Type} {K : Int → MH → Option β} {f : MH → β} {Q : MH → Prop} (hk : ∀ h', INV h' g hist sv → TO (K r h') f Q) : TO (ob2 x K) f Q := by
  obtain ⟨h', e, I⟩ := a
  rw [e, ob2_s]
  exact hk h' I
theorem TO.done {β : Type} {h : MH} {f : MH → β} {Q : MH → Prop} (hq : Q h) : TO (some (f h)) f Q := ⟨h, rfl, hq⟩
section VIEW
variable {h : MH} {g : SG} {hist : List SG} {sv : Option SG} {ks : List Int} {H : HL}
theorem q_v0 (I : INV h g hist sv) (W : VWG g ks H) {p : Nat} (hp : p < ks.length) : AK (F_X_view (p : Int) 0 h) (ks.getD p (-1)) g hist sv := by
  have := q_view I W hp 0 (by decide)
  rwa [vA, if_pos rfl] at this
theorem q_v1 (I : INV h g hist sv) (W : VWG g ks H) {p : Nat} (hp : p < ks.length) : AK (F_X_view (p : Int) 1 h) ((vss g.1 g.2.1).getD p (-1)) g hist sv := by
  have := q_view I W hp 1 (by decide)
  rwa [vA, if_neg (by decide), if_pos rfl] at this
theorem q_v2 (I : INV h g hist sv) (W : VWG g ks H) {p : Nat} (hp : p < ks.length) : AK (F_X_view (p : Int) 2 h) (if ks.getD p (-1) = 2 then -4 else (p : Int) - cn ks 2 0 p) g hist sv := by
  have := q_view I W hp 2 (by decide)
  rwa [vA, if_neg (by decide), if_neg (by decide), if_pos rfl] at this
theorem q_v3 (I : INV h g hist sv) (W : VWG g ks H) {p : Nat} (hp : p < ks.length) : AK (F_X_view (p : Int) 3 h) (if ks.getD p (-1) = 1 then -4 else (p : Int) - cn ks 1 0 p) g hist sv := by
  have := q_view I W hp 3 (by decide)
  rwa [vA, if_neg (by decide), if_neg (by decide), if_neg (by decide), if_pos rfl] at this
theorem q_v4 (I : INV h g hist sv) (W : VWG g ks H) {p : Nat} (hp : p < ks.length) : AK (F_X_view (p : Int) 4 h) (hkO ks H p) g hist sv := by
  have := q_view I W hp 4 (by decide)
  rwa [vA, if_neg (by decide), if_neg (by decide), if_neg (by decide), if_neg (by decide)] at this
/-- does a hunk begin here -/
def nwi (ks : List Int) (p : Nat) : Int := if 0 < ks.getD p (-1) ∧ (p = 0 ∨ ¬ 0 < ks.getD (p - 1) (-1)) then 1 else 0
theorem nwi_01 (ks : List Int) (p : Nat) : nwi ks p = 0 ∨ nwi ks p = 1 := by
  unfold nwi
  split
  · exact Or.inr rfl
  · exact Or.inl rfl
theorem wr_pred {p : Nat} (h0 : p ≠ 0) (hp : p ≤ 1000) : wr ((p : Int) - 1) = ((p - 1 : Nat) : Int) := by rw [wr_id (by omega)]; omega
theorem isV_new (I : INV h g hist sv) (W : VWG g ks H) {p : Nat} (hp : p < ks.length) {β : Type} {K : Int → MH → Option β} {f : MH → β} {Q : MH → Prop} (hk : ∀ h', INV h' g hist sv → TO (K (nwi ks p) h') f Q) :
    TO (jk2 K (fun kj13 => jk1 (fun (h9 : MH) => kj13 0 h9) (fun kj10 => if ks.getD p (-1) ≤ 0 then (kj10 h) else (jk1 (fun (h93 : MH) => kj13 1 h93) (fun kj94 => if (p : Int) = 0 then (kj94 h) else (ob2 (F_X_view (wr ((p : Int) - 1)) 0 h) (fun (r97 : Int) (h98 : MH) => if r97 = 0 then (kj94 h98) else (kj10 h98)))))))) f Q := by
  have V := W.vf I.og
  rw [jk2_q, jk1_q]
  by_cases c : ks.getD p (-1) ≤ 0
  · rw [if_pos c]
    have e : nwi ks p = 0 := by unfold nwi; rw [if_neg (by omega)]
    rw [← e]
    exact hk h I
  · rw [if_neg c, jk1_q]
    by_cases d : p = 0
    · rw [if_pos (by omega)]
      have e : nwi ks p = 1 := by unfold nwi; rw [if_pos ⟨by omega, Or.inl d⟩]
      rw [← e]
      exact hk h I
    · rw [if_neg (by omega), wr_pred d (by have := V.2.2.2.1; omega)]
      refine (q_v0 I W (p := p - 1) (by omega)).go (fun h1 I1 => ?_)
      have k3 := V.2.1.get (p := p - 1) (by omega)
      by_cases c2 : ks.getD (p - 1) (-1) = 0
      · rw [if_pos c2]
        have e : nwi ks p = 1 := by unfold nwi; rw [if_pos ⟨by omega, Or.inr (by omega)⟩]
        rw [← e]
        exact hk h1 I1
      · rw [if_neg c2]
        have e : nwi ks p = 0 := by unfold nwi; rw [if_neg (by omega)]
        rw [← e]
        exact hk h1 I1
theorem pt_at {ks ss : List Int} {k : Int} {p : Nat} (hp : p < ks.length) (hk : ks.getD p (-1) ≠ k) : lg (pt ks ss k 0 ks.length) ((p : Int) - cn ks k 0 p) = ss.getD p (-1) ∧ 0 ≤ (p : Int) - cn ks k 0 p ∧ (p : Int) - cn ks k 0 p < ((pt ks ss k 0 ks.length).length : Int) := by
  have l := pt_len ks ss k 0 p
  have u := pt_split ks ss k 0 p (1 + (ks.length - p - 1))
  rw [show p + (1 + (ks.length - p - 1)) = ks.length by omega, pt_split ks ss k (0 + p) 1, Nat.zero_add, show pt ks ss k p 1 = [ss.getD p (-1)] from by rw [pt, pt, Nat.add_zero, if_neg hk]; rfl] at u
  have e : (p : Int) - cn ks k 0 p = (((pt ks ss k 0 p).length + 0 : Nat) : Int) := by omega
  rw [e, u, lgn, mid_get (by show 0 < 1; decide)]
  refine ⟨rfl, by omega, ?_⟩
  simp only [List.length_append, List.length_cons, List.length_nil]
  omega
theorem isV_is (I : INV h g hist sv) (W : VWG g ks H) {p : Nat} (hp : p < ks.length) {x1 x2 nu : Int} (hx1 : x1 = (p : Int) - cn ks 2 0 p) (hx2 : x2 = (p : Int) - cn ks 1 0 p) (hnu : nu = (nt H (p + 1) : Int) - 1) {β : Type} {K : Int → MH → Option β} {f : MH → β} {Q : MH → Prop} (hk : ∀ h', INV h' g hist sv → TO (K 1 h') f Q) :
    TO (jk2 K (fun kj21 => jk1 (fun (h17 : MH) => kj21 0 h17) (fun kj18 => if ks.getD p (-1) < 0 then (kj18 h) else (if ks.getD p (-1) < 3 then (ob2 (F_X_view (p : Int) 2 h) (fun (r55 : Int) (h56 : MH) => jn1 (if ks.getD p (-1) = 2 then ((-4)) else (x1)) (fun (s58 : Int) => if r55 = s58 then (ob2 (F_X_view (p : Int) 3 h56) (fun (r62 : Int) (h63 : MH) => jn1 (if ks.getD p (-1) = 1 then ((-4)) else (x2)) (fun (s65 : Int) => if r62 = s65 then (ob2 (F_X_view (p : Int) 4 h63) (fun (r69 : Int) (h70 : MH) => jn1 (if ks.getD p (-1) = 0 then ((-4)) else (nu)) (fun (s72 : Int) => if r69 = s72 then (jk1 (fun (u76 : Unit) => jk1 (fun (u78 : Unit) => kj21 1 h70) (fun kj79 => if ks.getD p (-1) = 1 then (kj79 ()) else (if F_X_line 1 x2 h70 = (vss g.1 g.2.1).getD p (-1) then (kj79 ()) else (kj18 h70)))) (fun kj77 => if ks.getD p (-1) = 2 then (kj77 ()) else (if F_X_line 0 x1 h70 = (vss g.1 g.2.1).getD p (-1) then (kj77 ()) else (kj18 h70)))) else (kj18 h70)))) else (kj18 h63)))) else (kj18 h56)))) else (kj18 h))))) f Q := by
  have V := W.vf I.og
  have k3 := V.2.1.get (p := p) hp
  obtain ⟨t2, t1, t0⟩ := V.2.2.2.2.2.1
  rw [jk2_q, jk1_q, if_neg (by omega), if_pos (by omega)]
  refine (q_v2 I W hp).go (fun h1 I1 => ?_)
  rw [jn1_q, hx1, if_pos rfl]
  refine (q_v3 I1 W hp).go (fun h2 I2 => ?_)
  rw [jn1_q, hx2, if_pos rfl]
  refine (q_v4 I2 W hp).go (fun h3 I3 => ?_)
  have e4 : hkO ks H p = (if ks.getD p (-1) = 0 then -4 else nu) := by
    unfold hkO
    by_cases c : ks.getD p (-1) = 0
    · rw [if_neg (by omega), if_pos c]
    · rw [if_pos (by omega), if_neg c, hnu]
  rw [jn1_q, if_pos e4, jk1_q]
  have l0 : ks.getD p (-1) ≠ 2 → F_X_line 0 ((p : Int) - cn ks 2 0 p) h3 = (vss g.1 g.2.1).getD p (-1) := fun c => by
    have a := pt_at (ss := vss g.1 g.2.1) hp c
    rw [t2] at a
    rw [q_line0 I3 a.2.1, if_pos a.2.2, a.1]
  have l1 : ks.getD p (-1) ≠ 1 → F_X_line 1 ((p : Int) - cn ks 1 0 p) h3 = (vss g.1 g.2.1).getD p (-1) := fun c => by
    have a := pt_at (ss := vss g.1 g.2.1) hp c
    rw [t1] at a
    rw [q_line1 I3 a.2.1, if_pos a.2.2, a.1]
  by_cases c2 : ks.getD p (-1) = 2
  · rw [if_pos c2, jk1_q, if_neg (by omega), if_pos (l1 (by omega))]
    exact hk h3 I3
  · rw [if_neg c2, if_pos (l0 c2), jk1_q]
    by_cases c1 : ks.getD p (-1) = 1
    · rw [if_pos c1]
      exact hk h3 I3
    · rw [if_neg c1, if_pos (l1 c1)]
      exact hk h3 I3
theorem nwi_1 (hs : HSP ks H) {p : Nat} (h1 : nwi ks p = 1) : ∃ k q, H[k]? = some q ∧ q.1 = p ∧ nt H (p + 1) = k + 1 := by
  unfold nwi at h1
  by_cases c : 0 < ks.getD p (-1) ∧ (p = 0 ∨ ¬ 0 < ks.getD (p - 1) (-1))
  · obtain ⟨q, hq, e⟩ := hs.beg.mp c
    obtain ⟨k, hk⟩ := List.getElem?_of_mem hq
    have := nt_yes hs.1 hk
    rw [e] at this
    exact ⟨k, q, hk, e, this⟩
  · rw [if_neg c] at h1
    exact absurd h1 (by decide)
theorem nwi_0 (hs : HSP ks H) {p : Nat} (h1 : nwi ks p = 0) : nt H (p + 1) = nt H p := by
  refine nt_no (fun q hq e => ?_)
  have : 0 < ks.getD p (-1) ∧ (p = 0 ∨ ¬ 0 < ks.getD (p - 1) (-1)) := hs.beg.mpr ⟨q, hq, e⟩
  unfold nwi at h1
  rw [if_pos this] at h1
  exact absurd h1 (by decide)
theorem nwi_nt (hs : HSP ks H) {p : Nat} : (nt H (p + 1) : Int) = (nt H p : Int) + nwi ks p := by
  rcases nwi_01 ks p with e | e
  · rw [e, nwi_0 hs e]; omega
  · obtain ⟨k, q, hk, e1, e2⟩ := nwi_1 hs e
    have := nt_at hs.1 hk
    rw [e1] at this
    rw [e, e2, this]; omega
theorem isV_top (I : INV h g hist sv) (W : VWG g ks H) {p : Nat} {nu : Int} (hnu : nu = (nt H (p + 1) : Int) - 1) {β : Type} {K : MH → Option β} {N : MH → Option β} {f : MH → β} {Q : MH → Prop} (hk : ∀ h', INV h' g hist sv → TO (K h') f Q) :
    TO (jk1 K (fun kj24 => if nwi ks p = 0 then (kj24 h) else (ob2 (F_X_hunk nu 0 h) (fun (r47 : Int) (h48 : MH) => if r47 = (p : Int) then (kj24 h48) else N h48)))) f Q := by
  have V := W.vf I.og
  rw [jk1_q]
  rcases nwi_01 ks p with e | e
  · rw [if_pos e]; exact hk h I
  · rw [if_neg (by omega)]
    obtain ⟨k, q, hq, e1, e2⟩ := nwi_1 V.1 e
    have en : nu = (k : Int) := by omega
    rw [en]
    refine (q_h0 I W hq).go (fun h1 I1 => ?_)
    rw [if_pos (by omega)]
    exact hk h1 I1
theorem cn_next (ks : List Int) (k : Int) (p : Nat) : cn ks k 0 (p + 1) = cn ks k 0 p + (if ks.getD p (-1) = k then 1 else 0) := by
  rw [cn, Nat.zero_add]
theorem wr_s {x y : Int} {n : Nat} (h : x = y) (h0 : -(n : Int) ≤ x) (h1 : x ≤ (n : Int)) (hn : n ≤ 1000) : wr x = y := by rw [wr_id (by omega)]; exact h
theorem imax_law (b x : Int) : (if x ≤ b then b else x) = imax b x := by
  unfold imax
  by_cases c : x ≤ b
  · rw [if_pos c, if_neg (by omega)]
  · rw [if_neg c, if_pos (by omega)]
theorem isV_loop (W : VWG g ks H) (og : OKg g) : ∀ (m fuel p : Nat) (x1 x2 x3 x6 x8 b r : Int) (h : MH), x1 = (p : Int) - cn ks 2 0 p → x2 = (p : Int) - cn ks 1 0 p → x3 = cn ks 0 0 p → x6 = (nt H p : Int) - 1 → x8 = (p : Int) → 0 ≤ r → r ≤ (p : Int) → p + m = ks.length → m < fuel → INV h g hist sv →
    TO (F_L_isView_L25 (ks.length : Int) fuel x1 x2 x3 r b x6 x8 h) (fun h' => Sum.inr ((ks.length : Int) - cn ks 2 0 ks.length, (ks.length : Int) - cn ks 1 0 ks.length, cn ks 0 0 ks.length, (lks ks m p b r).2, (lks ks m p b r).1, (nt H ks.length : Int) - 1, (ks.length : Int), h')) (fun h' => INV h' g hist sv) := by
  have V := W.vf og
  intro m
  induction m with
  | zero =>
    intro fuel p x1 x2 x3 x6 x8 b r h e1 e2 e3 e6 e8 r0 r1 hp hf I
    obtain ⟨fuel, rfl⟩ : ∃ n, fuel = n + 1 := ⟨fuel - 1, by omega⟩
    have ep : p = ks.length := by omega
    subst ep
    rw [F_L_isView_L25, if_neg (by omega), e1, e2, e3, e6, e8]
    exact ⟨h, rfl, I⟩
  | succ m ih =>
    intro fuel p x1 x2 x3 x6 x8 b r h e1 e2 e3 e6 e8 r0 r1 hp hf I
    obtain ⟨fuel, rfl⟩ : ∃ n, fuel = n + 1 := ⟨fuel - 1, by omega⟩
    have hpl : p < ks.length := by omega
    have h28 := V.2.2.2.1
    have k3 := V.2.1.get (p := p) hpl
    subst e8
    have cr : 0 ≤ (if ks.getD p (-1) = 0 then r + 1 else 0) ∧ (if ks.getD p (-1) = 0 then r + 1 else 0) ≤ ((p + 1 : Nat) : Int) := by split <;> omega
    have pm : p + 1 + m = ks.length ∧ m < fuel := by omega
    rw [F_L_isView_L25, if_pos (lt_int hpl), if_pos (by omega)]
    refine (q_v0 I W hpl).go (fun h1 I1 => ?_)
    refine (q_v1 I1 W hpl).go (fun h2 I2 => ?_)
    refine isV_new I2 W hpl (fun h3 I3 => ?_)
    have n01 := nwi_01 ks p
    have en : (if nwi ks p = 0 then (0 : Int) else 1) = nwi ks p := by
      rcases n01 with e | e
      · rw [e, if_pos rfl]
      · rw [e, if_neg one_ne]
    have ntl := nt_le H p
    have h14 := V.1.len14 h28
    have hn := nwi_nt V.1 (p := p)
    have ew : wr (x6 + nwi ks p) = (nt H (p + 1) : Int) - 1 := wr_s (n := 100) (by omega) (by omega) (by omega) (by decide)
    rw [jn1_q, en, ew]
    refine isV_is I3 W hpl e1 e2 rfl (fun h4 I4 => ?_)
    rw [if_neg one_ne]
    refine isV_top I4 W rfl (fun h5 I5 => ?_)
    have b2 := cn_bd ks 2 0 p
    have b1 := cn_bd ks 1 0 p
    have b0 := cn_bd ks 0 0 p
    have c2 := cn_next ks 2 p
    have c1 := cn_next ks 1 p
    have c0 := cn_next ks 0 p
    have q1 : wr (x1 + (if ks.getD p (-1) = 2 then (0 : Int) else 1)) = ((p + 1 : Nat) : Int) - cn ks 2 0 (p + 1) := wr_s (n := 100) (by rw [c2]; split <;> omega) (by split <;> omega) (by split <;> omega) (by decide)
    have q2 : wr (x2 + (if ks.getD p (-1) = 1 then (0 : Int) else 1)) = ((p + 1 : Nat) : Int) - cn ks 1 0 (p + 1) := wr_s (n := 100) (by rw [c1]; split <;> omega) (by split <;> omega) (by split <;> omega) (by decide)
    have q3 : wr (x3 + (if ks.getD p (-1) = 0 then (1 : Int) else 0)) = cn ks 0 0 (p + 1) := wr_s (n := 100) (by rw [c0]; split <;> omega) (by split <;> omega) (by split <;> omega) (by decide)
    have q4 : wr (r + 1) = r + 1 := wr_id (by omega)
    have q5 : wr ((p : Int) + 1) = ((p + 1 : Nat) : Int) := wr_s (n := 100) (by omega) (by omega) (by omega) (by decide)
    rw [jn1_q, jn1_q, jn1_q, jn1_q, jn1_q, q1, q2, q3, q4, q5, lks]
    rw [imax_law]
    exact ih fuel (p + 1) _ _ _ _ _ _ _ h5 rfl rfl rfl rfl rfl cr.1 cr.2 pm.1 pm.2 I5
theorem lks_bd (ks : List Int) : ∀ (m p : Nat) (b r : Int), 0 ≤ r → r ≤ (p : Int) → 0 ≤ b → b ≤ (p : Int) → 0 ≤ (lks ks m p b r).1 ∧ (lks ks m p b r).1 ≤ ((p + m : Nat) : Int) := by
  intro m
  induction m with
  | zero => intro p b r h1 h2 h3 h4; rw [lks]; exact ⟨h3, h4⟩
  | succ m ih =>
    intro p b r h1 h2 h3 h4
    rw [lks]
    have a : ∀ x : Int, 0 ≤ x → x ≤ (p : Int) + 1 → 0 ≤ imax b x ∧ imax b x ≤ (p : Int) + 1 := fun x y z => by
      unfold imax
      split <;> omega
    have c : 0 ≤ (if ks.getD p (-1) = 0 then r + 1 else 0) ∧ (if ks.getD p (-1) = 0 then r + 1 else 0) ≤ (p : Int) + 1 := by split <;> omega
    have d := a _ c.1 c.2
    have := ih (p + 1) (imax b (if ks.getD p (-1) = 0 then r + 1 else 0)) (if ks.getD p (-1) = 0 then r + 1 else 0) c.1 (by omega) d.1 (by omega)
    rw [show p + 1 + m = p + (m + 1) by omega] at this
    exact this
end VIEW

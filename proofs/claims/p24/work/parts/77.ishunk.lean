/-! ===== the law's isHunk ===== -/
section HUNK
variable {h : MH} {g : SG} {hist : List SG} {sv : Option SG} {ks : List Int} {H : HL} {k : Nat} {q : Nat × Nat}
theorem wr_ps {p z : Nat} (hz : 1 ≤ z) (hp : p + z ≤ 1000) : wr (wr ((p : Int) + (z : Int)) - 1) = ((p + z - 1 : Nat) : Int) := by
  rw [wr_s (x := (p : Int) + (z : Int)) (y := ((p + z : Nat) : Int)) (n := 1000) (by omega) (by omega) (by omega) (by decide)]
  exact wr_s (n := 1000) (by omega) (by omega) (by omega) (by decide)
theorem wr_pz {p z : Nat} (hp : p + z ≤ 1000) : wr ((p : Int) + (z : Int)) = ((p + z : Nat) : Int) := wr_s (n := 1000) (by omega) (by omega) (by omega) (by decide)
theorem wr_p1 {p : Nat} (hp : p + 1 ≤ 1000) : wr ((p : Int) + 1) = ((p + 1 : Nat) : Int) := wr_s (n := 1000) (by omega) (by omega) (by omega) (by decide)
theorem isH_is (I : INV h g hist sv) (W : VWG g ks H) (hq : H[k]? = some q) {z p : Nat} (hz : z = q.2 - q.1) (hp1 : q.1 ≤ p + sld ks (vss g.1 g.2.1) q 0) (hp2 : p ≤ q.1 + sld ks (vss g.1 g.2.1) q 1) {β : Type} {K : Int → MH → Option β} {f : MH → β} {Q : MH → Prop} (hk : ∀ h', INV h' g hist sv → TO (K 1 h') f Q) :
    TO (jk2 K (fun kj5 => if (p : Int) < (q.1 : Int) then (ob2 (F_X_view (p : Int) 0 h) (fun (r51 : Int) (h52 : MH) => jk1 (fun (h54 : MH) => kj5 0 h54) (fun kj55 => if r51 = 0 then (ob2 (F_X_view (p : Int) 1 h52) (fun (r58 : Int) (h59 : MH) => ob2 (F_X_view (wr ((p : Int) + (z : Int))) 1 h59) (fun (r61 : Int) (h62 : MH) => if r58 = r61 then (kj5 1 h62) else (kj55 h62)))) else (kj55 h52)))) else (jk1 (fun (h65 : MH) => kj5 1 h65) (fun kj66 => if (p : Int) = (q.1 : Int) then (kj66 h) else (ob2 (F_X_view (wr ((wr ((p : Int) + (z : Int))) - 1)) 0 h) (fun (r69 : Int) (h70 : MH) => jk1 (fun (h72 : MH) => kj5 0 h72) (fun kj73 => if r69 = 0 then (ob2 (F_X_view (wr ((wr ((p : Int) + (z : Int))) - 1)) 1 h70) (fun (r76 : Int) (h77 : MH) => ob2 (F_X_view (wr ((p : Int) - 1)) 1 h77) (fun (r79 : Int) (h80 : MH) => if r76 = r79 then (kj66 h80) else (kj73 h80)))) else (kj73 h70)))))))) f Q := by
  have V := W.vf I.og
  obtain ⟨hs, hko, hl, h28, hso, hr, l1, l2⟩ := V
  have hm := List.mem_of_getElem? hq
  have a1 := hs.1.2 q hm
  have a2 := hs.2.1 q hm
  have b := sld_le (ks := ks) hso q a1 (by omega) (by omega)
  rw [jk2_q]
  by_cases c : p < q.1
  · have ab := above_ok hs hko hl h28 hso hm hp1 c
    rw [if_pos (lt_int c)]
    refine (q_v0 I W (p := p) (by omega)).go (fun h1 I1 => ?_)
    rw [jk1_q, if_pos ab.1, wr_pz (by omega)]
    refine (q_v1 I1 W (p := p) (by omega)).go (fun h2 I2 => ?_)
    refine (q_v1 I2 W (p := p + z) (by omega)).go (fun h3 I3 => ?_)
    rw [if_pos (by rw [hz]; exact ab.2)]
    exact hk h3 I3
  · rw [if_neg (by omega), jk1_q]
    by_cases d : p = q.1
    · rw [if_pos (by omega)]
      exact hk h I
    · have be := below_ok hs hko hl h28 hso hm hp2 (by omega)
      rw [← hz] at be
      rw [if_neg (by omega), wr_ps (by omega) (by omega), wr_pred (by omega) (by omega)]
      refine (q_v0 I W (p := p + z - 1) (by omega)).go (fun h1 I1 => ?_)
      rw [jk1_q, if_pos be.1]
      refine (q_v1 I1 W (p := p + z - 1) (by omega)).go (fun h2 I2 => ?_)
      refine (q_v1 I2 W (p := p - 1) (by omega)).go (fun h3 I3 => ?_)
      rw [if_pos be.2]
      exact hk h3 I3
theorem isH_blank (I : INV h g hist sv) (W : VWG g ks H) {p : Nat} (hp : p < ks.length) {β : Type} {K : Int → MH → Option β} {f : MH → β} {Q : MH → Prop} (hk : ∀ h', INV h' g hist sv → TO (K (if p = 0 ∨ (vss g.1 g.2.1).getD (p - 1) (-1) = 6 then 4 else 0) h') f Q) :
    TO (jk2 K (fun kj13 => jk1 (fun (h9 : MH) => kj13 4 h9) (fun kj10 => if (p : Int) = 0 then (kj10 h) else (ob2 (F_X_view (wr ((p : Int) - 1)) 1 h) (fun (r45 : Int) (h46 : MH) => if r45 = 6 then (kj10 h46) else (kj13 0 h46)))))) f Q := by
  have V := W.vf I.og
  have h28 := V.2.2.2.1
  rw [jk2_q, jk1_q]
  by_cases c : p = 0
  · rw [if_pos (by omega)]
    have := hk h I
    rw [if_pos (Or.inl c)] at this
    exact this
  · rw [if_neg (by omega), wr_pred c (by omega)]
    refine (q_v1 I W (p := p - 1) (by omega)).go (fun h1 I1 => ?_)
    have := hk h1 I1
    by_cases d : (vss g.1 g.2.1).getD (p - 1) (-1) = 6
    · rw [if_pos d]
      rw [if_pos (Or.inr d)] at this
      exact this
    · rw [if_neg d]
      rw [if_neg (fun x => x.elim c d)] at this
      exact this
theorem isH_loop (W : VWG g ks H) (og : OKg g) (hq : H[k]? = some q) {z : Nat} (hz : z = q.2 - q.1) : ∀ (m fuel p : Nat) (v : Int) (h : MH), p + m = q.1 + sld ks (vss g.1 g.2.1) q 1 + 1 → q.1 ≤ p + sld ks (vss g.1 g.2.1) q 0 → m < fuel → INV h g hist sv →
    TO (F_L_isHunk_L184 (k : Int) (q.1 : Int) (z : Int) ((sld ks (vss g.1 g.2.1) q 1 : Nat) : Int) fuel v (p : Int) h) (fun h' => Sum.inr (mxf (vss g.1 g.2.1) z m p v, ((q.1 + sld ks (vss g.1 g.2.1) q 1 + 1 : Nat) : Int), h')) (fun h' => INV h' g hist sv) := by
  have V := W.vf og
  obtain ⟨hs, hko, hl, h28, hso, hr, l1, l2⟩ := V
  have hm := List.mem_of_getElem? hq
  have a1 := hs.1.2 q hm
  have a2 := hs.2.1 q hm
  have b := sld_le (ks := ks) hso q a1 (by omega) (by omega)
  have we : q.1 + sld ks (vss g.1 g.2.1) q 1 ≤ 1000 := by omega
  intro m
  induction m with
  | zero =>
    intro fuel p v h hp hlo hf I
    obtain ⟨fuel, rfl⟩ : ∃ n, fuel = n + 1 := ⟨fuel - 1, by omega⟩
    rw [F_L_isHunk_L184, wr_pz we, if_neg (by omega), mxf, ← hp]
    exact ⟨h, rfl, I⟩
  | succ m ih =>
    intro fuel p v h hp hlo hf I
    obtain ⟨fuel, rfl⟩ : ∃ n, fuel = n + 1 := ⟨fuel - 1, by omega⟩
    have pm : p + 1 + m = q.1 + sld ks (vss g.1 g.2.1) q 1 + 1 ∧ q.1 ≤ p + 1 + sld ks (vss g.1 g.2.1) q 0 ∧ m < fuel ∧ p < ks.length ∧ p + z - 1 < ks.length ∧ 1 ≤ z ∧ p + z ≤ 1000 ∧ p < 28 := by omega
    have f1 : (p : Int) ≤ ((q.1 + sld ks (vss g.1 g.2.1) q 1 : Nat) : Int) := by omega
    have f2 : (p : Int) < 28 := by omega
    have f3 : p + 1 ≤ 1000 := by omega
    have f5 : p ≤ q.1 + sld ks (vss g.1 g.2.1) q 1 := by omega
    have f4 : ((p : Int) = (q.1 : Int)) ↔ p = q.1 := by omega
    rw [F_L_isHunk_L184, wr_pz we, if_pos f1, if_pos f2]
    refine isH_is I W hq hz hlo f5 (fun h1 I1 => ?_)
    rw [wr_ps pm.2.2.2.2.2.1 pm.2.2.2.2.2.2.1]
    refine (q_v1 I1 W (p := p + z - 1) pm.2.2.2.2.1).go (fun h2 I2 => ?_)
    refine isH_blank I2 W (p := p) pm.2.2.2.1 (fun h3 I3 => ?_)
    rw [jn1_q]
    refine (q_v1 I3 W (p := p) pm.2.2.2.1).go (fun h4 I4 => ?_)
    have hw := wf_at (ss := vss g.1 g.2.1) (z := z) (p := p) pm.2.2.2.2.2.1
    have ws : wr (wr (wr ((if p = 0 ∨ (vss g.1 g.2.1).getD (p - 1) (-1) = 6 then (4 : Int) else 0) + (if (vss g.1 g.2.1).getD (p + z - 1) (-1) = 6 then 2 else 0)) + (if (vss g.1 g.2.1).getD p (-1) = 7 then 1 else 0)) + (if (vss g.1 g.2.1).getD (p + z - 1) (-1) = 8 then 3 else 0)) = wf (vss g.1 g.2.1) z p := by
      rw [hw]
      exact wsum (i04 _ 4 (by decide)) (i04 _ 2 (by decide)) (i04 _ 1 (by decide)) (i04 _ 3 (by decide))
    rw [jn1_q, jn1_q, ws, jn1_q, imax_law, if_neg one_ne, jk1_q, wr_p1 f3, mxf]
    by_cases c : p = q.1
    · rw [if_pos (f4.mpr c)]
      refine (q_h6 I4 W hq).go (fun h5 I5 => ?_)
      have e6 : wof (vss g.1 g.2.1) q = wf (vss g.1 g.2.1) z p := by
        unfold wof wf
        rw [c, hz, show q.1 + (q.2 - q.1) = q.2 by omega]
      rw [if_pos e6]
      exact ih fuel (p + 1) _ h5 pm.1 pm.2.1 pm.2.2.1 I5
    · rw [if_neg (fun x => c (f4.mp x))]
      exact ih fuel (p + 1) _ h4 pm.1 pm.2.1 pm.2.2.1 I4
theorem isH_ahead (I : INV h g hist sv) (W : VWG g ks H) (hq : H[k]? = some q) {a j : Nat} (ha : a = ard H ks.length k q (g.2.2.2.1).toNat 0) (hj : 1 ≤ j ∧ j ≤ 3) {β : Type} {K : Int → MH → Option β} {f : MH → β} {Q : MH → Prop} (hk : ∀ h', INV h' g hist sv → TO (K (if (j : Int) ≤ (a : Int) then 1 else 0) h') f Q) :
    TO (jk2 K (fun kj13 => jk1 (fun (h9 : MH) => kj13 0 h9) (fun kj10 => if (j : Int) ≤ g.2.2.2.1 then (if (j : Int) ≤ (q.1 : Int) then (ob2 (F_X_view (wr ((q.1 : Int) - (j : Int))) 0 h) (fun (r22 : Int) (h23 : MH) => if r22 = 0 then (jk1 (fun (u26 : Unit) => kj13 1 h23) (fun kj27 => if (j : Int) = 1 then (kj27 ()) else (if wr ((j : Int) - 1) ≤ (a : Int) then (kj27 ()) else (kj10 h23)))) else (kj10 h23))) else (kj10 h)) else (kj10 h)))) f Q := by
  have og := I.og
  have V := W.vf og
  obtain ⟨hs, hko, hl, h28, hso, hr, l1, l2⟩ := V
  have hm := List.mem_of_getElem? hq
  have a1 := hs.1.2 q hm
  have a2 := hs.2.1 q hm
  have ai := ahead_iff hs hko hq (g.2.2.2.1).toNat (j := j) hj.1
  rw [← ha] at ai
  have most : g.2.2.2.1 = ((g.2.2.2.1).toNat : Int) := by have := og.2.2.2.1; omega
  have f1 : (j : Int) ≤ g.2.2.2.1 ↔ j ≤ (g.2.2.2.1).toNat := by omega
  have f2 : (j : Int) ≤ (q.1 : Int) ↔ j ≤ q.1 := by omega
  have f3 : (j : Int) ≤ (a : Int) ↔ j ≤ a := by omega
  have f4 : (j : Int) = 1 ↔ j = 1 := by omega
  have f5 : wr ((j : Int) - 1) = ((j - 1 : Nat) : Int) := wr_s (n := 100) (by omega) (by omega) (by omega) (by decide)
  have no : ¬ j ≤ a → ∀ h', INV h' g hist sv → TO (K 0 h') f Q := fun c h' I' => by
    have := hk h' I'
    rw [if_neg (fun x => c (f3.mp x))] at this
    exact this
  have yes : j ≤ a → ∀ h', INV h' g hist sv → TO (K 1 h') f Q := fun c h' I' => by
    have := hk h' I'
    rw [if_pos (f3.mpr c)] at this
    exact this
  rw [jk2_q, jk1_q]
  by_cases c1 : j ≤ (g.2.2.2.1).toNat
  · rw [if_pos (f1.mpr c1)]
    by_cases c2 : j ≤ q.1
    · rw [if_pos (f2.mpr c2), wr_s (x := (q.1 : Int) - (j : Int)) (y := ((q.1 - j : Nat) : Int)) (n := 100) (by omega) (by omega) (by omega) (by decide)]
      refine (q_v0 I W (p := q.1 - j) (by omega)).go (fun h1 I1 => ?_)
      by_cases c3 : ks.getD (q.1 - j) (-1) = 0
      · rw [if_pos c3, jk1_q]
        by_cases c4 : j = 1
        · rw [if_pos (f4.mpr c4)]
          exact yes (ai.mpr ⟨c1, c2, c3, Or.inl c4⟩) h1 I1
        · rw [if_neg (fun x => c4 (f4.mp x)), f5]
          by_cases c5 : j - 1 ≤ a
          · rw [if_pos (Int.ofNat_le.mpr c5)]
            exact yes (ai.mpr ⟨c1, c2, c3, Or.inr c5⟩) h1 I1
          · rw [if_neg (fun x => c5 (Int.ofNat_le.mp x))]
            exact no (fun x => (ai.mp x).2.2.2.elim c4 c5) h1 I1
      · rw [if_neg c3]
        exact no (fun x => c3 (ai.mp x).2.2.1) h1 I1
    · rw [if_neg (fun x => c2 (f2.mp x))]
      exact no (fun x => c2 (ai.mp x).2.1) h I
  · rw [if_neg (fun x => c1 (f1.mp x))]
    exact no (fun x => c1 (ai.mp x).1) h I
theorem isH_loop2 (W : VWG g ks H) (hq : H[k]? = some q) {a : Nat} (ha : a = ard H ks.length k q (g.2.2.2.1).toNat 0) : ∀ (m fuel j : Nat) (h : MH), j + m = 4 → 1 ≤ j → m < fuel → INV h g hist sv →
    TO (F_L_isHunk_L495 (q.1 : Int) (a : Int) fuel 1 (j : Int) h) (fun h' => ((1 : Int), (4 : Int), h')) (fun h' => INV h' g hist sv) := by
  intro m
  induction m with
  | zero =>
    intro fuel j h hj h1 hf I
    obtain ⟨fuel, rfl⟩ : ∃ n, fuel = n + 1 := ⟨fuel - 1, by omega⟩
    have e : j = 4 := by omega
    subst e
    rw [F_L_isHunk_L495, if_neg (by omega)]
    exact ⟨h, rfl, I⟩
  | succ m ih =>
    intro fuel j h hj h1 hf I
    obtain ⟨fuel, rfl⟩ : ∃ n, fuel = n + 1 := ⟨fuel - 1, by omega⟩
    have f1 : (j : Int) ≤ 3 := by omega
    have pm : j + 1 + m = 4 ∧ 1 ≤ j + 1 ∧ m < fuel := by omega
    have f3 : wr ((j : Int) + 1) = ((j + 1 : Nat) : Int) := wr_s (n := 100) (by omega) (by omega) (by omega) (by decide)
    rw [F_L_isHunk_L495, if_pos f1, if_neg one_ne, jn1_q]
    refine (q_c14 I).go (fun h2 I2 => ?_)
    refine isH_ahead I2 W hq ha ⟨h1, by omega⟩ (fun h3 I3 => ?_)
    rw [jn1_q, if_pos rfl, f3]
    exact ih fuel (j + 1) h3 pm.1 pm.2.1 pm.2.2 I3
end HUNK

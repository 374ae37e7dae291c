/-! ===== the law's isHunk, as a whole ===== -/
theorem ob3_t {α0 α1 α2 β : Type} {x : Option (α0 × α1 × α2)} {a : α0} {b : α1} {c : α2} {f : α0 → α1 → α2 → Option β} (e : x = some (a, b, c)) : ob3 x f = f a b c := by rw [e, ob3_s]
theorem isH_plain {ks : List Int} {q : Nat × Nat} {β : Type} (K : Int → Option β) : jk1 K (fun kj13 => jk1 (fun (_ : Unit) => kj13 1) (fun kj11 => if cn ks 1 q.1 (q.2 - q.1) = 0 then (kj11 ()) else (if cn ks 2 q.1 (q.2 - q.1) = 0 then (kj11 ()) else (kj13 0)))) = K (pl ks q) := by
  rw [jk1_q, jk1_q]
  unfold pl
  by_cases c1 : cn ks 1 q.1 (q.2 - q.1) = 0
  · rw [if_pos c1, if_pos (Or.inl c1)]
  · rw [if_neg c1]
    by_cases c2 : cn ks 2 q.1 (q.2 - q.1) = 0
    · rw [if_pos c2, if_pos (Or.inr c2)]
    · rw [if_neg c2, if_neg (fun x => x.elim c1 c2)]
section HUNK
variable {h : MH} {g : SG} {hist : List SG} {sv : Option SG} {ks : List Int} {H : HL} {k : Nat} {q : Nat × Nat}
theorem L_isHunk (I : INV h g hist sv) (W : VWG g ks H) (hq : H[k]? = some q) : TO (F_L_isHunk (k : Int) h) (fun h' => ((1 : Int), h')) (fun h' => INV h' g hist sv) := by
  have og := I.og
  have V := W.vf og
  obtain ⟨hs, hko, hl, h28, hso, hr, l1, l2⟩ := V
  have hm := List.mem_of_getElem? hq
  have a1 := hs.1.2 q hm
  have a2 := hs.2.1 q hm
  have b := sld_le (ks := ks) hso q a1 (by omega) (by omega)
  have two := hk_two hs hko hm
  have p01 := pl_01 ks q
  have y0 := why_iff (ks := ks) hso a1 (by omega) (by omega) 0
  have y1 := why_iff (ks := ks) hso a1 (by omega) (by omega) 1
  have best := mxf_best (ks := ks) hso a1 (by omega) (by omega)
  have most : g.2.2.2.1 = ((g.2.2.2.1).toNat : Int) := by have := og.2.2.2.1; omega
  have n1 : ∀ x y, nmin x y ≤ x := fun x y => by unfold nmin; split <;> omega
  have d0 : ((ard H ks.length k q (g.2.2.2.1).toNat 0 : Nat) : Int) ≤ g.2.2.2.1 := by
    have : ard H ks.length k q (g.2.2.2.1).toNat 0 ≤ (g.2.2.2.1).toNat := n1 _ _
    omega
  have d1 : ((ard H ks.length k q (g.2.2.2.1).toNat 1 : Nat) : Int) ≤ g.2.2.2.1 := by
    have : ard H ks.length k q (g.2.2.2.1).toNat 1 ≤ (g.2.2.2.1).toNat := n1 _ _
    omega
  have d2 : ((ard H ks.length k q (g.2.2.2.1).toNat 0 : Nat) : Int) ≤ (q.1 : Int) := by
    have := (ard_bd hs hq (g.2.2.2.1).toNat).1
    omega
  have pm : sld ks (vss g.1 g.2.1) q 0 ≤ q.1 ∧ q.1 - sld ks (vss g.1 g.2.1) q 0 + (sld ks (vss g.1 g.2.1) q 0 + sld ks (vss g.1 g.2.1) q 1 + 1) = q.1 + sld ks (vss g.1 g.2.1) q 1 + 1 ∧ q.1 ≤ q.1 - sld ks (vss g.1 g.2.1) q 0 + sld ks (vss g.1 g.2.1) q 0 ∧ sld ks (vss g.1 g.2.1) q 0 + sld ks (vss g.1 g.2.1) q 1 + 1 < FUEL := by
    rw [FUEL_eq]; omega
  have z1 : ¬ ((q.2 - q.1 : Nat) : Int) < 1 := by omega
  have u0 : ¬ ((sld ks (vss g.1 g.2.1) q 0 : Nat) : Int) < 0 := by omega
  have u1 : ¬ ((sld ks (vss g.1 g.2.1) q 1 : Nat) : Int) < 0 := by omega
  have wz : wr (cn ks 1 q.1 (q.2 - q.1) + cn ks 2 q.1 (q.2 - q.1)) = ((q.2 - q.1 : Nat) : Int) := wr_s (n := 100) two (by omega) (by omega) (by decide)
  have wl : wr ((q.1 : Int) - ((sld ks (vss g.1 g.2.1) q 0 : Nat) : Int)) = ((q.1 - sld ks (vss g.1 g.2.1) q 0 : Nat) : Int) := wr_s (n := 100) (by omega) (by omega) (by omega) (by decide)
  have ws : pl ks q = 0 → wr (((sld ks (vss g.1 g.2.1) q 0 : Nat) : Int) + ((sld ks (vss g.1 g.2.1) q 1 : Nat) : Int)) ≤ 0 := fun c => by
    have e : ∀ dn, sld ks (vss g.1 g.2.1) q dn = 0 := fun dn => by
      unfold sld
      rw [c, if_neg (by decide)]
    rw [e, e]
    decide
  unfold F_L_isHunk
  refine (q_h0 I W hq).go (fun h1 I1 => ?_)
  refine (q_h1 I1 W hq).go (fun h2 I2 => ?_)
  refine (q_h2 I2 W hq).go (fun h3 I3 => ?_)
  rw [isH_plain, wz]
  refine (q_h4 I3 W hq).go (fun h4 I4 => ?_)
  refine (q_h5 I4 W hq).go (fun h5 I5 => ?_)
  rw [if_neg z1]
  refine (q_h3 I5 W hq).go (fun h6 I6 => ?_)
  have e3 : (if pl ks q = 1 then (1 : Int) else 0) = pl ks q := by
    rcases p01 with e | e
    · rw [e, if_neg (by decide)]
    · rw [e, if_pos rfl]
  rw [jn1_q, if_pos e3, if_neg u0, if_neg u1]
  refine (q_why I6 W hq 0).go (fun h7 I7 => ?_)
  rw [jn1_q, jn1_q, if_pos y0]
  refine (q_why I7 W hq 1).go (fun h8 I8 => ?_)
  rw [jn1_q, jn1_q, if_pos y1]
  have rest : ∀ h9, INV h9 g hist sv → TO (os (F_L_isHunk_L184 (k : Int) (q.1 : Int) (((q.2 - q.1 : Nat) : Int)) ((sld ks (vss g.1 g.2.1) q 1 : Nat) : Int) FUEL (-1) (wr ((q.1 : Int) - ((sld ks (vss g.1 g.2.1) q 0 : Nat) : Int))) h9) (fun (a : Int × MH) => some a) (fun (q56 : Int × Int × MH) => ob2 (F_X_hunk (k : Int) 8 q56.2.2) (fun (r60 : Int) (h61 : MH) => ob2 (F_X_hunk (k : Int) 9 h61) (fun (r63 : Int) (h64 : MH) => ob2 (F_X_hunk (k : Int) 7 h64) (fun (r66 : Int) (h67 : MH) => jk2 (fun (s71 : Int) (h72 : MH) => ob3 (F_L_isHunk_L495 (q.1 : Int) r60 FUEL s71 1 h72) (fun (x12_74 : Int) (x13_75 : Int) (h76 : MH) => gd (x12_74 = 0 ∨ x12_74 = 1) (some (x12_74, h76)))) (fun kj73 => jk1 (fun (h69 : MH) => kj73 0 h69) (fun kj70 => if r66 = q56.1 then (ob2 (F_X_count 14 h67) (fun (r82 : Int) (h83 : MH) => if r60 ≤ r82 then (ob2 (F_X_count 14 h83) (fun (r86 : Int) (h87 : MH) => if r63 ≤ r86 then (if r60 ≤ (q.1 : Int) then (kj73 1 h87) else (kj70 h87)) else (kj70 h87))) else (kj70 h83))) else (kj70 h67)))))))) (fun h' => ((1 : Int), h')) (fun h' => INV h' g hist sv) := by
    intro h9 I9
    obtain ⟨h10, e10, I10⟩ := isH_loop W og hq (z := q.2 - q.1) rfl _ FUEL (q.1 - sld ks (vss g.1 g.2.1) q 0) (-1) h9 pm.2.1 pm.2.2.1 pm.2.2.2 I9
    rw [wl, e10, os_r]
    dsimp only
    refine (q_h8 I10 W hq).go (fun h11 I11 => ?_)
    refine (q_h9 I11 W hq).go (fun h12 I12 => ?_)
    refine (q_h7 I12 W hq).go (fun h13 I13 => ?_)
    have e7 : wth (vss g.1 g.2.1) ((bt ks (vss g.1 g.2.1) q : Nat) : Int) (((bt ks (vss g.1 g.2.1) q : Nat) : Int) + ((q.2 - q.1 : Nat) : Int)) = mxf (vss g.1 g.2.1) (q.2 - q.1) (sld ks (vss g.1 g.2.1) q 0 + sld ks (vss g.1 g.2.1) q 1 + 1) (q.1 - sld ks (vss g.1 g.2.1) q 0) (-1) := by
      rw [best]
      unfold wf
      rw [Int.natCast_add]
    rw [jk2_q, jk1_q, if_pos e7]
    refine (q_c14 I13).go (fun h14 I14 => ?_)
    rw [if_pos d0]
    refine (q_c14 I14).go (fun h15 I15 => ?_)
    rw [if_pos d1, if_pos d2]
    obtain ⟨h16, e16, I16⟩ := isH_loop2 W hq (a := ard H ks.length k q (g.2.2.2.1).toNat 0) rfl 3 FUEL 1 h15 rfl (Nat.le_refl _) (by rw [FUEL_eq]; decide) I15
    have e16' : F_L_isHunk_L495 (q.1 : Int) ((ard H ks.length k q (g.2.2.2.1).toNat 0 : Nat) : Int) FUEL 1 1 h15 = some ((1 : Int), (4 : Int), h16) := e16
    dsimp only
    rw [ob3_t e16', gd_pos (Or.inr rfl)]
    exact TO.done (f := fun h' => ((1 : Int), h')) I16
  rw [jk1_q]
  rcases p01 with e | e
  · rw [if_pos e, if_pos (ws e)]
    refine (q_why I8 W hq 1).go (fun h9 I9 => ?_)
    rw [if_pos e, if_pos rfl]
    exact rest h9 I9
  · rw [if_neg (fun x => absurd (e.symm.trans x) one_ne)]
    exact rest h8 I8
end HUNK

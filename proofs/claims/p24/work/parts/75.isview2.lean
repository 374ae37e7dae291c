/-! ===== the law's isView, its end ===== -/
theorem cn_sum {ks : List Int} (hk : KOK ks) : ∀ n, n ≤ ks.length → cn ks 0 0 n + cn ks 1 0 n + cn ks 2 0 n = (n : Int) := by
  intro n
  induction n with
  | zero => intro _; rfl
  | succ n ih =>
    intro h
    have a := ih (by omega)
    have k3 := hk.get (p := n) (by omega)
    rw [cn_next, cn_next, cn_next]
    rcases k3 with e | e | e
    · rw [e, if_pos rfl, if_neg (by decide), if_neg (by decide)]; omega
    · rw [e, if_neg (by decide), if_pos rfl, if_neg (by decide)]; omega
    · rw [e, if_neg (by decide), if_neg (by decide), if_pos rfl]; omega
/-- the numbers of the view and of the texts -/
theorem VF.nums {g : SG} {ks : List Int} {H : HL} (V : VF g ks H) : (g.1.length : Int) = (ks.length : Int) - cn ks 2 0 ks.length ∧ (g.2.1.length : Int) = (ks.length : Int) - cn ks 1 0 ks.length ∧ dst g.1 g.2.1 = (ks.length : Int) - cn ks 0 0 ks.length ∧ kp g.1 g.2.1 0 0 = cn ks 0 0 ks.length ∧ nt H ks.length = H.length := by
  obtain ⟨hs, hk, hl, h28, hso, ⟨t2, t1, t0⟩, l1, l2⟩ := V
  have s := cn_sum hk ks.length (Nat.le_refl _)
  have p2 := pt_len ks (vss g.1 g.2.1) 2 0 ks.length
  have p1 := pt_len ks (vss g.1 g.2.1) 1 0 ks.length
  rw [t2] at p2
  rw [t1] at p1
  refine ⟨p2, p1, ?_, ?_, nt_all (fun q hq => ?_)⟩
  · unfold dst; omega
  · omega
  · have := hs.1.2 q hq
    have := hs.2.1 q hq
    omega
theorem cmp_0 : (Op.cmpValue (some Ordering.eq) .l).toInt = 0 := by first | rfl | decide
section VIEW
variable {h : MH} {g : SG} {hist : List SG} {sv : Option SG} {ks : List Int} {H : HL}
theorem L_isView (I : INV h g hist sv) : TO (F_L_isView h) (fun h' => ((1 : Int), h')) (fun h' => INV h' g hist sv) := by
  obtain ⟨ks, H, W⟩ := vwg_ex I
  have og := I.og
  have V := W.vf og
  obtain ⟨n1, n2, n3, n4, n5⟩ := V.nums
  have h28 := V.2.2.2.1
  have h14 := V.1.len14 h28
  have b2 := cn_bd ks 2 0 ks.length
  have b1 := cn_bd ks 1 0 ks.length
  have b0 := cn_bd ks 0 0 ks.length
  have l1 := V.2.2.2.2.2.2.1
  have l2 := V.2.2.2.2.2.2.2
  unfold F_L_isView
  refine (q_c3 I W).go (fun h2 I2 => ?_)
  obtain ⟨h3, e3, I3⟩ := isV_loop W og ks.length FUEL 0 0 0 0 (-1) 0 0 0 h2 (by rw [cn]; rfl) (by rw [cn]; rfl) (by rw [cn]) (by rw [nt_zero (fun q hq => Nat.zero_le _)]; rfl) rfl (Int.le_refl _) (Int.le_refl _) (by omega) (by rw [FUEL_eq]; omega) I2
  rw [e3, os_r]
  dsimp only
  obtain ⟨k, hk⟩ : ∃ k : Nat, cn ks 0 0 ks.length = (k : Int) := ⟨(cn ks 0 0 ks.length).toNat, by omega⟩
  obtain ⟨N, hN⟩ : ∃ N : Nat, N = g.1.length + g.2.1.length := ⟨_, rfl⟩
  have k28 : 2 * k ≤ 28 := by
    have kb := kp_b g.1 g.2.1 0 0
    omega
  have n28 : N ≤ 28 := by omega
  have w1 : wr ((ks.length : Int) - ((ks.length : Int) - cn ks 1 0 ks.length)) = cn ks 1 0 ks.length := wr_s (n := 100) (by omega) (by omega) (by omega) (by decide)
  have w2 : wr ((ks.length : Int) - ((ks.length : Int) - cn ks 2 0 ks.length)) = cn ks 2 0 ks.length := wr_s (n := 100) (by omega) (by omega) (by omega) (by decide)
  have w3 : wr ((nt H ks.length : Int) - 1 + 1) = (H.length : Int) := wr_s (n := 100) (by omega) (by omega) (by omega) (by decide)
  have w4 : wr ((ks.length : Int) - cn ks 0 0 ks.length) = dst g.1 g.2.1 := wr_s (n := 100) (by omega) (by omega) (by omega) (by decide)
  have w5 : wr ((ks.length : Int) - cn ks 2 0 ks.length + ((ks.length : Int) - cn ks 1 0 ks.length)) = (N : Int) := wr_s (n := 100) (by omega) (by omega) (by omega) (by decide)
  have w6 : wr (2 * cn ks 0 0 ks.length) = ((2 * k : Nat) : Int) := wr_s (n := 100) (by omega) (by omega) (by omega) (by decide)
  have hkp : kp g.1 g.2.1 0 0 = (k : Int) := n4.trans hk
  have cN : N = 0 ∨ (¬ N = 0 ∧ ¬ (N : Int) = 0) := by omega
  have c0 : N = 0 → (N : Int) = 0 := fun h => by omega
  refine (q_c0 I3).go (fun h4 I4 => ?_)
  rw [jk2_q, jk1_q, if_pos n1.symm]
  refine (q_c1 I4).go (fun h5 I5 => ?_)
  rw [if_pos n2.symm]
  refine (q_c4 I5 W).go (fun h6 I6 => ?_)
  rw [if_pos rfl]
  refine (q_c5 I6 W).go (fun h7 I7 => ?_)
  rw [if_pos w1]
  refine (q_c6 I7 W).go (fun h8 I8 => ?_)
  rw [if_pos w2]
  refine (q_c7 I8 W).go (fun h9 I9 => ?_)
  rw [if_pos w3]
  refine (q_c11 I9 W).go (fun h10 I10 => ?_)
  rw [if_pos rfl]
  dsimp only
  rw [if_neg one_ne]
  refine (q_dist0 I10).go (fun h11 I11 => ?_)
  rw [if_pos w4.symm]
  refine (q_steps I11).go (fun h12 I12 => ?_)
  rw [if_pos ((ed_dst g.1 g.2.1).trans w4.symm)]
  refine (q_view_out I12 W (p := ks.length) (Nat.le_refl _) 0 (by decide)).go (fun h13 I13 => ?_)
  rw [if_pos rfl]
  obtain ⟨h14, e14, I14⟩ := q_alike I13 hkp hN
  rw [e14, ob2_s, jk1_q, w5, w6]
  rcases cN with c | ⟨c, c'⟩
  · rw [if_pos (c0 c), if_pos c]
    dsimp only
    rw [fp_one, if_pos cmp_0]
    exact TO.done (f := fun h' => ((1 : Int), h')) I14
  · obtain ⟨m1, m2⟩ := fp_mul k28
    obtain ⟨d1, d2⟩ := fp_div k28 n28 c
    rw [if_neg c', if_neg c, m1, gd_pos m2, gd_pos d1]
    dsimp only
    rw [d2, if_pos cmp_0]
    exact TO.done (f := fun h' => ((1 : Int), h')) I14
end VIEW

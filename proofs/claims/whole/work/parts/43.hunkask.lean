/-! ===== askings about a hunk ===== -/
theorem V_greatest {h : MH} {ks ss : List Int} {H : HL} (V : VC h ks ss H) (hso : SOK ss) {k : Nat} {q : Nat × Nat} (hq : H[k]? = some q) : F_V_greatestWorth (k : Int) h = some (wth ss ((bt ks ss q : Nat) : Int) (((bt ks ss q : Nat) : Int) + ((q.2 - q.1 : Nat) : Int))) := by
  obtain ⟨a1, a2, a3, a4, a5⟩ := V.q hq
  have r := bt_range (ks := ks) hso q a1 a3 a4
  have s := sld_le (ks := ks) hso q a1 a3 a4
  unfold F_V_greatestWorth
  rw [V_bestTop V hso hq, ob1_s, V_end V hq, V_top V hq]
  generalize bt ks ss q = b at r ⊢
  have e : wr (wr ((b : Int) + (q.2 : Int)) - (q.1 : Int)) = (b : Int) + ((q.2 - q.1 : Nat) : Int) := by
    rw [wr_id (z := (b : Int) + (q.2 : Int)) (by omega), wr_id (by omega)]; omega
  rw [e, V_worthAt V.2.1 hso a4 (Int.natCast_nonneg _) (by omega) (by omega)]
theorem sim_hunk {h : MH} {pad : List Int} {g : SG} {hist : List SG} {sv : Option SG} (C : CR h pad g hist sv) (og : OKg g) (p1 p2 : Int) : SIM (F_X_hunk p1 p2) (F_M_hunk p1 p2) h pad g hist sv := by
  obtain ⟨h1, H, f1, hs0, V, hk, w1⟩ := X_show C og
  have hso := sok_of og.1 og.2.1
  have hs := V.2.2.2.2.2.1
  have h28 := V.2.2.2.2.2.2.2
  have h14 := hs.len14 h28
  have main : ∀ hm, MRR hm pad g hist sv → ∃ hm', F_M_views hm = some hm' ∧ MV2 hm' (shw g H).1 (vss g.1 g.2.1) ∧ FZ hm hm' ∧ hm' 77 45 = g.2.2.2.1 := fun hm hh => by
    obtain ⟨hm', a, b, c⟩ := M_views hh og hs0
    exact ⟨hm', a, b, c.z, by rw [c.row (by decide) (by decide) (by decide) (by decide)]; exact hh.1.2.2.2.1⟩
  have most : g.2.2.2.1 = ((g.2.2.2.1).toNat : Int) := by have := og.2.2.2.1; omega
  have set0 : F_St_setting 3 0 h1 = ((g.2.2.2.1).toNat : Int) := by
    rw [← most]
    unfold F_St_setting
    rw [if_pos rfl, w1 3 (by decide)]; exact C.2.1.2.2.2.2.1
  by_cases c : 0 ≤ p1 ∧ p1 < ((shw g H).2.length : Int)
  · have hkl : p1.toNat < (shw g H).2.length := by omega
    have hq : (shw g H).2[p1.toNat]? = some ((shw g H).2[p1.toNat]'hkl) := List.getElem?_eq_getElem _
    generalize (shw g H).2[p1.toNat]'hkl = q at hq
    have hm2 := List.mem_of_getElem? hq
    have q1 := hs.1.2 q hm2
    have q2 := hs.2.1 q hm2
    have ep : p1 = (p1.toNat : Int) := by omega
    have c' : 0 ≤ p1 ∧ p1 ≤ ((shw g H).2.length : Int) - 1 := by omega
    have el : wr (((shw g H).2.length : Int) - 1) = ((shw g H).2.length : Int) - 1 := wr_id (by omega)
    have bw : (q.1 : Int) + ((q.2 - q.1 : Nat) : Int) = (q.2 : Int) := by omega
    have bb : (((q.2 - q.1 : Nat) : Int)) ≥ 1 := by omega
    have vq := V.q hq
    have r := bt_range (ks := (shw g H).1) hso q q1 vq.2.2.1 vq.2.2.2.1
    have s := sld_le (ks := (shw g H).1) hso q q1 vq.2.2.1 vq.2.2.2.1
    have bt2 : ((bt (shw g H).1 (vss g.1 g.2.1) q : Nat) : Int) + ((q.2 - q.1 : Nat) : Int) ≤ ((shw g H).1.length : Int) := by have := V.2.2.2.2.2.2.1; omega
    have go : ∀ hm, MRR hm pad g hist sv → ∃ hm', FZ hm hm' ∧ MV2 hm' (shw g H).1 (vss g.1 g.2.1) ∧ hm' 77 45 = g.2.2.2.1 ∧ F_M_views hm = some hm' := fun hm hh => by
      obtain ⟨hm', a, b, c, d⟩ := main hm hh
      exact ⟨hm', c, b, d, a⟩
    generalize p1.toNat = k at *
    subst ep
    have hx : ∀ d : Int, 0 ≤ d ∧ d ≤ 9 → ∀ r, (if d = 0 then some (F_V_top (k : Int) h1, h1) else (if d = 1 then (ob1 (F_V_linesOf (k : Int) 1 h1) (fun (r8 : Int) => some (r8, h1))) else (if d = 2 then (ob1 (F_V_linesOf (k : Int) 2 h1) (fun (r11 : Int) => some (r11, h1))) else (if d = 3 then (if F_V_isPlain (k : Int) h1 = 0 then (some (0, h1)) else (some (1, h1))) else (if d = 4 then (ob1 (F_V_reach (k : Int) 0 h1) (fun (r16 : Int) => some (r16, h1))) else (if d = 5 then (ob1 (F_V_reach (k : Int) 1 h1) (fun (r19 : Int) => some (r19, h1))) else (if d = 6 then (some (F_V_worth (k : Int) h1, h1)) else (if d = 7 then (ob1 (F_V_greatestWorth (k : Int) h1) (fun (r23 : Int) => some (r23, h1))) else (if d = 8 then (some (F_V_around (k : Int) (F_St_setting 3 0 h1) 0 h1, h1)) else (some (F_V_around (k : Int) (F_St_setting 3 0 h1) 1 h1, h1))))))))))) = r → F_X_hunk (k : Int) d h = r := by
      intro d hd r hr
      rw [← hr]
      unfold F_X_hunk
      rw [if_neg (by omega), if_pos hd.2, f1, ob1_s, V_has V, if_pos c, if_neg (show ¬ (1 : Int) = 0 by decide)]
    have hmm : ∀ hm hm' d, F_M_views hm = some hm' → MV2 hm' (shw g H).1 (vss g.1 g.2.1) → F_M_hunk (k : Int) d hm = (if d = 0 then (some ((q.1 : Int), hm')) else (if d = 1 then (ob1 (F_M_marked (q.1 : Int) d hm') (fun (r10 : Int) => some (r10, hm'))) else (if d = 2 then (ob1 (F_M_marked (q.1 : Int) d hm') (fun (r13 : Int) => some (r13, hm'))) else (if d = 3 then (ob1 (F_M_isPlain (q.1 : Int) hm') (fun (r16 : Int) => if r16 = 0 then (some (0, hm')) else (some (1, hm')))) else (if d = 4 then (jn1 (if d = 5 then (1) else (0)) (fun (s20 : Int) => ob1 (F_M_slides (q.1 : Int) s20 hm') (fun (r23 : Int) => some (r23, hm')))) else (if d = 5 then (jn1 (if d = 5 then (1) else (0)) (fun (s27 : Int) => ob1 (F_M_slides (q.1 : Int) s27 hm') (fun (r30 : Int) => some (r30, hm')))) else (if d = 6 then (ob1 (F_M_size (q.1 : Int) hm') (fun (r34 : Int) => ob1 (F_M_worth (q.1 : Int) r34 hm') (fun (r36 : Int) => some (r36, hm')))) else (if d = 7 then (ob1 (F_M_bestPlace (q.1 : Int) hm') (fun (r39 : Int) => ob1 (F_M_size (q.1 : Int) hm') (fun (r41 : Int) => ob1 (F_M_worth r39 r41 hm') (fun (r43 : Int) => some (r43, hm'))))) else (if d = 8 then (jn1 (if d = 9 then (1) else (0)) (fun (s46 : Int) => ob1 (F_M_around (q.1 : Int) s46 (hm' 77 45) hm') (fun (r49 : Int) => some (r49, hm')))) else (if d = 9 then (jn1 (if d = 9 then (1) else (0)) (fun (s53 : Int) => ob1 (F_M_around (q.1 : Int) s53 (hm' 77 45) hm') (fun (r56 : Int) => some (r56, hm')))) else (some ((-1), hm')))))))))))) := by
      intro hm hm' d f2 V2
      unfold F_M_hunk
      rw [f2, ob1_s, M_hunks V2 hk hs, ob1_s, el, M_in_1 c', if_neg (show ¬ (1 : Int) = 0 by decide), M_start V2 hk hs hq, ob1_s]
    have pls := pl_01 (shw g H).1 q
    by_cases cd : 0 ≤ p2 ∧ p2 ≤ 9
    · have hd : p2 = 0 ∨ p2 = 1 ∨ p2 = 2 ∨ p2 = 3 ∨ p2 = 4 ∨ p2 = 5 ∨ p2 = 6 ∨ p2 = 7 ∨ p2 = 8 ∨ p2 = 9 := by omega
      rcases hd with rfl | rfl | rfl | rfl | rfl | rfl | rfl | rfl | rfl | rfl
      · refine ⟨_, h1, hx 0 cd _ (by rw [if_pos rfl, V_top V hq]), w1, fun hm hh => ?_⟩
        obtain ⟨hm', a, V2, d45, f2⟩ := go hm hh
        exact ⟨hm', by rw [hmm hm hm' 0 f2 V2, if_pos rfl], a⟩
      · refine ⟨_, h1, hx 1 cd _ (by rw [if_neg (show ¬ (1 : Int) = 0 by decide), if_pos rfl, V_linesOf V.1 V.2.2.1 V.2.2.2.1 hs h28 hq, ob1_s]), w1, fun hm hh => ?_⟩
        obtain ⟨hm', a, V2, d45, f2⟩ := go hm hh
        exact ⟨hm', by rw [hmm hm hm' 1 f2 V2, if_neg (show ¬ (1 : Int) = 0 by decide), if_pos rfl, M_marked V2 hs hm2, ob1_s], a⟩
      · refine ⟨_, h1, hx 2 cd _ (by rw [if_neg (show ¬ (2 : Int) = 0 by decide), if_neg (show ¬ (2 : Int) = 1 by decide), if_pos rfl, V_linesOf V.1 V.2.2.1 V.2.2.2.1 hs h28 hq, ob1_s]), w1, fun hm hh => ?_⟩
        obtain ⟨hm', a, V2, d45, f2⟩ := go hm hh
        exact ⟨hm', by rw [hmm hm hm' 2 f2 V2, if_neg (show ¬ (2 : Int) = 0 by decide), if_neg (show ¬ (2 : Int) = 1 by decide), if_pos rfl, M_marked V2 hs hm2, ob1_s], a⟩
      · rcases pls with e | e
        · refine ⟨0, h1, hx 3 cd _ (by rw [if_neg (show ¬ (3 : Int) = 0 by decide), if_neg (show ¬ (3 : Int) = 1 by decide), if_neg (show ¬ (3 : Int) = 2 by decide), if_pos rfl, V_isPlain V hq, e, if_pos rfl]), w1, fun hm hh => ?_⟩
          obtain ⟨hm', a, V2, d45, f2⟩ := go hm hh
          exact ⟨hm', by rw [hmm hm hm' 3 f2 V2, if_neg (show ¬ (3 : Int) = 0 by decide), if_neg (show ¬ (3 : Int) = 1 by decide), if_neg (show ¬ (3 : Int) = 2 by decide), if_pos rfl, M_isPlain V2 hs hm2, ob1_s, e, if_pos rfl], a⟩
        · refine ⟨1, h1, hx 3 cd _ (by rw [if_neg (show ¬ (3 : Int) = 0 by decide), if_neg (show ¬ (3 : Int) = 1 by decide), if_neg (show ¬ (3 : Int) = 2 by decide), if_pos rfl, V_isPlain V hq, e, if_neg (show ¬ (1 : Int) = 0 by decide)]), w1, fun hm hh => ?_⟩
          obtain ⟨hm', a, V2, d45, f2⟩ := go hm hh
          exact ⟨hm', by rw [hmm hm hm' 3 f2 V2, if_neg (show ¬ (3 : Int) = 0 by decide), if_neg (show ¬ (3 : Int) = 1 by decide), if_neg (show ¬ (3 : Int) = 2 by decide), if_pos rfl, M_isPlain V2 hs hm2, ob1_s, e, if_neg (show ¬ (1 : Int) = 0 by decide)], a⟩
      · refine ⟨_, h1, hx 4 cd _ (by rw [if_neg (show ¬ (4 : Int) = 0 by decide), if_neg (show ¬ (4 : Int) = 1 by decide), if_neg (show ¬ (4 : Int) = 2 by decide), if_neg (show ¬ (4 : Int) = 3 by decide), if_pos rfl, V_reach V hso hq, ob1_s]), w1, fun hm hh => ?_⟩
        obtain ⟨hm', a, V2, d45, f2⟩ := go hm hh
        exact ⟨hm', by rw [hmm hm hm' 4 f2 V2, if_neg (show ¬ (4 : Int) = 0 by decide), if_neg (show ¬ (4 : Int) = 1 by decide), if_neg (show ¬ (4 : Int) = 2 by decide), if_neg (show ¬ (4 : Int) = 3 by decide), if_pos rfl, jn1_p, if_neg (show ¬ (4 : Int) = 5 by decide), M_slides V2 hso hs hm2, ob1_s], a⟩
      · refine ⟨_, h1, hx 5 cd _ (by rw [if_neg (show ¬ (5 : Int) = 0 by decide), if_neg (show ¬ (5 : Int) = 1 by decide), if_neg (show ¬ (5 : Int) = 2 by decide), if_neg (show ¬ (5 : Int) = 3 by decide), if_neg (show ¬ (5 : Int) = 4 by decide), if_pos rfl, V_reach V hso hq, ob1_s]), w1, fun hm hh => ?_⟩
        obtain ⟨hm', a, V2, d45, f2⟩ := go hm hh
        exact ⟨hm', by rw [hmm hm hm' 5 f2 V2, if_neg (show ¬ (5 : Int) = 0 by decide), if_neg (show ¬ (5 : Int) = 1 by decide), if_neg (show ¬ (5 : Int) = 2 by decide), if_neg (show ¬ (5 : Int) = 3 by decide), if_neg (show ¬ (5 : Int) = 4 by decide), if_pos rfl, jn1_p, if_pos rfl, M_slides V2 hso hs hm2, ob1_s], a⟩
      · refine ⟨_, h1, hx 6 cd _ (by rw [if_neg (show ¬ (6 : Int) = 0 by decide), if_neg (show ¬ (6 : Int) = 1 by decide), if_neg (show ¬ (6 : Int) = 2 by decide), if_neg (show ¬ (6 : Int) = 3 by decide), if_neg (show ¬ (6 : Int) = 4 by decide), if_neg (show ¬ (6 : Int) = 5 by decide), if_pos rfl, V_worth V hso hq]), w1, fun hm hh => ?_⟩
        obtain ⟨hm', a, V2, d45, f2⟩ := go hm hh
        exact ⟨hm', by rw [hmm hm hm' 6 f2 V2, if_neg (show ¬ (6 : Int) = 0 by decide), if_neg (show ¬ (6 : Int) = 1 by decide), if_neg (show ¬ (6 : Int) = 2 by decide), if_neg (show ¬ (6 : Int) = 3 by decide), if_neg (show ¬ (6 : Int) = 4 by decide), if_neg (show ¬ (6 : Int) = 5 by decide), if_pos rfl, M_size V2 hs hm2, ob1_s, M_worth V2 (Int.natCast_nonneg _) bb (by rw [bw]; exact Int.ofNat_le.mpr q2), ob1_s, bw]; rfl, a⟩
      · refine ⟨_, h1, hx 7 cd _ (by rw [if_neg (show ¬ (7 : Int) = 0 by decide), if_neg (show ¬ (7 : Int) = 1 by decide), if_neg (show ¬ (7 : Int) = 2 by decide), if_neg (show ¬ (7 : Int) = 3 by decide), if_neg (show ¬ (7 : Int) = 4 by decide), if_neg (show ¬ (7 : Int) = 5 by decide), if_neg (show ¬ (7 : Int) = 6 by decide), if_pos rfl, V_greatest V hso hq, ob1_s]), w1, fun hm hh => ?_⟩
        obtain ⟨hm', a, V2, d45, f2⟩ := go hm hh
        exact ⟨hm', by rw [hmm hm hm' 7 f2 V2, if_neg (show ¬ (7 : Int) = 0 by decide), if_neg (show ¬ (7 : Int) = 1 by decide), if_neg (show ¬ (7 : Int) = 2 by decide), if_neg (show ¬ (7 : Int) = 3 by decide), if_neg (show ¬ (7 : Int) = 4 by decide), if_neg (show ¬ (7 : Int) = 5 by decide), if_neg (show ¬ (7 : Int) = 6 by decide), if_pos rfl, M_bestPlace V2 hso hs hm2, ob1_s, M_size V2 hs hm2, ob1_s, M_worth V2 (Int.natCast_nonneg _) bb bt2, ob1_s], a⟩
      · refine ⟨_, h1, hx 8 cd _ (by rw [if_neg (show ¬ (8 : Int) = 0 by decide), if_neg (show ¬ (8 : Int) = 1 by decide), if_neg (show ¬ (8 : Int) = 2 by decide), if_neg (show ¬ (8 : Int) = 3 by decide), if_neg (show ¬ (8 : Int) = 4 by decide), if_neg (show ¬ (8 : Int) = 5 by decide), if_neg (show ¬ (8 : Int) = 6 by decide), if_neg (show ¬ (8 : Int) = 7 by decide), if_pos rfl, set0, V_around V hq]), w1, fun hm hh => ?_⟩
        obtain ⟨hm', a, V2, d45, f2⟩ := go hm hh
        exact ⟨hm', by rw [hmm hm hm' 8 f2 V2, if_neg (show ¬ (8 : Int) = 0 by decide), if_neg (show ¬ (8 : Int) = 1 by decide), if_neg (show ¬ (8 : Int) = 2 by decide), if_neg (show ¬ (8 : Int) = 3 by decide), if_neg (show ¬ (8 : Int) = 4 by decide), if_neg (show ¬ (8 : Int) = 5 by decide), if_neg (show ¬ (8 : Int) = 6 by decide), if_neg (show ¬ (8 : Int) = 7 by decide), if_pos rfl, jn1_p, if_neg (show ¬ (8 : Int) = 9 by decide), (d45.trans most), M_around V2 hk hs hq, ob1_s], a⟩
      · refine ⟨_, h1, hx 9 cd _ (by rw [if_neg (show ¬ (9 : Int) = 0 by decide), if_neg (show ¬ (9 : Int) = 1 by decide), if_neg (show ¬ (9 : Int) = 2 by decide), if_neg (show ¬ (9 : Int) = 3 by decide), if_neg (show ¬ (9 : Int) = 4 by decide), if_neg (show ¬ (9 : Int) = 5 by decide), if_neg (show ¬ (9 : Int) = 6 by decide), if_neg (show ¬ (9 : Int) = 7 by decide), if_neg (show ¬ (9 : Int) = 8 by decide), set0, V_around V hq]), w1, fun hm hh => ?_⟩
        obtain ⟨hm', a, V2, d45, f2⟩ := go hm hh
        exact ⟨hm', by rw [hmm hm hm' 9 f2 V2, if_neg (show ¬ (9 : Int) = 0 by decide), if_neg (show ¬ (9 : Int) = 1 by decide), if_neg (show ¬ (9 : Int) = 2 by decide), if_neg (show ¬ (9 : Int) = 3 by decide), if_neg (show ¬ (9 : Int) = 4 by decide), if_neg (show ¬ (9 : Int) = 5 by decide), if_neg (show ¬ (9 : Int) = 6 by decide), if_neg (show ¬ (9 : Int) = 7 by decide), if_neg (show ¬ (9 : Int) = 8 by decide), if_pos rfl, jn1_p, if_pos rfl, (d45.trans most), M_around V2 hk hs hq, ob1_s], a⟩
    · refine ⟨-1, h, ?_, FR.rf _ _, fun hm hh => ?_⟩
      · unfold F_X_hunk
        by_cases c3 : p2 < 0
        · rw [if_pos c3]
        · rw [if_neg c3, if_neg (by omega)]
      · obtain ⟨hm', a, V2, d45, f2⟩ := go hm hh
        exact ⟨hm', by rw [hmm hm hm' p2 f2 V2, if_neg (by omega), if_neg (by omega), if_neg (by omega), if_neg (by omega), if_neg (by omega), if_neg (by omega), if_neg (by omega), if_neg (by omega), if_neg (by omega), if_neg (by omega)], a⟩
  · have mo : ∀ hm, MRR hm pad g hist sv → ∃ hm', F_M_hunk p1 p2 hm = some (-1, hm') ∧ FZ hm hm' := fun hm hh => by
      obtain ⟨hm', f2, V2, w2, _⟩ := main hm hh
      refine ⟨hm', ?_, w2⟩
      unfold F_M_hunk
      rw [f2, ob1_s, M_hunks V2 hk hs, ob1_s, wr_id (z := ((shw g H).2.length : Int) - 1) (by omega), M_in_0 (by omega), if_pos rfl]
    unfold SIM F_X_hunk
    by_cases c3 : p2 < 0
    · rw [if_pos c3]; exact ⟨_, h, rfl, FR.rf _ _, mo⟩
    · rw [if_neg c3]
      by_cases c4 : p2 ≤ 9
      · rw [if_pos c4, f1, ob1_s, V_has V, if_neg c, if_pos rfl]; exact ⟨_, h1, rfl, w1, mo⟩
      · rw [if_neg c4]; exact ⟨_, h, rfl, FR.rf _ _, mo⟩

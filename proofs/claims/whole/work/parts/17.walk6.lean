set_option maxHeartbeats 4000000 in
set_option maxRecDepth 100000 in
theorem LT_M_settles_L39 {K : KT} (hK : Rules RX7 cX7_settles 7 none flX7 5 K) {x2 : Int} {x3 : Int} {x4 : Int} {x5 : Int} : ∀ (n : Nat) (x6 : Int) (h : MH) (x6' : Int) (h' : MH), F_M_settles_L39 x2 x3 x4 x5 n x6 h = some (x6', h') → K 61 [(0, vR 76), (2, vI x2), (3, vI x3), (4, vI x4), (5, vI x5), (6, vI x6')] [] h' → K 39 [(0, vR 76), (2, vI x2), (3, vI x3), (4, vI x4), (5, vI x5), (6, vI x6)] [] h := by
  intro n
  induction n with
  | zero =>
    intro x6 h x6' h' hF
    cases hF
  | succ n ih =>
    intro x6 h x6' h' hF hE
    unfold F_M_settles_L39 at hF
    refine g_seg hK [.iload 6, .iload_n 3] 39 42 (L1 := [(0, vR 76), (2, vI x2), (3, vI x3), (4, vI x4), (5, vI x5), (6, vI x6)]) (st1 := [vI x3, vI x6]) (h1 := h) (P := True ∧ True ∧ True) (by decide +kernel) rfl rfl ⟨trivial, trivial, trivial⟩ ?_
    refine g_icmp hK 42 .ge (19) 61 (t1 := 45) (t2 := 61) (by decide +kernel) (by decide) rfl rfl (fun (hc1 : x6 < x3) => ?_) (fun (hc1 : ¬ (x6 < x3)) => ?_)
    · have hF := ite_t hc1 hF
      refine g_seg hK [.aload_n 0, .getfield 28, .iload_n 2, .iload 6, .iadd, .iconst 0] 45 54 (L1 := [(0, vR 76), (2, vI x2), (3, vI x3), (4, vI x4), (5, vI x5), (6, vI x6)]) (st1 := [vI 0, vI (wr (x2 + x6)), vR 83]) (h1 := h) (P := True ∧ kd 76 = 9 ∧ True ∧ True ∧ True ∧ True ∧ True) (by decide +kernel) rfl rfl ⟨trivial, rfl, trivial, trivial, trivial, trivial, trivial⟩ ?_
      obtain ⟨hg2, hF⟩ := gd_elim hF
      refine g_seg hK [.iastore, .iinc 6 1] 54 58 (L1 := [(6, vI (wr (x6 + 1))), (0, vR 76), (2, vI x2), (3, vI x3), (4, vI x4), (5, vI x5)]) (st1 := []) (h1 := (up h 83 (wr (x2 + x6)).toNat 0)) (P := (kd 83 = 0 ∧ 0 ≤ wr (x2 + x6) ∧ wr (x2 + x6) < 28) ∧ True ∧ True) (by decide +kernel) rfl rfl ⟨⟨rfl, hg2⟩, trivial, trivial⟩ ?_
      refine g_goto hK 58 (-19) 39 (by decide +kernel) (by decide) ?_
      refine hK.2.1 _ _ ([(0, vR 76), (2, vI x2), (3, vI x3), (4, vI x4), (5, vI x5), (6, vI (wr (x6 + 1)))]) _ _ (sub_of [1, 2, 3, 4, 5, 0] rfl) ?_
      exact ih _ _ _ _ hF hE
    · have hF := ite_f hc1 hF
      cases hF
      exact hE
set_option maxHeartbeats 4000000 in
set_option maxRecDepth 100000 in
theorem LT_M_settles_L64 {K : KT} (hK : Rules RX7 cX7_settles 7 none flX7 5 K) {x3 : Int} {x4 : Int} {x5 : Int} : ∀ (n : Nat) (x6 : Int) (h : MH) (x6' : Int) (h' : MH), F_M_settles_L64 x3 x4 x5 n x6 h = some (x6', h') → K 88 [(0, vR 76), (3, vI x3), (4, vI x4), (5, vI x5), (6, vI x6')] [] h' → K 64 [(0, vR 76), (3, vI x3), (4, vI x4), (5, vI x5), (6, vI x6)] [] h := by
  intro n
  induction n with
  | zero =>
    intro x6 h x6' h' hF
    cases hF
  | succ n ih =>
    intro x6 h x6' h' hF hE
    unfold F_M_settles_L64 at hF
    refine g_seg hK [.iload 6, .iload_n 3] 64 67 (L1 := [(0, vR 76), (3, vI x3), (4, vI x4), (5, vI x5), (6, vI x6)]) (st1 := [vI x3, vI x6]) (h1 := h) (P := True ∧ True ∧ True) (by decide +kernel) rfl rfl ⟨trivial, trivial, trivial⟩ ?_
    refine g_icmp hK 67 .ge (21) 88 (t1 := 70) (t2 := 88) (by decide +kernel) (by decide) rfl rfl (fun (hc1 : x6 < x3) => ?_) (fun (hc1 : ¬ (x6 < x3)) => ?_)
    · have hF := ite_t hc1 hF
      refine g_seg hK [.aload_n 0, .getfield 28, .iload 5, .iload 6, .iadd, .iload 4] 70 81 (L1 := [(0, vR 76), (3, vI x3), (4, vI x4), (5, vI x5), (6, vI x6)]) (st1 := [vI x4, vI (wr (x5 + x6)), vR 83]) (h1 := h) (P := True ∧ kd 76 = 9 ∧ True ∧ True ∧ True ∧ True ∧ True) (by decide +kernel) rfl rfl ⟨trivial, rfl, trivial, trivial, trivial, trivial, trivial⟩ ?_
      obtain ⟨hg2, hF⟩ := gd_elim hF
      refine g_seg hK [.iastore, .iinc 6 1] 81 85 (L1 := [(6, vI (wr (x6 + 1))), (0, vR 76), (3, vI x3), (4, vI x4), (5, vI x5)]) (st1 := []) (h1 := (up h 83 (wr (x5 + x6)).toNat x4)) (P := (kd 83 = 0 ∧ 0 ≤ wr (x5 + x6) ∧ wr (x5 + x6) < 28) ∧ True ∧ True) (by decide +kernel) rfl rfl ⟨⟨rfl, hg2⟩, trivial, trivial⟩ ?_
      refine g_goto hK 85 (-21) 64 (by decide +kernel) (by decide) ?_
      refine hK.2.1 _ _ ([(0, vR 76), (3, vI x3), (4, vI x4), (5, vI x5), (6, vI (wr (x6 + 1)))]) _ _ (sub_of [1, 2, 3, 4, 0] rfl) ?_
      exact ih _ _ _ _ hF hE
    · have hF := ite_f hc1 hF
      cases hF
      exact hE
set_option maxHeartbeats 4000000 in
set_option maxRecDepth 100000 in
theorem T_M_settles {p1 : Int} {h : MH} {h' : MH} (hF : F_M_settles p1 h = some h') : CON 5 yX7_settles cX7_settles 7 none [vR 76, vI p1] h none h' := by
  refine con_of (own := RX7) (fl := flX7) (by decide +kernel) rfl flok_X7 rfl (Nat.le_of_ble_eq_true rfl) ?_
  intro K hK hR
  show K 0 [(0, vR 76), (1, vI p1)] [] h
  unfold F_M_settles at hF
  refine g_seg hK [.aload_n 0, .iload_n 1] 0 2 (L1 := [(0, vR 76), (1, vI p1)]) (st1 := [vI p1, vR 76]) (h1 := h) (P := True ∧ True ∧ True) (by decide +kernel) rfl rfl ⟨trivial, trivial, trivial⟩ ?_
  obtain ⟨r1, e2, hF⟩ := ob1_elim hF
  refine g_callV1 hK 2 107 (d1 := 1) (ci := 7) (i := 76) (vs := [vI p1]) (rest := []) (h1 := h) (r := vI r1) my_yX7_start vw_X7_107 (by decide) (T_M_start (p1 := p1) (h := h) (hF := e2)) rfl rfl rfl (Nat.le_of_ble_eq_true rfl) (by decide +kernel) ?_
  refine g_seg hK [.istore_n 2, .aload_n 0, .iload_n 2] 5 8 (L1 := [(2, vI r1), (0, vR 76), (1, vI p1)]) (st1 := [vI r1, vR 76]) (h1 := h) (P := True ∧ True ∧ True ∧ True) (by decide +kernel) rfl rfl ⟨trivial, trivial, trivial, trivial⟩ ?_
  obtain ⟨r3, e4, hF⟩ := ob1_elim hF
  refine g_callV1 hK 8 93 (d1 := 2) (ci := 7) (i := 76) (vs := [vI r1]) (rest := []) (h1 := h) (r := vI r3) my_yX7_isPlain vw_X7_93 (by decide) (T_M_isPlain (p1 := r1) (h := h) (hF := e4)) rfl rfl rfl (Nat.le_of_ble_eq_true rfl) (by decide +kernel) ?_
  refine g_ifz hK 11 .ne (4) 15 (t1 := 14) (t2 := 15) (by decide +kernel) (by decide) rfl rfl (fun (hc5 : r3 = 0) => ?_) (fun (hc5 : ¬ (r3 = 0)) => ?_)
  · have hF := ite_t hc5 hF
    cases hF
    exact hR.2.2.2.2 14 _ _ (by decide +kernel) rfl ⟨rfl, rfl⟩
  · have hF := ite_f hc5 hF
    refine g_seg hK [.aload_n 0, .iload_n 2] 15 17 (L1 := [(2, vI r1), (0, vR 76), (1, vI p1)]) (st1 := [vI r1, vR 76]) (h1 := h) (P := True ∧ True ∧ True) (by decide +kernel) rfl rfl ⟨trivial, trivial, trivial⟩ ?_
    obtain ⟨r6, e7, hF⟩ := ob1_elim hF
    refine g_callV1 hK 17 83 (d1 := 0) (ci := 7) (i := 76) (vs := [vI r1]) (rest := []) (h1 := h) (r := vI r6) my_yX7_size vw_X7_83 (by decide) (T_M_size (p1 := r1) (h := h) (hF := e7)) rfl rfl rfl (Nat.le_of_ble_eq_true rfl) (by decide +kernel) ?_
    refine g_seg hK [.istore_n 3, .aload_n 0, .getfield 28, .iload_n 2] 20 26 (L1 := [(3, vI r6), (2, vI r1), (0, vR 76), (1, vI p1)]) (st1 := [vI r1, vR 83]) (h1 := h) (P := True ∧ True ∧ kd 76 = 9 ∧ True ∧ True) (by decide +kernel) rfl rfl ⟨trivial, trivial, rfl, trivial, trivial⟩ ?_
    obtain ⟨hg8, hF⟩ := gd_elim hF
    refine g_seg hK [.iaload, .istore 4, .aload_n 0, .iload_n 2] 26 31 (L1 := [(4, vI (h 83 r1.toNat)), (3, vI r6), (2, vI r1), (0, vR 76), (1, vI p1)]) (st1 := [vI r1, vR 76]) (h1 := h) (P := (kd 83 = 0 ∧ 0 ≤ r1 ∧ r1 < 28) ∧ True ∧ True ∧ True ∧ True) (by decide +kernel) rfl rfl ⟨⟨rfl, hg8⟩, trivial, trivial, trivial, trivial⟩ ?_
    obtain ⟨r9, e10, hF⟩ := ob1_elim hF
    refine g_callV1 hK 31 110 (d1 := 4) (ci := 7) (i := 76) (vs := [vI r1]) (rest := []) (h1 := h) (r := vI r9) my_yX7_bestPlace vw_X7_110 (by decide) (T_M_bestPlace (p1 := r1) (h := h) (hF := e10)) rfl rfl rfl (Nat.le_of_ble_eq_true rfl) (by decide +kernel) ?_
    refine g_seg hK [.istore 5, .iconst 0, .istore 6] 34 39 (L1 := [(6, vI 0), (5, vI r9), (4, vI (h 83 r1.toNat)), (3, vI r6), (2, vI r1), (0, vR 76), (1, vI p1)]) (st1 := []) (h1 := h) (P := True ∧ True ∧ True ∧ True) (by decide +kernel) rfl rfl ⟨trivial, trivial, trivial, trivial⟩ ?_
    refine hK.2.1 _ _ ([(0, vR 76), (2, vI r1), (3, vI r6), (4, vI (h 83 r1.toNat)), (5, vI r9), (6, vI 0)]) _ _ (sub_of [5, 4, 3, 2, 1, 0] rfl) ?_
    obtain ⟨x6_11, h12, e13, hF⟩ := ob2_elim hF
    refine LT_M_settles_L39 hK _ _ _ _ _ e13 ?_
    refine g_seg hK [.iconst 0, .istore 6] 61 64 (L1 := [(6, vI 0), (0, vR 76), (2, vI r1), (3, vI r6), (4, vI (h 83 r1.toNat)), (5, vI r9)]) (st1 := []) (h1 := h12) (P := True ∧ True ∧ True) (by decide +kernel) rfl rfl ⟨trivial, trivial, trivial⟩ ?_
    refine hK.2.1 _ _ ([(0, vR 76), (3, vI r6), (4, vI (h 83 r1.toNat)), (5, vI r9), (6, vI 0)]) _ _ (sub_of [1, 3, 4, 5, 0] rfl) ?_
    obtain ⟨x6_14, h15, e16, hF⟩ := ob2_elim hF
    refine LT_M_settles_L64 hK _ _ _ _ _ e16 ?_
    cases hF
    exact hR.2.2.2.2 88 _ _ (by decide +kernel) rfl ⟨rfl, rfl⟩
set_option maxHeartbeats 4000000 in
set_option maxRecDepth 100000 in
theorem LT_M_views_L14 {K : KT} (hK : Rules RX7 cX7_views 6 none flX7 6 K) : ∀ (n : Nat) (x2 : Int) (x3 : Int) (h : MH) (x2' : Int) (x3' : Int) (h' : MH), F_M_views_L14 n x2 x3 h = some (x2', x3', h') → K 180 [(0, vR 76), (2, vI x2'), (3, vI x3')] [] h' → K 14 [(0, vR 76), (2, vI x2), (3, vI x3)] [] h := by
  intro n
  induction n with
  | zero =>
    intro x2 x3 h x2' x3' h' hF
    cases hF
  | succ n ih =>
    intro x2 x3 h x2' x3' h' hF hE
    unfold F_M_views_L14 at hF
    refine g_seg hK [.iload_n 2, .aload_n 0, .iconst 0] 14 17 (L1 := [(0, vR 76), (2, vI x2), (3, vI x3)]) (st1 := [vI 0, vR 76, vI x2]) (h1 := h) (P := True ∧ True ∧ True ∧ True) (by decide +kernel) rfl rfl ⟨trivial, trivial, trivial, trivial⟩ ?_
    obtain ⟨r1, e2, hF⟩ := ob1_elim hF
    refine g_callV1 hK 17 47 (d1 := 0) (ci := 7) (i := 76) (vs := [vI 0]) (rest := [vI x2]) (h1 := h) (r := vI r1) my_yX7_lines vw_X7_47 (by decide) (T_M_lines (p1 := 0) (h := h) (hF := e2)) rfl rfl rfl (Nat.le_of_ble_eq_true rfl) (by decide +kernel) ?_
    obtain ⟨kj4, e55, hF⟩ := jk1_elim hF
    have j4 : ∀ (u3 : Unit), kj4 u3 = some (x2', x3', h') → K 32 [(0, vR 76), (2, vI x2), (3, vI x3)] [] h := by
      intro u3 hF
      have hF := (e55 u3).symm.trans hF
      refine g_seg hK [.iload_n 2, .aload_n 0, .iconst 0] 32 35 (L1 := [(0, vR 76), (2, vI x2), (3, vI x3)]) (st1 := [vI 0, vR 76, vI x2]) (h1 := h) (P := True ∧ True ∧ True ∧ True) (by decide +kernel) rfl rfl ⟨trivial, trivial, trivial, trivial⟩ ?_
      obtain ⟨r5, e6, hF⟩ := ob1_elim hF
      refine g_callV1 hK 35 47 (d1 := 0) (ci := 7) (i := 76) (vs := [vI 0]) (rest := [vI x2]) (h1 := h) (r := vI r5) my_yX7_lines vw_X7_47 (by decide) (T_M_lines (p1 := 0) (h := h) (hF := e6)) rfl rfl rfl (Nat.le_of_ble_eq_true rfl) (by decide +kernel) ?_
      obtain ⟨s7, e54, hF⟩ := jn1_elim hF
      have j8 : K 46 [(0, vR 76), (2, vI x2), (3, vI x3)] [vI s7] h := by
        refine g_seg hK [.istore 4, .iload_n 3, .aload_n 0, .iconst 1] 46 51 (L1 := [(4, vI s7), (0, vR 76), (2, vI x2), (3, vI x3)]) (st1 := [vI 1, vR 76, vI x3]) (h1 := h) (P := True ∧ True ∧ True ∧ True ∧ True) (by decide +kernel) rfl rfl ⟨trivial, trivial, trivial, trivial, trivial⟩ ?_
        obtain ⟨r10, e11, hF⟩ := ob1_elim hF
        refine g_callV1 hK 51 47 (d1 := 0) (ci := 7) (i := 76) (vs := [vI 1]) (rest := [vI x3]) (h1 := h) (r := vI r10) my_yX7_lines vw_X7_47 (by decide) (T_M_lines (p1 := 1) (h := h) (hF := e11)) rfl rfl rfl (Nat.le_of_ble_eq_true rfl) (by decide +kernel) ?_
        obtain ⟨s12, e53, hF⟩ := jn1_elim hF
        have j13 : K 62 [(0, vR 76), (2, vI x2), (3, vI x3), (4, vI s7)] [vI s12] h := by
          refine g_seg hK [.istore 5, .iload 4] 62 66 (L1 := [(5, vI s12), (0, vR 76), (2, vI x2), (3, vI x3), (4, vI s7)]) (st1 := [vI s7]) (h1 := h) (P := True ∧ True ∧ True) (by decide +kernel) rfl rfl ⟨trivial, trivial, trivial⟩ ?_
          obtain ⟨kj20, e21, hF⟩ := jk3_elim hF
          have j20 : ∀ (x2_17 : Int) (x3_18 : Int) (h19 : MH), kj20 x2_17 x3_18 h19 = some (x2', x3', h') → K 177 [(0, vR 76), (2, vI x2_17), (3, vI x3_18)] [] h19 := by
            intro x2_17 x3_18 h19 hF
            have hF := (e21 x2_17 x3_18 h19).symm.trans hF
            refine g_goto hK 177 (-163) 14 (by decide +kernel) (by decide) ?_
            exact ih _ _ _ _ _ _ hF hE
          obtain ⟨kj16, e41, hF⟩ := jk1_elim hF
          have j16 : ∀ (u15 : Unit), kj16 u15 = some (x2', x3', h') → K 107 [(0, vR 76), (2, vI x2), (3, vI x3), (4, vI s7), (5, vI s12)] [] h := by
            intro u15 hF
            have hF := (e41 u15).symm.trans hF
            refine g_seg hK [.iload 4] 107 109 (L1 := [(0, vR 76), (2, vI x2), (3, vI x3), (4, vI s7), (5, vI s12)]) (st1 := [vI s7]) (h1 := h) (P := True ∧ True) (by decide +kernel) rfl rfl ⟨trivial, trivial⟩ ?_
            obtain ⟨kj23, e28, hF⟩ := jk1_elim hF
            have j23 : ∀ (u22 : Unit), kj23 u22 = some (x2', x3', h') → K 163 [(0, vR 76), (2, vI x2), (3, vI x3)] [] h := by
              intro u22 hF
              have hF := (e28 u22).symm.trans hF
              refine g_seg hK [.aload_n 0, .iconst 2, .aload_n 0, .iconst 1, .iload_n 3] 163 168 (L1 := [(0, vR 76), (2, vI x2), (3, vI x3)]) (st1 := [vI x3, vI 1, vR 76, vI 2, vR 76]) (h1 := h) (P := True ∧ True ∧ True ∧ True ∧ True ∧ True) (by decide +kernel) rfl rfl ⟨trivial, trivial, trivial, trivial, trivial, trivial⟩ ?_
              obtain ⟨r24, e25, hF⟩ := ob1_elim hF
              refine g_callV1 hK 168 51 (d1 := 0) (ci := 7) (i := 76) (vs := [vI 1, vI x3]) (rest := [vI 2, vR 76]) (h1 := h) (r := vI r24) my_yX7_lineOf vw_X7_51 (by decide) (T_M_lineOf (p1 := 1) (p2 := x3) (h := h) (hF := e25)) rfl rfl rfl (Nat.le_of_ble_eq_true rfl) (by decide +kernel) ?_
              obtain ⟨h26, e27, hF⟩ := ob1_elim hF
              refine g_callV0 hK 171 68 (d1 := 0) (ci := 7) (i := 76) (vs := [vI 2, vI r24]) (rest := []) (h1 := h26) my_yX7_shows vw_X7_68 (by decide) (T_M_shows (p1 := 2) (p2 := r24) (h := h) (hF := e27)) rfl rfl rfl (Nat.le_of_ble_eq_true rfl) (by decide +kernel) ?_
              refine g_seg hK [.iinc 3 1] 174 177 (L1 := [(3, vI (wr (x3 + 1))), (0, vR 76), (2, vI x2)]) (st1 := []) (h1 := h26) (P := True ∧ True) (by decide +kernel) rfl rfl ⟨trivial, trivial⟩ ?_
              refine hK.2.1 _ _ ([(0, vR 76), (2, vI x2), (3, vI (wr (x3 + 1)))]) _ _ (sub_of [1, 2, 0] rfl) ?_
              exact j20 _ _ _ hF
            refine g_ifz hK 109 .eq (54) 163 (t1 := 163) (t2 := 112) (by decide +kernel) (by decide) rfl rfl (fun (hc29 : s7 = 0) => ?_) (fun (hc29 : ¬ (s7 = 0)) => ?_)
            · have hF := ite_t hc29 hF
              refine hK.2.1 _ _ ([(0, vR 76), (2, vI x2), (3, vI x3)]) _ _ (sub_of [0, 1, 2] rfl) ?_
              exact j23 _ hF
            · have hF := ite_f hc29 hF
              refine g_seg hK [.iload 5] 112 114 (L1 := [(0, vR 76), (2, vI x2), (3, vI x3), (4, vI s7), (5, vI s12)]) (st1 := [vI s12]) (h1 := h) (P := True ∧ True) (by decide +kernel) rfl rfl ⟨trivial, trivial⟩ ?_
              obtain ⟨kj31, e36, hF⟩ := jk1_elim hF
              have j31 : ∀ (u30 : Unit), kj31 u30 = some (x2', x3', h') → K 147 [(0, vR 76), (2, vI x2), (3, vI x3)] [] h := by
                intro u30 hF
                have hF := (e36 u30).symm.trans hF
                refine g_seg hK [.aload_n 0, .iconst 1, .aload_n 0, .iload_n 2] 147 151 (L1 := [(0, vR 76), (2, vI x2), (3, vI x3)]) (st1 := [vI x2, vR 76, vI 1, vR 76]) (h1 := h) (P := True ∧ True ∧ True ∧ True ∧ True) (by decide +kernel) rfl rfl ⟨trivial, trivial, trivial, trivial, trivial⟩ ?_
                obtain ⟨r32, e33, hF⟩ := ob1_elim hF
                refine g_callV1 hK 151 59 (d1 := 1) (ci := 7) (i := 76) (vs := [vI x2]) (rest := [vI 1, vR 76]) (h1 := h) (r := vI r32) my_yX7_old vw_X7_59 (by decide) (T_M_old (p1 := x2) (h := h) (hF := e33)) rfl rfl rfl (Nat.le_of_ble_eq_true rfl) (by decide +kernel) ?_
                obtain ⟨h34, e35, hF⟩ := ob1_elim hF
                refine g_callV0 hK 154 68 (d1 := 0) (ci := 7) (i := 76) (vs := [vI 1, vI r32]) (rest := []) (h1 := h34) my_yX7_shows vw_X7_68 (by decide) (T_M_shows (p1 := 1) (p2 := r32) (h := h) (hF := e35)) rfl rfl rfl (Nat.le_of_ble_eq_true rfl) (by decide +kernel) ?_
                refine g_seg hK [.iinc 2 1] 157 160 (L1 := [(2, vI (wr (x2 + 1))), (0, vR 76), (3, vI x3)]) (st1 := []) (h1 := h34) (P := True ∧ True) (by decide +kernel) rfl rfl ⟨trivial, trivial⟩ ?_
                refine g_goto hK 160 (17) 177 (by decide +kernel) (by decide) ?_
                refine hK.2.1 _ _ ([(0, vR 76), (2, vI (wr (x2 + 1))), (3, vI x3)]) _ _ (sub_of [1, 0, 2] rfl) ?_
                exact j20 _ _ _ hF
              refine g_ifz hK 114 .eq (33) 147 (t1 := 147) (t2 := 117) (by decide +kernel) (by decide) rfl rfl (fun (hc37 : s12 = 0) => ?_) (fun (hc37 : ¬ (s12 = 0)) => ?_)
              · have hF := ite_t hc37 hF
                refine hK.2.1 _ _ ([(0, vR 76), (2, vI x2), (3, vI x3)]) _ _ (sub_of [0, 1, 2] rfl) ?_
                exact j31 _ hF
              · have hF := ite_f hc37 hF
                refine g_seg hK [.aload_n 0, .getfield 22, .bipush 15, .iload_n 2, .imul, .bipush 15, .iadd, .iload_n 3, .iadd] 117 130 (L1 := [(0, vR 76), (2, vI x2), (3, vI x3), (4, vI s7), (5, vI s12)]) (st1 := [vI (wr ((wr ((wr (15 * x2)) + 15)) + x3)), vR 81]) (h1 := h) (P := True ∧ kd 76 = 9 ∧ True ∧ True ∧ True ∧ True ∧ True ∧ True ∧ True ∧ True) (by decide +kernel) rfl rfl ⟨trivial, rfl, trivial, trivial, trivial, trivial, trivial, trivial, trivial, trivial⟩ ?_
                obtain ⟨hg38, hF⟩ := gd_elim hF
                refine g_seg hK [.iaload, .aload_n 0, .getfield 22, .bipush 15, .iload_n 2, .imul, .iload_n 3, .iadd, .iconst 1, .iadd] 130 143 (L1 := [(0, vR 76), (2, vI x2), (3, vI x3), (4, vI s7), (5, vI s12)]) (st1 := [vI (wr ((wr ((wr (15 * x2)) + x3)) + 1)), vR 81, vI (h 81 (wr ((wr ((wr (15 * x2)) + 15)) + x3)).toNat)]) (h1 := h) (P := (kd 81 = 0 ∧ 0 ≤ wr ((wr ((wr (15 * x2)) + 15)) + x3) ∧ wr ((wr ((wr (15 * x2)) + 15)) + x3) < 225) ∧ True ∧ kd 76 = 9 ∧ True ∧ True ∧ True ∧ True ∧ True ∧ True ∧ True ∧ True) (by decide +kernel) rfl rfl ⟨⟨rfl, hg38⟩, trivial, rfl, trivial, trivial, trivial, trivial, trivial, trivial, trivial, trivial⟩ ?_
                obtain ⟨hg39, hF⟩ := gd_elim hF
                refine g_seg hK [.iaload] 143 144 (L1 := [(0, vR 76), (2, vI x2), (3, vI x3), (4, vI s7), (5, vI s12)]) (st1 := [vI (h 81 (wr ((wr ((wr (15 * x2)) + x3)) + 1)).toNat), vI (h 81 (wr ((wr ((wr (15 * x2)) + 15)) + x3)).toNat)]) (h1 := h) (P := (kd 81 = 0 ∧ 0 ≤ wr ((wr ((wr (15 * x2)) + x3)) + 1) ∧ wr ((wr ((wr (15 * x2)) + x3)) + 1) < 225) ∧ True) (by decide +kernel) rfl rfl ⟨⟨rfl, hg39⟩, trivial⟩ ?_
                refine g_icmp hK 144 .lt (19) 163 (t1 := 163) (t2 := 147) (by decide +kernel) (by decide) rfl rfl (fun (hc40 : h 81 (wr ((wr ((wr (15 * x2)) + 15)) + x3)).toNat < h 81 (wr ((wr ((wr (15 * x2)) + x3)) + 1)).toNat) => ?_) (fun (hc40 : ¬ (h 81 (wr ((wr ((wr (15 * x2)) + 15)) + x3)).toNat < h 81 (wr ((wr ((wr (15 * x2)) + x3)) + 1)).toNat)) => ?_)
                · have hF := ite_t hc40 hF
                  refine hK.2.1 _ _ ([(0, vR 76), (2, vI x2), (3, vI x3)]) _ _ (sub_of [0, 1, 2] rfl) ?_
                  exact j23 _ hF
                · have hF := ite_f hc40 hF
                  refine hK.2.1 _ _ ([(0, vR 76), (2, vI x2), (3, vI x3)]) _ _ (sub_of [0, 1, 2] rfl) ?_
                  exact j31 _ hF
          refine g_ifz hK 66 .eq (41) 107 (t1 := 107) (t2 := 69) (by decide +kernel) (by decide) rfl rfl (fun (hc42 : s7 = 0) => ?_) (fun (hc42 : ¬ (s7 = 0)) => ?_)
          · have hF := ite_t hc42 hF
            refine hK.2.1 _ _ ([(0, vR 76), (2, vI x2), (3, vI x3), (4, vI s7), (5, vI s12)]) _ _ (sub_of [1, 2, 3, 4, 0] rfl) ?_
            exact j16 _ hF
          · have hF := ite_f hc42 hF
            refine g_seg hK [.iload 5] 69 71 (L1 := [(5, vI s12), (0, vR 76), (2, vI x2), (3, vI x3), (4, vI s7)]) (st1 := [vI s12]) (h1 := h) (P := True ∧ True) (by decide +kernel) rfl rfl ⟨trivial, trivial⟩ ?_
            refine g_ifz hK 71 .eq (36) 107 (t1 := 107) (t2 := 74) (by decide +kernel) (by decide) rfl rfl (fun (hc43 : s12 = 0) => ?_) (fun (hc43 : ¬ (s12 = 0)) => ?_)
            · have hF := ite_t hc43 hF
              refine hK.2.1 _ _ ([(0, vR 76), (2, vI x2), (3, vI x3), (4, vI s7), (5, vI s12)]) _ _ (sub_of [1, 2, 3, 4, 0] rfl) ?_
              exact j16 _ hF
            · have hF := ite_f hc43 hF
              refine g_seg hK [.aload_n 0, .iload_n 2] 74 76 (L1 := [(5, vI s12), (0, vR 76), (2, vI x2), (3, vI x3), (4, vI s7)]) (st1 := [vI x2, vR 76]) (h1 := h) (P := True ∧ True ∧ True) (by decide +kernel) rfl rfl ⟨trivial, trivial, trivial⟩ ?_
              obtain ⟨r44, e45, hF⟩ := ob1_elim hF
              refine g_callV1 hK 76 59 (d1 := 1) (ci := 7) (i := 76) (vs := [vI x2]) (rest := []) (h1 := h) (r := vI r44) my_yX7_old vw_X7_59 (by decide) (T_M_old (p1 := x2) (h := h) (hF := e45)) rfl rfl rfl (Nat.le_of_ble_eq_true rfl) (by decide +kernel) ?_
              refine g_seg hK [.aload_n 0, .iconst 1, .iload_n 3] 79 82 (L1 := [(5, vI s12), (0, vR 76), (2, vI x2), (3, vI x3), (4, vI s7)]) (st1 := [vI x3, vI 1, vR 76, vI r44]) (h1 := h) (P := True ∧ True ∧ True ∧ True) (by decide +kernel) rfl rfl ⟨trivial, trivial, trivial, trivial⟩ ?_
              obtain ⟨r46, e47, hF⟩ := ob1_elim hF
              refine g_callV1 hK 82 51 (d1 := 0) (ci := 7) (i := 76) (vs := [vI 1, vI x3]) (rest := [vI r44]) (h1 := h) (r := vI r46) my_yX7_lineOf vw_X7_51 (by decide) (T_M_lineOf (p1 := 1) (p2 := x3) (h := h) (hF := e47)) rfl rfl rfl (Nat.le_of_ble_eq_true rfl) (by decide +kernel) ?_
              refine g_icmp hK 85 .ne (22) 107 (t1 := 88) (t2 := 107) (by decide +kernel) (by decide) rfl rfl (fun (hc48 : r44 = r46) => ?_) (fun (hc48 : ¬ (r44 = r46)) => ?_)
              · have hF := ite_t hc48 hF
                refine g_seg hK [.aload_n 0, .iconst 0, .aload_n 0, .iload_n 2] 88 92 (L1 := [(5, vI s12), (0, vR 76), (2, vI x2), (3, vI x3), (4, vI s7)]) (st1 := [vI x2, vR 76, vI 0, vR 76]) (h1 := h) (P := True ∧ True ∧ True ∧ True ∧ True) (by decide +kernel) rfl rfl ⟨trivial, trivial, trivial, trivial, trivial⟩ ?_
                obtain ⟨r49, e50, hF⟩ := ob1_elim hF
                refine g_callV1 hK 92 59 (d1 := 1) (ci := 7) (i := 76) (vs := [vI x2]) (rest := [vI 0, vR 76]) (h1 := h) (r := vI r49) my_yX7_old vw_X7_59 (by decide) (T_M_old (p1 := x2) (h := h) (hF := e50)) rfl rfl rfl (Nat.le_of_ble_eq_true rfl) (by decide +kernel) ?_
                obtain ⟨h51, e52, hF⟩ := ob1_elim hF
                refine g_callV0 hK 95 68 (d1 := 0) (ci := 7) (i := 76) (vs := [vI 0, vI r49]) (rest := []) (h1 := h51) my_yX7_shows vw_X7_68 (by decide) (T_M_shows (p1 := 0) (p2 := r49) (h := h) (hF := e52)) rfl rfl rfl (Nat.le_of_ble_eq_true rfl) (by decide +kernel) ?_
                refine g_seg hK [.iinc 2 1, .iinc 3 1] 98 104 (L1 := [(3, vI (wr (x3 + 1))), (2, vI (wr (x2 + 1))), (5, vI s12), (0, vR 76), (4, vI s7)]) (st1 := []) (h1 := h51) (P := True ∧ True ∧ True) (by decide +kernel) rfl rfl ⟨trivial, trivial, trivial⟩ ?_
                refine g_goto hK 104 (73) 177 (by decide +kernel) (by decide) ?_
                refine hK.2.1 _ _ ([(0, vR 76), (2, vI (wr (x2 + 1))), (3, vI (wr (x3 + 1)))]) _ _ (sub_of [3, 1, 0] rfl) ?_
                exact j20 _ _ _ hF
              · have hF := ite_f hc48 hF
                refine hK.2.1 _ _ ([(0, vR 76), (2, vI x2), (3, vI x3), (4, vI s7), (5, vI s12)]) _ _ (sub_of [1, 2, 3, 4, 0] rfl) ?_
                exact j16 _ hF
        clear hF
        have hF := e53
        refine g_icmp hK 54 .ge (7) 61 (t1 := 57) (t2 := 61) (by decide +kernel) (by decide) rfl rfl (fun (hc14 : x3 < r10) => ?_) (fun (hc14 : ¬ (x3 < r10)) => ?_)
        · have hF := ite_t hc14 hF
          refine g_seg hK [.iconst 1] 57 58 (L1 := [(4, vI s7), (0, vR 76), (2, vI x2), (3, vI x3)]) (st1 := [vI 1]) (h1 := h) (P := True ∧ True) (by decide +kernel) rfl rfl ⟨trivial, trivial⟩ ?_
          refine g_goto hK 58 (4) 62 (by decide +kernel) (by decide) ?_
          refine hK.2.1 _ _ ([(0, vR 76), (2, vI x2), (3, vI x3), (4, vI s7)]) _ _ (sub_of [1, 2, 3, 0] rfl) ?_
          cases hF
          exact j13
        · have hF := ite_f hc14 hF
          refine g_seg hK [.iconst 0] 61 62 (L1 := [(4, vI s7), (0, vR 76), (2, vI x2), (3, vI x3)]) (st1 := [vI 0]) (h1 := h) (P := True ∧ True) (by decide +kernel) rfl rfl ⟨trivial, trivial⟩ ?_
          refine hK.2.1 _ _ ([(0, vR 76), (2, vI x2), (3, vI x3), (4, vI s7)]) _ _ (sub_of [1, 2, 3, 0] rfl) ?_
          cases hF
          exact j13
      clear hF
      have hF := e54
      refine g_icmp hK 38 .ge (7) 45 (t1 := 41) (t2 := 45) (by decide +kernel) (by decide) rfl rfl (fun (hc9 : x2 < r5) => ?_) (fun (hc9 : ¬ (x2 < r5)) => ?_)
      · have hF := ite_t hc9 hF
        refine g_seg hK [.iconst 1] 41 42 (L1 := [(0, vR 76), (2, vI x2), (3, vI x3)]) (st1 := [vI 1]) (h1 := h) (P := True ∧ True) (by decide +kernel) rfl rfl ⟨trivial, trivial⟩ ?_
        refine g_goto hK 42 (4) 46 (by decide +kernel) (by decide) ?_
        cases hF
        exact j8
      · have hF := ite_f hc9 hF
        refine g_seg hK [.iconst 0] 45 46 (L1 := [(0, vR 76), (2, vI x2), (3, vI x3)]) (st1 := [vI 0]) (h1 := h) (P := True ∧ True) (by decide +kernel) rfl rfl ⟨trivial, trivial⟩ ?_
        cases hF
        exact j8
    refine g_icmp hK 20 .lt (12) 32 (t1 := 32) (t2 := 23) (by decide +kernel) (by decide) rfl rfl (fun (hc56 : x2 < r1) => ?_) (fun (hc56 : ¬ (x2 < r1)) => ?_)
    · have hF := ite_t hc56 hF
      exact j4 _ hF
    · have hF := ite_f hc56 hF
      refine g_seg hK [.iload_n 3, .aload_n 0, .iconst 1] 23 26 (L1 := [(0, vR 76), (2, vI x2), (3, vI x3)]) (st1 := [vI 1, vR 76, vI x3]) (h1 := h) (P := True ∧ True ∧ True ∧ True) (by decide +kernel) rfl rfl ⟨trivial, trivial, trivial, trivial⟩ ?_
      obtain ⟨r57, e58, hF⟩ := ob1_elim hF
      refine g_callV1 hK 26 47 (d1 := 0) (ci := 7) (i := 76) (vs := [vI 1]) (rest := [vI x3]) (h1 := h) (r := vI r57) my_yX7_lines vw_X7_47 (by decide) (T_M_lines (p1 := 1) (h := h) (hF := e58)) rfl rfl rfl (Nat.le_of_ble_eq_true rfl) (by decide +kernel) ?_
      refine g_icmp hK 29 .ge (151) 180 (t1 := 32) (t2 := 180) (by decide +kernel) (by decide) rfl rfl (fun (hc59 : x3 < r57) => ?_) (fun (hc59 : ¬ (x3 < r57)) => ?_)
      · have hF := ite_t hc59 hF
        exact j4 _ hF
      · have hF := ite_f hc59 hF
        cases hF
        exact hE
set_option maxHeartbeats 4000000 in
set_option maxRecDepth 100000 in
theorem LT_M_views_L183 {K : KT} (hK : Rules RX7 cX7_views 6 none flX7 6 K) : ∀ (n : Nat) (x4 : Int) (h : MH) (x4' : Int) (h' : MH), F_M_views_L183 n x4 h = some (x4', h') → K 215 [(0, vR 76), (4, vI x4')] [] h' → K 183 [(0, vR 76), (4, vI x4)] [] h := by
  intro n
  induction n with
  | zero =>
    intro x4 h x4' h' hF
    cases hF
  | succ n ih =>
    intro x4 h x4' h' hF hE
    unfold F_M_views_L183 at hF
    refine g_seg hK [.iload 4, .aload_n 0] 183 186 (L1 := [(0, vR 76), (4, vI x4)]) (st1 := [vR 76, vI x4]) (h1 := h) (P := True ∧ True ∧ True) (by decide +kernel) rfl rfl ⟨trivial, trivial, trivial⟩ ?_
    obtain ⟨r1, e2, hF⟩ := ob1_elim hF
    refine g_callV1 hK 186 72 (d1 := 1) (ci := 7) (i := 76) (vs := []) (rest := [vI x4]) (h1 := h) (r := vI r1) my_yX7_hunks vw_X7_72 (by decide) (T_M_hunks (h := h) (hF := e2)) rfl rfl rfl (Nat.le_of_ble_eq_true rfl) (by decide +kernel) ?_
    refine g_icmp hK 189 .ge (26) 215 (t1 := 192) (t2 := 215) (by decide +kernel) (by decide) rfl rfl (fun (hc3 : x4 < r1) => ?_) (fun (hc3 : ¬ (x4 < r1)) => ?_)
    · have hF := ite_t hc3 hF
      refine g_seg hK [.aload_n 0, .getfield 7, .bipush 46, .iaload, .iconst 1] 192 200 (L1 := [(0, vR 76), (4, vI x4)]) (st1 := [vI 1, vI (h 77 46)]) (h1 := h) (P := True ∧ kd 76 = 9 ∧ True ∧ (kd 77 = 0 ∧ 0 ≤ 46 ∧ 46 < 49) ∧ True ∧ True) (by decide +kernel) rfl rfl ⟨trivial, rfl, trivial, ⟨rfl, (by decide)⟩, trivial, trivial⟩ ?_
      refine g_icmp hK 200 .ne (15) 215 (t1 := 203) (t2 := 215) (by decide +kernel) (by decide) rfl rfl (fun (hc4 : h 77 46 = 1) => ?_) (fun (hc4 : ¬ (h 77 46 = 1)) => ?_)
      · have hF := ite_t hc4 hF
        refine g_seg hK [.aload_n 0, .iload 4] 203 206 (L1 := [(0, vR 76), (4, vI x4)]) (st1 := [vI x4, vR 76]) (h1 := h) (P := True ∧ True ∧ True) (by decide +kernel) rfl rfl ⟨trivial, trivial, trivial⟩ ?_
        obtain ⟨h5, e6, hF⟩ := ob1_elim hF
        refine g_callV0 hK 206 75 (d1 := 5) (ci := 7) (i := 76) (vs := [vI x4]) (rest := []) (h1 := h5) my_yX7_settles vw_X7_75 (by decide) (T_M_settles (p1 := x4) (h := h) (hF := e6)) rfl rfl rfl (Nat.le_of_ble_eq_true rfl) (by decide +kernel) ?_
        refine g_seg hK [.iinc 4 1] 209 212 (L1 := [(4, vI (wr (x4 + 1))), (0, vR 76)]) (st1 := []) (h1 := h5) (P := True ∧ True) (by decide +kernel) rfl rfl ⟨trivial, trivial⟩ ?_
        refine g_goto hK 212 (-29) 183 (by decide +kernel) (by decide) ?_
        refine hK.2.1 _ _ ([(0, vR 76), (4, vI (wr (x4 + 1)))]) _ _ (sub_of [1, 0] rfl) ?_
        exact ih _ _ _ _ hF hE
      · have hF := ite_f hc4 hF
        cases hF
        exact hE
    · have hF := ite_f hc3 hF
      cases hF
      exact hE
set_option maxHeartbeats 4000000 in
set_option maxRecDepth 100000 in
theorem T_M_views {h : MH} {h' : MH} (hF : F_M_views h = some h') : CON 6 yX7_views cX7_views 6 none [vR 76] h none h' := by
  refine con_of (own := RX7) (fl := flX7) (by decide +kernel) rfl flok_X7 rfl (Nat.le_of_ble_eq_true rfl) ?_
  intro K hK hR
  show K 0 [(0, vR 76)] [] h
  unfold F_M_views at hF
  refine g_seg hK [.aload_n 0] 0 1 (L1 := [(0, vR 76)]) (st1 := [vR 76]) (h1 := h) (P := True ∧ True) (by decide +kernel) rfl rfl ⟨trivial, trivial⟩ ?_
  obtain ⟨r1, h2, e3, hF⟩ := ob2_elim hF
  refine g_callV1 hK 1 65 (d1 := 2) (ci := 7) (i := 76) (vs := []) (rest := []) (h1 := h2) (r := vI r1) my_yX7_counts vw_X7_65 (by decide) (T_M_counts (h := h) (hF := e3)) rfl rfl rfl (Nat.le_of_ble_eq_true rfl) (by decide +kernel) ?_
  refine g_seg hK [.istore_n 1, .iconst 0, .istore_n 2, .iconst 0, .istore_n 3, .aload_n 0, .iconst 0, .putfield 62] 4 14 (L1 := [(3, vI 0), (2, vI 0), (1, vI r1), (0, vR 76)]) (st1 := []) (h1 := (up h2 76 11 0)) (P := True ∧ True ∧ True ∧ True ∧ True ∧ True ∧ True ∧ kd 76 = 9 ∧ True) (by decide +kernel) rfl rfl ⟨trivial, trivial, trivial, trivial, trivial, trivial, trivial, rfl, trivial⟩ ?_
  refine hK.2.1 _ _ ([(0, vR 76), (2, vI 0), (3, vI 0)]) _ _ (sub_of [3, 1, 0] rfl) ?_
  obtain ⟨x2_4, x3_5, h6, e7, hF⟩ := ob3_elim hF
  refine LT_M_views_L14 hK _ _ _ _ _ _ _ e7 ?_
  refine g_seg hK [.iconst 0, .istore 4] 180 183 (L1 := [(4, vI 0), (0, vR 76), (2, vI x2_4), (3, vI x3_5)]) (st1 := []) (h1 := h6) (P := True ∧ True ∧ True) (by decide +kernel) rfl rfl ⟨trivial, trivial, trivial⟩ ?_
  refine hK.2.1 _ _ ([(0, vR 76), (4, vI 0)]) _ _ (sub_of [1, 0] rfl) ?_
  obtain ⟨x4_8, h9, e10, hF⟩ := ob2_elim hF
  refine LT_M_views_L183 hK _ _ _ _ _ e10 ?_
  cases hF
  exact hR.2.2.2.2 215 _ _ (by decide +kernel) rfl ⟨rfl, rfl⟩
set_option maxHeartbeats 4000000 in
set_option maxRecDepth 100000 in
theorem LT_M_around_L33 {K : KT} (hK : Rules RX7 cX7_around 7 (Option.some Jvm.ClassFile.FieldType.int) flX7 1 K) {x3 : Int} {x4 : Int} {x5 : Int} {h : MH} : ∀ (n : Nat) (x6 : Int) (x6' : Int), F_M_around_L33 x3 x4 x5 h n x6 = some x6' → K 82 [(0, vR 76), (3, vI x3), (4, vI x4), (5, vI x5), (6, vI x6')] [] h → K 33 [(0, vR 76), (3, vI x3), (4, vI x4), (5, vI x5), (6, vI x6)] [] h := by
  intro n
  induction n with
  | zero =>
    intro x6 x6' hF
    cases hF
  | succ n ih =>
    intro x6 x6' hF hE
    unfold F_M_around_L33 at hF
    refine g_seg hK [.iload 6, .iload_n 3] 33 36 (L1 := [(0, vR 76), (3, vI x3), (4, vI x4), (5, vI x5), (6, vI x6)]) (st1 := [vI x3, vI x6]) (h1 := h) (P := True ∧ True ∧ True) (by decide +kernel) rfl rfl ⟨trivial, trivial, trivial⟩ ?_
    refine g_icmp hK 36 .ge (46) 82 (t1 := 39) (t2 := 82) (by decide +kernel) (by decide) rfl rfl (fun (hc1 : x6 < x3) => ?_) (fun (hc1 : ¬ (x6 < x3)) => ?_)
    · have hF := ite_t hc1 hF
      refine g_seg hK [.iload 5, .iload 6, .iload 4, .imul, .iadd, .iconst 0, .aload_n 0, .getfield 62, .iconst 1, .isub] 39 54 (L1 := [(0, vR 76), (3, vI x3), (4, vI x4), (5, vI x5), (6, vI x6)]) (st1 := [vI (wr ((h 76 11) - 1)), vI 0, vI (wr (x5 + (wr (x6 * x4))))]) (h1 := h) (P := True ∧ True ∧ True ∧ True ∧ True ∧ True ∧ True ∧ kd 76 = 9 ∧ True ∧ True ∧ True) (by decide +kernel) rfl rfl ⟨trivial, trivial, trivial, trivial, trivial, trivial, trivial, rfl, trivial, trivial, trivial⟩ ?_
      refine g_callS1 hK 54 89 (d1 := 0) (vs := [vI (wr (x5 + (wr (x6 * x4)))), vI 0, vI (wr ((h 76 11) - 1))]) (rest := []) (h1 := h) (r := vI (F_M_in (wr (x5 + (wr (x6 * x4)))) 0 (wr ((h 76 11) - 1)))) my_yX7_in sw_X7_89 (by decide) (T_M_in (p1 := (wr (x5 + (wr (x6 * x4))))) (p2 := 0) (p3 := (wr ((h 76 11) - 1))) (h := h) (hF := rfl)) rfl (Nat.le_of_ble_eq_true rfl) (by decide +kernel) ?_
      refine g_ifz hK 57 .eq (25) 82 (t1 := 82) (t2 := 60) (by decide +kernel) (by decide) rfl rfl (fun (hc2 : F_M_in (wr (x5 + (wr (x6 * x4)))) 0 (wr ((h 76 11) - 1)) = 0) => ?_) (fun (hc2 : ¬ (F_M_in (wr (x5 + (wr (x6 * x4)))) 0 (wr ((h 76 11) - 1)) = 0)) => ?_)
      · have hF := ite_t hc2 hF
        cases hF
        exact hE
      · have hF := ite_f hc2 hF
        refine g_seg hK [.aload_n 0, .getfield 28, .iload 5, .iload 6, .iload 4, .imul, .iadd] 60 72 (L1 := [(0, vR 76), (3, vI x3), (4, vI x4), (5, vI x5), (6, vI x6)]) (st1 := [vI (wr (x5 + (wr (x6 * x4)))), vR 83]) (h1 := h) (P := True ∧ kd 76 = 9 ∧ True ∧ True ∧ True ∧ True ∧ True ∧ True) (by decide +kernel) rfl rfl ⟨trivial, rfl, trivial, trivial, trivial, trivial, trivial, trivial⟩ ?_
        obtain ⟨hg3, hF⟩ := gd_elim hF
        refine g_seg hK [.iaload] 72 73 (L1 := [(0, vR 76), (3, vI x3), (4, vI x4), (5, vI x5), (6, vI x6)]) (st1 := [vI (h 83 (wr (x5 + (wr (x6 * x4)))).toNat)]) (h1 := h) (P := (kd 83 = 0 ∧ 0 ≤ wr (x5 + (wr (x6 * x4))) ∧ wr (x5 + (wr (x6 * x4))) < 28) ∧ True) (by decide +kernel) rfl rfl ⟨⟨rfl, hg3⟩, trivial⟩ ?_
        refine g_ifz hK 73 .ne (9) 82 (t1 := 76) (t2 := 82) (by decide +kernel) (by decide) rfl rfl (fun (hc4 : h 83 (wr (x5 + (wr (x6 * x4)))).toNat = 0) => ?_) (fun (hc4 : ¬ (h 83 (wr (x5 + (wr (x6 * x4)))).toNat = 0)) => ?_)
        · have hF := ite_t hc4 hF
          refine g_seg hK [.iinc 6 1] 76 79 (L1 := [(6, vI (wr (x6 + 1))), (0, vR 76), (3, vI x3), (4, vI x4), (5, vI x5)]) (st1 := []) (h1 := h) (P := True ∧ True) (by decide +kernel) rfl rfl ⟨trivial, trivial⟩ ?_
          refine g_goto hK 79 (-46) 33 (by decide +kernel) (by decide) ?_
          refine hK.2.1 _ _ ([(0, vR 76), (3, vI x3), (4, vI x4), (5, vI x5), (6, vI (wr (x6 + 1)))]) _ _ (sub_of [1, 2, 3, 4, 0] rfl) ?_
          exact ih _ _ hF hE
        · have hF := ite_f hc4 hF
          cases hF
          exact hE
    · have hF := ite_f hc1 hF
      cases hF
      exact hE
set_option maxHeartbeats 4000000 in
set_option maxRecDepth 100000 in
theorem T_M_around {p1 : Int} {p2 : Int} {p3 : Int} {h : MH} {r : Int} (hF : F_M_around p1 p2 p3 h = some r) : CON 1 yX7_around cX7_around 7 (Option.some Jvm.ClassFile.FieldType.int) [vR 76, vI p1, vI p2, vI p3] h (some (vI r)) h := by
  refine con_of (own := RX7) (fl := flX7) (by decide +kernel) rfl flok_X7 rfl (Nat.le_of_ble_eq_true rfl) ?_
  intro K hK hR
  show K 0 [(0, vR 76), (1, vI p1), (2, vI p2), (3, vI p3)] [] h
  unfold F_M_around at hF
  refine g_seg hK [.iload_n 2] 0 1 (L1 := [(0, vR 76), (1, vI p1), (2, vI p2), (3, vI p3)]) (st1 := [vI p2]) (h1 := h) (P := True ∧ True) (by decide +kernel) rfl rfl ⟨trivial, trivial⟩ ?_
  obtain ⟨s1, e12, hF⟩ := jn1_elim hF
  have j2 : K 9 [(0, vR 76), (1, vI p1), (2, vI p2), (3, vI p3)] [vI s1] h := by
    refine g_seg hK [.istore 4, .iload_n 2] 9 12 (L1 := [(4, vI s1), (0, vR 76), (1, vI p1), (2, vI p2), (3, vI p3)]) (st1 := [vI p2]) (h1 := h) (P := True ∧ True ∧ True) (by decide +kernel) rfl rfl ⟨trivial, trivial, trivial⟩ ?_
    obtain ⟨kj5, e8, hF⟩ := jk1_elim hF
    have j5 : ∀ (s4 : Int), kj5 s4 = some r → K 28 [(0, vR 76), (3, vI p3), (4, vI s1)] [vI s4] h := by
      intro s4 hF
      have hF := (e8 s4).symm.trans hF
      refine g_seg hK [.istore 5, .iconst 0, .istore 6] 28 33 (L1 := [(6, vI 0), (5, vI s4), (0, vR 76), (3, vI p3), (4, vI s1)]) (st1 := []) (h1 := h) (P := True ∧ True ∧ True ∧ True) (by decide +kernel) rfl rfl ⟨trivial, trivial, trivial, trivial⟩ ?_
      refine hK.2.1 _ _ ([(0, vR 76), (3, vI p3), (4, vI s1), (5, vI s4), (6, vI 0)]) _ _ (sub_of [2, 3, 4, 1, 0] rfl) ?_
      obtain ⟨x6_6, e7, hF⟩ := ob1_elim hF
      refine LT_M_around_L33 hK _ _ _ e7 ?_
      refine g_seg hK [.iload 6] 82 84 (L1 := [(0, vR 76), (3, vI p3), (4, vI s1), (5, vI s4), (6, vI x6_6)]) (st1 := [vI x6_6]) (h1 := h) (P := True ∧ True) (by decide +kernel) rfl rfl ⟨trivial, trivial⟩ ?_
      cases hF
      exact hR.1 84 _ _ _ (by decide +kernel) rfl ⟨rfl, rfl⟩
    refine g_ifz hK 12 .eq (13) 25 (t1 := 25) (t2 := 15) (by decide +kernel) (by decide) rfl rfl (fun (hc9 : p2 = 0) => ?_) (fun (hc9 : ¬ (p2 = 0)) => ?_)
    · have hF := ite_t hc9 hF
      refine g_seg hK [.iload_n 1, .iconst 1, .isub] 25 28 (L1 := [(4, vI s1), (0, vR 76), (1, vI p1), (2, vI p2), (3, vI p3)]) (st1 := [vI (wr (p1 - 1))]) (h1 := h) (P := True ∧ True ∧ True ∧ True) (by decide +kernel) rfl rfl ⟨trivial, trivial, trivial, trivial⟩ ?_
      refine hK.2.1 _ _ ([(0, vR 76), (3, vI p3), (4, vI s1)]) _ _ (sub_of [1, 4, 0] rfl) ?_
      exact j5 _ hF
    · have hF := ite_f hc9 hF
      refine g_seg hK [.iload_n 1, .aload_n 0, .iload_n 1] 15 18 (L1 := [(4, vI s1), (0, vR 76), (1, vI p1), (2, vI p2), (3, vI p3)]) (st1 := [vI p1, vR 76, vI p1]) (h1 := h) (P := True ∧ True ∧ True ∧ True) (by decide +kernel) rfl rfl ⟨trivial, trivial, trivial, trivial⟩ ?_
      obtain ⟨r10, e11, hF⟩ := ob1_elim hF
      refine g_callV1 hK 18 83 (d1 := 0) (ci := 7) (i := 76) (vs := [vI p1]) (rest := [vI p1]) (h1 := h) (r := vI r10) my_yX7_size vw_X7_83 (by decide) (T_M_size (p1 := p1) (h := h) (hF := e11)) rfl rfl rfl (Nat.le_of_ble_eq_true rfl) (by decide +kernel) ?_
      refine g_seg hK [.iadd] 21 22 (L1 := [(4, vI s1), (0, vR 76), (1, vI p1), (2, vI p2), (3, vI p3)]) (st1 := [vI (wr (p1 + r10))]) (h1 := h) (P := True ∧ True) (by decide +kernel) rfl rfl ⟨trivial, trivial⟩ ?_
      refine g_goto hK 22 (6) 28 (by decide +kernel) (by decide) ?_
      refine hK.2.1 _ _ ([(0, vR 76), (3, vI p3), (4, vI s1)]) _ _ (sub_of [1, 4, 0] rfl) ?_
      exact j5 _ hF
  clear hF
  have hF := e12
  refine g_ifz hK 1 .eq (7) 8 (t1 := 8) (t2 := 4) (by decide +kernel) (by decide) rfl rfl (fun (hc3 : p2 = 0) => ?_) (fun (hc3 : ¬ (p2 = 0)) => ?_)
  · have hF := ite_t hc3 hF
    refine g_seg hK [.iconst (-1)] 8 9 (L1 := [(0, vR 76), (1, vI p1), (2, vI p2), (3, vI p3)]) (st1 := [vI (-1)]) (h1 := h) (P := True ∧ True) (by decide +kernel) rfl rfl ⟨trivial, trivial⟩ ?_
    cases hF
    exact j2
  · have hF := ite_f hc3 hF
    refine g_seg hK [.iconst 1] 4 5 (L1 := [(0, vR 76), (1, vI p1), (2, vI p2), (3, vI p3)]) (st1 := [vI 1]) (h1 := h) (P := True ∧ True) (by decide +kernel) rfl rfl ⟨trivial, trivial⟩ ?_
    refine g_goto hK 5 (4) 9 (by decide +kernel) (by decide) ?_
    cases hF
    exact j2
set_option maxHeartbeats 4000000 in
set_option maxRecDepth 100000 in
theorem LT_M_linesBut_L6 {K : KT} (hK : Rules RX7 cX7_linesBut 6 (Option.some Jvm.ClassFile.FieldType.int) flX7 0 K) {x2 : Int} {x3 : Int} {h : MH} : ∀ (n : Nat) (x4 : Int) (x5 : Int) (x4' : Int) (x5' : Int), F_M_linesBut_L6 x2 x3 h n x4 x5 = some (x4', x5') → K 39 [(0, vR 76), (2, vI x2), (3, vI x3), (4, vI x4'), (5, vI x5')] [] h → K 6 [(0, vR 76), (2, vI x2), (3, vI x3), (4, vI x4), (5, vI x5)] [] h := by
  intro n
  induction n with
  | zero =>
    intro x4 x5 x4' x5' hF
    cases hF
  | succ n ih =>
    intro x4 x5 x4' x5' hF hE
    unfold F_M_linesBut_L6 at hF
    refine g_seg hK [.iload 5, .iload_n 2] 6 9 (L1 := [(0, vR 76), (2, vI x2), (3, vI x3), (4, vI x4), (5, vI x5)]) (st1 := [vI x2, vI x5]) (h1 := h) (P := True ∧ True ∧ True) (by decide +kernel) rfl rfl ⟨trivial, trivial, trivial⟩ ?_
    refine g_icmp hK 9 .ge (30) 39 (t1 := 12) (t2 := 39) (by decide +kernel) (by decide) rfl rfl (fun (hc1 : x5 < x2) => ?_) (fun (hc1 : ¬ (x5 < x2)) => ?_)
    · have hF := ite_t hc1 hF
      refine g_seg hK [.iload 4, .aload_n 0, .getfield 28, .iload 5] 12 20 (L1 := [(0, vR 76), (2, vI x2), (3, vI x3), (4, vI x4), (5, vI x5)]) (st1 := [vI x5, vR 83, vI x4]) (h1 := h) (P := True ∧ True ∧ kd 76 = 9 ∧ True ∧ True) (by decide +kernel) rfl rfl ⟨trivial, trivial, rfl, trivial, trivial⟩ ?_
      obtain ⟨hg2, hF⟩ := gd_elim hF
      refine g_seg hK [.iaload, .iload_n 3] 20 22 (L1 := [(0, vR 76), (2, vI x2), (3, vI x3), (4, vI x4), (5, vI x5)]) (st1 := [vI x3, vI (h 83 x5.toNat), vI x4]) (h1 := h) (P := (kd 83 = 0 ∧ 0 ≤ x5 ∧ x5 < 28) ∧ True ∧ True) (by decide +kernel) rfl rfl ⟨⟨rfl, hg2⟩, trivial, trivial⟩ ?_
      obtain ⟨s3, e6, hF⟩ := jn1_elim hF
      have j4 : K 30 [(0, vR 76), (2, vI x2), (3, vI x3), (5, vI x5)] [vI s3, vI x4] h := by
        refine g_seg hK [.iadd, .istore 4, .iinc 5 1] 30 36 (L1 := [(5, vI (wr (x5 + 1))), (4, vI (wr (x4 + s3))), (0, vR 76), (2, vI x2), (3, vI x3)]) (st1 := []) (h1 := h) (P := True ∧ True ∧ True ∧ True) (by decide +kernel) rfl rfl ⟨trivial, trivial, trivial, trivial⟩ ?_
        refine g_goto hK 36 (-30) 6 (by decide +kernel) (by decide) ?_
        refine hK.2.1 _ _ ([(0, vR 76), (2, vI x2), (3, vI x3), (4, vI (wr (x4 + s3))), (5, vI (wr (x5 + 1)))]) _ _ (sub_of [2, 3, 4, 1, 0] rfl) ?_
        exact ih _ _ _ _ hF hE
      clear hF
      have hF := e6
      refine g_icmp hK 22 .ne (7) 29 (t1 := 25) (t2 := 29) (by decide +kernel) (by decide) rfl rfl (fun (hc5 : h 83 x5.toNat = x3) => ?_) (fun (hc5 : ¬ (h 83 x5.toNat = x3)) => ?_)
      · have hF := ite_t hc5 hF
        refine g_seg hK [.iconst 0] 25 26 (L1 := [(0, vR 76), (2, vI x2), (3, vI x3), (4, vI x4), (5, vI x5)]) (st1 := [vI 0, vI x4]) (h1 := h) (P := True ∧ True) (by decide +kernel) rfl rfl ⟨trivial, trivial⟩ ?_
        refine g_goto hK 26 (4) 30 (by decide +kernel) (by decide) ?_
        refine hK.2.1 _ _ ([(0, vR 76), (2, vI x2), (3, vI x3), (5, vI x5)]) _ _ (sub_of [0, 1, 2, 4] rfl) ?_
        cases hF
        exact j4
      · have hF := ite_f hc5 hF
        refine g_seg hK [.iconst 1] 29 30 (L1 := [(0, vR 76), (2, vI x2), (3, vI x3), (4, vI x4), (5, vI x5)]) (st1 := [vI 1, vI x4]) (h1 := h) (P := True ∧ True) (by decide +kernel) rfl rfl ⟨trivial, trivial⟩ ?_
        refine hK.2.1 _ _ ([(0, vR 76), (2, vI x2), (3, vI x3), (5, vI x5)]) _ _ (sub_of [0, 1, 2, 4] rfl) ?_
        cases hF
        exact j4
    · have hF := ite_f hc1 hF
      cases hF
      exact hE
set_option maxHeartbeats 4000000 in
set_option maxRecDepth 100000 in
theorem T_M_linesBut {p1 : Int} {p2 : Int} {p3 : Int} {h : MH} {r : Int} (hF : F_M_linesBut p1 p2 p3 h = some r) : CON 0 yX7_linesBut cX7_linesBut 6 (Option.some Jvm.ClassFile.FieldType.int) [vR 76, vI p1, vI p2, vI p3] h (some (vI r)) h := by
  refine con_of (own := RX7) (fl := flX7) (by decide +kernel) rfl flok_X7 rfl (Nat.le_of_ble_eq_true rfl) ?_
  intro K hK hR
  show K 0 [(0, vR 76), (1, vI p1), (2, vI p2), (3, vI p3)] [] h
  unfold F_M_linesBut at hF
  refine g_seg hK [.iconst 0, .istore 4, .iload_n 1, .istore 5] 0 6 (L1 := [(5, vI p1), (4, vI 0), (0, vR 76), (1, vI p1), (2, vI p2), (3, vI p3)]) (st1 := []) (h1 := h) (P := True ∧ True ∧ True ∧ True ∧ True) (by decide +kernel) rfl rfl ⟨trivial, trivial, trivial, trivial, trivial⟩ ?_
  refine hK.2.1 _ _ ([(0, vR 76), (2, vI p2), (3, vI p3), (4, vI 0), (5, vI p1)]) _ _ (sub_of [2, 4, 5, 1, 0] rfl) ?_
  obtain ⟨x4_1, x5_2, e3, hF⟩ := ob2_elim hF
  refine LT_M_linesBut_L6 hK _ _ _ _ _ e3 ?_
  refine g_seg hK [.iload 4] 39 41 (L1 := [(0, vR 76), (2, vI p2), (3, vI p3), (4, vI x4_1), (5, vI x5_2)]) (st1 := [vI x4_1]) (h1 := h) (P := True ∧ True) (by decide +kernel) rfl rfl ⟨trivial, trivial⟩ ?_
  cases hF
  exact hR.1 41 _ _ _ (by decide +kernel) rfl ⟨rfl, rfl⟩
set_option maxHeartbeats 4000000 in
set_option maxRecDepth 100000 in
theorem LT_M_fits_L9 {K : KT} (hK : Rules RX7 cX7_fits 8 (Option.some Jvm.ClassFile.FieldType.boolean) flX7 0 K) {x3 : Int} {x4 : Int} {h : MH} : ∀ (n : Nat) (x5 : Int) (x6 : Int) (x7 : Int) (x5' : Int) (x6' : Int) (x7' : Int), F_M_fits_L9 x3 x4 h n x5 x6 x7 = some (x5', x6', x7') → K 84 [(0, vR 76), (3, vI x3), (4, vI x4), (5, vI x5'), (6, vI x6'), (7, vI x7')] [] h → K 9 [(0, vR 76), (3, vI x3), (4, vI x4), (5, vI x5), (6, vI x6), (7, vI x7)] [] h := by
  intro n
  induction n with
  | zero =>
    intro x5 x6 x7 x5' x6' x7' hF
    cases hF
  | succ n ih =>
    intro x5 x6 x7 x5' x6' x7' hF hE
    unfold F_M_fits_L9 at hF
    refine g_seg hK [.iload 7, .iload_n 3] 9 12 (L1 := [(0, vR 76), (3, vI x3), (4, vI x4), (5, vI x5), (6, vI x6), (7, vI x7)]) (st1 := [vI x3, vI x7]) (h1 := h) (P := True ∧ True ∧ True) (by decide +kernel) rfl rfl ⟨trivial, trivial, trivial⟩ ?_
    refine g_icmp hK 12 .ge (72) 84 (t1 := 15) (t2 := 84) (by decide +kernel) (by decide) rfl rfl (fun (hc1 : x7 < x3) => ?_) (fun (hc1 : ¬ (x7 < x3)) => ?_)
    · have hF := ite_t hc1 hF
      refine g_seg hK [.iload 6] 15 17 (L1 := [(0, vR 76), (3, vI x3), (4, vI x4), (5, vI x5), (6, vI x6), (7, vI x7)]) (st1 := [vI x6]) (h1 := h) (P := True ∧ True) (by decide +kernel) rfl rfl ⟨trivial, trivial⟩ ?_
      obtain ⟨kj5, e11, hF⟩ := jk1_elim hF
      have j5 : ∀ (s4 : Int), kj5 s4 = some (x5', x6', x7') → K 54 [(0, vR 76), (3, vI x3), (4, vI x4), (5, vI x5), (7, vI x7)] [vI s4] h := by
        intro s4 hF
        have hF := (e11 s4).symm.trans hF
        refine g_seg hK [.istore 6, .iload 5, .aload_n 0, .getfield 28, .iload 7] 54 64 (L1 := [(6, vI s4), (0, vR 76), (3, vI x3), (4, vI x4), (5, vI x5), (7, vI x7)]) (st1 := [vI x7, vR 83, vI x5]) (h1 := h) (P := True ∧ True ∧ True ∧ kd 76 = 9 ∧ True ∧ True) (by decide +kernel) rfl rfl ⟨trivial, trivial, trivial, rfl, trivial, trivial⟩ ?_
        obtain ⟨hg6, hF⟩ := gd_elim hF
        refine g_seg hK [.iaload, .iload 4] 64 67 (L1 := [(6, vI s4), (0, vR 76), (3, vI x3), (4, vI x4), (5, vI x5), (7, vI x7)]) (st1 := [vI x4, vI (h 83 x7.toNat), vI x5]) (h1 := h) (P := (kd 83 = 0 ∧ 0 ≤ x7 ∧ x7 < 28) ∧ True ∧ True) (by decide +kernel) rfl rfl ⟨⟨rfl, hg6⟩, trivial, trivial⟩ ?_
        obtain ⟨s7, e10, hF⟩ := jn1_elim hF
        have j8 : K 75 [(0, vR 76), (3, vI x3), (4, vI x4), (6, vI s4), (7, vI x7)] [vI s7, vI x5] h := by
          refine g_seg hK [.iadd, .istore 5, .iinc 7 1] 75 81 (L1 := [(7, vI (wr (x7 + 1))), (5, vI (wr (x5 + s7))), (0, vR 76), (3, vI x3), (4, vI x4), (6, vI s4)]) (st1 := []) (h1 := h) (P := True ∧ True ∧ True ∧ True) (by decide +kernel) rfl rfl ⟨trivial, trivial, trivial, trivial⟩ ?_
          refine g_goto hK 81 (-72) 9 (by decide +kernel) (by decide) ?_
          refine hK.2.1 _ _ ([(0, vR 76), (3, vI x3), (4, vI x4), (5, vI (wr (x5 + s7))), (6, vI s4), (7, vI (wr (x7 + 1)))]) _ _ (sub_of [2, 3, 4, 1, 5, 0] rfl) ?_
          exact ih _ _ _ _ _ _ hF hE
        clear hF
        have hF := e10
        refine g_icmp hK 67 .ne (7) 74 (t1 := 70) (t2 := 74) (by decide +kernel) (by decide) rfl rfl (fun (hc9 : h 83 x7.toNat = x4) => ?_) (fun (hc9 : ¬ (h 83 x7.toNat = x4)) => ?_)
        · have hF := ite_t hc9 hF
          refine g_seg hK [.iconst 0] 70 71 (L1 := [(6, vI s4), (0, vR 76), (3, vI x3), (4, vI x4), (5, vI x5), (7, vI x7)]) (st1 := [vI 0, vI x5]) (h1 := h) (P := True ∧ True) (by decide +kernel) rfl rfl ⟨trivial, trivial⟩ ?_
          refine g_goto hK 71 (4) 75 (by decide +kernel) (by decide) ?_
          refine hK.2.1 _ _ ([(0, vR 76), (3, vI x3), (4, vI x4), (6, vI s4), (7, vI x7)]) _ _ (sub_of [1, 2, 3, 0, 5] rfl) ?_
          cases hF
          exact j8
        · have hF := ite_f hc9 hF
          refine g_seg hK [.iconst 1] 74 75 (L1 := [(6, vI s4), (0, vR 76), (3, vI x3), (4, vI x4), (5, vI x5), (7, vI x7)]) (st1 := [vI 1, vI x5]) (h1 := h) (P := True ∧ True) (by decide +kernel) rfl rfl ⟨trivial, trivial⟩ ?_
          refine hK.2.1 _ _ ([(0, vR 76), (3, vI x3), (4, vI x4), (6, vI s4), (7, vI x7)]) _ _ (sub_of [1, 2, 3, 0, 5] rfl) ?_
          cases hF
          exact j8
      obtain ⟨kj3, e12, hF⟩ := jk1_elim hF
      have j3 : ∀ (u2 : Unit), kj3 u2 = some (x5', x6', x7') → K 53 [(0, vR 76), (3, vI x3), (4, vI x4), (5, vI x5), (7, vI x7)] [] h := by
        intro u2 hF
        have hF := (e12 u2).symm.trans hF
        refine g_seg hK [.iconst 0] 53 54 (L1 := [(0, vR 76), (3, vI x3), (4, vI x4), (5, vI x5), (7, vI x7)]) (st1 := [vI 0]) (h1 := h) (P := True ∧ True) (by decide +kernel) rfl rfl ⟨trivial, trivial⟩ ?_
        exact j5 _ hF
      refine g_ifz hK 17 .eq (36) 53 (t1 := 53) (t2 := 20) (by decide +kernel) (by decide) rfl rfl (fun (hc13 : x6 = 0) => ?_) (fun (hc13 : ¬ (x6 = 0)) => ?_)
      · have hF := ite_t hc13 hF
        refine hK.2.1 _ _ ([(0, vR 76), (3, vI x3), (4, vI x4), (5, vI x5), (7, vI x7)]) _ _ (sub_of [0, 1, 2, 3, 5] rfl) ?_
        exact j3 _ hF
      · have hF := ite_f hc13 hF
        refine g_seg hK [.aload_n 0, .getfield 28, .iload 7] 20 26 (L1 := [(0, vR 76), (3, vI x3), (4, vI x4), (5, vI x5), (6, vI x6), (7, vI x7)]) (st1 := [vI x7, vR 83]) (h1 := h) (P := True ∧ kd 76 = 9 ∧ True ∧ True) (by decide +kernel) rfl rfl ⟨trivial, rfl, trivial, trivial⟩ ?_
        obtain ⟨hg14, hF⟩ := gd_elim hF
        refine g_seg hK [.iaload, .iload 4] 26 29 (L1 := [(0, vR 76), (3, vI x3), (4, vI x4), (5, vI x5), (6, vI x6), (7, vI x7)]) (st1 := [vI x4, vI (h 83 x7.toNat)]) (h1 := h) (P := (kd 83 = 0 ∧ 0 ≤ x7 ∧ x7 < 28) ∧ True ∧ True) (by decide +kernel) rfl rfl ⟨⟨rfl, hg14⟩, trivial, trivial⟩ ?_
        obtain ⟨kj16, e17, hF⟩ := jk1_elim hF
        have j16 : ∀ (u15 : Unit), kj16 u15 = some (x5', x6', x7') → K 49 [(0, vR 76), (3, vI x3), (4, vI x4), (5, vI x5), (7, vI x7)] [] h := by
          intro u15 hF
          have hF := (e17 u15).symm.trans hF
          refine g_seg hK [.iconst 1] 49 50 (L1 := [(0, vR 76), (3, vI x3), (4, vI x4), (5, vI x5), (7, vI x7)]) (st1 := [vI 1]) (h1 := h) (P := True ∧ True) (by decide +kernel) rfl rfl ⟨trivial, trivial⟩ ?_
          refine g_goto hK 50 (4) 54 (by decide +kernel) (by decide) ?_
          exact j5 _ hF
        refine g_icmp hK 29 .eq (20) 49 (t1 := 49) (t2 := 32) (by decide +kernel) (by decide) rfl rfl (fun (hc18 : h 83 x7.toNat = x4) => ?_) (fun (hc18 : ¬ (h 83 x7.toNat = x4)) => ?_)
        · have hF := ite_t hc18 hF
          refine hK.2.1 _ _ ([(0, vR 76), (3, vI x3), (4, vI x4), (5, vI x5), (7, vI x7)]) _ _ (sub_of [0, 1, 2, 3, 5] rfl) ?_
          exact j16 _ hF
        · have hF := ite_f hc18 hF
          refine g_seg hK [.aload_n 0, .getfield 31, .iload 5] 32 38 (L1 := [(0, vR 76), (3, vI x3), (4, vI x4), (5, vI x5), (6, vI x6), (7, vI x7)]) (st1 := [vI x5, vR 84]) (h1 := h) (P := True ∧ kd 76 = 9 ∧ True ∧ True) (by decide +kernel) rfl rfl ⟨trivial, rfl, trivial, trivial⟩ ?_
          obtain ⟨hg19, hF⟩ := gd_elim hF
          refine g_seg hK [.iaload, .aload_n 0, .getfield 25, .iload 7] 38 45 (L1 := [(0, vR 76), (3, vI x3), (4, vI x4), (5, vI x5), (6, vI x6), (7, vI x7)]) (st1 := [vI x7, vR 82, vI (h 84 x5.toNat)]) (h1 := h) (P := (kd 84 = 0 ∧ 0 ≤ x5 ∧ x5 < 60) ∧ True ∧ kd 76 = 9 ∧ True ∧ True) (by decide +kernel) rfl rfl ⟨⟨rfl, hg19⟩, trivial, rfl, trivial, trivial⟩ ?_
          obtain ⟨hg20, hF⟩ := gd_elim hF
          refine g_seg hK [.iaload] 45 46 (L1 := [(0, vR 76), (3, vI x3), (4, vI x4), (5, vI x5), (6, vI x6), (7, vI x7)]) (st1 := [vI (h 82 x7.toNat), vI (h 84 x5.toNat)]) (h1 := h) (P := (kd 82 = 0 ∧ 0 ≤ x7 ∧ x7 < 28) ∧ True) (by decide +kernel) rfl rfl ⟨⟨rfl, hg20⟩, trivial⟩ ?_
          refine g_icmp hK 46 .ne (7) 53 (t1 := 49) (t2 := 53) (by decide +kernel) (by decide) rfl rfl (fun (hc21 : h 84 x5.toNat = h 82 x7.toNat) => ?_) (fun (hc21 : ¬ (h 84 x5.toNat = h 82 x7.toNat)) => ?_)
          · have hF := ite_t hc21 hF
            refine hK.2.1 _ _ ([(0, vR 76), (3, vI x3), (4, vI x4), (5, vI x5), (7, vI x7)]) _ _ (sub_of [0, 1, 2, 3, 5] rfl) ?_
            exact j16 _ hF
          · have hF := ite_f hc21 hF
            refine hK.2.1 _ _ ([(0, vR 76), (3, vI x3), (4, vI x4), (5, vI x5), (7, vI x7)]) _ _ (sub_of [0, 1, 2, 3, 5] rfl) ?_
            exact j3 _ hF
    · have hF := ite_f hc1 hF
      cases hF
      exact hE
set_option maxHeartbeats 4000000 in
set_option maxRecDepth 100000 in
theorem T_M_fits {p1 : Int} {p2 : Int} {p3 : Int} {p4 : Int} {h : MH} {r : Int} (hF : F_M_fits p1 p2 p3 p4 h = some r) : CON 0 yX7_fits cX7_fits 8 (Option.some Jvm.ClassFile.FieldType.boolean) [vR 76, vI p1, vI p2, vI p3, vI p4] h (some (vI r)) h := by
  refine con_of (own := RX7) (fl := flX7) (by decide +kernel) rfl flok_X7 rfl (Nat.le_of_ble_eq_true rfl) ?_
  intro K hK hR
  show K 0 [(0, vR 76), (1, vI p1), (2, vI p2), (3, vI p3), (4, vI p4)] [] h
  unfold F_M_fits at hF
  refine g_seg hK [.iload_n 1, .istore 5, .iconst 1, .istore 6, .iload_n 2, .istore 7] 0 9 (L1 := [(7, vI p2), (6, vI 1), (5, vI p1), (0, vR 76), (1, vI p1), (2, vI p2), (3, vI p3), (4, vI p4)]) (st1 := []) (h1 := h) (P := True ∧ True ∧ True ∧ True ∧ True ∧ True ∧ True) (by decide +kernel) rfl rfl ⟨trivial, trivial, trivial, trivial, trivial, trivial, trivial⟩ ?_
  refine hK.2.1 _ _ ([(0, vR 76), (3, vI p3), (4, vI p4), (5, vI p1), (6, vI 1), (7, vI p2)]) _ _ (sub_of [3, 6, 7, 2, 1, 0] rfl) ?_
  obtain ⟨x5_1, x6_2, x7_3, e4, hF⟩ := ob3_elim hF
  refine LT_M_fits_L9 hK _ _ _ _ _ _ _ e4 ?_
  refine g_seg hK [.iload 6] 84 86 (L1 := [(0, vR 76), (3, vI p3), (4, vI p4), (5, vI x5_1), (6, vI x6_2), (7, vI x7_3)]) (st1 := [vI x6_2]) (h1 := h) (P := True ∧ True) (by decide +kernel) rfl rfl ⟨trivial, trivial⟩ ?_
  obtain ⟨hg5, hF⟩ := gd_elim hF
  cases hF
  exact hR.2.1 86 _ _ _ (by decide +kernel) rfl hg5 ⟨rfl, rfl⟩
set_option maxHeartbeats 4000000 in
set_option maxRecDepth 100000 in
theorem LT_M_looks_L19 {K : KT} (hK : Rules RX7 cX7_looks 8 (Option.some Jvm.ClassFile.FieldType.int) flX7 1 K) {Post : Option MV → MH → Prop} (hR : R_ret cX7_looks (Option.some Jvm.ClassFile.FieldType.int) Post K) {x1 : Int} {x2 : Int} {x3 : Int} {x4 : Int} {x5 : Int} {x6 : Int} {h : MH} : ∀ (n : Nat) (x7 : Int) (out : Sum (Int) (Int)), F_M_looks_L19 x1 x2 x3 x4 x5 x6 h n x7 = some out → (∀ a : Int, out = Sum.inl a → Post (some (vI a)) h) → (∀ q : Int, out = Sum.inr q → K 101 [(0, vR 76), (1, vI x1), (2, vI x2), (3, vI x3), (4, vI x4), (5, vI x5), (6, vI x6), (7, vI q)] [] h) → K 19 [(0, vR 76), (1, vI x1), (2, vI x2), (3, vI x3), (4, vI x4), (5, vI x5), (6, vI x6), (7, vI x7)] [] h := by
  intro n
  induction n with
  | zero =>
    intro x7 out hF
    cases hF
  | succ n ih =>
    intro x7 out hF hRet hE
    unfold F_M_looks_L19 at hF
    refine g_seg hK [.iload 7, .sipush 200] 19 24 (L1 := [(0, vR 76), (1, vI x1), (2, vI x2), (3, vI x3), (4, vI x4), (5, vI x5), (6, vI x6), (7, vI x7)]) (st1 := [vI 200, vI x7]) (h1 := h) (P := True ∧ True ∧ True) (by decide +kernel) rfl rfl ⟨trivial, trivial, trivial⟩ ?_
    refine g_icmp hK 24 .ge (77) 101 (t1 := 27) (t2 := 101) (by decide +kernel) (by decide) rfl rfl (fun (hc1 : x7 < 200) => ?_) (fun (hc1 : ¬ (x7 < 200)) => ?_)
    · have hF := ite_t hc1 hF
      refine g_seg hK [.iload_n 1, .iload 7, .isub, .iload_n 2, .iload 6] 27 34 (L1 := [(0, vR 76), (1, vI x1), (2, vI x2), (3, vI x3), (4, vI x4), (5, vI x5), (6, vI x6), (7, vI x7)]) (st1 := [vI x6, vI x2, vI (wr (x1 - x7))]) (h1 := h) (P := True ∧ True ∧ True ∧ True ∧ True ∧ True) (by decide +kernel) rfl rfl ⟨trivial, trivial, trivial, trivial, trivial, trivial⟩ ?_
      refine g_callS1 hK 34 89 (d1 := 0) (vs := [vI (wr (x1 - x7)), vI x2, vI x6]) (rest := []) (h1 := h) (r := vI (F_M_in (wr (x1 - x7)) x2 x6)) my_yX7_in sw_X7_89 (by decide) (T_M_in (p1 := (wr (x1 - x7))) (p2 := x2) (p3 := x6) (h := h) (hF := rfl)) rfl (Nat.le_of_ble_eq_true rfl) (by decide +kernel) ?_
      obtain ⟨kj3, e11, hF⟩ := jk1_elim hF
      have j3 : ∀ (u2 : Unit), kj3 u2 = some out → K 61 [(0, vR 76), (1, vI x1), (2, vI x2), (3, vI x3), (4, vI x4), (5, vI x5), (6, vI x6), (7, vI x7)] [] h := by
        intro u2 hF
        have hF := (e11 u2).symm.trans hF
        refine g_seg hK [.iload_n 1, .iload 7, .iadd, .iload_n 2, .iload 6] 61 68 (L1 := [(0, vR 76), (1, vI x1), (2, vI x2), (3, vI x3), (4, vI x4), (5, vI x5), (6, vI x6), (7, vI x7)]) (st1 := [vI x6, vI x2, vI (wr (x1 + x7))]) (h1 := h) (P := True ∧ True ∧ True ∧ True ∧ True ∧ True) (by decide +kernel) rfl rfl ⟨trivial, trivial, trivial, trivial, trivial, trivial⟩ ?_
        refine g_callS1 hK 68 89 (d1 := 0) (vs := [vI (wr (x1 + x7)), vI x2, vI x6]) (rest := []) (h1 := h) (r := vI (F_M_in (wr (x1 + x7)) x2 x6)) my_yX7_in sw_X7_89 (by decide) (T_M_in (p1 := (wr (x1 + x7))) (p2 := x2) (p3 := x6) (h := h) (hF := rfl)) rfl (Nat.le_of_ble_eq_true rfl) (by decide +kernel) ?_
        obtain ⟨kj5, e6, hF⟩ := jk1_elim hF
        have j5 : ∀ (u4 : Unit), kj5 u4 = some out → K 95 [(0, vR 76), (1, vI x1), (2, vI x2), (3, vI x3), (4, vI x4), (5, vI x5), (6, vI x6), (7, vI x7)] [] h := by
          intro u4 hF
          have hF := (e6 u4).symm.trans hF
          refine g_seg hK [.iinc 7 1] 95 98 (L1 := [(7, vI (wr (x7 + 1))), (0, vR 76), (1, vI x1), (2, vI x2), (3, vI x3), (4, vI x4), (5, vI x5), (6, vI x6)]) (st1 := []) (h1 := h) (P := True ∧ True) (by decide +kernel) rfl rfl ⟨trivial, trivial⟩ ?_
          refine g_goto hK 98 (-79) 19 (by decide +kernel) (by decide) ?_
          refine hK.2.1 _ _ ([(0, vR 76), (1, vI x1), (2, vI x2), (3, vI x3), (4, vI x4), (5, vI x5), (6, vI x6), (7, vI (wr (x7 + 1)))]) _ _ (sub_of [1, 2, 3, 4, 5, 6, 7, 0] rfl) ?_
          exact ih _ _ hF hRet hE
        refine g_ifz hK 71 .eq (24) 95 (t1 := 95) (t2 := 74) (by decide +kernel) (by decide) rfl rfl (fun (hc7 : F_M_in (wr (x1 + x7)) x2 x6 = 0) => ?_) (fun (hc7 : ¬ (F_M_in (wr (x1 + x7)) x2 x6 = 0)) => ?_)
        · have hF := ite_t hc7 hF
          exact j5 _ hF
        · have hF := ite_f hc7 hF
          refine g_seg hK [.aload_n 0, .iload_n 1, .iload 7, .iadd, .iload_n 3, .iload 4, .iload 5] 74 84 (L1 := [(0, vR 76), (1, vI x1), (2, vI x2), (3, vI x3), (4, vI x4), (5, vI x5), (6, vI x6), (7, vI x7)]) (st1 := [vI x5, vI x4, vI x3, vI (wr (x1 + x7)), vR 76]) (h1 := h) (P := True ∧ True ∧ True ∧ True ∧ True ∧ True ∧ True ∧ True) (by decide +kernel) rfl rfl ⟨trivial, trivial, trivial, trivial, trivial, trivial, trivial, trivial⟩ ?_
          obtain ⟨r8, e9, hF⟩ := ob1_elim hF
          refine g_callV1 hK 84 120 (d1 := 0) (ci := 7) (i := 76) (vs := [vI (wr (x1 + x7)), vI x3, vI x4, vI x5]) (rest := []) (h1 := h) (r := vI r8) my_yX7_fits vw_X7_120 (by decide) (T_M_fits (p1 := (wr (x1 + x7))) (p2 := x3) (p3 := x4) (p4 := x5) (h := h) (hF := e9)) rfl rfl rfl (Nat.le_of_ble_eq_true rfl) (by decide +kernel) ?_
          refine g_ifz hK 87 .eq (8) 95 (t1 := 95) (t2 := 90) (by decide +kernel) (by decide) rfl rfl (fun (hc10 : r8 = 0) => ?_) (fun (hc10 : ¬ (r8 = 0)) => ?_)
          · have hF := ite_t hc10 hF
            exact j5 _ hF
          · have hF := ite_f hc10 hF
            refine g_seg hK [.iload_n 1, .iload 7, .iadd] 90 94 (L1 := [(0, vR 76), (1, vI x1), (2, vI x2), (3, vI x3), (4, vI x4), (5, vI x5), (6, vI x6), (7, vI x7)]) (st1 := [vI (wr (x1 + x7))]) (h1 := h) (P := True ∧ True ∧ True ∧ True) (by decide +kernel) rfl rfl ⟨trivial, trivial, trivial, trivial⟩ ?_
            cases hF
            exact hR.1 94 _ _ _ (by decide +kernel) rfl (hRet _ rfl)
      refine g_ifz hK 37 .eq (24) 61 (t1 := 61) (t2 := 40) (by decide +kernel) (by decide) rfl rfl (fun (hc12 : F_M_in (wr (x1 - x7)) x2 x6 = 0) => ?_) (fun (hc12 : ¬ (F_M_in (wr (x1 - x7)) x2 x6 = 0)) => ?_)
      · have hF := ite_t hc12 hF
        exact j3 _ hF
      · have hF := ite_f hc12 hF
        refine g_seg hK [.aload_n 0, .iload_n 1, .iload 7, .isub, .iload_n 3, .iload 4, .iload 5] 40 50 (L1 := [(0, vR 76), (1, vI x1), (2, vI x2), (3, vI x3), (4, vI x4), (5, vI x5), (6, vI x6), (7, vI x7)]) (st1 := [vI x5, vI x4, vI x3, vI (wr (x1 - x7)), vR 76]) (h1 := h) (P := True ∧ True ∧ True ∧ True ∧ True ∧ True ∧ True ∧ True) (by decide +kernel) rfl rfl ⟨trivial, trivial, trivial, trivial, trivial, trivial, trivial, trivial⟩ ?_
        obtain ⟨r13, e14, hF⟩ := ob1_elim hF
        refine g_callV1 hK 50 120 (d1 := 0) (ci := 7) (i := 76) (vs := [vI (wr (x1 - x7)), vI x3, vI x4, vI x5]) (rest := []) (h1 := h) (r := vI r13) my_yX7_fits vw_X7_120 (by decide) (T_M_fits (p1 := (wr (x1 - x7))) (p2 := x3) (p3 := x4) (p4 := x5) (h := h) (hF := e14)) rfl rfl rfl (Nat.le_of_ble_eq_true rfl) (by decide +kernel) ?_
        refine g_ifz hK 53 .eq (8) 61 (t1 := 61) (t2 := 56) (by decide +kernel) (by decide) rfl rfl (fun (hc15 : r13 = 0) => ?_) (fun (hc15 : ¬ (r13 = 0)) => ?_)
        · have hF := ite_t hc15 hF
          exact j3 _ hF
        · have hF := ite_f hc15 hF
          refine g_seg hK [.iload_n 1, .iload 7, .isub] 56 60 (L1 := [(0, vR 76), (1, vI x1), (2, vI x2), (3, vI x3), (4, vI x4), (5, vI x5), (6, vI x6), (7, vI x7)]) (st1 := [vI (wr (x1 - x7))]) (h1 := h) (P := True ∧ True ∧ True ∧ True) (by decide +kernel) rfl rfl ⟨trivial, trivial, trivial, trivial⟩ ?_
          cases hF
          exact hR.1 60 _ _ _ (by decide +kernel) rfl (hRet _ rfl)
    · have hF := ite_f hc1 hF
      cases hF
      exact hE _ rfl
set_option maxHeartbeats 4000000 in
set_option maxRecDepth 100000 in
theorem T_M_looks {p1 : Int} {p2 : Int} {p3 : Int} {p4 : Int} {p5 : Int} {h : MH} {r : Int} (hF : F_M_looks p1 p2 p3 p4 p5 h = some r) : CON 1 yX7_looks cX7_looks 8 (Option.some Jvm.ClassFile.FieldType.int) [vR 76, vI p1, vI p2, vI p3, vI p4, vI p5] h (some (vI r)) h := by
  refine con_of (own := RX7) (fl := flX7) (by decide +kernel) rfl flok_X7 rfl (Nat.le_of_ble_eq_true rfl) ?_
  intro K hK hR
  show K 0 [(0, vR 76), (1, vI p1), (2, vI p2), (3, vI p3), (4, vI p4), (5, vI p5)] [] h
  unfold F_M_looks at hF
  refine g_seg hK [.aload_n 0, .getfield 113, .aload_n 0, .iload_n 3, .iload 4, .iload 5] 0 10 (L1 := [(0, vR 76), (1, vI p1), (2, vI p2), (3, vI p3), (4, vI p4), (5, vI p5)]) (st1 := [vI p5, vI p4, vI p3, vR 76, vI (h 76 13)]) (h1 := h) (P := True ∧ kd 76 = 9 ∧ True ∧ True ∧ True ∧ True ∧ True) (by decide +kernel) rfl rfl ⟨trivial, rfl, trivial, trivial, trivial, trivial, trivial⟩ ?_
  obtain ⟨r1, e2, hF⟩ := ob1_elim hF
  refine g_callV1 hK 10 116 (d1 := 0) (ci := 7) (i := 76) (vs := [vI p3, vI p4, vI p5]) (rest := [vI (h 76 13)]) (h1 := h) (r := vI r1) my_yX7_linesBut vw_X7_116 (by decide) (T_M_linesBut (p1 := p3) (p2 := p4) (p3 := p5) (h := h) (hF := e2)) rfl rfl rfl (Nat.le_of_ble_eq_true rfl) (by decide +kernel) ?_
  refine g_seg hK [.isub, .istore 6, .iconst 0, .istore 7] 13 19 (L1 := [(7, vI 0), (6, vI (wr ((h 76 13) - r1))), (0, vR 76), (1, vI p1), (2, vI p2), (3, vI p3), (4, vI p4), (5, vI p5)]) (st1 := []) (h1 := h) (P := True ∧ True ∧ True ∧ True ∧ True) (by decide +kernel) rfl rfl ⟨trivial, trivial, trivial, trivial, trivial⟩ ?_
  refine hK.2.1 _ _ ([(0, vR 76), (1, vI p1), (2, vI p2), (3, vI p3), (4, vI p4), (5, vI p5), (6, vI (wr ((h 76 13) - r1))), (7, vI 0)]) _ _ (sub_of [2, 3, 4, 5, 6, 7, 1, 0] rfl) ?_
  obtain ⟨out6, e4, hr7, hx8⟩ := os_elim hF
  refine LT_M_looks_L19 hK hR _ _ out6 e4 ?_ ?_
  · intro a ha
    have hF := hr7 a ha
    cases hF
    exact ⟨rfl, rfl⟩
  · intro q5 hq
    have hF := hx8 q5 hq
    refine g_seg hK [.bipush (-4)] 101 103 (L1 := [(0, vR 76), (1, vI p1), (2, vI p2), (3, vI p3), (4, vI p4), (5, vI p5), (6, vI (wr ((h 76 13) - r1))), (7, vI q5)]) (st1 := [vI (-4)]) (h1 := h) (P := True ∧ True) (by decide +kernel) rfl rfl ⟨trivial, trivial⟩ ?_
    cases hF
    exact hR.1 103 _ _ _ (by decide +kernel) rfl ⟨rfl, rfl⟩
set_option maxHeartbeats 4000000 in
set_option maxRecDepth 100000 in
theorem LT_M_replaces_L118 {K : KT} (hK : Rules RX7 cX7_replaces 10 none flX7 1 K) {x4 : Int} {x5 : Int} : ∀ (n : Nat) (x8 : Int) (x9 : Int) (h : MH) (x8' : Int) (x9' : Int) (h' : MH), F_M_replaces_L118 x4 x5 n x8 x9 h = some (x8', x9', h') → K 160 [(0, vR 76), (4, vI x4), (5, vI x5), (8, vI x8'), (9, vI x9')] [] h' → K 118 [(0, vR 76), (4, vI x4), (5, vI x5), (8, vI x8), (9, vI x9)] [] h := by
  intro n
  induction n with
  | zero =>
    intro x8 x9 h x8' x9' h' hF
    cases hF
  | succ n ih =>
    intro x8 x9 h x8' x9' h' hF hE
    unfold F_M_replaces_L118 at hF
    refine g_seg hK [.iload 9, .iload 4] 118 122 (L1 := [(0, vR 76), (4, vI x4), (5, vI x5), (8, vI x8), (9, vI x9)]) (st1 := [vI x4, vI x9]) (h1 := h) (P := True ∧ True ∧ True) (by decide +kernel) rfl rfl ⟨trivial, trivial, trivial⟩ ?_
    refine g_icmp hK 122 .ge (38) 160 (t1 := 125) (t2 := 160) (by decide +kernel) (by decide) rfl rfl (fun (hc1 : x9 < x4) => ?_) (fun (hc1 : ¬ (x9 < x4)) => ?_)
    · have hF := ite_t hc1 hF
      refine g_seg hK [.aload_n 0, .getfield 28, .iload 9] 125 131 (L1 := [(0, vR 76), (4, vI x4), (5, vI x5), (8, vI x8), (9, vI x9)]) (st1 := [vI x9, vR 83]) (h1 := h) (P := True ∧ kd 76 = 9 ∧ True ∧ True) (by decide +kernel) rfl rfl ⟨trivial, rfl, trivial, trivial⟩ ?_
      obtain ⟨hg2, hF⟩ := gd_elim hF
      refine g_seg hK [.iaload, .iload 5] 131 134 (L1 := [(0, vR 76), (4, vI x4), (5, vI x5), (8, vI x8), (9, vI x9)]) (st1 := [vI x5, vI (h 83 x9.toNat)]) (h1 := h) (P := (kd 83 = 0 ∧ 0 ≤ x9 ∧ x9 < 28) ∧ True ∧ True) (by decide +kernel) rfl rfl ⟨⟨rfl, hg2⟩, trivial, trivial⟩ ?_
      obtain ⟨kj5, e6, hF⟩ := jk2_elim hF
      have j5 : ∀ (x8_3 : Int) (h4 : MH), kj5 x8_3 h4 = some (x8', x9', h') → K 154 [(0, vR 76), (4, vI x4), (5, vI x5), (8, vI x8_3), (9, vI x9)] [] h4 := by
        intro x8_3 h4 hF
        have hF := (e6 x8_3 h4).symm.trans hF
        refine g_seg hK [.iinc 9 1] 154 157 (L1 := [(9, vI (wr (x9 + 1))), (0, vR 76), (4, vI x4), (5, vI x5), (8, vI x8_3)]) (st1 := []) (h1 := h4) (P := True ∧ True) (by decide +kernel) rfl rfl ⟨trivial, trivial⟩ ?_
        refine g_goto hK 157 (-39) 118 (by decide +kernel) (by decide) ?_
        refine hK.2.1 _ _ ([(0, vR 76), (4, vI x4), (5, vI x5), (8, vI x8_3), (9, vI (wr (x9 + 1)))]) _ _ (sub_of [1, 2, 3, 4, 0] rfl) ?_
        exact ih _ _ _ _ _ _ hF hE
      refine g_icmp hK 134 .eq (20) 154 (t1 := 154) (t2 := 137) (by decide +kernel) (by decide) rfl rfl (fun (hc7 : h 83 x9.toNat = x5) => ?_) (fun (hc7 : ¬ (h 83 x9.toNat = x5)) => ?_)
      · have hF := ite_t hc7 hF
        exact j5 _ _ hF
      · have hF := ite_f hc7 hF
        refine g_seg hK [.aload_n 0, .getfield 31, .iload 8, .aload_n 0, .getfield 25, .iload 9] 137 149 (L1 := [(0, vR 76), (4, vI x4), (5, vI x5), (8, vI x8), (9, vI x9)]) (st1 := [vI x9, vR 82, vI x8, vR 84]) (h1 := h) (P := True ∧ kd 76 = 9 ∧ True ∧ True ∧ kd 76 = 9 ∧ True ∧ True) (by decide +kernel) rfl rfl ⟨trivial, rfl, trivial, trivial, rfl, trivial, trivial⟩ ?_
        obtain ⟨hg8, hF⟩ := gd_elim hF
        refine g_seg hK [.iaload] 149 150 (L1 := [(0, vR 76), (4, vI x4), (5, vI x5), (8, vI x8), (9, vI x9)]) (st1 := [vI (h 82 x9.toNat), vI x8, vR 84]) (h1 := h) (P := (kd 82 = 0 ∧ 0 ≤ x9 ∧ x9 < 28) ∧ True) (by decide +kernel) rfl rfl ⟨⟨rfl, hg8⟩, trivial⟩ ?_
        obtain ⟨hg9, hF⟩ := gd_elim hF
        refine g_seg hK [.iastore, .iinc 8 1] 150 154 (L1 := [(8, vI (wr (x8 + 1))), (0, vR 76), (4, vI x4), (5, vI x5), (9, vI x9)]) (st1 := []) (h1 := (up h 84 x8.toNat (h 82 x9.toNat))) (P := (kd 84 = 0 ∧ 0 ≤ x8 ∧ x8 < 60) ∧ True ∧ True) (by decide +kernel) rfl rfl ⟨⟨rfl, hg9⟩, trivial, trivial⟩ ?_
        refine hK.2.1 _ _ ([(0, vR 76), (4, vI x4), (5, vI x5), (8, vI (wr (x8 + 1))), (9, vI x9)]) _ _ (sub_of [1, 2, 3, 0, 4] rfl) ?_
        exact j5 _ _ hF
    · have hF := ite_f hc1 hF
      cases hF
      exact hE
set_option maxHeartbeats 4000000 in
set_option maxRecDepth 100000 in
theorem LT_M_replaces_L69 {K : KT} (hK : Rules RX7 cX7_replaces 10 none flX7 1 K) {x1 : Int} {x3 : Int} {x4 : Int} {x5 : Int} {x7 : Int} : ∀ (n : Nat) (x8 : Int) (h : MH) (x8' : Int) (h' : MH), F_M_replaces_L69 x1 x3 x4 x5 x7 n x8 h = some (x8', h') → K 101 [(0, vR 76), (1, vI x1), (3, vI x3), (4, vI x4), (5, vI x5), (7, vI x7), (8, vI x8')] [] h' → K 69 [(0, vR 76), (1, vI x1), (3, vI x3), (4, vI x4), (5, vI x5), (7, vI x7), (8, vI x8)] [] h := by
  intro n
  induction n with
  | zero =>
    intro x8 h x8' h' hF
    cases hF
  | succ n ih =>
    intro x8 h x8' h' hF hE
    unfold F_M_replaces_L69 at hF
    refine g_seg hK [.iload 8, .aload_n 0, .getfield 113] 69 75 (L1 := [(0, vR 76), (1, vI x1), (3, vI x3), (4, vI x4), (5, vI x5), (7, vI x7), (8, vI x8)]) (st1 := [vI (h 76 13), vI x8]) (h1 := h) (P := True ∧ True ∧ kd 76 = 9 ∧ True) (by decide +kernel) rfl rfl ⟨trivial, trivial, rfl, trivial⟩ ?_
    refine g_icmp hK 75 .ge (26) 101 (t1 := 78) (t2 := 101) (by decide +kernel) (by decide) rfl rfl (fun (hc1 : x8 < h 76 13) => ?_) (fun (hc1 : ¬ (x8 < h 76 13)) => ?_)
    · have hF := ite_t hc1 hF
      refine g_seg hK [.aload_n 0, .getfield 31, .iload 8, .iload 7, .iadd, .aload_n 0, .getfield 31, .iload 8] 78 93 (L1 := [(0, vR 76), (1, vI x1), (3, vI x3), (4, vI x4), (5, vI x5), (7, vI x7), (8, vI x8)]) (st1 := [vI x8, vR 84, vI (wr (x8 + x7)), vR 84]) (h1 := h) (P := True ∧ kd 76 = 9 ∧ True ∧ True ∧ True ∧ True ∧ kd 76 = 9 ∧ True ∧ True) (by decide +kernel) rfl rfl ⟨trivial, rfl, trivial, trivial, trivial, trivial, rfl, trivial, trivial⟩ ?_
      obtain ⟨hg2, hF⟩ := gd_elim hF
      refine g_seg hK [.iaload] 93 94 (L1 := [(0, vR 76), (1, vI x1), (3, vI x3), (4, vI x4), (5, vI x5), (7, vI x7), (8, vI x8)]) (st1 := [vI (h 84 x8.toNat), vI (wr (x8 + x7)), vR 84]) (h1 := h) (P := (kd 84 = 0 ∧ 0 ≤ x8 ∧ x8 < 60) ∧ True) (by decide +kernel) rfl rfl ⟨⟨rfl, hg2⟩, trivial⟩ ?_
      obtain ⟨hg3, hF⟩ := gd_elim hF
      refine g_seg hK [.iastore, .iinc 8 1] 94 98 (L1 := [(8, vI (wr (x8 + 1))), (0, vR 76), (1, vI x1), (3, vI x3), (4, vI x4), (5, vI x5), (7, vI x7)]) (st1 := []) (h1 := (up h 84 (wr (x8 + x7)).toNat (h 84 x8.toNat))) (P := (kd 84 = 0 ∧ 0 ≤ wr (x8 + x7) ∧ wr (x8 + x7) < 60) ∧ True ∧ True) (by decide +kernel) rfl rfl ⟨⟨rfl, hg3⟩, trivial, trivial⟩ ?_
      refine g_goto hK 98 (-29) 69 (by decide +kernel) (by decide) ?_
      refine hK.2.1 _ _ ([(0, vR 76), (1, vI x1), (3, vI x3), (4, vI x4), (5, vI x5), (7, vI x7), (8, vI (wr (x8 + 1)))]) _ _ (sub_of [1, 2, 3, 4, 5, 6, 0] rfl) ?_
      exact ih _ _ _ _ hF hE
    · have hF := ite_f hc1 hF
      cases hF
      exact hE
set_option maxHeartbeats 4000000 in
set_option maxRecDepth 100000 in
theorem LT_M_replaces_L30 {K : KT} (hK : Rules RX7 cX7_replaces 10 none flX7 1 K) {x1 : Int} {x2 : Int} {x3 : Int} {x4 : Int} {x5 : Int} {x7 : Int} : ∀ (n : Nat) (x8 : Int) (h : MH) (x8' : Int) (h' : MH), F_M_replaces_L30 x1 x2 x3 x4 x5 x7 n x8 h = some (x8', h') → K 61 [(0, vR 76), (1, vI x1), (2, vI x2), (3, vI x3), (4, vI x4), (5, vI x5), (7, vI x7), (8, vI x8')] [] h' → K 30 [(0, vR 76), (1, vI x1), (2, vI x2), (3, vI x3), (4, vI x4), (5, vI x5), (7, vI x7), (8, vI x8)] [] h := by
  intro n
  induction n with
  | zero =>
    intro x8 h x8' h' hF
    cases hF
  | succ n ih =>
    intro x8 h x8' h' hF hE
    unfold F_M_replaces_L30 at hF
    refine g_seg hK [.iload 8, .iload_n 1, .iload_n 2, .iadd] 30 35 (L1 := [(0, vR 76), (1, vI x1), (2, vI x2), (3, vI x3), (4, vI x4), (5, vI x5), (7, vI x7), (8, vI x8)]) (st1 := [vI (wr (x1 + x2)), vI x8]) (h1 := h) (P := True ∧ True ∧ True ∧ True ∧ True) (by decide +kernel) rfl rfl ⟨trivial, trivial, trivial, trivial, trivial⟩ ?_
    refine g_icmp hK 35 .lt (26) 61 (t1 := 61) (t2 := 38) (by decide +kernel) (by decide) rfl rfl (fun (hc1 : x8 < wr (x1 + x2)) => ?_) (fun (hc1 : ¬ (x8 < wr (x1 + x2))) => ?_)
    · have hF := ite_t hc1 hF
      cases hF
      exact hE
    · have hF := ite_f hc1 hF
      refine g_seg hK [.aload_n 0, .getfield 31, .iload 8, .iload 7, .iadd, .aload_n 0, .getfield 31, .iload 8] 38 53 (L1 := [(0, vR 76), (1, vI x1), (2, vI x2), (3, vI x3), (4, vI x4), (5, vI x5), (7, vI x7), (8, vI x8)]) (st1 := [vI x8, vR 84, vI (wr (x8 + x7)), vR 84]) (h1 := h) (P := True ∧ kd 76 = 9 ∧ True ∧ True ∧ True ∧ True ∧ kd 76 = 9 ∧ True ∧ True) (by decide +kernel) rfl rfl ⟨trivial, rfl, trivial, trivial, trivial, trivial, rfl, trivial, trivial⟩ ?_
      obtain ⟨hg2, hF⟩ := gd_elim hF
      refine g_seg hK [.iaload] 53 54 (L1 := [(0, vR 76), (1, vI x1), (2, vI x2), (3, vI x3), (4, vI x4), (5, vI x5), (7, vI x7), (8, vI x8)]) (st1 := [vI (h 84 x8.toNat), vI (wr (x8 + x7)), vR 84]) (h1 := h) (P := (kd 84 = 0 ∧ 0 ≤ x8 ∧ x8 < 60) ∧ True) (by decide +kernel) rfl rfl ⟨⟨rfl, hg2⟩, trivial⟩ ?_
      obtain ⟨hg3, hF⟩ := gd_elim hF
      refine g_seg hK [.iastore, .iinc 8 (-1)] 54 58 (L1 := [(8, vI (wr (x8 + (-1)))), (0, vR 76), (1, vI x1), (2, vI x2), (3, vI x3), (4, vI x4), (5, vI x5), (7, vI x7)]) (st1 := []) (h1 := (up h 84 (wr (x8 + x7)).toNat (h 84 x8.toNat))) (P := (kd 84 = 0 ∧ 0 ≤ wr (x8 + x7) ∧ wr (x8 + x7) < 60) ∧ True ∧ True) (by decide +kernel) rfl rfl ⟨⟨rfl, hg3⟩, trivial, trivial⟩ ?_
      refine g_goto hK 58 (-28) 30 (by decide +kernel) (by decide) ?_
      refine hK.2.1 _ _ ([(0, vR 76), (1, vI x1), (2, vI x2), (3, vI x3), (4, vI x4), (5, vI x5), (7, vI x7), (8, vI (wr (x8 + (-1))))]) _ _ (sub_of [1, 2, 3, 4, 5, 6, 7, 0] rfl) ?_
      exact ih _ _ _ _ hF hE
set_option maxHeartbeats 4000000 in
set_option maxRecDepth 100000 in
theorem T_M_replaces {p1 : Int} {p2 : Int} {p3 : Int} {p4 : Int} {p5 : Int} {h : MH} {h' : MH} (hF : F_M_replaces p1 p2 p3 p4 p5 h = some h') : CON 1 yX7_replaces cX7_replaces 10 none [vR 76, vI p1, vI p2, vI p3, vI p4, vI p5] h none h' := by
  refine con_of (own := RX7) (fl := flX7) (by decide +kernel) rfl flok_X7 rfl (Nat.le_of_ble_eq_true rfl) ?_
  intro K hK hR
  show K 0 [(0, vR 76), (1, vI p1), (2, vI p2), (3, vI p3), (4, vI p4), (5, vI p5)] [] h
  unfold F_M_replaces at hF
  refine g_seg hK [.aload_n 0, .iload_n 3, .iload 4, .iload 5] 0 6 (L1 := [(0, vR 76), (1, vI p1), (2, vI p2), (3, vI p3), (4, vI p4), (5, vI p5)]) (st1 := [vI p5, vI p4, vI p3, vR 76]) (h1 := h) (P := True ∧ True ∧ True ∧ True ∧ True) (by decide +kernel) rfl rfl ⟨trivial, trivial, trivial, trivial, trivial⟩ ?_
  obtain ⟨r1, e2, hF⟩ := ob1_elim hF
  refine g_callV1 hK 6 116 (d1 := 0) (ci := 7) (i := 76) (vs := [vI p3, vI p4, vI p5]) (rest := []) (h1 := h) (r := vI r1) my_yX7_linesBut vw_X7_116 (by decide) (T_M_linesBut (p1 := p3) (p2 := p4) (p3 := p5) (h := h) (hF := e2)) rfl rfl rfl (Nat.le_of_ble_eq_true rfl) (by decide +kernel) ?_
  refine g_seg hK [.istore 6, .iload 6, .iload_n 2, .isub, .istore 7, .iload 7] 9 19 (L1 := [(7, vI (wr (r1 - p2))), (6, vI r1), (0, vR 76), (1, vI p1), (2, vI p2), (3, vI p3), (4, vI p4), (5, vI p5)]) (st1 := [vI (wr (r1 - p2))]) (h1 := h) (P := True ∧ True ∧ True ∧ True ∧ True ∧ True ∧ True) (by decide +kernel) rfl rfl ⟨trivial, trivial, trivial, trivial, trivial, trivial, trivial⟩ ?_
  obtain ⟨kj4, e9, hF⟩ := jk1_elim hF
  have j4 : ∀ (h3 : MH), kj4 h3 = some h' → K 101 [(0, vR 76), (1, vI p1), (3, vI p3), (4, vI p4), (5, vI p5), (7, vI (wr (r1 - p2)))] [] h3 := by
    intro h3 hF
    have hF := (e9 h3).symm.trans hF
    refine g_seg hK [.aload_n 0, .dup, .getfield 113, .iload 7, .iadd, .putfield 113, .iload_n 1, .istore 8, .iload_n 3, .istore 9] 101 118 (L1 := [(9, vI p3), (8, vI p1), (0, vR 76), (1, vI p1), (3, vI p3), (4, vI p4), (5, vI p5), (7, vI (wr (r1 - p2)))]) (st1 := []) (h1 := (up h3 76 13 (wr ((h3 76 13) + (wr (r1 - p2)))))) (P := True ∧ True ∧ kd 76 = 9 ∧ True ∧ True ∧ kd 76 = 9 ∧ True ∧ True ∧ True ∧ True ∧ True) (by decide +kernel) rfl rfl ⟨trivial, trivial, rfl, trivial, trivial, rfl, trivial, trivial, trivial, trivial, trivial⟩ ?_
    refine hK.2.1 _ _ ([(0, vR 76), (4, vI p4), (5, vI p5), (8, vI p1), (9, vI p3)]) _ _ (sub_of [2, 5, 6, 1, 0] rfl) ?_
    obtain ⟨x8_5, x9_6, h7, e8, hF⟩ := ob3_elim hF
    refine LT_M_replaces_L118 hK _ _ _ _ _ _ _ e8 ?_
    cases hF
    exact hR.2.2.2.2 160 _ _ (by decide +kernel) rfl ⟨rfl, rfl⟩
  refine g_ifz hK 19 .le (45) 64 (t1 := 64) (t2 := 22) (by decide +kernel) (by decide) rfl rfl (fun (hc10 : wr (r1 - p2) ≤ 0) => ?_) (fun (hc10 : ¬ (wr (r1 - p2) ≤ 0)) => ?_)
  · have hF := ite_t hc10 hF
    refine g_seg hK [.iload_n 1, .iload_n 2, .iadd, .istore 8] 64 69 (L1 := [(8, vI (wr (p1 + p2))), (7, vI (wr (r1 - p2))), (6, vI r1), (0, vR 76), (1, vI p1), (2, vI p2), (3, vI p3), (4, vI p4), (5, vI p5)]) (st1 := []) (h1 := h) (P := True ∧ True ∧ True ∧ True ∧ True) (by decide +kernel) rfl rfl ⟨trivial, trivial, trivial, trivial, trivial⟩ ?_
    refine hK.2.1 _ _ ([(0, vR 76), (1, vI p1), (3, vI p3), (4, vI p4), (5, vI p5), (7, vI (wr (r1 - p2))), (8, vI (wr (p1 + p2)))]) _ _ (sub_of [3, 4, 6, 7, 8, 1, 0] rfl) ?_
    obtain ⟨x8_11, h12, e13, hF⟩ := ob2_elim hF
    refine LT_M_replaces_L69 hK _ _ _ _ _ e13 ?_
    refine hK.2.1 _ _ ([(0, vR 76), (1, vI p1), (3, vI p3), (4, vI p4), (5, vI p5), (7, vI (wr (r1 - p2)))]) _ _ (sub_of [0, 1, 2, 3, 4, 5] rfl) ?_
    exact j4 _ hF
  · have hF := ite_f hc10 hF
    refine g_seg hK [.aload_n 0, .getfield 113, .iconst 1, .isub, .istore 8] 22 30 (L1 := [(8, vI (wr ((h 76 13) - 1))), (7, vI (wr (r1 - p2))), (6, vI r1), (0, vR 76), (1, vI p1), (2, vI p2), (3, vI p3), (4, vI p4), (5, vI p5)]) (st1 := []) (h1 := h) (P := True ∧ kd 76 = 9 ∧ True ∧ True ∧ True ∧ True) (by decide +kernel) rfl rfl ⟨trivial, rfl, trivial, trivial, trivial, trivial⟩ ?_
    refine hK.2.1 _ _ ([(0, vR 76), (1, vI p1), (2, vI p2), (3, vI p3), (4, vI p4), (5, vI p5), (7, vI (wr (r1 - p2))), (8, vI (wr ((h 76 13) - 1)))]) _ _ (sub_of [3, 4, 5, 6, 7, 8, 1, 0] rfl) ?_
    obtain ⟨x8_14, h15, e16, hF⟩ := ob2_elim hF
    refine LT_M_replaces_L30 hK _ _ _ _ _ e16 ?_
    refine g_goto hK 61 (40) 101 (by decide +kernel) (by decide) ?_
    refine hK.2.1 _ _ ([(0, vR 76), (1, vI p1), (3, vI p3), (4, vI p4), (5, vI p5), (7, vI (wr (r1 - p2)))]) _ _ (sub_of [0, 1, 3, 4, 5, 6] rfl) ?_
    exact j4 _ hF
set_option maxHeartbeats 4000000 in
set_option maxRecDepth 100000 in
theorem LT_M_lays_L33 {K : KT} (hK : Rules RX7 cX7_lays 14 (Option.some Jvm.ClassFile.FieldType.int) flX7 2 K) {x2 : Int} {x3 : Int} {x4 : Int} : ∀ (n : Nat) (x5 : Int) (h : MH) (x5' : Int) (h' : MH), F_M_lays_L33 x2 x3 x4 n x5 h = some (x5', h') → K 62 [(0, vR 76), (2, vI x2), (3, vI x3), (4, vI x4), (5, vI x5')] [] h' → K 33 [(0, vR 76), (2, vI x2), (3, vI x3), (4, vI x4), (5, vI x5)] [] h := by
  intro n
  induction n with
  | zero =>
    intro x5 h x5' h' hF
    cases hF
  | succ n ih =>
    intro x5 h x5' h' hF hE
    unfold F_M_lays_L33 at hF
    refine g_seg hK [.iload 5, .aload_n 0, .getfield 113] 33 39 (L1 := [(0, vR 76), (2, vI x2), (3, vI x3), (4, vI x4), (5, vI x5)]) (st1 := [vI (h 76 13), vI x5]) (h1 := h) (P := True ∧ True ∧ kd 76 = 9 ∧ True) (by decide +kernel) rfl rfl ⟨trivial, trivial, rfl, trivial⟩ ?_
    refine g_icmp hK 39 .ge (23) 62 (t1 := 42) (t2 := 62) (by decide +kernel) (by decide) rfl rfl (fun (hc1 : x5 < h 76 13) => ?_) (fun (hc1 : ¬ (x5 < h 76 13)) => ?_)
    · have hF := ite_t hc1 hF
      refine g_seg hK [.aload_n 0, .getfield 31, .iload 5, .aload_n 0, .iconst 2, .iload 5] 42 52 (L1 := [(0, vR 76), (2, vI x2), (3, vI x3), (4, vI x4), (5, vI x5)]) (st1 := [vI x5, vI 2, vR 76, vI x5, vR 84]) (h1 := h) (P := True ∧ kd 76 = 9 ∧ True ∧ True ∧ True ∧ True ∧ True) (by decide +kernel) rfl rfl ⟨trivial, rfl, trivial, trivial, trivial, trivial, trivial⟩ ?_
      obtain ⟨r2, e3, hF⟩ := ob1_elim hF
      refine g_callV1 hK 52 51 (d1 := 0) (ci := 7) (i := 76) (vs := [vI 2, vI x5]) (rest := [vI x5, vR 84]) (h1 := h) (r := vI r2) my_yX7_lineOf vw_X7_51 (by decide) (T_M_lineOf (p1 := 2) (p2 := x5) (h := h) (hF := e3)) rfl rfl rfl (Nat.le_of_ble_eq_true rfl) (by decide +kernel) ?_
      obtain ⟨hg4, hF⟩ := gd_elim hF
      refine g_seg hK [.iastore, .iinc 5 1] 55 59 (L1 := [(5, vI (wr (x5 + 1))), (0, vR 76), (2, vI x2), (3, vI x3), (4, vI x4)]) (st1 := []) (h1 := (up h 84 x5.toNat r2)) (P := (kd 84 = 0 ∧ 0 ≤ x5 ∧ x5 < 60) ∧ True ∧ True) (by decide +kernel) rfl rfl ⟨⟨rfl, hg4⟩, trivial, trivial⟩ ?_
      refine g_goto hK 59 (-26) 33 (by decide +kernel) (by decide) ?_
      refine hK.2.1 _ _ ([(0, vR 76), (2, vI x2), (3, vI x3), (4, vI x4), (5, vI (wr (x5 + 1)))]) _ _ (sub_of [1, 2, 3, 4, 0] rfl) ?_
      exact ih _ _ _ _ hF hE
    · have hF := ite_f hc1 hF
      cases hF
      exact hE
set_option maxHeartbeats 4000000 in
set_option maxRecDepth 100000 in
theorem LT_M_lays_L79 {K : KT} (hK : Rules RX7 cX7_lays 14 (Option.some Jvm.ClassFile.FieldType.int) flX7 2 K) {x2 : Int} {x3 : Int} {x4 : Int} : ∀ (n : Nat) (x5 : Int) (x6 : Int) (x7 : Int) (x8 : Int) (h : MH) (x5' : Int) (x6' : Int) (x7' : Int) (x8' : Int) (h' : MH), F_M_lays_L79 x2 x3 x4 n x5 x6 x7 x8 h = some (x5', x6', x7', x8', h') → K 301 [(0, vR 76), (2, vI x2), (3, vI x3), (4, vI x4), (5, vI x5'), (6, vI x6'), (7, vI x7'), (8, vI x8')] [] h' → K 79 [(0, vR 76), (2, vI x2), (3, vI x3), (4, vI x4), (5, vI x5), (6, vI x6), (7, vI x7), (8, vI x8)] [] h := by
  intro n
  induction n with
  | zero =>
    intro x5 x6 x7 x8 h x5' x6' x7' x8' h' hF
    cases hF
  | succ n ih =>
    intro x5 x6 x7 x8 h x5' x6' x7' x8' h' hF hE
    unfold F_M_lays_L79 at hF
    refine g_seg hK [.iload 8, .aload_n 0] 79 82 (L1 := [(0, vR 76), (2, vI x2), (3, vI x3), (4, vI x4), (5, vI x5), (6, vI x6), (7, vI x7), (8, vI x8)]) (st1 := [vR 76, vI x8]) (h1 := h) (P := True ∧ True ∧ True) (by decide +kernel) rfl rfl ⟨trivial, trivial, trivial⟩ ?_
    obtain ⟨r1, e2, hF⟩ := ob1_elim hF
    refine g_callV1 hK 82 72 (d1 := 1) (ci := 7) (i := 76) (vs := []) (rest := [vI x8]) (h1 := h) (r := vI r1) my_yX7_hunks vw_X7_72 (by decide) (T_M_hunks (h := h) (hF := e2)) rfl rfl rfl (Nat.le_of_ble_eq_true rfl) (by decide +kernel) ?_
    refine g_icmp hK 85 .ge (216) 301 (t1 := 88) (t2 := 301) (by decide +kernel) (by decide) rfl rfl (fun (hc3 : x8 < r1) => ?_) (fun (hc3 : ¬ (x8 < r1)) => ?_)
    · have hF := ite_t hc3 hF
      refine g_seg hK [.aload_n 0, .iload 8] 88 91 (L1 := [(0, vR 76), (2, vI x2), (3, vI x3), (4, vI x4), (5, vI x5), (6, vI x6), (7, vI x7), (8, vI x8)]) (st1 := [vI x8, vR 76]) (h1 := h) (P := True ∧ True ∧ True) (by decide +kernel) rfl rfl ⟨trivial, trivial, trivial⟩ ?_
      obtain ⟨r4, e5, hF⟩ := ob1_elim hF
      refine g_callV1 hK 91 107 (d1 := 1) (ci := 7) (i := 76) (vs := [vI x8]) (rest := []) (h1 := h) (r := vI r4) my_yX7_start vw_X7_107 (by decide) (T_M_start (p1 := x8) (h := h) (hF := e5)) rfl rfl rfl (Nat.le_of_ble_eq_true rfl) (by decide +kernel) ?_
      refine g_seg hK [.istore 9, .aload_n 0, .iload 9, .iconst 1, .iload_n 2] 94 101 (L1 := [(9, vI r4), (0, vR 76), (2, vI x2), (3, vI x3), (4, vI x4), (5, vI x5), (6, vI x6), (7, vI x7), (8, vI x8)]) (st1 := [vI x2, vI 1, vI r4, vR 76]) (h1 := h) (P := True ∧ True ∧ True ∧ True ∧ True ∧ True) (by decide +kernel) rfl rfl ⟨trivial, trivial, trivial, trivial, trivial, trivial⟩ ?_
      obtain ⟨r6, e7, hF⟩ := ob1_elim hF
      refine g_callV1 hK 101 128 (d1 := 1) (ci := 7) (i := 76) (vs := [vI r4, vI 1, vI x2]) (rest := []) (h1 := h) (r := vI r6) my_yX7_around vw_X7_128 (by decide) (T_M_around (p1 := r4) (p2 := 1) (p3 := x2) (h := h) (hF := e7)) rfl rfl rfl (Nat.le_of_ble_eq_true rfl) (by decide +kernel) ?_
      refine g_seg hK [.istore 10, .iload 9, .aload_n 0, .iload 9, .iconst 0, .iload_n 2] 104 113 (L1 := [(10, vI r6), (9, vI r4), (0, vR 76), (2, vI x2), (3, vI x3), (4, vI x4), (5, vI x5), (6, vI x6), (7, vI x7), (8, vI x8)]) (st1 := [vI x2, vI 0, vI r4, vR 76, vI r4]) (h1 := h) (P := True ∧ True ∧ True ∧ True ∧ True ∧ True ∧ True) (by decide +kernel) rfl rfl ⟨trivial, trivial, trivial, trivial, trivial, trivial, trivial⟩ ?_
      obtain ⟨r8, e9, hF⟩ := ob1_elim hF
      refine g_callV1 hK 113 128 (d1 := 1) (ci := 7) (i := 76) (vs := [vI r4, vI 0, vI x2]) (rest := [vI r4]) (h1 := h) (r := vI r8) my_yX7_around vw_X7_128 (by decide) (T_M_around (p1 := r4) (p2 := 0) (p3 := x2) (h := h) (hF := e9)) rfl rfl rfl (Nat.le_of_ble_eq_true rfl) (by decide +kernel) ?_
      refine g_seg hK [.isub, .istore 11, .iload 9, .aload_n 0, .iload 9] 116 124 (L1 := [(11, vI (wr (r4 - r8))), (10, vI r6), (9, vI r4), (0, vR 76), (2, vI x2), (3, vI x3), (4, vI x4), (5, vI x5), (6, vI x6), (7, vI x7), (8, vI x8)]) (st1 := [vI r4, vR 76, vI r4]) (h1 := h) (P := True ∧ True ∧ True ∧ True ∧ True ∧ True) (by decide +kernel) rfl rfl ⟨trivial, trivial, trivial, trivial, trivial, trivial⟩ ?_
      obtain ⟨r10, e11, hF⟩ := ob1_elim hF
      refine g_callV1 hK 124 83 (d1 := 0) (ci := 7) (i := 76) (vs := [vI r4]) (rest := [vI r4]) (h1 := h) (r := vI r10) my_yX7_size vw_X7_83 (by decide) (T_M_size (p1 := r4) (h := h) (hF := e11)) rfl rfl rfl (Nat.le_of_ble_eq_true rfl) (by decide +kernel) ?_
      refine g_seg hK [.iadd, .iload 10, .iadd, .istore 12, .aload_n 0, .iconst 0, .iload 11, .iload_n 3] 127 138 (L1 := [(12, vI (wr ((wr (r4 + r10)) + r6))), (11, vI (wr (r4 - r8))), (10, vI r6), (9, vI r4), (0, vR 76), (2, vI x2), (3, vI x3), (4, vI x4), (5, vI x5), (6, vI x6), (7, vI x7), (8, vI x8)]) (st1 := [vI x3, vI (wr (r4 - r8)), vI 0, vR 76]) (h1 := h) (P := True ∧ True ∧ True ∧ True ∧ True ∧ True ∧ True ∧ True ∧ True) (by decide +kernel) rfl rfl ⟨trivial, trivial, trivial, trivial, trivial, trivial, trivial, trivial, trivial⟩ ?_
      obtain ⟨r12, e13, hF⟩ := ob1_elim hF
      refine g_callV1 hK 138 116 (d1 := 0) (ci := 7) (i := 76) (vs := [vI 0, vI (wr (r4 - r8)), vI x3]) (rest := []) (h1 := h) (r := vI r12) my_yX7_linesBut vw_X7_116 (by decide) (T_M_linesBut (p1 := 0) (p2 := (wr (r4 - r8))) (p3 := x3) (h := h) (hF := e13)) rfl rfl rfl (Nat.le_of_ble_eq_true rfl) (by decide +kernel) ?_
      refine g_seg hK [.aload_n 0, .getfield 113, .iadd, .aload_n 0, .iconst 2] 141 148 (L1 := [(12, vI (wr ((wr (r4 + r10)) + r6))), (11, vI (wr (r4 - r8))), (10, vI r6), (9, vI r4), (0, vR 76), (2, vI x2), (3, vI x3), (4, vI x4), (5, vI x5), (6, vI x6), (7, vI x7), (8, vI x8)]) (st1 := [vI 2, vR 76, vI (wr (r12 + (h 76 13)))]) (h1 := h) (P := True ∧ kd 76 = 9 ∧ True ∧ True ∧ True ∧ True) (by decide +kernel) rfl rfl ⟨trivial, rfl, trivial, trivial, trivial, trivial⟩ ?_
      obtain ⟨r14, e15, hF⟩ := ob1_elim hF
      refine g_callV1 hK 148 47 (d1 := 0) (ci := 7) (i := 76) (vs := [vI 2]) (rest := [vI (wr (r12 + (h 76 13)))]) (h1 := h) (r := vI r14) my_yX7_lines vw_X7_47 (by decide) (T_M_lines (p1 := 2) (h := h) (hF := e15)) rfl rfl rfl (Nat.le_of_ble_eq_true rfl) (by decide +kernel) ?_
      refine g_seg hK [.isub, .iload 6, .iadd, .istore 13, .aload_n 0, .getfield 34, .iload 8, .aload_n 0, .iload 13, .iload 7, .iload 11, .iload 12, .iload_n 3] 151 173 (L1 := [(13, vI (wr ((wr ((wr (r12 + (h 76 13))) - r14)) + x6))), (12, vI (wr ((wr (r4 + r10)) + r6))), (11, vI (wr (r4 - r8))), (10, vI r6), (9, vI r4), (0, vR 76), (2, vI x2), (3, vI x3), (4, vI x4), (5, vI x5), (6, vI x6), (7, vI x7), (8, vI x8)]) (st1 := [vI x3, vI (wr ((wr (r4 + r10)) + r6)), vI (wr (r4 - r8)), vI x7, vI (wr ((wr ((wr (r12 + (h 76 13))) - r14)) + x6)), vR 76, vI x8, vR 85]) (h1 := h) (P := True ∧ True ∧ True ∧ True ∧ True ∧ kd 76 = 9 ∧ True ∧ True ∧ True ∧ True ∧ True ∧ True ∧ True ∧ True) (by decide +kernel) rfl rfl ⟨trivial, trivial, trivial, trivial, trivial, rfl, trivial, trivial, trivial, trivial, trivial, trivial, trivial, trivial⟩ ?_
      obtain ⟨r16, e17, hF⟩ := ob1_elim hF
      refine g_callV1 hK 173 132 (d1 := 1) (ci := 7) (i := 76) (vs := [vI (wr ((wr ((wr (r12 + (h 76 13))) - r14)) + x6)), vI x7, vI (wr (r4 - r8)), vI (wr ((wr (r4 + r10)) + r6)), vI x3]) (rest := [vI x8, vR 85]) (h1 := h) (r := vI r16) my_yX7_looks vw_X7_132 (by decide) (T_M_looks (p1 := (wr ((wr ((wr (r12 + (h 76 13))) - r14)) + x6))) (p2 := x7) (p3 := (wr (r4 - r8))) (p4 := (wr ((wr (r4 + r10)) + r6))) (p5 := x3) (h := h) (hF := e17)) rfl rfl rfl (Nat.le_of_ble_eq_true rfl) (by decide +kernel) ?_
      obtain ⟨hg18, hF⟩ := gd_elim hF
      refine g_seg hK [.iastore, .aload_n 0, .getfield 37, .iload 8, .aload_n 0, .getfield 34, .iload 8] 176 189 (L1 := [(13, vI (wr ((wr ((wr (r12 + (h 76 13))) - r14)) + x6))), (12, vI (wr ((wr (r4 + r10)) + r6))), (11, vI (wr (r4 - r8))), (10, vI r6), (9, vI r4), (0, vR 76), (2, vI x2), (3, vI x3), (4, vI x4), (5, vI x5), (6, vI x6), (7, vI x7), (8, vI x8)]) (st1 := [vI x8, vR 85, vI x8, vR 86]) (h1 := (up h 85 x8.toNat r16)) (P := (kd 85 = 0 ∧ 0 ≤ x8 ∧ x8 < 28) ∧ True ∧ kd 76 = 9 ∧ True ∧ True ∧ kd 76 = 9 ∧ True ∧ True) (by decide +kernel) rfl rfl ⟨⟨rfl, hg18⟩, trivial, rfl, trivial, trivial, rfl, trivial, trivial⟩ ?_
      obtain ⟨hg19, hF⟩ := gd_elim hF
      refine g_seg hK [.iaload, .iload 13, .isub] 189 193 (L1 := [(13, vI (wr ((wr ((wr (r12 + (h 76 13))) - r14)) + x6))), (12, vI (wr ((wr (r4 + r10)) + r6))), (11, vI (wr (r4 - r8))), (10, vI r6), (9, vI r4), (0, vR 76), (2, vI x2), (3, vI x3), (4, vI x4), (5, vI x5), (6, vI x6), (7, vI x7), (8, vI x8)]) (st1 := [vI (wr (((up h 85 x8.toNat r16) 85 x8.toNat) - (wr ((wr ((wr (r12 + (h 76 13))) - r14)) + x6)))), vI x8, vR 86]) (h1 := (up h 85 x8.toNat r16)) (P := (kd 85 = 0 ∧ 0 ≤ x8 ∧ x8 < 28) ∧ True ∧ True ∧ True) (by decide +kernel) rfl rfl ⟨⟨rfl, hg19⟩, trivial, trivial, trivial⟩ ?_
      obtain ⟨hg20, hF⟩ := gd_elim hF
      refine g_seg hK [.iastore, .aload_n 0, .getfield 34, .iload 8] 193 200 (L1 := [(13, vI (wr ((wr ((wr (r12 + (h 76 13))) - r14)) + x6))), (12, vI (wr ((wr (r4 + r10)) + r6))), (11, vI (wr (r4 - r8))), (10, vI r6), (9, vI r4), (0, vR 76), (2, vI x2), (3, vI x3), (4, vI x4), (5, vI x5), (6, vI x6), (7, vI x7), (8, vI x8)]) (st1 := [vI x8, vR 85]) (h1 := (up (up h 85 x8.toNat r16) 86 x8.toNat (wr (((up h 85 x8.toNat r16) 85 x8.toNat) - (wr ((wr ((wr (r12 + (h 76 13))) - r14)) + x6)))))) (P := (kd 86 = 0 ∧ 0 ≤ x8 ∧ x8 < 28) ∧ True ∧ kd 76 = 9 ∧ True ∧ True) (by decide +kernel) rfl rfl ⟨⟨rfl, hg20⟩, trivial, rfl, trivial, trivial⟩ ?_
      obtain ⟨hg21, hF⟩ := gd_elim hF
      refine g_seg hK [.iaload, .bipush (-4)] 200 203 (L1 := [(13, vI (wr ((wr ((wr (r12 + (h 76 13))) - r14)) + x6))), (12, vI (wr ((wr (r4 + r10)) + r6))), (11, vI (wr (r4 - r8))), (10, vI r6), (9, vI r4), (0, vR 76), (2, vI x2), (3, vI x3), (4, vI x4), (5, vI x5), (6, vI x6), (7, vI x7), (8, vI x8)]) (st1 := [vI (-4), vI ((up (up h 85 x8.toNat r16) 86 x8.toNat (wr (((up h 85 x8.toNat r16) 85 x8.toNat) - (wr ((wr ((wr (r12 + (h 76 13))) - r14)) + x6))))) 85 x8.toNat)]) (h1 := (up (up h 85 x8.toNat r16) 86 x8.toNat (wr (((up h 85 x8.toNat r16) 85 x8.toNat) - (wr ((wr ((wr (r12 + (h 76 13))) - r14)) + x6)))))) (P := (kd 85 = 0 ∧ 0 ≤ x8 ∧ x8 < 28) ∧ True ∧ True) (by decide +kernel) rfl rfl ⟨⟨rfl, hg21⟩, trivial, trivial⟩ ?_
      obtain ⟨kj26, e27, hF⟩ := jk4_elim hF
      have j26 : ∀ (x5_22 : Int) (x6_23 : Int) (x7_24 : Int) (h25 : MH), kj26 x5_22 x6_23 x7_24 h25 = some (x5', x6', x7', x8', h') → K 295 [(0, vR 76), (2, vI x2), (3, vI x3), (4, vI x4), (5, vI x5_22), (6, vI x6_23), (7, vI x7_24), (8, vI x8)] [] h25 := by
        intro x5_22 x6_23 x7_24 h25 hF
        have hF := (e27 x5_22 x6_23 x7_24 h25).symm.trans hF
        refine g_seg hK [.iinc 8 1] 295 298 (L1 := [(8, vI (wr (x8 + 1))), (0, vR 76), (2, vI x2), (3, vI x3), (4, vI x4), (5, vI x5_22), (6, vI x6_23), (7, vI x7_24)]) (st1 := []) (h1 := h25) (P := True ∧ True) (by decide +kernel) rfl rfl ⟨trivial, trivial⟩ ?_
        refine g_goto hK 298 (-219) 79 (by decide +kernel) (by decide) ?_
        refine hK.2.1 _ _ ([(0, vR 76), (2, vI x2), (3, vI x3), (4, vI x4), (5, vI x5_22), (6, vI x6_23), (7, vI x7_24), (8, vI (wr (x8 + 1)))]) _ _ (sub_of [1, 2, 3, 4, 5, 6, 7, 0] rfl) ?_
        exact ih _ _ _ _ _ _ _ _ _ _ hF hE
      refine g_icmp hK 203 .eq (92) 295 (t1 := 295) (t2 := 206) (by decide +kernel) (by decide) rfl rfl (fun (hc28 : (up (up h 85 x8.toNat r16) 86 x8.toNat (wr (((up h 85 x8.toNat r16) 85 x8.toNat) - (wr ((wr ((wr (r12 + (h 76 13))) - r14)) + x6))))) 85 x8.toNat = (-4)) => ?_) (fun (hc28 : ¬ ((up (up h 85 x8.toNat r16) 86 x8.toNat (wr (((up h 85 x8.toNat r16) 85 x8.toNat) - (wr ((wr ((wr (r12 + (h 76 13))) - r14)) + x6))))) 85 x8.toNat = (-4))) => ?_)
      · have hF := ite_t hc28 hF
        refine hK.2.1 _ _ ([(0, vR 76), (2, vI x2), (3, vI x3), (4, vI x4), (5, vI x5), (6, vI x6), (7, vI x7), (8, vI x8)]) _ _ (sub_of [5, 6, 7, 8, 9, 10, 11, 12] rfl) ?_
        exact j26 _ _ _ _ hF
      · have hF := ite_f hc28 hF
        refine g_seg hK [.aload_n 0, .aload_n 0, .getfield 34, .iload 8] 206 213 (L1 := [(13, vI (wr ((wr ((wr (r12 + (h 76 13))) - r14)) + x6))), (12, vI (wr ((wr (r4 + r10)) + r6))), (11, vI (wr (r4 - r8))), (10, vI r6), (9, vI r4), (0, vR 76), (2, vI x2), (3, vI x3), (4, vI x4), (5, vI x5), (6, vI x6), (7, vI x7), (8, vI x8)]) (st1 := [vI x8, vR 85, vR 76]) (h1 := (up (up h 85 x8.toNat r16) 86 x8.toNat (wr (((up h 85 x8.toNat r16) 85 x8.toNat) - (wr ((wr ((wr (r12 + (h 76 13))) - r14)) + x6)))))) (P := True ∧ True ∧ kd 76 = 9 ∧ True ∧ True) (by decide +kernel) rfl rfl ⟨trivial, trivial, rfl, trivial, trivial⟩ ?_
        obtain ⟨hg29, hF⟩ := gd_elim hF
        refine g_seg hK [.iaload, .aload_n 0, .iload 11, .iload 12, .iload_n 3] 213 220 (L1 := [(13, vI (wr ((wr ((wr (r12 + (h 76 13))) - r14)) + x6))), (12, vI (wr ((wr (r4 + r10)) + r6))), (11, vI (wr (r4 - r8))), (10, vI r6), (9, vI r4), (0, vR 76), (2, vI x2), (3, vI x3), (4, vI x4), (5, vI x5), (6, vI x6), (7, vI x7), (8, vI x8)]) (st1 := [vI x3, vI (wr ((wr (r4 + r10)) + r6)), vI (wr (r4 - r8)), vR 76, vI ((up (up h 85 x8.toNat r16) 86 x8.toNat (wr (((up h 85 x8.toNat r16) 85 x8.toNat) - (wr ((wr ((wr (r12 + (h 76 13))) - r14)) + x6))))) 85 x8.toNat), vR 76]) (h1 := (up (up h 85 x8.toNat r16) 86 x8.toNat (wr (((up h 85 x8.toNat r16) 85 x8.toNat) - (wr ((wr ((wr (r12 + (h 76 13))) - r14)) + x6)))))) (P := (kd 85 = 0 ∧ 0 ≤ x8 ∧ x8 < 28) ∧ True ∧ True ∧ True ∧ True ∧ True) (by decide +kernel) rfl rfl ⟨⟨rfl, hg29⟩, trivial, trivial, trivial, trivial, trivial⟩ ?_
        obtain ⟨r30, e31, hF⟩ := ob1_elim hF
        refine g_callV1 hK 220 116 (d1 := 0) (ci := 7) (i := 76) (vs := [vI (wr (r4 - r8)), vI (wr ((wr (r4 + r10)) + r6)), vI x3]) (rest := [vI ((up (up h 85 x8.toNat r16) 86 x8.toNat (wr (((up h 85 x8.toNat r16) 85 x8.toNat) - (wr ((wr ((wr (r12 + (h 76 13))) - r14)) + x6))))) 85 x8.toNat), vR 76]) (h1 := (up (up h 85 x8.toNat r16) 86 x8.toNat (wr (((up h 85 x8.toNat r16) 85 x8.toNat) - (wr ((wr ((wr (r12 + (h 76 13))) - r14)) + x6)))))) (r := vI r30) my_yX7_linesBut vw_X7_116 (by decide) (T_M_linesBut (p1 := (wr (r4 - r8))) (p2 := (wr ((wr (r4 + r10)) + r6))) (p3 := x3) (h := (up (up h 85 x8.toNat r16) 86 x8.toNat (wr (((up h 85 x8.toNat r16) 85 x8.toNat) - (wr ((wr ((wr (r12 + (h 76 13))) - r14)) + x6)))))) (hF := e31)) rfl rfl rfl (Nat.le_of_ble_eq_true rfl) (by decide +kernel) ?_
        refine g_seg hK [.iload 11, .iload 12, .iload 4] 223 229 (L1 := [(13, vI (wr ((wr ((wr (r12 + (h 76 13))) - r14)) + x6))), (12, vI (wr ((wr (r4 + r10)) + r6))), (11, vI (wr (r4 - r8))), (10, vI r6), (9, vI r4), (0, vR 76), (2, vI x2), (3, vI x3), (4, vI x4), (5, vI x5), (6, vI x6), (7, vI x7), (8, vI x8)]) (st1 := [vI x4, vI (wr ((wr (r4 + r10)) + r6)), vI (wr (r4 - r8)), vI r30, vI ((up (up h 85 x8.toNat r16) 86 x8.toNat (wr (((up h 85 x8.toNat r16) 85 x8.toNat) - (wr ((wr ((wr (r12 + (h 76 13))) - r14)) + x6))))) 85 x8.toNat), vR 76]) (h1 := (up (up h 85 x8.toNat r16) 86 x8.toNat (wr (((up h 85 x8.toNat r16) 85 x8.toNat) - (wr ((wr ((wr (r12 + (h 76 13))) - r14)) + x6)))))) (P := True ∧ True ∧ True ∧ True) (by decide +kernel) rfl rfl ⟨trivial, trivial, trivial, trivial⟩ ?_
        obtain ⟨h32, e33, hF⟩ := ob1_elim hF
        refine g_callV0 hK 229 136 (d1 := 1) (ci := 7) (i := 76) (vs := [vI ((up (up h 85 x8.toNat r16) 86 x8.toNat (wr (((up h 85 x8.toNat r16) 85 x8.toNat) - (wr ((wr ((wr (r12 + (h 76 13))) - r14)) + x6))))) 85 x8.toNat), vI r30, vI (wr (r4 - r8)), vI (wr ((wr (r4 + r10)) + r6)), vI x4]) (rest := []) (h1 := h32) my_yX7_replaces vw_X7_136 (by decide) (T_M_replaces (p1 := ((up (up h 85 x8.toNat r16) 86 x8.toNat (wr (((up h 85 x8.toNat r16) 85 x8.toNat) - (wr ((wr ((wr (r12 + (h 76 13))) - r14)) + x6))))) 85 x8.toNat)) (p2 := r30) (p3 := (wr (r4 - r8))) (p4 := (wr ((wr (r4 + r10)) + r6))) (p5 := x4) (h := (up (up h 85 x8.toNat r16) 86 x8.toNat (wr (((up h 85 x8.toNat r16) 85 x8.toNat) - (wr ((wr ((wr (r12 + (h 76 13))) - r14)) + x6)))))) (hF := e33)) rfl rfl rfl (Nat.le_of_ble_eq_true rfl) (by decide +kernel) ?_
        refine g_seg hK [.iload 6, .aload_n 0, .getfield 37, .iload 8] 232 240 (L1 := [(13, vI (wr ((wr ((wr (r12 + (h 76 13))) - r14)) + x6))), (12, vI (wr ((wr (r4 + r10)) + r6))), (11, vI (wr (r4 - r8))), (10, vI r6), (9, vI r4), (0, vR 76), (2, vI x2), (3, vI x3), (4, vI x4), (5, vI x5), (6, vI x6), (7, vI x7), (8, vI x8)]) (st1 := [vI x8, vR 86, vI x6]) (h1 := h32) (P := True ∧ True ∧ kd 76 = 9 ∧ True ∧ True) (by decide +kernel) rfl rfl ⟨trivial, trivial, rfl, trivial, trivial⟩ ?_
        obtain ⟨hg34, hF⟩ := gd_elim hF
        refine g_seg hK [.iaload, .iadd, .istore 6, .aload_n 0, .getfield 34, .iload 8] 240 250 (L1 := [(6, vI (wr (x6 + (h32 86 x8.toNat)))), (13, vI (wr ((wr ((wr (r12 + (h 76 13))) - r14)) + x6))), (12, vI (wr ((wr (r4 + r10)) + r6))), (11, vI (wr (r4 - r8))), (10, vI r6), (9, vI r4), (0, vR 76), (2, vI x2), (3, vI x3), (4, vI x4), (5, vI x5), (7, vI x7), (8, vI x8)]) (st1 := [vI x8, vR 85]) (h1 := h32) (P := (kd 86 = 0 ∧ 0 ≤ x8 ∧ x8 < 28) ∧ True ∧ True ∧ True ∧ kd 76 = 9 ∧ True ∧ True) (by decide +kernel) rfl rfl ⟨⟨rfl, hg34⟩, trivial, trivial, trivial, rfl, trivial, trivial⟩ ?_
        obtain ⟨hg35, hF⟩ := gd_elim hF
        refine g_seg hK [.iaload, .aload_n 0, .iload 11, .iload 12, .iload 4] 250 258 (L1 := [(6, vI (wr (x6 + (h32 86 x8.toNat)))), (13, vI (wr ((wr ((wr (r12 + (h 76 13))) - r14)) + x6))), (12, vI (wr ((wr (r4 + r10)) + r6))), (11, vI (wr (r4 - r8))), (10, vI r6), (9, vI r4), (0, vR 76), (2, vI x2), (3, vI x3), (4, vI x4), (5, vI x5), (7, vI x7), (8, vI x8)]) (st1 := [vI x4, vI (wr ((wr (r4 + r10)) + r6)), vI (wr (r4 - r8)), vR 76, vI (h32 85 x8.toNat)]) (h1 := h32) (P := (kd 85 = 0 ∧ 0 ≤ x8 ∧ x8 < 28) ∧ True ∧ True ∧ True ∧ True ∧ True) (by decide +kernel) rfl rfl ⟨⟨rfl, hg35⟩, trivial, trivial, trivial, trivial, trivial⟩ ?_
        obtain ⟨r36, e37, hF⟩ := ob1_elim hF
        refine g_callV1 hK 258 116 (d1 := 0) (ci := 7) (i := 76) (vs := [vI (wr (r4 - r8)), vI (wr ((wr (r4 + r10)) + r6)), vI x4]) (rest := [vI (h32 85 x8.toNat)]) (h1 := h32) (r := vI r36) my_yX7_linesBut vw_X7_116 (by decide) (T_M_linesBut (p1 := (wr (r4 - r8))) (p2 := (wr ((wr (r4 + r10)) + r6))) (p3 := x4) (h := h32) (hF := e37)) rfl rfl rfl (Nat.le_of_ble_eq_true rfl) (by decide +kernel) ?_
        refine g_seg hK [.iadd, .iload 10, .isub, .istore 7, .aload_n 0, .aload_n 0, .getfield 124] 261 272 (L1 := [(7, vI (wr ((wr ((h32 85 x8.toNat) + r36)) - r6))), (6, vI (wr (x6 + (h32 86 x8.toNat)))), (13, vI (wr ((wr ((wr (r12 + (h 76 13))) - r14)) + x6))), (12, vI (wr ((wr (r4 + r10)) + r6))), (11, vI (wr (r4 - r8))), (10, vI r6), (9, vI r4), (0, vR 76), (2, vI x2), (3, vI x3), (4, vI x4), (5, vI x5), (8, vI x8)]) (st1 := [vI (h32 76 16), vR 76]) (h1 := h32) (P := True ∧ True ∧ True ∧ True ∧ True ∧ True ∧ kd 76 = 9 ∧ True) (by decide +kernel) rfl rfl ⟨trivial, trivial, trivial, trivial, trivial, trivial, rfl, trivial⟩ ?_
        obtain ⟨kj41, e43, hF⟩ := jk1_elim hF
        have j41 : ∀ (s40 : Int), kj41 s40 = some (x5', x6', x7', x8', h') → K 289 [(0, vR 76), (2, vI x2), (3, vI x3), (4, vI x4), (5, vI x5), (6, vI (wr (x6 + (h32 86 x8.toNat)))), (7, vI (wr ((wr ((h32 85 x8.toNat) + r36)) - r6))), (8, vI x8)] [vI s40, vR 76] h32 := by
          intro s40 hF
          have hF := (e43 s40).symm.trans hF
          obtain ⟨hg42, hF⟩ := gd_elim hF
          refine g_seg hK [.putfield 124, .iinc 5 1] 289 295 (L1 := [(5, vI (wr (x5 + 1))), (0, vR 76), (2, vI x2), (3, vI x3), (4, vI x4), (6, vI (wr (x6 + (h32 86 x8.toNat)))), (7, vI (wr ((wr ((h32 85 x8.toNat) + r36)) - r6))), (8, vI x8)]) (st1 := []) (h1 := (up h32 76 16 s40)) (P := (kd 76 = 9 ∧ (s40 = 0 ∨ s40 = 1)) ∧ True ∧ True) (by decide +kernel) rfl rfl ⟨⟨rfl, hg42⟩, trivial, trivial⟩ ?_
          refine hK.2.1 _ _ ([(0, vR 76), (2, vI x2), (3, vI x3), (4, vI x4), (5, vI (wr (x5 + 1))), (6, vI (wr (x6 + (h32 86 x8.toNat)))), (7, vI (wr ((wr ((h32 85 x8.toNat) + r36)) - r6))), (8, vI x8)]) _ _ (sub_of [1, 2, 3, 4, 0, 5, 6, 7] rfl) ?_
          exact j26 _ _ _ _ hF
        obtain ⟨kj39, e44, hF⟩ := jk1_elim hF
        have j39 : ∀ (u38 : Unit), kj39 u38 = some (x5', x6', x7', x8', h') → K 284 [(0, vR 76), (2, vI x2), (3, vI x3), (4, vI x4), (5, vI x5), (6, vI (wr (x6 + (h32 86 x8.toNat)))), (7, vI (wr ((wr ((h32 85 x8.toNat) + r36)) - r6))), (8, vI x8)] [vR 76] h32 := by
          intro u38 hF
          have hF := (e44 u38).symm.trans hF
          refine g_seg hK [.iconst 1] 284 285 (L1 := [(0, vR 76), (2, vI x2), (3, vI x3), (4, vI x4), (5, vI x5), (6, vI (wr (x6 + (h32 86 x8.toNat)))), (7, vI (wr ((wr ((h32 85 x8.toNat) + r36)) - r6))), (8, vI x8)]) (st1 := [vI 1, vR 76]) (h1 := h32) (P := True ∧ True) (by decide +kernel) rfl rfl ⟨trivial, trivial⟩ ?_
          refine g_goto hK 285 (4) 289 (by decide +kernel) (by decide) ?_
          exact j41 _ hF
        refine g_ifz hK 272 .ne (12) 284 (t1 := 275) (t2 := 284) (by decide +kernel) (by decide) rfl rfl (fun (hc45 : h32 76 16 = 0) => ?_) (fun (hc45 : ¬ (h32 76 16 = 0)) => ?_)
        · have hF := ite_t hc45 hF
          refine g_seg hK [.aload_n 0, .getfield 113, .bipush 14] 275 281 (L1 := [(7, vI (wr ((wr ((h32 85 x8.toNat) + r36)) - r6))), (6, vI (wr (x6 + (h32 86 x8.toNat)))), (13, vI (wr ((wr ((wr (r12 + (h 76 13))) - r14)) + x6))), (12, vI (wr ((wr (r4 + r10)) + r6))), (11, vI (wr (r4 - r8))), (10, vI r6), (9, vI r4), (0, vR 76), (2, vI x2), (3, vI x3), (4, vI x4), (5, vI x5), (8, vI x8)]) (st1 := [vI 14, vI (h32 76 13), vR 76]) (h1 := h32) (P := True ∧ kd 76 = 9 ∧ True ∧ True) (by decide +kernel) rfl rfl ⟨trivial, rfl, trivial, trivial⟩ ?_
          refine g_icmp hK 281 .le (7) 288 (t1 := 288) (t2 := 284) (by decide +kernel) (by decide) rfl rfl (fun (hc46 : h32 76 13 ≤ 14) => ?_) (fun (hc46 : ¬ (h32 76 13 ≤ 14)) => ?_)
          · have hF := ite_t hc46 hF
            refine g_seg hK [.iconst 0] 288 289 (L1 := [(7, vI (wr ((wr ((h32 85 x8.toNat) + r36)) - r6))), (6, vI (wr (x6 + (h32 86 x8.toNat)))), (13, vI (wr ((wr ((wr (r12 + (h 76 13))) - r14)) + x6))), (12, vI (wr ((wr (r4 + r10)) + r6))), (11, vI (wr (r4 - r8))), (10, vI r6), (9, vI r4), (0, vR 76), (2, vI x2), (3, vI x3), (4, vI x4), (5, vI x5), (8, vI x8)]) (st1 := [vI 0, vR 76]) (h1 := h32) (P := True ∧ True) (by decide +kernel) rfl rfl ⟨trivial, trivial⟩ ?_
            refine hK.2.1 _ _ ([(0, vR 76), (2, vI x2), (3, vI x3), (4, vI x4), (5, vI x5), (6, vI (wr (x6 + (h32 86 x8.toNat)))), (7, vI (wr ((wr ((h32 85 x8.toNat) + r36)) - r6))), (8, vI x8)]) _ _ (sub_of [7, 8, 9, 10, 11, 1, 0, 12] rfl) ?_
            exact j41 _ hF
          · have hF := ite_f hc46 hF
            refine hK.2.1 _ _ ([(0, vR 76), (2, vI x2), (3, vI x3), (4, vI x4), (5, vI x5), (6, vI (wr (x6 + (h32 86 x8.toNat)))), (7, vI (wr ((wr ((h32 85 x8.toNat) + r36)) - r6))), (8, vI x8)]) _ _ (sub_of [7, 8, 9, 10, 11, 1, 0, 12] rfl) ?_
            exact j39 _ hF
        · have hF := ite_f hc45 hF
          refine hK.2.1 _ _ ([(0, vR 76), (2, vI x2), (3, vI x3), (4, vI x4), (5, vI x5), (6, vI (wr (x6 + (h32 86 x8.toNat)))), (7, vI (wr ((wr ((h32 85 x8.toNat) + r36)) - r6))), (8, vI x8)]) _ _ (sub_of [7, 8, 9, 10, 11, 1, 0, 12] rfl) ?_
          exact j39 _ hF
    · have hF := ite_f hc3 hF
      cases hF
      exact hE
set_option maxHeartbeats 4000000 in
set_option maxRecDepth 100000 in
theorem T_M_lays {p1 : Int} {p2 : Int} {h : MH} {r : Int} {h' : MH} (hF : F_M_lays p1 p2 h = some (r, h')) : CON 2 yX7_lays cX7_lays 14 (Option.some Jvm.ClassFile.FieldType.int) [vR 76, vI p1, vI p2] h (some (vI r)) h' := by
  refine con_of (own := RX7) (fl := flX7) (by decide +kernel) rfl flok_X7 rfl (Nat.le_of_ble_eq_true rfl) ?_
  intro K hK hR
  show K 0 [(0, vR 76), (1, vI p1), (2, vI p2)] [] h
  unfold F_M_lays at hF
  refine g_seg hK [.iload_n 1] 0 1 (L1 := [(0, vR 76), (1, vI p1), (2, vI p2)]) (st1 := [vI p1]) (h1 := h) (P := True ∧ True) (by decide +kernel) rfl rfl ⟨trivial, trivial⟩ ?_
  obtain ⟨s1, e19, hF⟩ := jn1_elim hF
  have j2 : K 9 [(0, vR 76), (1, vI p1), (2, vI p2)] [vI s1] h := by
    refine g_seg hK [.istore_n 3, .iload_n 1] 9 11 (L1 := [(3, vI s1), (0, vR 76), (1, vI p1), (2, vI p2)]) (st1 := [vI p1]) (h1 := h) (P := True ∧ True ∧ True) (by decide +kernel) rfl rfl ⟨trivial, trivial, trivial⟩ ?_
    obtain ⟨s4, e18, hF⟩ := jn1_elim hF
    have j5 : K 19 [(0, vR 76), (2, vI p2), (3, vI s1)] [vI s4] h := by
      refine g_seg hK [.istore 4, .aload_n 0, .aload_n 0, .iconst 2] 19 24 (L1 := [(4, vI s4), (0, vR 76), (2, vI p2), (3, vI s1)]) (st1 := [vI 2, vR 76, vR 76]) (h1 := h) (P := True ∧ True ∧ True ∧ True ∧ True) (by decide +kernel) rfl rfl ⟨trivial, trivial, trivial, trivial, trivial⟩ ?_
      obtain ⟨r7, e8, hF⟩ := ob1_elim hF
      refine g_callV1 hK 24 47 (d1 := 0) (ci := 7) (i := 76) (vs := [vI 2]) (rest := [vR 76]) (h1 := h) (r := vI r7) my_yX7_lines vw_X7_47 (by decide) (T_M_lines (p1 := 2) (h := h) (hF := e8)) rfl rfl rfl (Nat.le_of_ble_eq_true rfl) (by decide +kernel) ?_
      refine g_seg hK [.putfield 113, .iconst 0, .istore 5] 27 33 (L1 := [(5, vI 0), (4, vI s4), (0, vR 76), (2, vI p2), (3, vI s1)]) (st1 := []) (h1 := (up h 76 13 r7)) (P := kd 76 = 9 ∧ True ∧ True ∧ True) (by decide +kernel) rfl rfl ⟨rfl, trivial, trivial, trivial⟩ ?_
      refine hK.2.1 _ _ ([(0, vR 76), (2, vI p2), (3, vI s1), (4, vI s4), (5, vI 0)]) _ _ (sub_of [2, 3, 4, 1, 0] rfl) ?_
      obtain ⟨x5_9, h10, e11, hF⟩ := ob2_elim hF
      refine LT_M_lays_L33 hK _ _ _ _ _ e11 ?_
      refine g_seg hK [.aload_n 0, .iconst 0, .putfield 124, .iconst 0, .istore 5, .iconst 0, .istore 6, .iconst 0, .istore 7, .iconst 0, .istore 8] 62 79 (L1 := [(8, vI 0), (7, vI 0), (6, vI 0), (5, vI 0), (0, vR 76), (2, vI p2), (3, vI s1), (4, vI s4)]) (st1 := []) (h1 := (up h10 76 16 0)) (P := True ∧ True ∧ (kd 76 = 9 ∧ (0 = 0 ∨ 0 = 1)) ∧ True ∧ True ∧ True ∧ True ∧ True ∧ True ∧ True ∧ True ∧ True) (by decide +kernel) rfl rfl ⟨trivial, trivial, ⟨rfl, by decide⟩, trivial, trivial, trivial, trivial, trivial, trivial, trivial, trivial, trivial⟩ ?_
      refine hK.2.1 _ _ ([(0, vR 76), (2, vI p2), (3, vI s1), (4, vI s4), (5, vI 0), (6, vI 0), (7, vI 0), (8, vI 0)]) _ _ (sub_of [4, 5, 6, 7, 3, 2, 1, 0] rfl) ?_
      obtain ⟨x5_12, x6_13, x7_14, x8_15, h16, e17, hF⟩ := ob5_elim hF
      refine LT_M_lays_L79 hK _ _ _ _ _ _ _ _ _ _ _ e17 ?_
      refine g_seg hK [.iload 5] 301 303 (L1 := [(0, vR 76), (2, vI p2), (3, vI s1), (4, vI s4), (5, vI x5_12), (6, vI x6_13), (7, vI x7_14), (8, vI x8_15)]) (st1 := [vI x5_12]) (h1 := h16) (P := True ∧ True) (by decide +kernel) rfl rfl ⟨trivial, trivial⟩ ?_
      cases hF
      exact hR.1 303 _ _ _ (by decide +kernel) rfl ⟨rfl, rfl⟩
    clear hF
    have hF := e18
    refine g_ifz hK 11 .eq (7) 18 (t1 := 18) (t2 := 14) (by decide +kernel) (by decide) rfl rfl (fun (hc6 : p1 = 0) => ?_) (fun (hc6 : ¬ (p1 = 0)) => ?_)
    · have hF := ite_t hc6 hF
      refine g_seg hK [.iconst 1] 18 19 (L1 := [(3, vI s1), (0, vR 76), (1, vI p1), (2, vI p2)]) (st1 := [vI 1]) (h1 := h) (P := True ∧ True) (by decide +kernel) rfl rfl ⟨trivial, trivial⟩ ?_
      refine hK.2.1 _ _ ([(0, vR 76), (2, vI p2), (3, vI s1)]) _ _ (sub_of [1, 3, 0] rfl) ?_
      cases hF
      exact j5
    · have hF := ite_f hc6 hF
      refine g_seg hK [.iconst 2] 14 15 (L1 := [(3, vI s1), (0, vR 76), (1, vI p1), (2, vI p2)]) (st1 := [vI 2]) (h1 := h) (P := True ∧ True) (by decide +kernel) rfl rfl ⟨trivial, trivial⟩ ?_
      refine g_goto hK 15 (4) 19 (by decide +kernel) (by decide) ?_
      refine hK.2.1 _ _ ([(0, vR 76), (2, vI p2), (3, vI s1)]) _ _ (sub_of [1, 3, 0] rfl) ?_
      cases hF
      exact j5
  clear hF
  have hF := e19
  refine g_ifz hK 1 .eq (7) 8 (t1 := 8) (t2 := 4) (by decide +kernel) (by decide) rfl rfl (fun (hc3 : p1 = 0) => ?_) (fun (hc3 : ¬ (p1 = 0)) => ?_)
  · have hF := ite_t hc3 hF
    refine g_seg hK [.iconst 2] 8 9 (L1 := [(0, vR 76), (1, vI p1), (2, vI p2)]) (st1 := [vI 2]) (h1 := h) (P := True ∧ True) (by decide +kernel) rfl rfl ⟨trivial, trivial⟩ ?_
    cases hF
    exact j2
  · have hF := ite_f hc3 hF
    refine g_seg hK [.iconst 1] 4 5 (L1 := [(0, vR 76), (1, vI p1), (2, vI p2)]) (st1 := [vI 1]) (h1 := h) (P := True ∧ True) (by decide +kernel) rfl rfl ⟨trivial, trivial⟩ ?_
    refine g_goto hK 5 (4) 9 (by decide +kernel) (by decide) ?_
    cases hF
    exact j2
set_option maxHeartbeats 4000000 in
set_option maxRecDepth 100000 in
theorem T_M_append {p1 : Int} {h : MH} {r : Int} {h' : MH} (hF : F_M_append p1 h = some (r, h')) : CON 1 yX7_append cX7_append 2 (Option.some Jvm.ClassFile.FieldType.int) [vR 76, vI p1] h (some (vI r)) h' := by
  refine con_of (own := RX7) (fl := flX7) (by decide +kernel) rfl flok_X7 rfl (Nat.le_of_ble_eq_true rfl) ?_
  intro K hK hR
  show K 0 [(0, vR 76), (1, vI p1)] [] h
  unfold F_M_append at hF
  refine g_seg hK [.iload_n 1, .bipush 33, .bipush 126] 0 5 (L1 := [(0, vR 76), (1, vI p1)]) (st1 := [vI 126, vI 33, vI p1]) (h1 := h) (P := True ∧ True ∧ True ∧ True) (by decide +kernel) rfl rfl ⟨trivial, trivial, trivial, trivial⟩ ?_
  refine g_callS1 hK 5 89 (d1 := 0) (vs := [vI p1, vI 33, vI 126]) (rest := []) (h1 := h) (r := vI (F_M_in p1 33 126)) my_yX7_in sw_X7_89 (by decide) (T_M_in (p1 := p1) (p2 := 33) (p3 := 126) (h := h) (hF := rfl)) rfl (Nat.le_of_ble_eq_true rfl) (by decide +kernel) ?_
  refine g_ifz hK 8 .ne (5) 13 (t1 := 11) (t2 := 13) (by decide +kernel) (by decide) rfl rfl (fun (hc1 : F_M_in p1 33 126 = 0) => ?_) (fun (hc1 : ¬ (F_M_in p1 33 126 = 0)) => ?_)
  · have hF := ite_t hc1 hF
    refine g_seg hK [.iconst (-1)] 11 12 (L1 := [(0, vR 76), (1, vI p1)]) (st1 := [vI (-1)]) (h1 := h) (P := True ∧ True) (by decide +kernel) rfl rfl ⟨trivial, trivial⟩ ?_
    cases hF
    exact hR.1 12 _ _ _ (by decide +kernel) rfl ⟨rfl, rfl⟩
  · have hF := ite_f hc1 hF
    refine g_seg hK [.aload_n 0, .getfield 140, .bipush 40] 13 19 (L1 := [(0, vR 76), (1, vI p1)]) (st1 := [vI 40, vI (h 76 6)]) (h1 := h) (P := True ∧ kd 76 = 9 ∧ True ∧ True) (by decide +kernel) rfl rfl ⟨trivial, rfl, trivial, trivial⟩ ?_
    refine g_icmp hK 19 .ne (6) 25 (t1 := 22) (t2 := 25) (by decide +kernel) (by decide) rfl rfl (fun (hc2 : h 76 6 = 40) => ?_) (fun (hc2 : ¬ (h 76 6 = 40)) => ?_)
    · have hF := ite_t hc2 hF
      refine g_seg hK [.bipush (-3)] 22 24 (L1 := [(0, vR 76), (1, vI p1)]) (st1 := [vI (-3)]) (h1 := h) (P := True ∧ True) (by decide +kernel) rfl rfl ⟨trivial, trivial⟩ ?_
      cases hF
      exact hR.1 24 _ _ _ (by decide +kernel) rfl ⟨rfl, rfl⟩
    · have hF := ite_f hc2 hF
      refine g_seg hK [.aload_n 0, .getfield 19, .aload_n 0, .getfield 140, .iload_n 1] 25 34 (L1 := [(0, vR 76), (1, vI p1)]) (st1 := [vI p1, vI (h 76 6), vR 80]) (h1 := h) (P := True ∧ kd 76 = 9 ∧ True ∧ kd 76 = 9 ∧ True ∧ True) (by decide +kernel) rfl rfl ⟨trivial, rfl, trivial, rfl, trivial, trivial⟩ ?_
      obtain ⟨hg3, hF⟩ := gd_elim hF
      refine g_seg hK [.iastore, .aload_n 0, .dup, .getfield 140, .iconst 1, .iadd, .putfield 140, .aload_n 0, .getfield 140] 34 49 (L1 := [(0, vR 76), (1, vI p1)]) (st1 := [vI ((up (up h 80 (h 76 6).toNat p1) 76 6 (wr (((up h 80 (h 76 6).toNat p1) 76 6) + 1))) 76 6)]) (h1 := (up (up h 80 (h 76 6).toNat p1) 76 6 (wr (((up h 80 (h 76 6).toNat p1) 76 6) + 1)))) (P := (kd 80 = 0 ∧ 0 ≤ h 76 6 ∧ h 76 6 < 40) ∧ True ∧ True ∧ kd 76 = 9 ∧ True ∧ True ∧ kd 76 = 9 ∧ True ∧ kd 76 = 9 ∧ True) (by decide +kernel) rfl rfl ⟨⟨rfl, hg3⟩, trivial, trivial, rfl, trivial, trivial, rfl, trivial, rfl, trivial⟩ ?_
      cases hF
      exact hR.1 49 _ _ _ (by decide +kernel) rfl ⟨rfl, rfl⟩

set_option maxHeartbeats 4000000 in
set_option maxRecDepth 100000 in
theorem LT_M_hunkAt_L4 {K : KT} (hK : Rules RX7 cX7_hunkAt 4 (Option.some Jvm.ClassFile.FieldType.int) flX7 1 K) {x1 : Int} {h : MH} : ∀ (n : Nat) (x2 : Int) (x3 : Int) (x2' : Int) (x3' : Int), F_M_hunkAt_L4 x1 h n x2 x3 = some (x2', x3') → K 31 [(0, vR 76), (1, vI x1), (2, vI x2'), (3, vI x3')] [] h → K 4 [(0, vR 76), (1, vI x1), (2, vI x2), (3, vI x3)] [] h := by
  intro n
  induction n with
  | zero =>
    intro x2 x3 x2' x3' hF
    cases hF
  | succ n ih =>
    intro x2 x3 x2' x3' hF hE
    unfold F_M_hunkAt_L4 at hF
    refine g_seg hK [.iload_n 3, .iload_n 1] 4 6 (L1 := [(0, vR 76), (1, vI x1), (2, vI x2), (3, vI x3)]) (st1 := [vI x1, vI x3]) (h1 := h) (P := True ∧ True ∧ True) (by decide +kernel) rfl rfl ⟨trivial, trivial, trivial⟩ ?_
    refine g_icmp hK 6 .gt (25) 31 (t1 := 9) (t2 := 31) (by decide +kernel) (by decide) rfl rfl (fun (hc1 : x3 ≤ x1) => ?_) (fun (hc1 : ¬ (x3 ≤ x1)) => ?_)
    · have hF := ite_t hc1 hF
      refine g_seg hK [.iload_n 2, .aload_n 0, .iload_n 3] 9 12 (L1 := [(0, vR 76), (1, vI x1), (2, vI x2), (3, vI x3)]) (st1 := [vI x3, vR 76, vI x2]) (h1 := h) (P := True ∧ True ∧ True ∧ True) (by decide +kernel) rfl rfl ⟨trivial, trivial, trivial, trivial⟩ ?_
      obtain ⟨r2, e3, hF⟩ := ob1_elim hF
      refine g_callV1 hK 12 79 (d1 := 0) (ci := 7) (i := 76) (vs := [vI x3]) (rest := [vI x2]) (h1 := h) (r := vI r2) my_yX7_begins vw_X7_79 (by decide) (T_M_begins (p1 := x3) (h := h) (hF := e3)) rfl rfl rfl (Nat.le_of_ble_eq_true rfl) (by decide +kernel) ?_
      obtain ⟨s4, e7, hF⟩ := jn1_elim hF
      have j5 : K 23 [(0, vR 76), (1, vI x1), (3, vI x3)] [vI s4, vI x2] h := by
        refine g_seg hK [.iadd, .istore_n 2, .iinc 3 1] 23 28 (L1 := [(3, vI (wr (x3 + 1))), (2, vI (wr (x2 + s4))), (0, vR 76), (1, vI x1)]) (st1 := []) (h1 := h) (P := True ∧ True ∧ True ∧ True) (by decide +kernel) rfl rfl ⟨trivial, trivial, trivial, trivial⟩ ?_
        refine g_goto hK 28 (-24) 4 (by decide +kernel) (by decide) ?_
        refine hK.2.1 _ _ ([(0, vR 76), (1, vI x1), (2, vI (wr (x2 + s4))), (3, vI (wr (x3 + 1)))]) _ _ (sub_of [2, 3, 1, 0] rfl) ?_
        exact ih _ _ _ _ hF hE
      clear hF
      have hF := e7
      refine g_ifz hK 15 .eq (7) 22 (t1 := 22) (t2 := 18) (by decide +kernel) (by decide) rfl rfl (fun (hc6 : r2 = 0) => ?_) (fun (hc6 : ¬ (r2 = 0)) => ?_)
      · have hF := ite_t hc6 hF
        refine g_seg hK [.iconst 0] 22 23 (L1 := [(0, vR 76), (1, vI x1), (2, vI x2), (3, vI x3)]) (st1 := [vI 0, vI x2]) (h1 := h) (P := True ∧ True) (by decide +kernel) rfl rfl ⟨trivial, trivial⟩ ?_
        refine hK.2.1 _ _ ([(0, vR 76), (1, vI x1), (3, vI x3)]) _ _ (sub_of [0, 1, 3] rfl) ?_
        cases hF
        exact j5
      · have hF := ite_f hc6 hF
        refine g_seg hK [.iconst 1] 18 19 (L1 := [(0, vR 76), (1, vI x1), (2, vI x2), (3, vI x3)]) (st1 := [vI 1, vI x2]) (h1 := h) (P := True ∧ True) (by decide +kernel) rfl rfl ⟨trivial, trivial⟩ ?_
        refine g_goto hK 19 (4) 23 (by decide +kernel) (by decide) ?_
        refine hK.2.1 _ _ ([(0, vR 76), (1, vI x1), (3, vI x3)]) _ _ (sub_of [0, 1, 3] rfl) ?_
        cases hF
        exact j5
    · have hF := ite_f hc1 hF
      cases hF
      exact hE
set_option maxHeartbeats 4000000 in
set_option maxRecDepth 100000 in
theorem T_M_hunkAt {p1 : Int} {h : MH} {r : Int} (hF : F_M_hunkAt p1 h = some r) : CON 1 yX7_hunkAt cX7_hunkAt 4 (Option.some Jvm.ClassFile.FieldType.int) [vR 76, vI p1] h (some (vI r)) h := by
  refine con_of (own := RX7) (fl := flX7) (by decide +kernel) rfl flok_X7 rfl (Nat.le_of_ble_eq_true rfl) ?_
  intro K hK hR
  show K 0 [(0, vR 76), (1, vI p1)] [] h
  unfold F_M_hunkAt at hF
  refine g_seg hK [.iconst 0, .istore_n 2, .iconst 0, .istore_n 3] 0 4 (L1 := [(3, vI 0), (2, vI 0), (0, vR 76), (1, vI p1)]) (st1 := []) (h1 := h) (P := True ∧ True ∧ True ∧ True ∧ True) (by decide +kernel) rfl rfl ⟨trivial, trivial, trivial, trivial, trivial⟩ ?_
  refine hK.2.1 _ _ ([(0, vR 76), (1, vI p1), (2, vI 0), (3, vI 0)]) _ _ (sub_of [2, 3, 1, 0] rfl) ?_
  obtain ⟨x2_1, x3_2, e3, hF⟩ := ob2_elim hF
  refine LT_M_hunkAt_L4 hK _ _ _ _ _ e3 ?_
  refine g_seg hK [.aload_n 0, .getfield 28, .iload_n 1] 31 36 (L1 := [(0, vR 76), (1, vI p1), (2, vI x2_1), (3, vI x3_2)]) (st1 := [vI p1, vR 83]) (h1 := h) (P := True ∧ kd 76 = 9 ∧ True ∧ True) (by decide +kernel) rfl rfl ⟨trivial, rfl, trivial, trivial⟩ ?_
  obtain ⟨hg4, hF⟩ := gd_elim hF
  refine g_seg hK [.iaload] 36 37 (L1 := [(0, vR 76), (1, vI p1), (2, vI x2_1), (3, vI x3_2)]) (st1 := [vI (h 83 p1.toNat)]) (h1 := h) (P := (kd 83 = 0 ∧ 0 ≤ p1 ∧ p1 < 28) ∧ True) (by decide +kernel) rfl rfl ⟨⟨rfl, hg4⟩, trivial⟩ ?_
  refine g_ifz hK 37 .ne (8) 45 (t1 := 40) (t2 := 45) (by decide +kernel) (by decide) rfl rfl (fun (hc5 : h 83 p1.toNat = 0) => ?_) (fun (hc5 : ¬ (h 83 p1.toNat = 0)) => ?_)
  · have hF := ite_t hc5 hF
    refine g_seg hK [.bipush (-4)] 40 42 (L1 := [(0, vR 76), (1, vI p1), (2, vI x2_1), (3, vI x3_2)]) (st1 := [vI (-4)]) (h1 := h) (P := True ∧ True) (by decide +kernel) rfl rfl ⟨trivial, trivial⟩ ?_
    refine g_goto hK 42 (6) 48 (by decide +kernel) (by decide) ?_
    cases hF
    exact hR.1 48 _ _ _ (by decide +kernel) rfl ⟨rfl, rfl⟩
  · have hF := ite_f hc5 hF
    refine g_seg hK [.iload_n 2, .iconst 1, .isub] 45 48 (L1 := [(0, vR 76), (1, vI p1), (2, vI x2_1), (3, vI x3_2)]) (st1 := [vI (wr (x2_1 - 1))]) (h1 := h) (P := True ∧ True ∧ True ∧ True) (by decide +kernel) rfl rfl ⟨trivial, trivial, trivial, trivial⟩ ?_
    cases hF
    exact hR.1 48 _ _ _ (by decide +kernel) rfl ⟨rfl, rfl⟩
set_option maxHeartbeats 4000000 in
set_option maxRecDepth 100000 in
theorem T_M_view {p1 : Int} {p2 : Int} {h : MH} {r : Int} {h' : MH} (hF : F_M_view p1 p2 h = some (r, h')) : CON 7 yX7_view cX7_view 3 (Option.some Jvm.ClassFile.FieldType.int) [vR 76, vI p1, vI p2] h (some (vI r)) h' := by
  refine con_of (own := RX7) (fl := flX7) (by decide +kernel) rfl flok_X7 rfl (Nat.le_of_ble_eq_true rfl) ?_
  intro K hK hR
  show K 0 [(0, vR 76), (1, vI p1), (2, vI p2)] [] h
  unfold F_M_view at hF
  refine g_seg hK [.iload_n 1] 0 1 (L1 := [(0, vR 76), (1, vI p1), (2, vI p2)]) (st1 := [vI p1]) (h1 := h) (P := True ∧ True) (by decide +kernel) rfl rfl ⟨trivial, trivial⟩ ?_
  refine g_ifz hK 1 .lt (12) 13 (t1 := 13) (t2 := 4) (by decide +kernel) (by decide) rfl rfl (fun (hc1 : p1 < 0) => ?_) (fun (hc1 : ¬ (p1 < 0)) => ?_)
  · have hF := ite_t hc1 hF
    refine g_seg hK [.iconst (-1)] 13 14 (L1 := [(0, vR 76), (1, vI p1), (2, vI p2)]) (st1 := [vI (-1)]) (h1 := h) (P := True ∧ True) (by decide +kernel) rfl rfl ⟨trivial, trivial⟩ ?_
    cases hF
    exact hR.1 14 _ _ _ (by decide +kernel) rfl ⟨rfl, rfl⟩
  · have hF := ite_f hc1 hF
    refine g_seg hK [.iload_n 2, .iconst 0, .iconst 4] 4 7 (L1 := [(0, vR 76), (1, vI p1), (2, vI p2)]) (st1 := [vI 4, vI 0, vI p2]) (h1 := h) (P := True ∧ True ∧ True ∧ True) (by decide +kernel) rfl rfl ⟨trivial, trivial, trivial, trivial⟩ ?_
    refine g_callS1 hK 7 89 (d1 := 0) (vs := [vI p2, vI 0, vI 4]) (rest := []) (h1 := h) (r := vI (F_M_in p2 0 4)) my_yX7_in sw_X7_89 (by decide) (T_M_in (p1 := p2) (p2 := 0) (p3 := 4) (h := h) (hF := rfl)) rfl (Nat.le_of_ble_eq_true rfl) (by decide +kernel) ?_
    refine g_ifz hK 10 .ne (5) 15 (t1 := 13) (t2 := 15) (by decide +kernel) (by decide) rfl rfl (fun (hc2 : F_M_in p2 0 4 = 0) => ?_) (fun (hc2 : ¬ (F_M_in p2 0 4 = 0)) => ?_)
    · have hF := ite_t hc2 hF
      refine g_seg hK [.iconst (-1)] 13 14 (L1 := [(0, vR 76), (1, vI p1), (2, vI p2)]) (st1 := [vI (-1)]) (h1 := h) (P := True ∧ True) (by decide +kernel) rfl rfl ⟨trivial, trivial⟩ ?_
      cases hF
      exact hR.1 14 _ _ _ (by decide +kernel) rfl ⟨rfl, rfl⟩
    · have hF := ite_f hc2 hF
      refine g_seg hK [.aload_n 0] 15 16 (L1 := [(0, vR 76), (1, vI p1), (2, vI p2)]) (st1 := [vR 76]) (h1 := h) (P := True ∧ True) (by decide +kernel) rfl rfl ⟨trivial, trivial⟩ ?_
      obtain ⟨h3, e4, hF⟩ := ob1_elim hF
      refine g_callV0 hK 16 152 (d1 := 6) (ci := 7) (i := 76) (vs := []) (rest := []) (h1 := h3) my_yX7_views vw_X7_152 (by decide) (T_M_views (h := h) (hF := e4)) rfl rfl rfl (Nat.le_of_ble_eq_true rfl) (by decide +kernel) ?_
      refine g_seg hK [.iload_n 1, .aload_n 0, .getfield 62] 19 24 (L1 := [(0, vR 76), (1, vI p1), (2, vI p2)]) (st1 := [vI (h3 76 11), vI p1]) (h1 := h3) (P := True ∧ True ∧ kd 76 = 9 ∧ True) (by decide +kernel) rfl rfl ⟨trivial, trivial, rfl, trivial⟩ ?_
      refine g_icmp hK 24 .lt (6) 30 (t1 := 30) (t2 := 27) (by decide +kernel) (by decide) rfl rfl (fun (hc5 : p1 < h3 76 11) => ?_) (fun (hc5 : ¬ (p1 < h3 76 11)) => ?_)
      · have hF := ite_t hc5 hF
        refine g_seg hK [.iload_n 2] 30 31 (L1 := [(0, vR 76), (1, vI p1), (2, vI p2)]) (st1 := [vI p2]) (h1 := h3) (P := True ∧ True) (by decide +kernel) rfl rfl ⟨trivial, trivial⟩ ?_
        refine g_sw hK 31 89 0 3 #[29, 36, 43, 66] 29 (by decide +kernel) (by decide) ?_
        by_cases hc6 : p2 = 0
        · have hF := ite_t hc6 hF
          rw [show swT 31 89 0 3 [29, 36, 43, 66] p2 = 60 from by rw [hc6]; decide]
          refine g_seg hK [.aload_n 0, .getfield 28, .iload_n 1] 60 65 (L1 := [(0, vR 76), (1, vI p1), (2, vI p2)]) (st1 := [vI p1, vR 83]) (h1 := h3) (P := True ∧ kd 76 = 9 ∧ True ∧ True) (by decide +kernel) rfl rfl ⟨trivial, rfl, trivial, trivial⟩ ?_
          obtain ⟨hg7, hF⟩ := gd_elim hF
          refine g_seg hK [.iaload] 65 66 (L1 := [(0, vR 76), (1, vI p1), (2, vI p2)]) (st1 := [vI (h3 83 p1.toNat)]) (h1 := h3) (P := (kd 83 = 0 ∧ 0 ≤ p1 ∧ p1 < 28) ∧ True) (by decide +kernel) rfl rfl ⟨⟨rfl, hg7⟩, trivial⟩ ?_
          cases hF
          exact hR.1 66 _ _ _ (by decide +kernel) rfl ⟨rfl, rfl⟩
        · have hF := ite_f hc6 hF
          by_cases hc8 : p2 = 1
          · have hF := ite_t hc8 hF
            rw [show swT 31 89 0 3 [29, 36, 43, 66] p2 = 67 from by rw [hc8]; decide]
            refine g_seg hK [.aload_n 0, .getfield 25, .iload_n 1] 67 72 (L1 := [(0, vR 76), (1, vI p1), (2, vI p2)]) (st1 := [vI p1, vR 82]) (h1 := h3) (P := True ∧ kd 76 = 9 ∧ True ∧ True) (by decide +kernel) rfl rfl ⟨trivial, rfl, trivial, trivial⟩ ?_
            obtain ⟨hg9, hF⟩ := gd_elim hF
            refine g_seg hK [.iaload] 72 73 (L1 := [(0, vR 76), (1, vI p1), (2, vI p2)]) (st1 := [vI (h3 82 p1.toNat)]) (h1 := h3) (P := (kd 82 = 0 ∧ 0 ≤ p1 ∧ p1 < 28) ∧ True) (by decide +kernel) rfl rfl ⟨⟨rfl, hg9⟩, trivial⟩ ?_
            cases hF
            exact hR.1 73 _ _ _ (by decide +kernel) rfl ⟨rfl, rfl⟩
          · have hF := ite_f hc8 hF
            by_cases hc10 : p2 = 2
            · have hF := ite_t hc10 hF
              rw [show swT 31 89 0 3 [29, 36, 43, 66] p2 = 74 from by rw [hc10]; decide]
              refine g_seg hK [.aload_n 0, .getfield 28, .iload_n 1] 74 79 (L1 := [(0, vR 76), (1, vI p1), (2, vI p2)]) (st1 := [vI p1, vR 83]) (h1 := h3) (P := True ∧ kd 76 = 9 ∧ True ∧ True) (by decide +kernel) rfl rfl ⟨trivial, rfl, trivial, trivial⟩ ?_
              obtain ⟨hg11, hF⟩ := gd_elim hF
              refine g_seg hK [.iaload, .iconst 2] 79 81 (L1 := [(0, vR 76), (1, vI p1), (2, vI p2)]) (st1 := [vI 2, vI (h3 83 p1.toNat)]) (h1 := h3) (P := (kd 83 = 0 ∧ 0 ≤ p1 ∧ p1 < 28) ∧ True ∧ True) (by decide +kernel) rfl rfl ⟨⟨rfl, hg11⟩, trivial, trivial⟩ ?_
              refine g_icmp hK 81 .ne (8) 89 (t1 := 84) (t2 := 89) (by decide +kernel) (by decide) rfl rfl (fun (hc12 : h3 83 p1.toNat = 2) => ?_) (fun (hc12 : ¬ (h3 83 p1.toNat = 2)) => ?_)
              · have hF := ite_t hc12 hF
                refine g_seg hK [.bipush (-4)] 84 86 (L1 := [(0, vR 76), (1, vI p1), (2, vI p2)]) (st1 := [vI (-4)]) (h1 := h3) (P := True ∧ True) (by decide +kernel) rfl rfl ⟨trivial, trivial⟩ ?_
                refine g_goto hK 86 (10) 96 (by decide +kernel) (by decide) ?_
                cases hF
                exact hR.1 96 _ _ _ (by decide +kernel) rfl ⟨rfl, rfl⟩
              · have hF := ite_f hc12 hF
                refine g_seg hK [.aload_n 0, .iconst 0, .iload_n 1, .iconst 2] 89 93 (L1 := [(0, vR 76), (1, vI p1), (2, vI p2)]) (st1 := [vI 2, vI p1, vI 0, vR 76]) (h1 := h3) (P := True ∧ True ∧ True ∧ True ∧ True) (by decide +kernel) rfl rfl ⟨trivial, trivial, trivial, trivial, trivial⟩ ?_
                obtain ⟨r13, e14, hF⟩ := ob1_elim hF
                refine g_callV1 hK 93 116 (d1 := 0) (ci := 7) (i := 76) (vs := [vI 0, vI p1, vI 2]) (rest := []) (h1 := h3) (r := vI r13) my_yX7_linesBut vw_X7_116 (by decide) (T_M_linesBut (p1 := 0) (p2 := p1) (p3 := 2) (h := h3) (hF := e14)) rfl rfl rfl (Nat.le_of_ble_eq_true rfl) (by decide +kernel) ?_
                cases hF
                exact hR.1 96 _ _ _ (by decide +kernel) rfl ⟨rfl, rfl⟩
            · have hF := ite_f hc10 hF
              by_cases hc15 : p2 = 3
              · have hF := ite_t hc15 hF
                rw [show swT 31 89 0 3 [29, 36, 43, 66] p2 = 97 from by rw [hc15]; decide]
                refine g_seg hK [.aload_n 0, .getfield 28, .iload_n 1] 97 102 (L1 := [(0, vR 76), (1, vI p1), (2, vI p2)]) (st1 := [vI p1, vR 83]) (h1 := h3) (P := True ∧ kd 76 = 9 ∧ True ∧ True) (by decide +kernel) rfl rfl ⟨trivial, rfl, trivial, trivial⟩ ?_
                obtain ⟨hg16, hF⟩ := gd_elim hF
                refine g_seg hK [.iaload, .iconst 1] 102 104 (L1 := [(0, vR 76), (1, vI p1), (2, vI p2)]) (st1 := [vI 1, vI (h3 83 p1.toNat)]) (h1 := h3) (P := (kd 83 = 0 ∧ 0 ≤ p1 ∧ p1 < 28) ∧ True ∧ True) (by decide +kernel) rfl rfl ⟨⟨rfl, hg16⟩, trivial, trivial⟩ ?_
                refine g_icmp hK 104 .ne (8) 112 (t1 := 107) (t2 := 112) (by decide +kernel) (by decide) rfl rfl (fun (hc17 : h3 83 p1.toNat = 1) => ?_) (fun (hc17 : ¬ (h3 83 p1.toNat = 1)) => ?_)
                · have hF := ite_t hc17 hF
                  refine g_seg hK [.bipush (-4)] 107 109 (L1 := [(0, vR 76), (1, vI p1), (2, vI p2)]) (st1 := [vI (-4)]) (h1 := h3) (P := True ∧ True) (by decide +kernel) rfl rfl ⟨trivial, trivial⟩ ?_
                  refine g_goto hK 109 (10) 119 (by decide +kernel) (by decide) ?_
                  cases hF
                  exact hR.1 119 _ _ _ (by decide +kernel) rfl ⟨rfl, rfl⟩
                · have hF := ite_f hc17 hF
                  refine g_seg hK [.aload_n 0, .iconst 0, .iload_n 1, .iconst 1] 112 116 (L1 := [(0, vR 76), (1, vI p1), (2, vI p2)]) (st1 := [vI 1, vI p1, vI 0, vR 76]) (h1 := h3) (P := True ∧ True ∧ True ∧ True ∧ True) (by decide +kernel) rfl rfl ⟨trivial, trivial, trivial, trivial, trivial⟩ ?_
                  obtain ⟨r18, e19, hF⟩ := ob1_elim hF
                  refine g_callV1 hK 116 116 (d1 := 0) (ci := 7) (i := 76) (vs := [vI 0, vI p1, vI 1]) (rest := []) (h1 := h3) (r := vI r18) my_yX7_linesBut vw_X7_116 (by decide) (T_M_linesBut (p1 := 0) (p2 := p1) (p3 := 1) (h := h3) (hF := e19)) rfl rfl rfl (Nat.le_of_ble_eq_true rfl) (by decide +kernel) ?_
                  cases hF
                  exact hR.1 119 _ _ _ (by decide +kernel) rfl ⟨rfl, rfl⟩
              · have hF := ite_f hc15 hF
                rw [show swT 31 89 0 3 [29, 36, 43, 66] p2 = 120 from by unfold swT; rw [if_pos (by omega)]; decide]
                refine g_seg hK [.aload_n 0, .iload_n 1] 120 122 (L1 := [(0, vR 76), (1, vI p1), (2, vI p2)]) (st1 := [vI p1, vR 76]) (h1 := h3) (P := True ∧ True ∧ True) (by decide +kernel) rfl rfl ⟨trivial, trivial, trivial⟩ ?_
                obtain ⟨r20, e21, hF⟩ := ob1_elim hF
                refine g_callV1 hK 122 162 (d1 := 1) (ci := 7) (i := 76) (vs := [vI p1]) (rest := []) (h1 := h3) (r := vI r20) my_yX7_hunkAt vw_X7_162 (by decide) (T_M_hunkAt (p1 := p1) (h := h3) (hF := e21)) rfl rfl rfl (Nat.le_of_ble_eq_true rfl) (by decide +kernel) ?_
                cases hF
                exact hR.1 125 _ _ _ (by decide +kernel) rfl ⟨rfl, rfl⟩
      · have hF := ite_f hc5 hF
        refine g_seg hK [.bipush (-4)] 27 29 (L1 := [(0, vR 76), (1, vI p1), (2, vI p2)]) (st1 := [vI (-4)]) (h1 := h3) (P := True ∧ True) (by decide +kernel) rfl rfl ⟨trivial, trivial⟩ ?_
        cases hF
        exact hR.1 29 _ _ _ (by decide +kernel) rfl ⟨rfl, rfl⟩
set_option maxHeartbeats 4000000 in
set_option maxRecDepth 100000 in
theorem T_M_hunk {p1 : Int} {p2 : Int} {h : MH} {r : Int} {h' : MH} (hF : F_M_hunk p1 p2 h = some (r, h')) : CON 7 yX7_hunk cX7_hunk 4 (Option.some Jvm.ClassFile.FieldType.int) [vR 76, vI p1, vI p2] h (some (vI r)) h' := by
  refine con_of (own := RX7) (fl := flX7) (by decide +kernel) rfl flok_X7 rfl (Nat.le_of_ble_eq_true rfl) ?_
  intro K hK hR
  show K 0 [(0, vR 76), (1, vI p1), (2, vI p2)] [] h
  unfold F_M_hunk at hF
  refine g_seg hK [.aload_n 0] 0 1 (L1 := [(0, vR 76), (1, vI p1), (2, vI p2)]) (st1 := [vR 76]) (h1 := h) (P := True ∧ True) (by decide +kernel) rfl rfl ⟨trivial, trivial⟩ ?_
  obtain ⟨h1, e2, hF⟩ := ob1_elim hF
  refine g_callV0 hK 1 152 (d1 := 6) (ci := 7) (i := 76) (vs := []) (rest := []) (h1 := h1) my_yX7_views vw_X7_152 (by decide) (T_M_views (h := h) (hF := e2)) rfl rfl rfl (Nat.le_of_ble_eq_true rfl) (by decide +kernel) ?_
  refine g_seg hK [.iload_n 1, .iconst 0, .aload_n 0] 4 7 (L1 := [(0, vR 76), (1, vI p1), (2, vI p2)]) (st1 := [vR 76, vI 0, vI p1]) (h1 := h1) (P := True ∧ True ∧ True ∧ True) (by decide +kernel) rfl rfl ⟨trivial, trivial, trivial, trivial⟩ ?_
  obtain ⟨r3, e4, hF⟩ := ob1_elim hF
  refine g_callV1 hK 7 72 (d1 := 1) (ci := 7) (i := 76) (vs := []) (rest := [vI 0, vI p1]) (h1 := h1) (r := vI r3) my_yX7_hunks vw_X7_72 (by decide) (T_M_hunks (h := h1) (hF := e4)) rfl rfl rfl (Nat.le_of_ble_eq_true rfl) (by decide +kernel) ?_
  refine g_seg hK [.iconst 1, .isub] 10 12 (L1 := [(0, vR 76), (1, vI p1), (2, vI p2)]) (st1 := [vI (wr (r3 - 1)), vI 0, vI p1]) (h1 := h1) (P := True ∧ True ∧ True) (by decide +kernel) rfl rfl ⟨trivial, trivial, trivial⟩ ?_
  refine g_callS1 hK 12 89 (d1 := 0) (vs := [vI p1, vI 0, vI (wr (r3 - 1))]) (rest := []) (h1 := h1) (r := vI (F_M_in p1 0 (wr (r3 - 1)))) my_yX7_in sw_X7_89 (by decide) (T_M_in (p1 := p1) (p2 := 0) (p3 := (wr (r3 - 1))) (h := h1) (hF := rfl)) rfl (Nat.le_of_ble_eq_true rfl) (by decide +kernel) ?_
  refine g_ifz hK 15 .ne (5) 20 (t1 := 18) (t2 := 20) (by decide +kernel) (by decide) rfl rfl (fun (hc5 : F_M_in p1 0 (wr (r3 - 1)) = 0) => ?_) (fun (hc5 : ¬ (F_M_in p1 0 (wr (r3 - 1)) = 0)) => ?_)
  · have hF := ite_t hc5 hF
    refine g_seg hK [.iconst (-1)] 18 19 (L1 := [(0, vR 76), (1, vI p1), (2, vI p2)]) (st1 := [vI (-1)]) (h1 := h1) (P := True ∧ True) (by decide +kernel) rfl rfl ⟨trivial, trivial⟩ ?_
    cases hF
    exact hR.1 19 _ _ _ (by decide +kernel) rfl ⟨rfl, rfl⟩
  · have hF := ite_f hc5 hF
    refine g_seg hK [.aload_n 0, .iload_n 1] 20 22 (L1 := [(0, vR 76), (1, vI p1), (2, vI p2)]) (st1 := [vI p1, vR 76]) (h1 := h1) (P := True ∧ True ∧ True) (by decide +kernel) rfl rfl ⟨trivial, trivial, trivial⟩ ?_
    obtain ⟨r6, e7, hF⟩ := ob1_elim hF
    refine g_callV1 hK 22 107 (d1 := 1) (ci := 7) (i := 76) (vs := [vI p1]) (rest := []) (h1 := h1) (r := vI r6) my_yX7_start vw_X7_107 (by decide) (T_M_start (p1 := p1) (h := h1) (hF := e7)) rfl rfl rfl (Nat.le_of_ble_eq_true rfl) (by decide +kernel) ?_
    refine g_seg hK [.istore_n 3, .iload_n 2] 25 27 (L1 := [(3, vI r6), (0, vR 76), (1, vI p1), (2, vI p2)]) (st1 := [vI p2]) (h1 := h1) (P := True ∧ True ∧ True) (by decide +kernel) rfl rfl ⟨trivial, trivial, trivial⟩ ?_
    refine g_sw hK 27 142 0 9 #[53, 55, 55, 62, 76, 76, 92, 103, 118, 118] 53 (by decide +kernel) (by decide) ?_
    by_cases hc8 : p2 = 0
    · have hF := ite_t hc8 hF
      rw [show swT 27 142 0 9 [53, 55, 55, 62, 76, 76, 92, 103, 118, 118] p2 = 80 from by rw [hc8]; decide]
      refine g_seg hK [.iload_n 3] 80 81 (L1 := [(3, vI r6), (0, vR 76), (1, vI p1), (2, vI p2)]) (st1 := [vI r6]) (h1 := h1) (P := True ∧ True) (by decide +kernel) rfl rfl ⟨trivial, trivial⟩ ?_
      cases hF
      exact hR.1 81 _ _ _ (by decide +kernel) rfl ⟨rfl, rfl⟩
    · have hF := ite_f hc8 hF
      by_cases hc9 : p2 = 1
      · have hF := ite_t hc9 hF
        rw [show swT 27 142 0 9 [53, 55, 55, 62, 76, 76, 92, 103, 118, 118] p2 = 82 from by rw [hc9]; decide]
        refine g_seg hK [.aload_n 0, .iload_n 3, .iload_n 2] 82 85 (L1 := [(3, vI r6), (0, vR 76), (1, vI p1), (2, vI p2)]) (st1 := [vI p2, vI r6, vR 76]) (h1 := h1) (P := True ∧ True ∧ True ∧ True) (by decide +kernel) rfl rfl ⟨trivial, trivial, trivial, trivial⟩ ?_
        obtain ⟨r10, e11, hF⟩ := ob1_elim hF
        refine g_callV1 hK 85 86 (d1 := 1) (ci := 7) (i := 76) (vs := [vI r6, vI p2]) (rest := []) (h1 := h1) (r := vI r10) my_yX7_marked vw_X7_86 (by decide) (T_M_marked (p1 := r6) (p2 := p2) (h := h1) (hF := e11)) rfl rfl rfl (Nat.le_of_ble_eq_true rfl) (by decide +kernel) ?_
        cases hF
        exact hR.1 88 _ _ _ (by decide +kernel) rfl ⟨rfl, rfl⟩
      · have hF := ite_f hc9 hF
        by_cases hc12 : p2 = 2
        · have hF := ite_t hc12 hF
          rw [show swT 27 142 0 9 [53, 55, 55, 62, 76, 76, 92, 103, 118, 118] p2 = 82 from by rw [hc12]; decide]
          refine g_seg hK [.aload_n 0, .iload_n 3, .iload_n 2] 82 85 (L1 := [(3, vI r6), (0, vR 76), (1, vI p1), (2, vI p2)]) (st1 := [vI p2, vI r6, vR 76]) (h1 := h1) (P := True ∧ True ∧ True ∧ True) (by decide +kernel) rfl rfl ⟨trivial, trivial, trivial, trivial⟩ ?_
          obtain ⟨r13, e14, hF⟩ := ob1_elim hF
          refine g_callV1 hK 85 86 (d1 := 1) (ci := 7) (i := 76) (vs := [vI r6, vI p2]) (rest := []) (h1 := h1) (r := vI r13) my_yX7_marked vw_X7_86 (by decide) (T_M_marked (p1 := r6) (p2 := p2) (h := h1) (hF := e14)) rfl rfl rfl (Nat.le_of_ble_eq_true rfl) (by decide +kernel) ?_
          cases hF
          exact hR.1 88 _ _ _ (by decide +kernel) rfl ⟨rfl, rfl⟩
        · have hF := ite_f hc12 hF
          by_cases hc15 : p2 = 3
          · have hF := ite_t hc15 hF
            rw [show swT 27 142 0 9 [53, 55, 55, 62, 76, 76, 92, 103, 118, 118] p2 = 89 from by rw [hc15]; decide]
            refine g_seg hK [.aload_n 0, .iload_n 3] 89 91 (L1 := [(3, vI r6), (0, vR 76), (1, vI p1), (2, vI p2)]) (st1 := [vI r6, vR 76]) (h1 := h1) (P := True ∧ True ∧ True) (by decide +kernel) rfl rfl ⟨trivial, trivial, trivial⟩ ?_
            obtain ⟨r16, e17, hF⟩ := ob1_elim hF
            refine g_callV1 hK 91 93 (d1 := 2) (ci := 7) (i := 76) (vs := [vI r6]) (rest := []) (h1 := h1) (r := vI r16) my_yX7_isPlain vw_X7_93 (by decide) (T_M_isPlain (p1 := r6) (h := h1) (hF := e17)) rfl rfl rfl (Nat.le_of_ble_eq_true rfl) (by decide +kernel) ?_
            refine g_ifz hK 94 .eq (7) 101 (t1 := 101) (t2 := 97) (by decide +kernel) (by decide) rfl rfl (fun (hc18 : r16 = 0) => ?_) (fun (hc18 : ¬ (r16 = 0)) => ?_)
            · have hF := ite_t hc18 hF
              refine g_seg hK [.iconst 0] 101 102 (L1 := [(3, vI r6), (0, vR 76), (1, vI p1), (2, vI p2)]) (st1 := [vI 0]) (h1 := h1) (P := True ∧ True) (by decide +kernel) rfl rfl ⟨trivial, trivial⟩ ?_
              cases hF
              exact hR.1 102 _ _ _ (by decide +kernel) rfl ⟨rfl, rfl⟩
            · have hF := ite_f hc18 hF
              refine g_seg hK [.iconst 1] 97 98 (L1 := [(3, vI r6), (0, vR 76), (1, vI p1), (2, vI p2)]) (st1 := [vI 1]) (h1 := h1) (P := True ∧ True) (by decide +kernel) rfl rfl ⟨trivial, trivial⟩ ?_
              refine g_goto hK 98 (4) 102 (by decide +kernel) (by decide) ?_
              cases hF
              exact hR.1 102 _ _ _ (by decide +kernel) rfl ⟨rfl, rfl⟩
          · have hF := ite_f hc15 hF
            by_cases hc19 : p2 = 4
            · have hF := ite_t hc19 hF
              rw [show swT 27 142 0 9 [53, 55, 55, 62, 76, 76, 92, 103, 118, 118] p2 = 103 from by rw [hc19]; decide]
              refine g_seg hK [.aload_n 0, .iload_n 3, .iload_n 2, .iconst 5] 103 107 (L1 := [(3, vI r6), (0, vR 76), (1, vI p1), (2, vI p2)]) (st1 := [vI 5, vI p2, vI r6, vR 76]) (h1 := h1) (P := True ∧ True ∧ True ∧ True ∧ True) (by decide +kernel) rfl rfl ⟨trivial, trivial, trivial, trivial, trivial⟩ ?_
              obtain ⟨s20, e25, hF⟩ := jn1_elim hF
              have j21 : K 115 [] [vI s20, vI r6, vR 76] h1 := by
                obtain ⟨r23, e24, hF⟩ := ob1_elim hF
                refine g_callV1 hK 115 100 (d1 := 3) (ci := 7) (i := 76) (vs := [vI r6, vI s20]) (rest := []) (h1 := h1) (r := vI r23) my_yX7_slides vw_X7_100 (by decide) (T_M_slides (p1 := r6) (p2 := s20) (h := h1) (hF := e24)) rfl rfl rfl (Nat.le_of_ble_eq_true rfl) (by decide +kernel) ?_
                cases hF
                exact hR.1 118 _ _ _ (by decide +kernel) rfl ⟨rfl, rfl⟩
              clear hF
              have hF := e25
              refine g_icmp hK 107 .ne (7) 114 (t1 := 110) (t2 := 114) (by decide +kernel) (by decide) rfl rfl (fun (hc22 : p2 = 5) => ?_) (fun (hc22 : ¬ (p2 = 5)) => ?_)
              · have hF := ite_t hc22 hF
                refine g_seg hK [.iconst 1] 110 111 (L1 := [(3, vI r6), (0, vR 76), (1, vI p1), (2, vI p2)]) (st1 := [vI 1, vI r6, vR 76]) (h1 := h1) (P := True ∧ True) (by decide +kernel) rfl rfl ⟨trivial, trivial⟩ ?_
                refine g_goto hK 111 (4) 115 (by decide +kernel) (by decide) ?_
                refine hK.2.1 _ _ ([]) _ _ (sub_of [] rfl) ?_
                cases hF
                exact j21
              · have hF := ite_f hc22 hF
                refine g_seg hK [.iconst 0] 114 115 (L1 := [(3, vI r6), (0, vR 76), (1, vI p1), (2, vI p2)]) (st1 := [vI 0, vI r6, vR 76]) (h1 := h1) (P := True ∧ True) (by decide +kernel) rfl rfl ⟨trivial, trivial⟩ ?_
                refine hK.2.1 _ _ ([]) _ _ (sub_of [] rfl) ?_
                cases hF
                exact j21
            · have hF := ite_f hc19 hF
              by_cases hc26 : p2 = 5
              · have hF := ite_t hc26 hF
                rw [show swT 27 142 0 9 [53, 55, 55, 62, 76, 76, 92, 103, 118, 118] p2 = 103 from by rw [hc26]; decide]
                refine g_seg hK [.aload_n 0, .iload_n 3, .iload_n 2, .iconst 5] 103 107 (L1 := [(3, vI r6), (0, vR 76), (1, vI p1), (2, vI p2)]) (st1 := [vI 5, vI p2, vI r6, vR 76]) (h1 := h1) (P := True ∧ True ∧ True ∧ True ∧ True) (by decide +kernel) rfl rfl ⟨trivial, trivial, trivial, trivial, trivial⟩ ?_
                obtain ⟨s27, e32, hF⟩ := jn1_elim hF
                have j28 : K 115 [] [vI s27, vI r6, vR 76] h1 := by
                  obtain ⟨r30, e31, hF⟩ := ob1_elim hF
                  refine g_callV1 hK 115 100 (d1 := 3) (ci := 7) (i := 76) (vs := [vI r6, vI s27]) (rest := []) (h1 := h1) (r := vI r30) my_yX7_slides vw_X7_100 (by decide) (T_M_slides (p1 := r6) (p2 := s27) (h := h1) (hF := e31)) rfl rfl rfl (Nat.le_of_ble_eq_true rfl) (by decide +kernel) ?_
                  cases hF
                  exact hR.1 118 _ _ _ (by decide +kernel) rfl ⟨rfl, rfl⟩
                clear hF
                have hF := e32
                refine g_icmp hK 107 .ne (7) 114 (t1 := 110) (t2 := 114) (by decide +kernel) (by decide) rfl rfl (fun (hc29 : p2 = 5) => ?_) (fun (hc29 : ¬ (p2 = 5)) => ?_)
                · have hF := ite_t hc29 hF
                  refine g_seg hK [.iconst 1] 110 111 (L1 := [(3, vI r6), (0, vR 76), (1, vI p1), (2, vI p2)]) (st1 := [vI 1, vI r6, vR 76]) (h1 := h1) (P := True ∧ True) (by decide +kernel) rfl rfl ⟨trivial, trivial⟩ ?_
                  refine g_goto hK 111 (4) 115 (by decide +kernel) (by decide) ?_
                  refine hK.2.1 _ _ ([]) _ _ (sub_of [] rfl) ?_
                  cases hF
                  exact j28
                · have hF := ite_f hc29 hF
                  refine g_seg hK [.iconst 0] 114 115 (L1 := [(3, vI r6), (0, vR 76), (1, vI p1), (2, vI p2)]) (st1 := [vI 0, vI r6, vR 76]) (h1 := h1) (P := True ∧ True) (by decide +kernel) rfl rfl ⟨trivial, trivial⟩ ?_
                  refine hK.2.1 _ _ ([]) _ _ (sub_of [] rfl) ?_
                  cases hF
                  exact j28
              · have hF := ite_f hc26 hF
                by_cases hc33 : p2 = 6
                · have hF := ite_t hc33 hF
                  rw [show swT 27 142 0 9 [53, 55, 55, 62, 76, 76, 92, 103, 118, 118] p2 = 119 from by rw [hc33]; decide]
                  refine g_seg hK [.aload_n 0, .iload_n 3, .aload_n 0, .iload_n 3] 119 123 (L1 := [(3, vI r6), (0, vR 76), (1, vI p1), (2, vI p2)]) (st1 := [vI r6, vR 76, vI r6, vR 76]) (h1 := h1) (P := True ∧ True ∧ True ∧ True ∧ True) (by decide +kernel) rfl rfl ⟨trivial, trivial, trivial, trivial, trivial⟩ ?_
                  obtain ⟨r34, e35, hF⟩ := ob1_elim hF
                  refine g_callV1 hK 123 83 (d1 := 0) (ci := 7) (i := 76) (vs := [vI r6]) (rest := [vI r6, vR 76]) (h1 := h1) (r := vI r34) my_yX7_size vw_X7_83 (by decide) (T_M_size (p1 := r6) (h := h1) (hF := e35)) rfl rfl rfl (Nat.le_of_ble_eq_true rfl) (by decide +kernel) ?_
                  obtain ⟨r36, e37, hF⟩ := ob1_elim hF
                  refine g_callV1 hK 126 104 (d1 := 0) (ci := 7) (i := 76) (vs := [vI r6, vI r34]) (rest := []) (h1 := h1) (r := vI r36) my_yX7_worth vw_X7_104 (by decide) (T_M_worth (p1 := r6) (p2 := r34) (h := h1) (hF := e37)) rfl rfl rfl (Nat.le_of_ble_eq_true rfl) (by decide +kernel) ?_
                  cases hF
                  exact hR.1 129 _ _ _ (by decide +kernel) rfl ⟨rfl, rfl⟩
                · have hF := ite_f hc33 hF
                  by_cases hc38 : p2 = 7
                  · have hF := ite_t hc38 hF
                    rw [show swT 27 142 0 9 [53, 55, 55, 62, 76, 76, 92, 103, 118, 118] p2 = 130 from by rw [hc38]; decide]
                    refine g_seg hK [.aload_n 0, .aload_n 0, .iload_n 3] 130 133 (L1 := [(3, vI r6), (0, vR 76), (1, vI p1), (2, vI p2)]) (st1 := [vI r6, vR 76, vR 76]) (h1 := h1) (P := True ∧ True ∧ True ∧ True) (by decide +kernel) rfl rfl ⟨trivial, trivial, trivial, trivial⟩ ?_
                    obtain ⟨r39, e40, hF⟩ := ob1_elim hF
                    refine g_callV1 hK 133 110 (d1 := 4) (ci := 7) (i := 76) (vs := [vI r6]) (rest := [vR 76]) (h1 := h1) (r := vI r39) my_yX7_bestPlace vw_X7_110 (by decide) (T_M_bestPlace (p1 := r6) (h := h1) (hF := e40)) rfl rfl rfl (Nat.le_of_ble_eq_true rfl) (by decide +kernel) ?_
                    refine g_seg hK [.aload_n 0, .iload_n 3] 136 138 (L1 := [(3, vI r6), (0, vR 76), (1, vI p1), (2, vI p2)]) (st1 := [vI r6, vR 76, vI r39, vR 76]) (h1 := h1) (P := True ∧ True ∧ True) (by decide +kernel) rfl rfl ⟨trivial, trivial, trivial⟩ ?_
                    obtain ⟨r41, e42, hF⟩ := ob1_elim hF
                    refine g_callV1 hK 138 83 (d1 := 0) (ci := 7) (i := 76) (vs := [vI r6]) (rest := [vI r39, vR 76]) (h1 := h1) (r := vI r41) my_yX7_size vw_X7_83 (by decide) (T_M_size (p1 := r6) (h := h1) (hF := e42)) rfl rfl rfl (Nat.le_of_ble_eq_true rfl) (by decide +kernel) ?_
                    obtain ⟨r43, e44, hF⟩ := ob1_elim hF
                    refine g_callV1 hK 141 104 (d1 := 0) (ci := 7) (i := 76) (vs := [vI r39, vI r41]) (rest := []) (h1 := h1) (r := vI r43) my_yX7_worth vw_X7_104 (by decide) (T_M_worth (p1 := r39) (p2 := r41) (h := h1) (hF := e44)) rfl rfl rfl (Nat.le_of_ble_eq_true rfl) (by decide +kernel) ?_
                    cases hF
                    exact hR.1 144 _ _ _ (by decide +kernel) rfl ⟨rfl, rfl⟩
                  · have hF := ite_f hc38 hF
                    by_cases hc45 : p2 = 8
                    · have hF := ite_t hc45 hF
                      rw [show swT 27 142 0 9 [53, 55, 55, 62, 76, 76, 92, 103, 118, 118] p2 = 145 from by rw [hc45]; decide]
                      refine g_seg hK [.aload_n 0, .iload_n 3, .iload_n 2, .bipush 9] 145 150 (L1 := [(3, vI r6), (0, vR 76), (1, vI p1), (2, vI p2)]) (st1 := [vI 9, vI p2, vI r6, vR 76]) (h1 := h1) (P := True ∧ True ∧ True ∧ True ∧ True) (by decide +kernel) rfl rfl ⟨trivial, trivial, trivial, trivial, trivial⟩ ?_
                      obtain ⟨s46, e51, hF⟩ := jn1_elim hF
                      have j47 : K 158 [(0, vR 76)] [vI s46, vI r6, vR 76] h1 := by
                        refine g_seg hK [.aload_n 0, .getfield 7, .bipush 45, .iaload] 158 165 (L1 := [(0, vR 76)]) (st1 := [vI (h1 77 45), vI s46, vI r6, vR 76]) (h1 := h1) (P := True ∧ kd 76 = 9 ∧ True ∧ (kd 77 = 0 ∧ 0 ≤ 45 ∧ 45 < 49) ∧ True) (by decide +kernel) rfl rfl ⟨trivial, rfl, trivial, ⟨rfl, (by decide)⟩, trivial⟩ ?_
                        obtain ⟨r49, e50, hF⟩ := ob1_elim hF
                        refine g_callV1 hK 165 128 (d1 := 1) (ci := 7) (i := 76) (vs := [vI r6, vI s46, vI (h1 77 45)]) (rest := []) (h1 := h1) (r := vI r49) my_yX7_around vw_X7_128 (by decide) (T_M_around (p1 := r6) (p2 := s46) (p3 := (h1 77 45)) (h := h1) (hF := e50)) rfl rfl rfl (Nat.le_of_ble_eq_true rfl) (by decide +kernel) ?_
                        cases hF
                        exact hR.1 168 _ _ _ (by decide +kernel) rfl ⟨rfl, rfl⟩
                      clear hF
                      have hF := e51
                      refine g_icmp hK 150 .ne (7) 157 (t1 := 153) (t2 := 157) (by decide +kernel) (by decide) rfl rfl (fun (hc48 : p2 = 9) => ?_) (fun (hc48 : ¬ (p2 = 9)) => ?_)
                      · have hF := ite_t hc48 hF
                        refine g_seg hK [.iconst 1] 153 154 (L1 := [(3, vI r6), (0, vR 76), (1, vI p1), (2, vI p2)]) (st1 := [vI 1, vI r6, vR 76]) (h1 := h1) (P := True ∧ True) (by decide +kernel) rfl rfl ⟨trivial, trivial⟩ ?_
                        refine g_goto hK 154 (4) 158 (by decide +kernel) (by decide) ?_
                        refine hK.2.1 _ _ ([(0, vR 76)]) _ _ (sub_of [1] rfl) ?_
                        cases hF
                        exact j47
                      · have hF := ite_f hc48 hF
                        refine g_seg hK [.iconst 0] 157 158 (L1 := [(3, vI r6), (0, vR 76), (1, vI p1), (2, vI p2)]) (st1 := [vI 0, vI r6, vR 76]) (h1 := h1) (P := True ∧ True) (by decide +kernel) rfl rfl ⟨trivial, trivial⟩ ?_
                        refine hK.2.1 _ _ ([(0, vR 76)]) _ _ (sub_of [1] rfl) ?_
                        cases hF
                        exact j47
                    · have hF := ite_f hc45 hF
                      by_cases hc52 : p2 = 9
                      · have hF := ite_t hc52 hF
                        rw [show swT 27 142 0 9 [53, 55, 55, 62, 76, 76, 92, 103, 118, 118] p2 = 145 from by rw [hc52]; decide]
                        refine g_seg hK [.aload_n 0, .iload_n 3, .iload_n 2, .bipush 9] 145 150 (L1 := [(3, vI r6), (0, vR 76), (1, vI p1), (2, vI p2)]) (st1 := [vI 9, vI p2, vI r6, vR 76]) (h1 := h1) (P := True ∧ True ∧ True ∧ True ∧ True) (by decide +kernel) rfl rfl ⟨trivial, trivial, trivial, trivial, trivial⟩ ?_
                        obtain ⟨s53, e58, hF⟩ := jn1_elim hF
                        have j54 : K 158 [(0, vR 76)] [vI s53, vI r6, vR 76] h1 := by
                          refine g_seg hK [.aload_n 0, .getfield 7, .bipush 45, .iaload] 158 165 (L1 := [(0, vR 76)]) (st1 := [vI (h1 77 45), vI s53, vI r6, vR 76]) (h1 := h1) (P := True ∧ kd 76 = 9 ∧ True ∧ (kd 77 = 0 ∧ 0 ≤ 45 ∧ 45 < 49) ∧ True) (by decide +kernel) rfl rfl ⟨trivial, rfl, trivial, ⟨rfl, (by decide)⟩, trivial⟩ ?_
                          obtain ⟨r56, e57, hF⟩ := ob1_elim hF
                          refine g_callV1 hK 165 128 (d1 := 1) (ci := 7) (i := 76) (vs := [vI r6, vI s53, vI (h1 77 45)]) (rest := []) (h1 := h1) (r := vI r56) my_yX7_around vw_X7_128 (by decide) (T_M_around (p1 := r6) (p2 := s53) (p3 := (h1 77 45)) (h := h1) (hF := e57)) rfl rfl rfl (Nat.le_of_ble_eq_true rfl) (by decide +kernel) ?_
                          cases hF
                          exact hR.1 168 _ _ _ (by decide +kernel) rfl ⟨rfl, rfl⟩
                        clear hF
                        have hF := e58
                        refine g_icmp hK 150 .ne (7) 157 (t1 := 153) (t2 := 157) (by decide +kernel) (by decide) rfl rfl (fun (hc55 : p2 = 9) => ?_) (fun (hc55 : ¬ (p2 = 9)) => ?_)
                        · have hF := ite_t hc55 hF
                          refine g_seg hK [.iconst 1] 153 154 (L1 := [(3, vI r6), (0, vR 76), (1, vI p1), (2, vI p2)]) (st1 := [vI 1, vI r6, vR 76]) (h1 := h1) (P := True ∧ True) (by decide +kernel) rfl rfl ⟨trivial, trivial⟩ ?_
                          refine g_goto hK 154 (4) 158 (by decide +kernel) (by decide) ?_
                          refine hK.2.1 _ _ ([(0, vR 76)]) _ _ (sub_of [1] rfl) ?_
                          cases hF
                          exact j54
                        · have hF := ite_f hc55 hF
                          refine g_seg hK [.iconst 0] 157 158 (L1 := [(3, vI r6), (0, vR 76), (1, vI p1), (2, vI p2)]) (st1 := [vI 0, vI r6, vR 76]) (h1 := h1) (P := True ∧ True) (by decide +kernel) rfl rfl ⟨trivial, trivial⟩ ?_
                          refine hK.2.1 _ _ ([(0, vR 76)]) _ _ (sub_of [1] rfl) ?_
                          cases hF
                          exact j54
                      · have hF := ite_f hc52 hF
                        rw [show swT 27 142 0 9 [53, 55, 55, 62, 76, 76, 92, 103, 118, 118] p2 = 169 from by unfold swT; rw [if_pos (by omega)]; decide]
                        refine g_seg hK [.iconst (-1)] 169 170 (L1 := [(3, vI r6), (0, vR 76), (1, vI p1), (2, vI p2)]) (st1 := [vI (-1)]) (h1 := h1) (P := True ∧ True) (by decide +kernel) rfl rfl ⟨trivial, trivial⟩ ?_
                        cases hF
                        exact hR.1 170 _ _ _ (by decide +kernel) rfl ⟨rfl, rfl⟩
set_option maxHeartbeats 4000000 in
set_option maxRecDepth 100000 in
theorem T_M_whyNot {p1 : Int} {p2 : Int} {h : MH} {r : Int} {h' : MH} (hF : F_M_whyNot p1 p2 h = some (r, h')) : CON 7 yX7_whyNot cX7_whyNot 4 (Option.some Jvm.ClassFile.FieldType.int) [vR 76, vI p1, vI p2] h (some (vI r)) h' := by
  refine con_of (own := RX7) (fl := flX7) (by decide +kernel) rfl flok_X7 rfl (Nat.le_of_ble_eq_true rfl) ?_
  intro K hK hR
  show K 0 [(0, vR 76), (1, vI p1), (2, vI p2)] [] h
  unfold F_M_whyNot at hF
  refine g_seg hK [.aload_n 0] 0 1 (L1 := [(0, vR 76), (1, vI p1), (2, vI p2)]) (st1 := [vR 76]) (h1 := h) (P := True ∧ True) (by decide +kernel) rfl rfl ⟨trivial, trivial⟩ ?_
  obtain ⟨h1, e2, hF⟩ := ob1_elim hF
  refine g_callV0 hK 1 152 (d1 := 6) (ci := 7) (i := 76) (vs := []) (rest := []) (h1 := h1) my_yX7_views vw_X7_152 (by decide) (T_M_views (h := h) (hF := e2)) rfl rfl rfl (Nat.le_of_ble_eq_true rfl) (by decide +kernel) ?_
  refine g_seg hK [.iload_n 1, .iconst 0, .aload_n 0] 4 7 (L1 := [(0, vR 76), (1, vI p1), (2, vI p2)]) (st1 := [vR 76, vI 0, vI p1]) (h1 := h1) (P := True ∧ True ∧ True ∧ True) (by decide +kernel) rfl rfl ⟨trivial, trivial, trivial, trivial⟩ ?_
  obtain ⟨r3, e4, hF⟩ := ob1_elim hF
  refine g_callV1 hK 7 72 (d1 := 1) (ci := 7) (i := 76) (vs := []) (rest := [vI 0, vI p1]) (h1 := h1) (r := vI r3) my_yX7_hunks vw_X7_72 (by decide) (T_M_hunks (h := h1) (hF := e4)) rfl rfl rfl (Nat.le_of_ble_eq_true rfl) (by decide +kernel) ?_
  refine g_seg hK [.iconst 1, .isub] 10 12 (L1 := [(0, vR 76), (1, vI p1), (2, vI p2)]) (st1 := [vI (wr (r3 - 1)), vI 0, vI p1]) (h1 := h1) (P := True ∧ True ∧ True) (by decide +kernel) rfl rfl ⟨trivial, trivial, trivial⟩ ?_
  refine g_callS1 hK 12 89 (d1 := 0) (vs := [vI p1, vI 0, vI (wr (r3 - 1))]) (rest := []) (h1 := h1) (r := vI (F_M_in p1 0 (wr (r3 - 1)))) my_yX7_in sw_X7_89 (by decide) (T_M_in (p1 := p1) (p2 := 0) (p3 := (wr (r3 - 1))) (h := h1) (hF := rfl)) rfl (Nat.le_of_ble_eq_true rfl) (by decide +kernel) ?_
  refine g_ifz hK 15 .ne (5) 20 (t1 := 18) (t2 := 20) (by decide +kernel) (by decide) rfl rfl (fun (hc5 : F_M_in p1 0 (wr (r3 - 1)) = 0) => ?_) (fun (hc5 : ¬ (F_M_in p1 0 (wr (r3 - 1)) = 0)) => ?_)
  · have hF := ite_t hc5 hF
    refine g_seg hK [.iconst (-1)] 18 19 (L1 := [(0, vR 76), (1, vI p1), (2, vI p2)]) (st1 := [vI (-1)]) (h1 := h1) (P := True ∧ True) (by decide +kernel) rfl rfl ⟨trivial, trivial⟩ ?_
    cases hF
    exact hR.1 19 _ _ _ (by decide +kernel) rfl ⟨rfl, rfl⟩
  · have hF := ite_f hc5 hF
    refine g_seg hK [.aload_n 0, .iload_n 1] 20 22 (L1 := [(0, vR 76), (1, vI p1), (2, vI p2)]) (st1 := [vI p1, vR 76]) (h1 := h1) (P := True ∧ True ∧ True) (by decide +kernel) rfl rfl ⟨trivial, trivial, trivial⟩ ?_
    obtain ⟨r6, e7, hF⟩ := ob1_elim hF
    refine g_callV1 hK 22 107 (d1 := 1) (ci := 7) (i := 76) (vs := [vI p1]) (rest := []) (h1 := h1) (r := vI r6) my_yX7_start vw_X7_107 (by decide) (T_M_start (p1 := p1) (h := h1) (hF := e7)) rfl rfl rfl (Nat.le_of_ble_eq_true rfl) (by decide +kernel) ?_
    refine g_seg hK [.istore_n 3, .aload_n 0, .iload_n 3] 25 28 (L1 := [(3, vI r6), (0, vR 76), (1, vI p1), (2, vI p2)]) (st1 := [vI r6, vR 76]) (h1 := h1) (P := True ∧ True ∧ True ∧ True) (by decide +kernel) rfl rfl ⟨trivial, trivial, trivial, trivial⟩ ?_
    obtain ⟨r8, e9, hF⟩ := ob1_elim hF
    refine g_callV1 hK 28 93 (d1 := 2) (ci := 7) (i := 76) (vs := [vI r6]) (rest := []) (h1 := h1) (r := vI r8) my_yX7_isPlain vw_X7_93 (by decide) (T_M_isPlain (p1 := r6) (h := h1) (hF := e9)) rfl rfl rfl (Nat.le_of_ble_eq_true rfl) (by decide +kernel) ?_
    refine g_ifz hK 31 .eq (17) 48 (t1 := 48) (t2 := 34) (by decide +kernel) (by decide) rfl rfl (fun (hc10 : r8 = 0) => ?_) (fun (hc10 : ¬ (r8 = 0)) => ?_)
    · have hF := ite_t hc10 hF
      refine g_seg hK [.iconst 1] 48 49 (L1 := [(3, vI r6), (0, vR 76), (1, vI p1), (2, vI p2)]) (st1 := [vI 1]) (h1 := h1) (P := True ∧ True) (by decide +kernel) rfl rfl ⟨trivial, trivial⟩ ?_
      cases hF
      exact hR.1 49 _ _ _ (by decide +kernel) rfl ⟨rfl, rfl⟩
    · have hF := ite_f hc10 hF
      refine g_seg hK [.aload_n 0, .iload_n 3, .aload_n 0, .iload_n 3] 34 38 (L1 := [(3, vI r6), (0, vR 76), (1, vI p1), (2, vI p2)]) (st1 := [vI r6, vR 76, vI r6, vR 76]) (h1 := h1) (P := True ∧ True ∧ True ∧ True ∧ True) (by decide +kernel) rfl rfl ⟨trivial, trivial, trivial, trivial, trivial⟩ ?_
      obtain ⟨r11, e12, hF⟩ := ob1_elim hF
      refine g_callV1 hK 38 83 (d1 := 0) (ci := 7) (i := 76) (vs := [vI r6]) (rest := [vI r6, vR 76]) (h1 := h1) (r := vI r11) my_yX7_size vw_X7_83 (by decide) (T_M_size (p1 := r6) (h := h1) (hF := e12)) rfl rfl rfl (Nat.le_of_ble_eq_true rfl) (by decide +kernel) ?_
      refine g_seg hK [.iload_n 2] 41 42 (L1 := [(3, vI r6), (0, vR 76), (1, vI p1), (2, vI p2)]) (st1 := [vI p2, vI r11, vI r6, vR 76]) (h1 := h1) (P := True ∧ True) (by decide +kernel) rfl rfl ⟨trivial, trivial⟩ ?_
      obtain ⟨r13, e14, hF⟩ := ob1_elim hF
      refine g_callV1 hK 42 96 (d1 := 1) (ci := 7) (i := 76) (vs := [vI r6, vI r11, vI p2]) (rest := []) (h1 := h1) (r := vI r13) my_yX7_whyNotFrom vw_X7_96 (by decide) (T_M_whyNotFrom (p1 := r6) (p2 := r11) (p3 := p2) (h := h1) (hF := e14)) rfl rfl rfl (Nat.le_of_ble_eq_true rfl) (by decide +kernel) ?_
      refine g_goto hK 45 (4) 49 (by decide +kernel) (by decide) ?_
      cases hF
      exact hR.1 49 _ _ _ (by decide +kernel) rfl ⟨rfl, rfl⟩
set_option maxHeartbeats 4000000 in
set_option maxRecDepth 100000 in
theorem LT_M_linesOf_L4 {K : KT} (hK : Rules RX7 cX7_linesOf 4 (Option.some Jvm.ClassFile.FieldType.int) flX7 0 K) {x1 : Int} {h : MH} : ∀ (n : Nat) (x2 : Int) (x3 : Int) (x2' : Int) (x3' : Int), F_M_linesOf_L4 x1 h n x2 x3 = some (x2', x3') → K 36 [(0, vR 76), (1, vI x1), (2, vI x2'), (3, vI x3')] [] h → K 4 [(0, vR 76), (1, vI x1), (2, vI x2), (3, vI x3)] [] h := by
  intro n
  induction n with
  | zero =>
    intro x2 x3 x2' x3' hF
    cases hF
  | succ n ih =>
    intro x2 x3 x2' x3' hF hE
    unfold F_M_linesOf_L4 at hF
    refine g_seg hK [.iload_n 3, .aload_n 0, .getfield 62] 4 9 (L1 := [(0, vR 76), (1, vI x1), (2, vI x2), (3, vI x3)]) (st1 := [vI (h 76 11), vI x3]) (h1 := h) (P := True ∧ True ∧ kd 76 = 9 ∧ True) (by decide +kernel) rfl rfl ⟨trivial, trivial, rfl, trivial⟩ ?_
    refine g_icmp hK 9 .ge (27) 36 (t1 := 12) (t2 := 36) (by decide +kernel) (by decide) rfl rfl (fun (hc1 : x3 < h 76 11) => ?_) (fun (hc1 : ¬ (x3 < h 76 11)) => ?_)
    · have hF := ite_t hc1 hF
      refine g_seg hK [.iload_n 2, .aload_n 0, .getfield 28, .iload_n 3] 12 18 (L1 := [(0, vR 76), (1, vI x1), (2, vI x2), (3, vI x3)]) (st1 := [vI x3, vR 83, vI x2]) (h1 := h) (P := True ∧ True ∧ kd 76 = 9 ∧ True ∧ True) (by decide +kernel) rfl rfl ⟨trivial, trivial, rfl, trivial, trivial⟩ ?_
      obtain ⟨hg2, hF⟩ := gd_elim hF
      refine g_seg hK [.iaload, .iload_n 1] 18 20 (L1 := [(0, vR 76), (1, vI x1), (2, vI x2), (3, vI x3)]) (st1 := [vI x1, vI (h 83 x3.toNat), vI x2]) (h1 := h) (P := (kd 83 = 0 ∧ 0 ≤ x3 ∧ x3 < 28) ∧ True ∧ True) (by decide +kernel) rfl rfl ⟨⟨rfl, hg2⟩, trivial, trivial⟩ ?_
      obtain ⟨s3, e6, hF⟩ := jn1_elim hF
      have j4 : K 28 [(0, vR 76), (1, vI x1), (3, vI x3)] [vI s3, vI x2] h := by
        refine g_seg hK [.iadd, .istore_n 2, .iinc 3 1] 28 33 (L1 := [(3, vI (wr (x3 + 1))), (2, vI (wr (x2 + s3))), (0, vR 76), (1, vI x1)]) (st1 := []) (h1 := h) (P := True ∧ True ∧ True ∧ True) (by decide +kernel) rfl rfl ⟨trivial, trivial, trivial, trivial⟩ ?_
        refine g_goto hK 33 (-29) 4 (by decide +kernel) (by decide) ?_
        refine hK.2.1 _ _ ([(0, vR 76), (1, vI x1), (2, vI (wr (x2 + s3))), (3, vI (wr (x3 + 1)))]) _ _ (sub_of [2, 3, 1, 0] rfl) ?_
        exact ih _ _ _ _ hF hE
      clear hF
      have hF := e6
      refine g_icmp hK 20 .ne (7) 27 (t1 := 23) (t2 := 27) (by decide +kernel) (by decide) rfl rfl (fun (hc5 : h 83 x3.toNat = x1) => ?_) (fun (hc5 : ¬ (h 83 x3.toNat = x1)) => ?_)
      · have hF := ite_t hc5 hF
        refine g_seg hK [.iconst 1] 23 24 (L1 := [(0, vR 76), (1, vI x1), (2, vI x2), (3, vI x3)]) (st1 := [vI 1, vI x2]) (h1 := h) (P := True ∧ True) (by decide +kernel) rfl rfl ⟨trivial, trivial⟩ ?_
        refine g_goto hK 24 (4) 28 (by decide +kernel) (by decide) ?_
        refine hK.2.1 _ _ ([(0, vR 76), (1, vI x1), (3, vI x3)]) _ _ (sub_of [0, 1, 3] rfl) ?_
        cases hF
        exact j4
      · have hF := ite_f hc5 hF
        refine g_seg hK [.iconst 0] 27 28 (L1 := [(0, vR 76), (1, vI x1), (2, vI x2), (3, vI x3)]) (st1 := [vI 0, vI x2]) (h1 := h) (P := True ∧ True) (by decide +kernel) rfl rfl ⟨trivial, trivial⟩ ?_
        refine hK.2.1 _ _ ([(0, vR 76), (1, vI x1), (3, vI x3)]) _ _ (sub_of [0, 1, 3] rfl) ?_
        cases hF
        exact j4
    · have hF := ite_f hc1 hF
      cases hF
      exact hE
set_option maxHeartbeats 4000000 in
set_option maxRecDepth 100000 in
theorem T_M_linesOf {p1 : Int} {h : MH} {r : Int} (hF : F_M_linesOf p1 h = some r) : CON 0 yX7_linesOf cX7_linesOf 4 (Option.some Jvm.ClassFile.FieldType.int) [vR 76, vI p1] h (some (vI r)) h := by
  refine con_of (own := RX7) (fl := flX7) (by decide +kernel) rfl flok_X7 rfl (Nat.le_of_ble_eq_true rfl) ?_
  intro K hK hR
  show K 0 [(0, vR 76), (1, vI p1)] [] h
  unfold F_M_linesOf at hF
  refine g_seg hK [.iconst 0, .istore_n 2, .iconst 0, .istore_n 3] 0 4 (L1 := [(3, vI 0), (2, vI 0), (0, vR 76), (1, vI p1)]) (st1 := []) (h1 := h) (P := True ∧ True ∧ True ∧ True ∧ True) (by decide +kernel) rfl rfl ⟨trivial, trivial, trivial, trivial, trivial⟩ ?_
  refine hK.2.1 _ _ ([(0, vR 76), (1, vI p1), (2, vI 0), (3, vI 0)]) _ _ (sub_of [2, 3, 1, 0] rfl) ?_
  obtain ⟨x2_1, x3_2, e3, hF⟩ := ob2_elim hF
  refine LT_M_linesOf_L4 hK _ _ _ _ _ e3 ?_
  refine g_seg hK [.iload_n 2] 36 37 (L1 := [(0, vR 76), (1, vI p1), (2, vI x2_1), (3, vI x3_2)]) (st1 := [vI x2_1]) (h1 := h) (P := True ∧ True) (by decide +kernel) rfl rfl ⟨trivial, trivial⟩ ?_
  cases hF
  exact hR.1 37 _ _ _ (by decide +kernel) rfl ⟨rfl, rfl⟩
set_option maxHeartbeats 4000000 in
set_option maxRecDepth 100000 in
theorem LT_M_ofHunks_L4 {K : KT} (hK : Rules RX7 cX7_ofHunks 6 (Option.some Jvm.ClassFile.FieldType.int) flX7 4 K) {x1 : Int} {h : MH} : ∀ (n : Nat) (x2 : Int) (x3 : Int) (x2' : Int) (x3' : Int), F_M_ofHunks_L4 x1 h n x2 x3 = some (x2', x3') → K 107 [(0, vR 76), (1, vI x1), (2, vI x2'), (3, vI x3')] [] h → K 4 [(0, vR 76), (1, vI x1), (2, vI x2), (3, vI x3)] [] h := by
  intro n
  induction n with
  | zero =>
    intro x2 x3 x2' x3' hF
    cases hF
  | succ n ih =>
    intro x2 x3 x2' x3' hF hE
    unfold F_M_ofHunks_L4 at hF
    refine g_seg hK [.iload_n 3, .aload_n 0] 4 6 (L1 := [(0, vR 76), (1, vI x1), (2, vI x2), (3, vI x3)]) (st1 := [vR 76, vI x3]) (h1 := h) (P := True ∧ True ∧ True) (by decide +kernel) rfl rfl ⟨trivial, trivial, trivial⟩ ?_
    obtain ⟨r1, e2, hF⟩ := ob1_elim hF
    refine g_callV1 hK 6 72 (d1 := 1) (ci := 7) (i := 76) (vs := []) (rest := [vI x3]) (h1 := h) (r := vI r1) my_yX7_hunks vw_X7_72 (by decide) (T_M_hunks (h := h) (hF := e2)) rfl rfl rfl (Nat.le_of_ble_eq_true rfl) (by decide +kernel) ?_
    refine g_icmp hK 9 .ge (98) 107 (t1 := 12) (t2 := 107) (by decide +kernel) (by decide) rfl rfl (fun (hc3 : x3 < r1) => ?_) (fun (hc3 : ¬ (x3 < r1)) => ?_)
    · have hF := ite_t hc3 hF
      refine g_seg hK [.aload_n 0, .iload_n 3] 12 14 (L1 := [(0, vR 76), (1, vI x1), (2, vI x2), (3, vI x3)]) (st1 := [vI x3, vR 76]) (h1 := h) (P := True ∧ True ∧ True) (by decide +kernel) rfl rfl ⟨trivial, trivial, trivial⟩ ?_
      obtain ⟨r4, e5, hF⟩ := ob1_elim hF
      refine g_callV1 hK 14 107 (d1 := 1) (ci := 7) (i := 76) (vs := [vI x3]) (rest := []) (h1 := h) (r := vI r4) my_yX7_start vw_X7_107 (by decide) (T_M_start (p1 := x3) (h := h) (hF := e5)) rfl rfl rfl (Nat.le_of_ble_eq_true rfl) (by decide +kernel) ?_
      refine g_seg hK [.istore 4, .aload_n 0, .iload 4, .iconst 1] 17 23 (L1 := [(4, vI r4), (0, vR 76), (1, vI x1), (2, vI x2), (3, vI x3)]) (st1 := [vI 1, vI r4, vR 76]) (h1 := h) (P := True ∧ True ∧ True ∧ True ∧ True) (by decide +kernel) rfl rfl ⟨trivial, trivial, trivial, trivial, trivial⟩ ?_
      obtain ⟨r6, e7, hF⟩ := ob1_elim hF
      refine g_callV1 hK 23 100 (d1 := 3) (ci := 7) (i := 76) (vs := [vI r4, vI 1]) (rest := []) (h1 := h) (r := vI r6) my_yX7_slides vw_X7_100 (by decide) (T_M_slides (p1 := r4) (p2 := 1) (h := h) (hF := e7)) rfl rfl rfl (Nat.le_of_ble_eq_true rfl) (by decide +kernel) ?_
      refine g_seg hK [.aload_n 0, .iload 4, .iconst 0] 26 30 (L1 := [(4, vI r4), (0, vR 76), (1, vI x1), (2, vI x2), (3, vI x3)]) (st1 := [vI 0, vI r4, vR 76, vI r6]) (h1 := h) (P := True ∧ True ∧ True ∧ True) (by decide +kernel) rfl rfl ⟨trivial, trivial, trivial, trivial⟩ ?_
      obtain ⟨r8, e9, hF⟩ := ob1_elim hF
      refine g_callV1 hK 30 100 (d1 := 3) (ci := 7) (i := 76) (vs := [vI r4, vI 0]) (rest := [vI r6]) (h1 := h) (r := vI r8) my_yX7_slides vw_X7_100 (by decide) (T_M_slides (p1 := r4) (p2 := 0) (h := h) (hF := e9)) rfl rfl rfl (Nat.le_of_ble_eq_true rfl) (by decide +kernel) ?_
      refine g_seg hK [.iadd] 33 34 (L1 := [(4, vI r4), (0, vR 76), (1, vI x1), (2, vI x2), (3, vI x3)]) (st1 := [vI (wr (r6 + r8))]) (h1 := h) (P := True ∧ True) (by decide +kernel) rfl rfl ⟨trivial, trivial⟩ ?_
      obtain ⟨s10, e26, hF⟩ := jn1_elim hF
      have j11 : K 42 [(0, vR 76), (1, vI x1), (2, vI x2), (3, vI x3), (4, vI r4)] [vI s10] h := by
        refine g_seg hK [.istore 5, .iload_n 2, .iload_n 1, .bipush 10] 42 48 (L1 := [(5, vI s10), (0, vR 76), (1, vI x1), (2, vI x2), (3, vI x3), (4, vI r4)]) (st1 := [vI 10, vI x1, vI x2]) (h1 := h) (P := True ∧ True ∧ True ∧ True ∧ True) (by decide +kernel) rfl rfl ⟨trivial, trivial, trivial, trivial, trivial⟩ ?_
        obtain ⟨kj14, e15, hF⟩ := jk1_elim hF
        have j14 : ∀ (s13 : Int), kj14 s13 = some (x2', x3') → K 99 [(0, vR 76), (1, vI x1), (3, vI x3)] [vI s13, vI x2] h := by
          intro s13 hF
          have hF := (e15 s13).symm.trans hF
          refine g_seg hK [.iadd, .istore_n 2, .iinc 3 1] 99 104 (L1 := [(3, vI (wr (x3 + 1))), (2, vI (wr (x2 + s13))), (0, vR 76), (1, vI x1)]) (st1 := []) (h1 := h) (P := True ∧ True ∧ True ∧ True) (by decide +kernel) rfl rfl ⟨trivial, trivial, trivial, trivial⟩ ?_
          refine g_goto hK 104 (-100) 4 (by decide +kernel) (by decide) ?_
          refine hK.2.1 _ _ ([(0, vR 76), (1, vI x1), (2, vI (wr (x2 + s13))), (3, vI (wr (x3 + 1)))]) _ _ (sub_of [2, 3, 1, 0] rfl) ?_
          exact ih _ _ _ _ hF hE
        refine g_icmp hK 48 .ne (18) 66 (t1 := 51) (t2 := 66) (by decide +kernel) (by decide) rfl rfl (fun (hc16 : x1 = 10) => ?_) (fun (hc16 : ¬ (x1 = 10)) => ?_)
        · have hF := ite_t hc16 hF
          refine g_seg hK [.aload_n 0, .iload 4, .aload_n 0, .iload 4] 51 57 (L1 := [(5, vI s10), (0, vR 76), (1, vI x1), (2, vI x2), (3, vI x3), (4, vI r4)]) (st1 := [vI r4, vR 76, vI r4, vR 76, vI x2]) (h1 := h) (P := True ∧ True ∧ True ∧ True ∧ True) (by decide +kernel) rfl rfl ⟨trivial, trivial, trivial, trivial, trivial⟩ ?_
          obtain ⟨r17, e18, hF⟩ := ob1_elim hF
          refine g_callV1 hK 57 83 (d1 := 0) (ci := 7) (i := 76) (vs := [vI r4]) (rest := [vI r4, vR 76, vI x2]) (h1 := h) (r := vI r17) my_yX7_size vw_X7_83 (by decide) (T_M_size (p1 := r4) (h := h) (hF := e18)) rfl rfl rfl (Nat.le_of_ble_eq_true rfl) (by decide +kernel) ?_
          obtain ⟨r19, e20, hF⟩ := ob1_elim hF
          refine g_callV1 hK 60 104 (d1 := 0) (ci := 7) (i := 76) (vs := [vI r4, vI r17]) (rest := [vI x2]) (h1 := h) (r := vI r19) my_yX7_worth vw_X7_104 (by decide) (T_M_worth (p1 := r4) (p2 := r17) (h := h) (hF := e20)) rfl rfl rfl (Nat.le_of_ble_eq_true rfl) (by decide +kernel) ?_
          refine g_goto hK 63 (36) 99 (by decide +kernel) (by decide) ?_
          refine hK.2.1 _ _ ([(0, vR 76), (1, vI x1), (3, vI x3)]) _ _ (sub_of [1, 2, 4] rfl) ?_
          exact j14 _ hF
        · have hF := ite_f hc16 hF
          refine g_seg hK [.iload_n 1, .bipush 9] 66 69 (L1 := [(5, vI s10), (0, vR 76), (1, vI x1), (2, vI x2), (3, vI x3), (4, vI r4)]) (st1 := [vI 9, vI x1, vI x2]) (h1 := h) (P := True ∧ True ∧ True) (by decide +kernel) rfl rfl ⟨trivial, trivial, trivial⟩ ?_
          refine g_icmp hK 69 .ne (16) 85 (t1 := 72) (t2 := 85) (by decide +kernel) (by decide) rfl rfl (fun (hc21 : x1 = 9) => ?_) (fun (hc21 : ¬ (x1 = 9)) => ?_)
          · have hF := ite_t hc21 hF
            refine g_seg hK [.iload 5] 72 74 (L1 := [(5, vI s10), (0, vR 76), (1, vI x1), (2, vI x2), (3, vI x3), (4, vI r4)]) (st1 := [vI s10, vI x2]) (h1 := h) (P := True ∧ True) (by decide +kernel) rfl rfl ⟨trivial, trivial⟩ ?_
            refine g_ifz hK 74 .eq (7) 81 (t1 := 81) (t2 := 77) (by decide +kernel) (by decide) rfl rfl (fun (hc22 : s10 = 0) => ?_) (fun (hc22 : ¬ (s10 = 0)) => ?_)
            · have hF := ite_t hc22 hF
              refine g_seg hK [.iconst 0] 81 82 (L1 := [(5, vI s10), (0, vR 76), (1, vI x1), (2, vI x2), (3, vI x3), (4, vI r4)]) (st1 := [vI 0, vI x2]) (h1 := h) (P := True ∧ True) (by decide +kernel) rfl rfl ⟨trivial, trivial⟩ ?_
              refine g_goto hK 82 (17) 99 (by decide +kernel) (by decide) ?_
              refine hK.2.1 _ _ ([(0, vR 76), (1, vI x1), (3, vI x3)]) _ _ (sub_of [1, 2, 4] rfl) ?_
              exact j14 _ hF
            · have hF := ite_f hc22 hF
              refine g_seg hK [.iconst 1] 77 78 (L1 := [(5, vI s10), (0, vR 76), (1, vI x1), (2, vI x2), (3, vI x3), (4, vI r4)]) (st1 := [vI 1, vI x2]) (h1 := h) (P := True ∧ True) (by decide +kernel) rfl rfl ⟨trivial, trivial⟩ ?_
              refine g_goto hK 78 (21) 99 (by decide +kernel) (by decide) ?_
              refine hK.2.1 _ _ ([(0, vR 76), (1, vI x1), (3, vI x3)]) _ _ (sub_of [1, 2, 4] rfl) ?_
              exact j14 _ hF
          · have hF := ite_f hc21 hF
            refine g_seg hK [.aload_n 0, .iload 4] 85 88 (L1 := [(5, vI s10), (0, vR 76), (1, vI x1), (2, vI x2), (3, vI x3), (4, vI r4)]) (st1 := [vI r4, vR 76, vI x2]) (h1 := h) (P := True ∧ True ∧ True) (by decide +kernel) rfl rfl ⟨trivial, trivial, trivial⟩ ?_
            obtain ⟨r23, e24, hF⟩ := ob1_elim hF
            refine g_callV1 hK 88 93 (d1 := 2) (ci := 7) (i := 76) (vs := [vI r4]) (rest := [vI x2]) (h1 := h) (r := vI r23) my_yX7_isPlain vw_X7_93 (by decide) (T_M_isPlain (p1 := r4) (h := h) (hF := e24)) rfl rfl rfl (Nat.le_of_ble_eq_true rfl) (by decide +kernel) ?_
            refine g_ifz hK 91 .eq (7) 98 (t1 := 98) (t2 := 94) (by decide +kernel) (by decide) rfl rfl (fun (hc25 : r23 = 0) => ?_) (fun (hc25 : ¬ (r23 = 0)) => ?_)
            · have hF := ite_t hc25 hF
              refine g_seg hK [.iconst 0] 98 99 (L1 := [(5, vI s10), (0, vR 76), (1, vI x1), (2, vI x2), (3, vI x3), (4, vI r4)]) (st1 := [vI 0, vI x2]) (h1 := h) (P := True ∧ True) (by decide +kernel) rfl rfl ⟨trivial, trivial⟩ ?_
              refine hK.2.1 _ _ ([(0, vR 76), (1, vI x1), (3, vI x3)]) _ _ (sub_of [1, 2, 4] rfl) ?_
              exact j14 _ hF
            · have hF := ite_f hc25 hF
              refine g_seg hK [.iconst 1] 94 95 (L1 := [(5, vI s10), (0, vR 76), (1, vI x1), (2, vI x2), (3, vI x3), (4, vI r4)]) (st1 := [vI 1, vI x2]) (h1 := h) (P := True ∧ True) (by decide +kernel) rfl rfl ⟨trivial, trivial⟩ ?_
              refine g_goto hK 95 (4) 99 (by decide +kernel) (by decide) ?_
              refine hK.2.1 _ _ ([(0, vR 76), (1, vI x1), (3, vI x3)]) _ _ (sub_of [1, 2, 4] rfl) ?_
              exact j14 _ hF
      clear hF
      have hF := e26
      refine g_ifz hK 34 .le (7) 41 (t1 := 41) (t2 := 37) (by decide +kernel) (by decide) rfl rfl (fun (hc12 : wr (r6 + r8) ≤ 0) => ?_) (fun (hc12 : ¬ (wr (r6 + r8) ≤ 0)) => ?_)
      · have hF := ite_t hc12 hF
        refine g_seg hK [.iconst 0] 41 42 (L1 := [(4, vI r4), (0, vR 76), (1, vI x1), (2, vI x2), (3, vI x3)]) (st1 := [vI 0]) (h1 := h) (P := True ∧ True) (by decide +kernel) rfl rfl ⟨trivial, trivial⟩ ?_
        refine hK.2.1 _ _ ([(0, vR 76), (1, vI x1), (2, vI x2), (3, vI x3), (4, vI r4)]) _ _ (sub_of [1, 2, 3, 4, 0] rfl) ?_
        cases hF
        exact j11
      · have hF := ite_f hc12 hF
        refine g_seg hK [.iconst 1] 37 38 (L1 := [(4, vI r4), (0, vR 76), (1, vI x1), (2, vI x2), (3, vI x3)]) (st1 := [vI 1]) (h1 := h) (P := True ∧ True) (by decide +kernel) rfl rfl ⟨trivial, trivial⟩ ?_
        refine g_goto hK 38 (4) 42 (by decide +kernel) (by decide) ?_
        refine hK.2.1 _ _ ([(0, vR 76), (1, vI x1), (2, vI x2), (3, vI x3), (4, vI r4)]) _ _ (sub_of [1, 2, 3, 4, 0] rfl) ?_
        cases hF
        exact j11
    · have hF := ite_f hc3 hF
      cases hF
      exact hE
set_option maxHeartbeats 4000000 in
set_option maxRecDepth 100000 in
theorem T_M_ofHunks {p1 : Int} {h : MH} {r : Int} (hF : F_M_ofHunks p1 h = some r) : CON 4 yX7_ofHunks cX7_ofHunks 6 (Option.some Jvm.ClassFile.FieldType.int) [vR 76, vI p1] h (some (vI r)) h := by
  refine con_of (own := RX7) (fl := flX7) (by decide +kernel) rfl flok_X7 rfl (Nat.le_of_ble_eq_true rfl) ?_
  intro K hK hR
  show K 0 [(0, vR 76), (1, vI p1)] [] h
  unfold F_M_ofHunks at hF
  refine g_seg hK [.iconst 0, .istore_n 2, .iconst 0, .istore_n 3] 0 4 (L1 := [(3, vI 0), (2, vI 0), (0, vR 76), (1, vI p1)]) (st1 := []) (h1 := h) (P := True ∧ True ∧ True ∧ True ∧ True) (by decide +kernel) rfl rfl ⟨trivial, trivial, trivial, trivial, trivial⟩ ?_
  refine hK.2.1 _ _ ([(0, vR 76), (1, vI p1), (2, vI 0), (3, vI 0)]) _ _ (sub_of [2, 3, 1, 0] rfl) ?_
  obtain ⟨x2_1, x3_2, e3, hF⟩ := ob2_elim hF
  refine LT_M_ofHunks_L4 hK _ _ _ _ _ e3 ?_
  refine g_seg hK [.iload_n 2] 107 108 (L1 := [(0, vR 76), (1, vI p1), (2, vI x2_1), (3, vI x3_2)]) (st1 := [vI x2_1]) (h1 := h) (P := True ∧ True) (by decide +kernel) rfl rfl ⟨trivial, trivial⟩ ?_
  cases hF
  exact hR.1 108 _ _ _ (by decide +kernel) rfl ⟨rfl, rfl⟩
set_option maxHeartbeats 4000000 in
set_option maxRecDepth 100000 in
theorem LT_M_longestKept_L6 {K : KT} (hK : Rules RX7 cX7_longestKept 4 (Option.some Jvm.ClassFile.FieldType.int) flX7 0 K) {h : MH} : ∀ (n : Nat) (x1 : Int) (x2 : Int) (x3 : Int) (x1' : Int) (x2' : Int) (x3' : Int), F_M_longestKept_L6 h n x1 x2 x3 = some (x1', x2', x3') → K 48 [(0, vR 76), (1, vI x1'), (2, vI x2'), (3, vI x3')] [] h → K 6 [(0, vR 76), (1, vI x1), (2, vI x2), (3, vI x3)] [] h := by
  intro n
  induction n with
  | zero =>
    intro x1 x2 x3 x1' x2' x3' hF
    cases hF
  | succ n ih =>
    intro x1 x2 x3 x1' x2' x3' hF hE
    unfold F_M_longestKept_L6 at hF
    refine g_seg hK [.iload_n 3, .aload_n 0, .getfield 62] 6 11 (L1 := [(0, vR 76), (1, vI x1), (2, vI x2), (3, vI x3)]) (st1 := [vI (h 76 11), vI x3]) (h1 := h) (P := True ∧ True ∧ kd 76 = 9 ∧ True) (by decide +kernel) rfl rfl ⟨trivial, trivial, rfl, trivial⟩ ?_
    refine g_icmp hK 11 .ge (37) 48 (t1 := 14) (t2 := 48) (by decide +kernel) (by decide) rfl rfl (fun (hc1 : x3 < h 76 11) => ?_) (fun (hc1 : ¬ (x3 < h 76 11)) => ?_)
    · have hF := ite_t hc1 hF
      refine g_seg hK [.aload_n 0, .getfield 28, .iload_n 3] 14 19 (L1 := [(0, vR 76), (1, vI x1), (2, vI x2), (3, vI x3)]) (st1 := [vI x3, vR 83]) (h1 := h) (P := True ∧ kd 76 = 9 ∧ True ∧ True) (by decide +kernel) rfl rfl ⟨trivial, rfl, trivial, trivial⟩ ?_
      obtain ⟨hg2, hF⟩ := gd_elim hF
      refine g_seg hK [.iaload] 19 20 (L1 := [(0, vR 76), (1, vI x1), (2, vI x2), (3, vI x3)]) (st1 := [vI (h 83 x3.toNat)]) (h1 := h) (P := (kd 83 = 0 ∧ 0 ≤ x3 ∧ x3 < 28) ∧ True) (by decide +kernel) rfl rfl ⟨⟨rfl, hg2⟩, trivial⟩ ?_
      obtain ⟨s3, e10, hF⟩ := jn1_elim hF
      have j4 : K 30 [(0, vR 76), (1, vI x1), (3, vI x3)] [vI s3] h := by
        refine g_seg hK [.istore_n 2, .iload_n 2, .iload_n 1] 30 33 (L1 := [(2, vI s3), (0, vR 76), (1, vI x1), (3, vI x3)]) (st1 := [vI x1, vI s3]) (h1 := h) (P := True ∧ True ∧ True ∧ True) (by decide +kernel) rfl rfl ⟨trivial, trivial, trivial, trivial⟩ ?_
        obtain ⟨s6, e9, hF⟩ := jn1_elim hF
        have j7 : K 41 [(0, vR 76), (2, vI s3), (3, vI x3)] [vI s6] h := by
          refine g_seg hK [.istore_n 1, .iinc 3 1] 41 45 (L1 := [(3, vI (wr (x3 + 1))), (1, vI s6), (0, vR 76), (2, vI s3)]) (st1 := []) (h1 := h) (P := True ∧ True ∧ True) (by decide +kernel) rfl rfl ⟨trivial, trivial, trivial⟩ ?_
          refine g_goto hK 45 (-39) 6 (by decide +kernel) (by decide) ?_
          refine hK.2.1 _ _ ([(0, vR 76), (1, vI s6), (2, vI s3), (3, vI (wr (x3 + 1)))]) _ _ (sub_of [2, 1, 3, 0] rfl) ?_
          exact ih _ _ _ _ _ _ hF hE
        clear hF
        have hF := e9
        refine g_icmp hK 33 .le (7) 40 (t1 := 40) (t2 := 36) (by decide +kernel) (by decide) rfl rfl (fun (hc8 : s3 ≤ x1) => ?_) (fun (hc8 : ¬ (s3 ≤ x1)) => ?_)
        · have hF := ite_t hc8 hF
          refine g_seg hK [.iload_n 1] 40 41 (L1 := [(2, vI s3), (0, vR 76), (1, vI x1), (3, vI x3)]) (st1 := [vI x1]) (h1 := h) (P := True ∧ True) (by decide +kernel) rfl rfl ⟨trivial, trivial⟩ ?_
          refine hK.2.1 _ _ ([(0, vR 76), (2, vI s3), (3, vI x3)]) _ _ (sub_of [1, 0, 3] rfl) ?_
          cases hF
          exact j7
        · have hF := ite_f hc8 hF
          refine g_seg hK [.iload_n 2] 36 37 (L1 := [(2, vI s3), (0, vR 76), (1, vI x1), (3, vI x3)]) (st1 := [vI s3]) (h1 := h) (P := True ∧ True) (by decide +kernel) rfl rfl ⟨trivial, trivial⟩ ?_
          refine g_goto hK 37 (4) 41 (by decide +kernel) (by decide) ?_
          refine hK.2.1 _ _ ([(0, vR 76), (2, vI s3), (3, vI x3)]) _ _ (sub_of [1, 0, 3] rfl) ?_
          cases hF
          exact j7
      clear hF
      have hF := e10
      refine g_ifz hK 20 .ne (9) 29 (t1 := 23) (t2 := 29) (by decide +kernel) (by decide) rfl rfl (fun (hc5 : h 83 x3.toNat = 0) => ?_) (fun (hc5 : ¬ (h 83 x3.toNat = 0)) => ?_)
      · have hF := ite_t hc5 hF
        refine g_seg hK [.iload_n 2, .iconst 1, .iadd] 23 26 (L1 := [(0, vR 76), (1, vI x1), (2, vI x2), (3, vI x3)]) (st1 := [vI (wr (x2 + 1))]) (h1 := h) (P := True ∧ True ∧ True ∧ True) (by decide +kernel) rfl rfl ⟨trivial, trivial, trivial, trivial⟩ ?_
        refine g_goto hK 26 (4) 30 (by decide +kernel) (by decide) ?_
        refine hK.2.1 _ _ ([(0, vR 76), (1, vI x1), (3, vI x3)]) _ _ (sub_of [0, 1, 3] rfl) ?_
        cases hF
        exact j4
      · have hF := ite_f hc5 hF
        refine g_seg hK [.iconst 0] 29 30 (L1 := [(0, vR 76), (1, vI x1), (2, vI x2), (3, vI x3)]) (st1 := [vI 0]) (h1 := h) (P := True ∧ True) (by decide +kernel) rfl rfl ⟨trivial, trivial⟩ ?_
        refine hK.2.1 _ _ ([(0, vR 76), (1, vI x1), (3, vI x3)]) _ _ (sub_of [0, 1, 3] rfl) ?_
        cases hF
        exact j4
    · have hF := ite_f hc1 hF
      cases hF
      exact hE
set_option maxHeartbeats 4000000 in
set_option maxRecDepth 100000 in
theorem T_M_longestKept {h : MH} {r : Int} (hF : F_M_longestKept h = some r) : CON 0 yX7_longestKept cX7_longestKept 4 (Option.some Jvm.ClassFile.FieldType.int) [vR 76] h (some (vI r)) h := by
  refine con_of (own := RX7) (fl := flX7) (by decide +kernel) rfl flok_X7 rfl (Nat.le_of_ble_eq_true rfl) ?_
  intro K hK hR
  show K 0 [(0, vR 76)] [] h
  unfold F_M_longestKept at hF
  refine g_seg hK [.iconst 0, .istore_n 1, .iconst 0, .istore_n 2, .iconst 0, .istore_n 3] 0 6 (L1 := [(3, vI 0), (2, vI 0), (1, vI 0), (0, vR 76)]) (st1 := []) (h1 := h) (P := True ∧ True ∧ True ∧ True ∧ True ∧ True ∧ True) (by decide +kernel) rfl rfl ⟨trivial, trivial, trivial, trivial, trivial, trivial, trivial⟩ ?_
  refine hK.2.1 _ _ ([(0, vR 76), (1, vI 0), (2, vI 0), (3, vI 0)]) _ _ (sub_of [3, 2, 1, 0] rfl) ?_
  obtain ⟨x1_1, x2_2, x3_3, e4, hF⟩ := ob3_elim hF
  refine LT_M_longestKept_L6 hK _ _ _ _ _ _ _ e4 ?_
  refine g_seg hK [.iload_n 1] 48 49 (L1 := [(0, vR 76), (1, vI x1_1), (2, vI x2_2), (3, vI x3_3)]) (st1 := [vI x1_1]) (h1 := h) (P := True ∧ True) (by decide +kernel) rfl rfl ⟨trivial, trivial⟩ ?_
  cases hF
  exact hR.1 49 _ _ _ (by decide +kernel) rfl ⟨rfl, rfl⟩
set_option maxHeartbeats 4000000 in
set_option maxRecDepth 100000 in
theorem T_M_count {p1 : Int} {h : MH} {r : Int} {h' : MH} (hF : F_M_count p1 h = some (r, h')) : CON 7 yX7_count cX7_count 2 (Option.some Jvm.ClassFile.FieldType.int) [vR 76, vI p1] h (some (vI r)) h' := by
  refine con_of (own := RX7) (fl := flX7) (by decide +kernel) rfl flok_X7 rfl (Nat.le_of_ble_eq_true rfl) ?_
  intro K hK hR
  show K 0 [(0, vR 76), (1, vI p1)] [] h
  unfold F_M_count at hF
  refine g_seg hK [.aload_n 0] 0 1 (L1 := [(0, vR 76), (1, vI p1)]) (st1 := [vR 76]) (h1 := h) (P := True ∧ True) (by decide +kernel) rfl rfl ⟨trivial, trivial⟩ ?_
  obtain ⟨h1, e2, hF⟩ := ob1_elim hF
  refine g_callV0 hK 1 152 (d1 := 6) (ci := 7) (i := 76) (vs := []) (rest := []) (h1 := h1) my_yX7_views vw_X7_152 (by decide) (T_M_views (h := h) (hF := e2)) rfl rfl rfl (Nat.le_of_ble_eq_true rfl) (by decide +kernel) ?_
  refine g_seg hK [.iload_n 1] 4 5 (L1 := [(0, vR 76), (1, vI p1)]) (st1 := [vI p1]) (h1 := h1) (P := True ∧ True) (by decide +kernel) rfl rfl ⟨trivial, trivial⟩ ?_
  refine g_sw hK 5 158 0 17 #[87, 87, 87, 93, 98, 98, 98, 106, 111, 111, 111, 117, 122, 122, 135, 135, 148, 153] 87 (by decide +kernel) (by decide) ?_
  by_cases hc3 : p1 = 0
  · have hF := ite_t hc3 hF
    rw [show swT 5 158 0 17 [87, 87, 87, 93, 98, 98, 98, 106, 111, 111, 111, 117, 122, 122, 135, 135, 148, 153] p1 = 92 from by rw [hc3]; decide]
    refine g_seg hK [.aload_n 0, .iload_n 1] 92 94 (L1 := [(0, vR 76), (1, vI p1)]) (st1 := [vI p1, vR 76]) (h1 := h1) (P := True ∧ True ∧ True) (by decide +kernel) rfl rfl ⟨trivial, trivial, trivial⟩ ?_
    obtain ⟨r4, e5, hF⟩ := ob1_elim hF
    refine g_callV1 hK 94 47 (d1 := 0) (ci := 7) (i := 76) (vs := [vI p1]) (rest := []) (h1 := h1) (r := vI r4) my_yX7_lines vw_X7_47 (by decide) (T_M_lines (p1 := p1) (h := h1) (hF := e5)) rfl rfl rfl (Nat.le_of_ble_eq_true rfl) (by decide +kernel) ?_
    cases hF
    exact hR.1 97 _ _ _ (by decide +kernel) rfl ⟨rfl, rfl⟩
  · have hF := ite_f hc3 hF
    by_cases hc6 : p1 = 1
    · have hF := ite_t hc6 hF
      rw [show swT 5 158 0 17 [87, 87, 87, 93, 98, 98, 98, 106, 111, 111, 111, 117, 122, 122, 135, 135, 148, 153] p1 = 92 from by rw [hc6]; decide]
      refine g_seg hK [.aload_n 0, .iload_n 1] 92 94 (L1 := [(0, vR 76), (1, vI p1)]) (st1 := [vI p1, vR 76]) (h1 := h1) (P := True ∧ True ∧ True) (by decide +kernel) rfl rfl ⟨trivial, trivial, trivial⟩ ?_
      obtain ⟨r7, e8, hF⟩ := ob1_elim hF
      refine g_callV1 hK 94 47 (d1 := 0) (ci := 7) (i := 76) (vs := [vI p1]) (rest := []) (h1 := h1) (r := vI r7) my_yX7_lines vw_X7_47 (by decide) (T_M_lines (p1 := p1) (h := h1) (hF := e8)) rfl rfl rfl (Nat.le_of_ble_eq_true rfl) (by decide +kernel) ?_
      cases hF
      exact hR.1 97 _ _ _ (by decide +kernel) rfl ⟨rfl, rfl⟩
    · have hF := ite_f hc6 hF
      by_cases hc9 : p1 = 2
      · have hF := ite_t hc9 hF
        rw [show swT 5 158 0 17 [87, 87, 87, 93, 98, 98, 98, 106, 111, 111, 111, 117, 122, 122, 135, 135, 148, 153] p1 = 92 from by rw [hc9]; decide]
        refine g_seg hK [.aload_n 0, .iload_n 1] 92 94 (L1 := [(0, vR 76), (1, vI p1)]) (st1 := [vI p1, vR 76]) (h1 := h1) (P := True ∧ True ∧ True) (by decide +kernel) rfl rfl ⟨trivial, trivial, trivial⟩ ?_
        obtain ⟨r10, e11, hF⟩ := ob1_elim hF
        refine g_callV1 hK 94 47 (d1 := 0) (ci := 7) (i := 76) (vs := [vI p1]) (rest := []) (h1 := h1) (r := vI r10) my_yX7_lines vw_X7_47 (by decide) (T_M_lines (p1 := p1) (h := h1) (hF := e11)) rfl rfl rfl (Nat.le_of_ble_eq_true rfl) (by decide +kernel) ?_
        cases hF
        exact hR.1 97 _ _ _ (by decide +kernel) rfl ⟨rfl, rfl⟩
      · have hF := ite_f hc9 hF
        by_cases hc12 : p1 = 3
        · have hF := ite_t hc12 hF
          rw [show swT 5 158 0 17 [87, 87, 87, 93, 98, 98, 98, 106, 111, 111, 111, 117, 122, 122, 135, 135, 148, 153] p1 = 98 from by rw [hc12]; decide]
          refine g_seg hK [.aload_n 0, .getfield 62] 98 102 (L1 := [(0, vR 76), (1, vI p1)]) (st1 := [vI (h1 76 11)]) (h1 := h1) (P := True ∧ kd 76 = 9 ∧ True) (by decide +kernel) rfl rfl ⟨trivial, rfl, trivial⟩ ?_
          cases hF
          exact hR.1 102 _ _ _ (by decide +kernel) rfl ⟨rfl, rfl⟩
        · have hF := ite_f hc12 hF
          by_cases hc13 : p1 = 4
          · have hF := ite_t hc13 hF
            rw [show swT 5 158 0 17 [87, 87, 87, 93, 98, 98, 98, 106, 111, 111, 111, 117, 122, 122, 135, 135, 148, 153] p1 = 103 from by rw [hc13]; decide]
            refine g_seg hK [.aload_n 0, .iload_n 1, .iconst 4, .isub] 103 107 (L1 := [(0, vR 76), (1, vI p1)]) (st1 := [vI (wr (p1 - 4)), vR 76]) (h1 := h1) (P := True ∧ True ∧ True ∧ True ∧ True) (by decide +kernel) rfl rfl ⟨trivial, trivial, trivial, trivial, trivial⟩ ?_
            obtain ⟨r14, e15, hF⟩ := ob1_elim hF
            refine g_callV1 hK 107 165 (d1 := 0) (ci := 7) (i := 76) (vs := [vI (wr (p1 - 4))]) (rest := []) (h1 := h1) (r := vI r14) my_yX7_linesOf vw_X7_165 (by decide) (T_M_linesOf (p1 := (wr (p1 - 4))) (h := h1) (hF := e15)) rfl rfl rfl (Nat.le_of_ble_eq_true rfl) (by decide +kernel) ?_
            cases hF
            exact hR.1 110 _ _ _ (by decide +kernel) rfl ⟨rfl, rfl⟩
          · have hF := ite_f hc13 hF
            by_cases hc16 : p1 = 5
            · have hF := ite_t hc16 hF
              rw [show swT 5 158 0 17 [87, 87, 87, 93, 98, 98, 98, 106, 111, 111, 111, 117, 122, 122, 135, 135, 148, 153] p1 = 103 from by rw [hc16]; decide]
              refine g_seg hK [.aload_n 0, .iload_n 1, .iconst 4, .isub] 103 107 (L1 := [(0, vR 76), (1, vI p1)]) (st1 := [vI (wr (p1 - 4)), vR 76]) (h1 := h1) (P := True ∧ True ∧ True ∧ True ∧ True) (by decide +kernel) rfl rfl ⟨trivial, trivial, trivial, trivial, trivial⟩ ?_
              obtain ⟨r17, e18, hF⟩ := ob1_elim hF
              refine g_callV1 hK 107 165 (d1 := 0) (ci := 7) (i := 76) (vs := [vI (wr (p1 - 4))]) (rest := []) (h1 := h1) (r := vI r17) my_yX7_linesOf vw_X7_165 (by decide) (T_M_linesOf (p1 := (wr (p1 - 4))) (h := h1) (hF := e18)) rfl rfl rfl (Nat.le_of_ble_eq_true rfl) (by decide +kernel) ?_
              cases hF
              exact hR.1 110 _ _ _ (by decide +kernel) rfl ⟨rfl, rfl⟩
            · have hF := ite_f hc16 hF
              by_cases hc19 : p1 = 6
              · have hF := ite_t hc19 hF
                rw [show swT 5 158 0 17 [87, 87, 87, 93, 98, 98, 98, 106, 111, 111, 111, 117, 122, 122, 135, 135, 148, 153] p1 = 103 from by rw [hc19]; decide]
                refine g_seg hK [.aload_n 0, .iload_n 1, .iconst 4, .isub] 103 107 (L1 := [(0, vR 76), (1, vI p1)]) (st1 := [vI (wr (p1 - 4)), vR 76]) (h1 := h1) (P := True ∧ True ∧ True ∧ True ∧ True) (by decide +kernel) rfl rfl ⟨trivial, trivial, trivial, trivial, trivial⟩ ?_
                obtain ⟨r20, e21, hF⟩ := ob1_elim hF
                refine g_callV1 hK 107 165 (d1 := 0) (ci := 7) (i := 76) (vs := [vI (wr (p1 - 4))]) (rest := []) (h1 := h1) (r := vI r20) my_yX7_linesOf vw_X7_165 (by decide) (T_M_linesOf (p1 := (wr (p1 - 4))) (h := h1) (hF := e21)) rfl rfl rfl (Nat.le_of_ble_eq_true rfl) (by decide +kernel) ?_
                cases hF
                exact hR.1 110 _ _ _ (by decide +kernel) rfl ⟨rfl, rfl⟩
              · have hF := ite_f hc19 hF
                by_cases hc22 : p1 = 7
                · have hF := ite_t hc22 hF
                  rw [show swT 5 158 0 17 [87, 87, 87, 93, 98, 98, 98, 106, 111, 111, 111, 117, 122, 122, 135, 135, 148, 153] p1 = 111 from by rw [hc22]; decide]
                  refine g_seg hK [.aload_n 0] 111 112 (L1 := [(0, vR 76), (1, vI p1)]) (st1 := [vR 76]) (h1 := h1) (P := True ∧ True) (by decide +kernel) rfl rfl ⟨trivial, trivial⟩ ?_
                  obtain ⟨r23, e24, hF⟩ := ob1_elim hF
                  refine g_callV1 hK 112 72 (d1 := 1) (ci := 7) (i := 76) (vs := []) (rest := []) (h1 := h1) (r := vI r23) my_yX7_hunks vw_X7_72 (by decide) (T_M_hunks (h := h1) (hF := e24)) rfl rfl rfl (Nat.le_of_ble_eq_true rfl) (by decide +kernel) ?_
                  cases hF
                  exact hR.1 115 _ _ _ (by decide +kernel) rfl ⟨rfl, rfl⟩
                · have hF := ite_f hc22 hF
                  by_cases hc25 : p1 = 8
                  · have hF := ite_t hc25 hF
                    rw [show swT 5 158 0 17 [87, 87, 87, 93, 98, 98, 98, 106, 111, 111, 111, 117, 122, 122, 135, 135, 148, 153] p1 = 116 from by rw [hc25]; decide]
                    refine g_seg hK [.aload_n 0, .iload_n 1] 116 118 (L1 := [(0, vR 76), (1, vI p1)]) (st1 := [vI p1, vR 76]) (h1 := h1) (P := True ∧ True ∧ True) (by decide +kernel) rfl rfl ⟨trivial, trivial, trivial⟩ ?_
                    obtain ⟨r26, e27, hF⟩ := ob1_elim hF
                    refine g_callV1 hK 118 168 (d1 := 4) (ci := 7) (i := 76) (vs := [vI p1]) (rest := []) (h1 := h1) (r := vI r26) my_yX7_ofHunks vw_X7_168 (by decide) (T_M_ofHunks (p1 := p1) (h := h1) (hF := e27)) rfl rfl rfl (Nat.le_of_ble_eq_true rfl) (by decide +kernel) ?_
                    cases hF
                    exact hR.1 121 _ _ _ (by decide +kernel) rfl ⟨rfl, rfl⟩
                  · have hF := ite_f hc25 hF
                    by_cases hc28 : p1 = 9
                    · have hF := ite_t hc28 hF
                      rw [show swT 5 158 0 17 [87, 87, 87, 93, 98, 98, 98, 106, 111, 111, 111, 117, 122, 122, 135, 135, 148, 153] p1 = 116 from by rw [hc28]; decide]
                      refine g_seg hK [.aload_n 0, .iload_n 1] 116 118 (L1 := [(0, vR 76), (1, vI p1)]) (st1 := [vI p1, vR 76]) (h1 := h1) (P := True ∧ True ∧ True) (by decide +kernel) rfl rfl ⟨trivial, trivial, trivial⟩ ?_
                      obtain ⟨r29, e30, hF⟩ := ob1_elim hF
                      refine g_callV1 hK 118 168 (d1 := 4) (ci := 7) (i := 76) (vs := [vI p1]) (rest := []) (h1 := h1) (r := vI r29) my_yX7_ofHunks vw_X7_168 (by decide) (T_M_ofHunks (p1 := p1) (h := h1) (hF := e30)) rfl rfl rfl (Nat.le_of_ble_eq_true rfl) (by decide +kernel) ?_
                      cases hF
                      exact hR.1 121 _ _ _ (by decide +kernel) rfl ⟨rfl, rfl⟩
                    · have hF := ite_f hc28 hF
                      by_cases hc31 : p1 = 10
                      · have hF := ite_t hc31 hF
                        rw [show swT 5 158 0 17 [87, 87, 87, 93, 98, 98, 98, 106, 111, 111, 111, 117, 122, 122, 135, 135, 148, 153] p1 = 116 from by rw [hc31]; decide]
                        refine g_seg hK [.aload_n 0, .iload_n 1] 116 118 (L1 := [(0, vR 76), (1, vI p1)]) (st1 := [vI p1, vR 76]) (h1 := h1) (P := True ∧ True ∧ True) (by decide +kernel) rfl rfl ⟨trivial, trivial, trivial⟩ ?_
                        obtain ⟨r32, e33, hF⟩ := ob1_elim hF
                        refine g_callV1 hK 118 168 (d1 := 4) (ci := 7) (i := 76) (vs := [vI p1]) (rest := []) (h1 := h1) (r := vI r32) my_yX7_ofHunks vw_X7_168 (by decide) (T_M_ofHunks (p1 := p1) (h := h1) (hF := e33)) rfl rfl rfl (Nat.le_of_ble_eq_true rfl) (by decide +kernel) ?_
                        cases hF
                        exact hR.1 121 _ _ _ (by decide +kernel) rfl ⟨rfl, rfl⟩
                      · have hF := ite_f hc31 hF
                        by_cases hc34 : p1 = 11
                        · have hF := ite_t hc34 hF
                          rw [show swT 5 158 0 17 [87, 87, 87, 93, 98, 98, 98, 106, 111, 111, 111, 117, 122, 122, 135, 135, 148, 153] p1 = 122 from by rw [hc34]; decide]
                          refine g_seg hK [.aload_n 0] 122 123 (L1 := [(0, vR 76), (1, vI p1)]) (st1 := [vR 76]) (h1 := h1) (P := True ∧ True) (by decide +kernel) rfl rfl ⟨trivial, trivial⟩ ?_
                          obtain ⟨r35, e36, hF⟩ := ob1_elim hF
                          refine g_callV1 hK 123 171 (d1 := 0) (ci := 7) (i := 76) (vs := []) (rest := []) (h1 := h1) (r := vI r35) my_yX7_longestKept vw_X7_171 (by decide) (T_M_longestKept (h := h1) (hF := e36)) rfl rfl rfl (Nat.le_of_ble_eq_true rfl) (by decide +kernel) ?_
                          cases hF
                          exact hR.1 126 _ _ _ (by decide +kernel) rfl ⟨rfl, rfl⟩
                        · have hF := ite_f hc34 hF
                          by_cases hc37 : p1 = 12
                          · have hF := ite_t hc37 hF
                            rw [show swT 5 158 0 17 [87, 87, 87, 93, 98, 98, 98, 106, 111, 111, 111, 117, 122, 122, 135, 135, 148, 153] p1 = 127 from by rw [hc37]; decide]
                            refine g_seg hK [.aload_n 0, .getfield 7, .bipush 47, .iload_n 1, .iadd, .bipush 12, .isub] 127 138 (L1 := [(0, vR 76), (1, vI p1)]) (st1 := [vI (wr ((wr (47 + p1)) - 12)), vR 77]) (h1 := h1) (P := True ∧ kd 76 = 9 ∧ True ∧ True ∧ True ∧ True ∧ True ∧ True) (by decide +kernel) rfl rfl ⟨trivial, rfl, trivial, trivial, trivial, trivial, trivial, trivial⟩ ?_
                            obtain ⟨hg38, hF⟩ := gd_elim hF
                            refine g_seg hK [.iaload] 138 139 (L1 := [(0, vR 76), (1, vI p1)]) (st1 := [vI (h1 77 (wr ((wr (47 + p1)) - 12)).toNat)]) (h1 := h1) (P := (kd 77 = 0 ∧ 0 ≤ wr ((wr (47 + p1)) - 12) ∧ wr ((wr (47 + p1)) - 12) < 49) ∧ True) (by decide +kernel) rfl rfl ⟨⟨rfl, hg38⟩, trivial⟩ ?_
                            cases hF
                            exact hR.1 139 _ _ _ (by decide +kernel) rfl ⟨rfl, rfl⟩
                          · have hF := ite_f hc37 hF
                            by_cases hc39 : p1 = 13
                            · have hF := ite_t hc39 hF
                              rw [show swT 5 158 0 17 [87, 87, 87, 93, 98, 98, 98, 106, 111, 111, 111, 117, 122, 122, 135, 135, 148, 153] p1 = 127 from by rw [hc39]; decide]
                              refine g_seg hK [.aload_n 0, .getfield 7, .bipush 47, .iload_n 1, .iadd, .bipush 12, .isub] 127 138 (L1 := [(0, vR 76), (1, vI p1)]) (st1 := [vI (wr ((wr (47 + p1)) - 12)), vR 77]) (h1 := h1) (P := True ∧ kd 76 = 9 ∧ True ∧ True ∧ True ∧ True ∧ True ∧ True) (by decide +kernel) rfl rfl ⟨trivial, rfl, trivial, trivial, trivial, trivial, trivial, trivial⟩ ?_
                              obtain ⟨hg40, hF⟩ := gd_elim hF
                              refine g_seg hK [.iaload] 138 139 (L1 := [(0, vR 76), (1, vI p1)]) (st1 := [vI (h1 77 (wr ((wr (47 + p1)) - 12)).toNat)]) (h1 := h1) (P := (kd 77 = 0 ∧ 0 ≤ wr ((wr (47 + p1)) - 12) ∧ wr ((wr (47 + p1)) - 12) < 49) ∧ True) (by decide +kernel) rfl rfl ⟨⟨rfl, hg40⟩, trivial⟩ ?_
                              cases hF
                              exact hR.1 139 _ _ _ (by decide +kernel) rfl ⟨rfl, rfl⟩
                            · have hF := ite_f hc39 hF
                              by_cases hc41 : p1 = 14
                              · have hF := ite_t hc41 hF
                                rw [show swT 5 158 0 17 [87, 87, 87, 93, 98, 98, 98, 106, 111, 111, 111, 117, 122, 122, 135, 135, 148, 153] p1 = 140 from by rw [hc41]; decide]
                                refine g_seg hK [.aload_n 0, .getfield 7, .bipush 45, .iload_n 1, .iadd, .bipush 14, .isub] 140 151 (L1 := [(0, vR 76), (1, vI p1)]) (st1 := [vI (wr ((wr (45 + p1)) - 14)), vR 77]) (h1 := h1) (P := True ∧ kd 76 = 9 ∧ True ∧ True ∧ True ∧ True ∧ True ∧ True) (by decide +kernel) rfl rfl ⟨trivial, rfl, trivial, trivial, trivial, trivial, trivial, trivial⟩ ?_
                                obtain ⟨hg42, hF⟩ := gd_elim hF
                                refine g_seg hK [.iaload] 151 152 (L1 := [(0, vR 76), (1, vI p1)]) (st1 := [vI (h1 77 (wr ((wr (45 + p1)) - 14)).toNat)]) (h1 := h1) (P := (kd 77 = 0 ∧ 0 ≤ wr ((wr (45 + p1)) - 14) ∧ wr ((wr (45 + p1)) - 14) < 49) ∧ True) (by decide +kernel) rfl rfl ⟨⟨rfl, hg42⟩, trivial⟩ ?_
                                cases hF
                                exact hR.1 152 _ _ _ (by decide +kernel) rfl ⟨rfl, rfl⟩
                              · have hF := ite_f hc41 hF
                                by_cases hc43 : p1 = 15
                                · have hF := ite_t hc43 hF
                                  rw [show swT 5 158 0 17 [87, 87, 87, 93, 98, 98, 98, 106, 111, 111, 111, 117, 122, 122, 135, 135, 148, 153] p1 = 140 from by rw [hc43]; decide]
                                  refine g_seg hK [.aload_n 0, .getfield 7, .bipush 45, .iload_n 1, .iadd, .bipush 14, .isub] 140 151 (L1 := [(0, vR 76), (1, vI p1)]) (st1 := [vI (wr ((wr (45 + p1)) - 14)), vR 77]) (h1 := h1) (P := True ∧ kd 76 = 9 ∧ True ∧ True ∧ True ∧ True ∧ True ∧ True) (by decide +kernel) rfl rfl ⟨trivial, rfl, trivial, trivial, trivial, trivial, trivial, trivial⟩ ?_
                                  obtain ⟨hg44, hF⟩ := gd_elim hF
                                  refine g_seg hK [.iaload] 151 152 (L1 := [(0, vR 76), (1, vI p1)]) (st1 := [vI (h1 77 (wr ((wr (45 + p1)) - 14)).toNat)]) (h1 := h1) (P := (kd 77 = 0 ∧ 0 ≤ wr ((wr (45 + p1)) - 14) ∧ wr ((wr (45 + p1)) - 14) < 49) ∧ True) (by decide +kernel) rfl rfl ⟨⟨rfl, hg44⟩, trivial⟩ ?_
                                  cases hF
                                  exact hR.1 152 _ _ _ (by decide +kernel) rfl ⟨rfl, rfl⟩
                                · have hF := ite_f hc43 hF
                                  by_cases hc45 : p1 = 16
                                  · have hF := ite_t hc45 hF
                                    rw [show swT 5 158 0 17 [87, 87, 87, 93, 98, 98, 98, 106, 111, 111, 111, 117, 122, 122, 135, 135, 148, 153] p1 = 153 from by rw [hc45]; decide]
                                    refine g_seg hK [.aload_n 0, .getfield 140] 153 157 (L1 := [(0, vR 76), (1, vI p1)]) (st1 := [vI (h1 76 6)]) (h1 := h1) (P := True ∧ kd 76 = 9 ∧ True) (by decide +kernel) rfl rfl ⟨trivial, rfl, trivial⟩ ?_
                                    cases hF
                                    exact hR.1 157 _ _ _ (by decide +kernel) rfl ⟨rfl, rfl⟩
                                  · have hF := ite_f hc45 hF
                                    by_cases hc46 : p1 = 17
                                    · have hF := ite_t hc46 hF
                                      rw [show swT 5 158 0 17 [87, 87, 87, 93, 98, 98, 98, 106, 111, 111, 111, 117, 122, 122, 135, 135, 148, 153] p1 = 158 from by rw [hc46]; decide]
                                      refine g_seg hK [.aload_n 0, .getfield 44] 158 162 (L1 := [(0, vR 76), (1, vI p1)]) (st1 := [vI (h1 76 2)]) (h1 := h1) (P := True ∧ kd 76 = 9 ∧ True) (by decide +kernel) rfl rfl ⟨trivial, rfl, trivial⟩ ?_
                                      cases hF
                                      exact hR.1 162 _ _ _ (by decide +kernel) rfl ⟨rfl, rfl⟩
                                    · have hF := ite_f hc46 hF
                                      rw [show swT 5 158 0 17 [87, 87, 87, 93, 98, 98, 98, 106, 111, 111, 111, 117, 122, 122, 135, 135, 148, 153] p1 = 163 from by unfold swT; rw [if_pos (by omega)]; decide]
                                      refine g_seg hK [.iconst (-1)] 163 164 (L1 := [(0, vR 76), (1, vI p1)]) (st1 := [vI (-1)]) (h1 := h1) (P := True ∧ True) (by decide +kernel) rfl rfl ⟨trivial, trivial⟩ ?_
                                      cases hF
                                      exact hR.1 164 _ _ _ (by decide +kernel) rfl ⟨rfl, rfl⟩
set_option maxHeartbeats 4000000 in
set_option maxRecDepth 100000 in
theorem T_M_alike {h : MH} {r : UInt64} {h' : MH} (hF : F_M_alike h = some (r, h')) : CON 3 yX7_alike cX7_alike 3 (Option.some Jvm.ClassFile.FieldType.double) [vR 76] h (some (vD r)) h' := by
  refine con_of (own := RX7) (fl := flX7) (by decide +kernel) rfl flok_X7 rfl (Nat.le_of_ble_eq_true rfl) ?_
  intro K hK hR
  show K 0 [(0, vR 76)] [] h
  unfold F_M_alike at hF
  refine g_seg hK [.aload_n 0] 0 1 (L1 := [(0, vR 76)]) (st1 := [vR 76]) (h1 := h) (P := True ∧ True) (by decide +kernel) rfl rfl ⟨trivial, trivial⟩ ?_
  obtain ⟨r1, h2, e3, hF⟩ := ob2_elim hF
  refine g_callV1 hK 1 65 (d1 := 2) (ci := 7) (i := 76) (vs := []) (rest := []) (h1 := h2) (r := vI r1) my_yX7_counts vw_X7_65 (by decide) (T_M_counts (h := h) (hF := e3)) rfl rfl rfl (Nat.le_of_ble_eq_true rfl) (by decide +kernel) ?_
  refine g_seg hK [.istore_n 1, .aload_n 0, .iconst 0] 4 7 (L1 := [(1, vI r1), (0, vR 76)]) (st1 := [vI 0, vR 76]) (h1 := h2) (P := True ∧ True ∧ True ∧ True) (by decide +kernel) rfl rfl ⟨trivial, trivial, trivial, trivial⟩ ?_
  obtain ⟨r4, e5, hF⟩ := ob1_elim hF
  refine g_callV1 hK 7 47 (d1 := 0) (ci := 7) (i := 76) (vs := [vI 0]) (rest := []) (h1 := h2) (r := vI r4) my_yX7_lines vw_X7_47 (by decide) (T_M_lines (p1 := 0) (h := h2) (hF := e5)) rfl rfl rfl (Nat.le_of_ble_eq_true rfl) (by decide +kernel) ?_
  refine g_seg hK [.aload_n 0, .iconst 1] 10 12 (L1 := [(1, vI r1), (0, vR 76)]) (st1 := [vI 1, vR 76, vI r4]) (h1 := h2) (P := True ∧ True ∧ True) (by decide +kernel) rfl rfl ⟨trivial, trivial, trivial⟩ ?_
  obtain ⟨r6, e7, hF⟩ := ob1_elim hF
  refine g_callV1 hK 12 47 (d1 := 0) (ci := 7) (i := 76) (vs := [vI 1]) (rest := [vI r4]) (h1 := h2) (r := vI r6) my_yX7_lines vw_X7_47 (by decide) (T_M_lines (p1 := 1) (h := h2) (hF := e7)) rfl rfl rfl (Nat.le_of_ble_eq_true rfl) (by decide +kernel) ?_
  refine g_seg hK [.iadd, .istore_n 2, .iload_n 2] 15 18 (L1 := [(2, vI (wr (r4 + r6))), (1, vI r1), (0, vR 76)]) (st1 := [vI (wr (r4 + r6))]) (h1 := h2) (P := True ∧ True ∧ True ∧ True) (by decide +kernel) rfl rfl ⟨trivial, trivial, trivial, trivial⟩ ?_
  refine g_ifz hK 18 .ne (7) 25 (t1 := 21) (t2 := 25) (by decide +kernel) (by decide) rfl rfl (fun (hc8 : wr (r4 + r6) = 0) => ?_) (fun (hc8 : ¬ (wr (r4 + r6) = 0)) => ?_)
  · have hF := ite_t hc8 hF
    refine g_seg hK [.dconst 1] 21 22 (L1 := [(2, vI (wr (r4 + r6))), (1, vI r1), (0, vR 76)]) (st1 := [vD FP.dconst1]) (h1 := h2) (P := True ∧ True) (by decide +kernel) rfl rfl ⟨trivial, trivial⟩ ?_
    refine g_goto hK 22 (17) 39 (by decide +kernel) (by decide) ?_
    cases hF
    exact hR.2.2.2.1 39 _ _ _ (by decide +kernel) rfl ⟨rfl, rfl⟩
  · have hF := ite_f hc8 hF
    refine g_seg hK [.iconst 2, .aload_n 0, .getfield 22, .iconst 0, .iaload, .imul, .i2d, .dconst 1] 25 35 (L1 := [(2, vI (wr (r4 + r6))), (1, vI r1), (0, vR 76)]) (st1 := [vD FP.dconst1, vD (FP.i2d (Int32.ofInt (wr (2 * (h2 81 0)))))]) (h1 := h2) (P := True ∧ True ∧ kd 76 = 9 ∧ True ∧ (kd 81 = 0 ∧ 0 ≤ 0 ∧ 0 < 225) ∧ True ∧ True ∧ True ∧ True) (by decide +kernel) rfl rfl ⟨trivial, trivial, rfl, trivial, ⟨rfl, (by decide)⟩, trivial, trivial, trivial, trivial⟩ ?_
    obtain ⟨hg9, hF⟩ := gd_elim hF
    refine g_seg hK [.dmul, .iload_n 2, .i2d] 35 38 (L1 := [(2, vI (wr (r4 + r6))), (1, vI r1), (0, vR 76)]) (st1 := [vD (FP.i2d (Int32.ofInt (wr (r4 + r6)))), vD (FP.dmul (FP.i2d (Int32.ofInt (wr (2 * (h2 81 0))))) FP.dconst1)]) (h1 := h2) (P := vf_n64 (FP.dmul (FP.i2d (Int32.ofInt (wr (2 * (h2 81 0))))) FP.dconst1) ∧ True ∧ True ∧ True) (by decide +kernel) rfl rfl ⟨hg9, trivial, trivial, trivial⟩ ?_
    obtain ⟨hg10, hF⟩ := gd_elim hF
    refine g_seg hK [.ddiv] 38 39 (L1 := [(2, vI (wr (r4 + r6))), (1, vI r1), (0, vR 76)]) (st1 := [vD (FP.ddiv (FP.dmul (FP.i2d (Int32.ofInt (wr (2 * (h2 81 0))))) FP.dconst1) (FP.i2d (Int32.ofInt (wr (r4 + r6)))))]) (h1 := h2) (P := vf_n64 (FP.ddiv (FP.dmul (FP.i2d (Int32.ofInt (wr (2 * (h2 81 0))))) FP.dconst1) (FP.i2d (Int32.ofInt (wr (r4 + r6))))) ∧ True) (by decide +kernel) rfl rfl ⟨hg10, trivial⟩ ?_
    cases hF
    exact hR.2.2.2.1 39 _ _ _ (by decide +kernel) rfl ⟨rfl, rfl⟩
set_option maxHeartbeats 4000000 in
set_option maxRecDepth 100000 in
theorem T_M_ifLaid {p1 : Int} {p2 : Int} {p3 : Int} {h : MH} {r : Int} {h' : MH} (hF : F_M_ifLaid p1 p2 p3 h = some (r, h')) : CON 7 yX7_ifLaid cX7_ifLaid 5 (Option.some Jvm.ClassFile.FieldType.int) [vR 76, vI p1, vI p2, vI p3] h (some (vI r)) h' := by
  refine con_of (own := RX7) (fl := flX7) (by decide +kernel) rfl flok_X7 rfl (Nat.le_of_ble_eq_true rfl) ?_
  intro K hK hR
  show K 0 [(0, vR 76), (1, vI p1), (2, vI p2), (3, vI p3)] [] h
  unfold F_M_ifLaid at hF
  refine g_seg hK [.aload_n 0] 0 1 (L1 := [(0, vR 76), (1, vI p1), (2, vI p2), (3, vI p3)]) (st1 := [vR 76]) (h1 := h) (P := True ∧ True) (by decide +kernel) rfl rfl ⟨trivial, trivial⟩ ?_
  obtain ⟨h1, e2, hF⟩ := ob1_elim hF
  refine g_callV0 hK 1 152 (d1 := 6) (ci := 7) (i := 76) (vs := []) (rest := []) (h1 := h1) my_yX7_views vw_X7_152 (by decide) (T_M_views (h := h) (hF := e2)) rfl rfl rfl (Nat.le_of_ble_eq_true rfl) (by decide +kernel) ?_
  refine g_seg hK [.iload_n 1, .iconst 0, .aload_n 0] 4 7 (L1 := [(0, vR 76), (1, vI p1), (2, vI p2), (3, vI p3)]) (st1 := [vR 76, vI 0, vI p1]) (h1 := h1) (P := True ∧ True ∧ True ∧ True) (by decide +kernel) rfl rfl ⟨trivial, trivial, trivial, trivial⟩ ?_
  obtain ⟨r3, e4, hF⟩ := ob1_elim hF
  refine g_callV1 hK 7 72 (d1 := 1) (ci := 7) (i := 76) (vs := []) (rest := [vI 0, vI p1]) (h1 := h1) (r := vI r3) my_yX7_hunks vw_X7_72 (by decide) (T_M_hunks (h := h1) (hF := e4)) rfl rfl rfl (Nat.le_of_ble_eq_true rfl) (by decide +kernel) ?_
  refine g_seg hK [.iconst 1, .isub] 10 12 (L1 := [(0, vR 76), (1, vI p1), (2, vI p2), (3, vI p3)]) (st1 := [vI (wr (r3 - 1)), vI 0, vI p1]) (h1 := h1) (P := True ∧ True ∧ True) (by decide +kernel) rfl rfl ⟨trivial, trivial, trivial⟩ ?_
  refine g_callS1 hK 12 89 (d1 := 0) (vs := [vI p1, vI 0, vI (wr (r3 - 1))]) (rest := []) (h1 := h1) (r := vI (F_M_in p1 0 (wr (r3 - 1)))) my_yX7_in sw_X7_89 (by decide) (T_M_in (p1 := p1) (p2 := 0) (p3 := (wr (r3 - 1))) (h := h1) (hF := rfl)) rfl (Nat.le_of_ble_eq_true rfl) (by decide +kernel) ?_
  refine g_ifz hK 15 .eq (12) 27 (t1 := 27) (t2 := 18) (by decide +kernel) (by decide) rfl rfl (fun (hc5 : F_M_in p1 0 (wr (r3 - 1)) = 0) => ?_) (fun (hc5 : ¬ (F_M_in p1 0 (wr (r3 - 1)) = 0)) => ?_)
  · have hF := ite_t hc5 hF
    refine g_seg hK [.iconst (-1)] 27 28 (L1 := [(0, vR 76), (1, vI p1), (2, vI p2), (3, vI p3)]) (st1 := [vI (-1)]) (h1 := h1) (P := True ∧ True) (by decide +kernel) rfl rfl ⟨trivial, trivial⟩ ?_
    cases hF
    exact hR.1 28 _ _ _ (by decide +kernel) rfl ⟨rfl, rfl⟩
  · have hF := ite_f hc5 hF
    refine g_seg hK [.iload_n 3, .iconst 0, .iconst 1] 18 21 (L1 := [(0, vR 76), (1, vI p1), (2, vI p2), (3, vI p3)]) (st1 := [vI 1, vI 0, vI p3]) (h1 := h1) (P := True ∧ True ∧ True ∧ True) (by decide +kernel) rfl rfl ⟨trivial, trivial, trivial, trivial⟩ ?_
    refine g_callS1 hK 21 89 (d1 := 0) (vs := [vI p3, vI 0, vI 1]) (rest := []) (h1 := h1) (r := vI (F_M_in p3 0 1)) my_yX7_in sw_X7_89 (by decide) (T_M_in (p1 := p3) (p2 := 0) (p3 := 1) (h := h1) (hF := rfl)) rfl (Nat.le_of_ble_eq_true rfl) (by decide +kernel) ?_
    refine g_ifz hK 24 .ne (5) 29 (t1 := 27) (t2 := 29) (by decide +kernel) (by decide) rfl rfl (fun (hc6 : F_M_in p3 0 1 = 0) => ?_) (fun (hc6 : ¬ (F_M_in p3 0 1 = 0)) => ?_)
    · have hF := ite_t hc6 hF
      refine g_seg hK [.iconst (-1)] 27 28 (L1 := [(0, vR 76), (1, vI p1), (2, vI p2), (3, vI p3)]) (st1 := [vI (-1)]) (h1 := h1) (P := True ∧ True) (by decide +kernel) rfl rfl ⟨trivial, trivial⟩ ?_
      cases hF
      exact hR.1 28 _ _ _ (by decide +kernel) rfl ⟨rfl, rfl⟩
    · have hF := ite_f hc6 hF
      refine g_seg hK [.aload_n 0, .iload_n 2, .aload_n 0, .getfield 7, .bipush 45, .iaload] 29 38 (L1 := [(0, vR 76), (1, vI p1), (2, vI p2), (3, vI p3)]) (st1 := [vI (h1 77 45), vI p2, vR 76]) (h1 := h1) (P := True ∧ True ∧ True ∧ kd 76 = 9 ∧ True ∧ (kd 77 = 0 ∧ 0 ≤ 45 ∧ 45 < 49) ∧ True) (by decide +kernel) rfl rfl ⟨trivial, trivial, trivial, rfl, trivial, ⟨rfl, (by decide)⟩, trivial⟩ ?_
      obtain ⟨r7, h8, e9, hF⟩ := ob2_elim hF
      refine g_callV1 hK 38 155 (d1 := 2) (ci := 7) (i := 76) (vs := [vI p2, vI (h1 77 45)]) (rest := []) (h1 := h8) (r := vI r7) my_yX7_lays vw_X7_155 (by decide) (T_M_lays (p1 := p2) (p2 := (h1 77 45)) (h := h1) (hF := e9)) rfl rfl rfl (Nat.le_of_ble_eq_true rfl) (by decide +kernel) ?_
      refine g_seg hK [.istore 4, .aload_n 0, .getfield 34, .iload_n 1] 41 48 (L1 := [(4, vI r7), (0, vR 76), (1, vI p1), (2, vI p2), (3, vI p3)]) (st1 := [vI p1, vR 85]) (h1 := h8) (P := True ∧ True ∧ kd 76 = 9 ∧ True ∧ True) (by decide +kernel) rfl rfl ⟨trivial, trivial, rfl, trivial, trivial⟩ ?_
      obtain ⟨hg10, hF⟩ := gd_elim hF
      refine g_seg hK [.iaload, .bipush (-4)] 48 51 (L1 := [(4, vI r7), (0, vR 76), (1, vI p1), (2, vI p2), (3, vI p3)]) (st1 := [vI (-4), vI (h8 85 p1.toNat)]) (h1 := h8) (P := (kd 85 = 0 ∧ 0 ≤ p1 ∧ p1 < 28) ∧ True ∧ True) (by decide +kernel) rfl rfl ⟨⟨rfl, hg10⟩, trivial, trivial⟩ ?_
      refine g_icmp hK 51 .ne (8) 59 (t1 := 54) (t2 := 59) (by decide +kernel) (by decide) rfl rfl (fun (hc11 : h8 85 p1.toNat = (-4)) => ?_) (fun (hc11 : ¬ (h8 85 p1.toNat = (-4))) => ?_)
      · have hF := ite_t hc11 hF
        refine g_seg hK [.bipush (-4)] 54 56 (L1 := [(4, vI r7), (0, vR 76), (1, vI p1), (2, vI p2), (3, vI p3)]) (st1 := [vI (-4)]) (h1 := h8) (P := True ∧ True) (by decide +kernel) rfl rfl ⟨trivial, trivial⟩ ?_
        refine g_goto hK 56 (25) 81 (by decide +kernel) (by decide) ?_
        cases hF
        exact hR.1 81 _ _ _ (by decide +kernel) rfl ⟨rfl, rfl⟩
      · have hF := ite_f hc11 hF
        refine g_seg hK [.iload_n 3] 59 60 (L1 := [(4, vI r7), (0, vR 76), (1, vI p1), (2, vI p2), (3, vI p3)]) (st1 := [vI p3]) (h1 := h8) (P := True ∧ True) (by decide +kernel) rfl rfl ⟨trivial, trivial⟩ ?_
        refine g_ifz hK 60 .ne (12) 72 (t1 := 63) (t2 := 72) (by decide +kernel) (by decide) rfl rfl (fun (hc12 : p3 = 0) => ?_) (fun (hc12 : ¬ (p3 = 0)) => ?_)
        · have hF := ite_t hc12 hF
          refine g_seg hK [.aload_n 0, .getfield 34, .iload_n 1] 63 68 (L1 := [(4, vI r7), (0, vR 76), (1, vI p1), (2, vI p2), (3, vI p3)]) (st1 := [vI p1, vR 85]) (h1 := h8) (P := True ∧ kd 76 = 9 ∧ True ∧ True) (by decide +kernel) rfl rfl ⟨trivial, rfl, trivial, trivial⟩ ?_
          obtain ⟨hg13, hF⟩ := gd_elim hF
          refine g_seg hK [.iaload] 68 69 (L1 := [(4, vI r7), (0, vR 76), (1, vI p1), (2, vI p2), (3, vI p3)]) (st1 := [vI (h8 85 p1.toNat)]) (h1 := h8) (P := (kd 85 = 0 ∧ 0 ≤ p1 ∧ p1 < 28) ∧ True) (by decide +kernel) rfl rfl ⟨⟨rfl, hg13⟩, trivial⟩ ?_
          refine g_goto hK 69 (12) 81 (by decide +kernel) (by decide) ?_
          cases hF
          exact hR.1 81 _ _ _ (by decide +kernel) rfl ⟨rfl, rfl⟩
        · have hF := ite_f hc12 hF
          refine g_seg hK [.aload_n 0, .getfield 37, .iload_n 1] 72 77 (L1 := [(4, vI r7), (0, vR 76), (1, vI p1), (2, vI p2), (3, vI p3)]) (st1 := [vI p1, vR 86]) (h1 := h8) (P := True ∧ kd 76 = 9 ∧ True ∧ True) (by decide +kernel) rfl rfl ⟨trivial, rfl, trivial, trivial⟩ ?_
          obtain ⟨hg14, hF⟩ := gd_elim hF
          refine g_seg hK [.iaload, .bipush 100, .iadd] 77 81 (L1 := [(4, vI r7), (0, vR 76), (1, vI p1), (2, vI p2), (3, vI p3)]) (st1 := [vI (wr ((h8 86 p1.toNat) + 100))]) (h1 := h8) (P := (kd 86 = 0 ∧ 0 ≤ p1 ∧ p1 < 28) ∧ True ∧ True ∧ True) (by decide +kernel) rfl rfl ⟨⟨rfl, hg14⟩, trivial, trivial, trivial⟩ ?_
          cases hF
          exact hR.1 81 _ _ _ (by decide +kernel) rfl ⟨rfl, rfl⟩
set_option maxHeartbeats 4000000 in
set_option maxRecDepth 100000 in
theorem T_M_ifAround {p1 : Int} {h : MH} {r : Int} {h' : MH} (hF : F_M_ifAround p1 h = some (r, h')) : CON 7 yX7_ifAround cX7_ifAround 2 (Option.some Jvm.ClassFile.FieldType.int) [vR 76, vI p1] h (some (vI r)) h' := by
  refine con_of (own := RX7) (fl := flX7) (by decide +kernel) rfl flok_X7 rfl (Nat.le_of_ble_eq_true rfl) ?_
  intro K hK hR
  show K 0 [(0, vR 76), (1, vI p1)] [] h
  unfold F_M_ifAround at hF
  refine g_seg hK [.iload_n 1, .iconst 0, .iconst 3] 0 3 (L1 := [(0, vR 76), (1, vI p1)]) (st1 := [vI 3, vI 0, vI p1]) (h1 := h) (P := True ∧ True ∧ True ∧ True) (by decide +kernel) rfl rfl ⟨trivial, trivial, trivial, trivial⟩ ?_
  refine g_callS1 hK 3 89 (d1 := 0) (vs := [vI p1, vI 0, vI 3]) (rest := []) (h1 := h) (r := vI (F_M_in p1 0 3)) my_yX7_in sw_X7_89 (by decide) (T_M_in (p1 := p1) (p2 := 0) (p3 := 3) (h := h) (hF := rfl)) rfl (Nat.le_of_ble_eq_true rfl) (by decide +kernel) ?_
  refine g_ifz hK 6 .ne (5) 11 (t1 := 9) (t2 := 11) (by decide +kernel) (by decide) rfl rfl (fun (hc1 : F_M_in p1 0 3 = 0) => ?_) (fun (hc1 : ¬ (F_M_in p1 0 3 = 0)) => ?_)
  · have hF := ite_t hc1 hF
    refine g_seg hK [.iconst (-1)] 9 10 (L1 := [(0, vR 76), (1, vI p1)]) (st1 := [vI (-1)]) (h1 := h) (P := True ∧ True) (by decide +kernel) rfl rfl ⟨trivial, trivial⟩ ?_
    cases hF
    exact hR.1 10 _ _ _ (by decide +kernel) rfl ⟨rfl, rfl⟩
  · have hF := ite_f hc1 hF
    refine g_seg hK [.aload_n 0] 11 12 (L1 := [(0, vR 76), (1, vI p1)]) (st1 := [vR 76]) (h1 := h) (P := True ∧ True) (by decide +kernel) rfl rfl ⟨trivial, trivial⟩ ?_
    obtain ⟨h2, e3, hF⟩ := ob1_elim hF
    refine g_callV0 hK 12 152 (d1 := 6) (ci := 7) (i := 76) (vs := []) (rest := []) (h1 := h2) my_yX7_views vw_X7_152 (by decide) (T_M_views (h := h) (hF := e3)) rfl rfl rfl (Nat.le_of_ble_eq_true rfl) (by decide +kernel) ?_
    refine g_seg hK [.aload_n 0, .iconst 0, .iload_n 1] 15 18 (L1 := [(0, vR 76), (1, vI p1)]) (st1 := [vI p1, vI 0, vR 76]) (h1 := h2) (P := True ∧ True ∧ True ∧ True) (by decide +kernel) rfl rfl ⟨trivial, trivial, trivial, trivial⟩ ?_
    obtain ⟨r4, h5, e6, hF⟩ := ob2_elim hF
    refine g_callV1 hK 18 155 (d1 := 2) (ci := 7) (i := 76) (vs := [vI 0, vI p1]) (rest := []) (h1 := h5) (r := vI r4) my_yX7_lays vw_X7_155 (by decide) (T_M_lays (p1 := 0) (p2 := p1) (h := h2) (hF := e6)) rfl rfl rfl (Nat.le_of_ble_eq_true rfl) (by decide +kernel) ?_
    cases hF
    exact hR.1 21 _ _ _ (by decide +kernel) rfl ⟨rfl, rfl⟩
set_option maxHeartbeats 4000000 in
set_option maxRecDepth 100000 in
theorem LT_M_least_L18 {K : KT} (hK : Rules RX7 cX7_least 6 (Option.some Jvm.ClassFile.FieldType.int) flX7 3 K) : ∀ (n : Nat) (x1 : Int) (x2 : Int) (x3 : Int) (h : MH) (x1' : Int) (x2' : Int) (x3' : Int) (h' : MH), F_M_least_L18 n x1 x2 x3 h = some (x1', x2', x3', h') → K 86 [(0, vR 76), (1, vI x1'), (2, vI x2'), (3, vI x3')] [] h' → K 18 [(0, vR 76), (1, vI x1), (2, vI x2), (3, vI x3)] [] h := by
  intro n
  induction n with
  | zero =>
    intro x1 x2 x3 h x1' x2' x3' h' hF
    cases hF
  | succ n ih =>
    intro x1 x2 x3 h x1' x2' x3' h' hF hE
    unfold F_M_least_L18 at hF
    refine g_seg hK [.iload_n 3, .aload_n 0, .iconst 0] 18 21 (L1 := [(0, vR 76), (1, vI x1), (2, vI x2), (3, vI x3)]) (st1 := [vI 0, vR 76, vI x3]) (h1 := h) (P := True ∧ True ∧ True ∧ True) (by decide +kernel) rfl rfl ⟨trivial, trivial, trivial, trivial⟩ ?_
    obtain ⟨r1, e2, hF⟩ := ob1_elim hF
    refine g_callV1 hK 21 47 (d1 := 0) (ci := 7) (i := 76) (vs := [vI 0]) (rest := [vI x3]) (h1 := h) (r := vI r1) my_yX7_lines vw_X7_47 (by decide) (T_M_lines (p1 := 0) (h := h) (hF := e2)) rfl rfl rfl (Nat.le_of_ble_eq_true rfl) (by decide +kernel) ?_
    refine g_icmp hK 24 .ge (62) 86 (t1 := 27) (t2 := 86) (by decide +kernel) (by decide) rfl rfl (fun (hc3 : x3 < r1) => ?_) (fun (hc3 : ¬ (x3 < r1)) => ?_)
    · have hF := ite_t hc3 hF
      refine g_seg hK [.aload_n 0, .iload_n 3, .putfield 40, .aload_n 0] 27 33 (L1 := [(0, vR 76), (1, vI x1), (2, vI x2), (3, vI x3)]) (st1 := [vR 76]) (h1 := (up h 76 8 x3)) (P := True ∧ True ∧ kd 76 = 9 ∧ True ∧ True) (by decide +kernel) rfl rfl ⟨trivial, trivial, rfl, trivial, trivial⟩ ?_
      obtain ⟨r4, h5, e6, hF⟩ := ob2_elim hF
      refine g_callV1 hK 33 65 (d1 := 2) (ci := 7) (i := 76) (vs := []) (rest := []) (h1 := h5) (r := vI r4) my_yX7_counts vw_X7_65 (by decide) (T_M_counts (h := (up h 76 8 x3)) (hF := e6)) rfl rfl rfl (Nat.le_of_ble_eq_true rfl) (by decide +kernel) ?_
      refine g_seg hK [.istore 4, .iload_n 1, .bipush (-4)] 36 41 (L1 := [(4, vI r4), (0, vR 76), (1, vI x1), (2, vI x2), (3, vI x3)]) (st1 := [vI (-4), vI x1]) (h1 := h5) (P := True ∧ True ∧ True ∧ True) (by decide +kernel) rfl rfl ⟨trivial, trivial, trivial, trivial⟩ ?_
      obtain ⟨kj10, e19, hF⟩ := jk1_elim hF
      have j10 : ∀ (s9 : Int), kj10 s9 = some (x1', x2', x3', h') → K 55 [(0, vR 76), (1, vI x1), (2, vI x2), (3, vI x3), (4, vI r4)] [vI s9] h5 := by
        intro s9 hF
        have hF := (e19 s9).symm.trans hF
        refine g_seg hK [.istore 5, .iload 5] 55 59 (L1 := [(5, vI s9), (0, vR 76), (1, vI x1), (2, vI x2), (3, vI x3), (4, vI r4)]) (st1 := [vI s9]) (h1 := h5) (P := True ∧ True ∧ True) (by decide +kernel) rfl rfl ⟨trivial, trivial, trivial⟩ ?_
        obtain ⟨s11, e18, hF⟩ := jn1_elim hF
        have j12 : K 67 [(0, vR 76), (2, vI x2), (3, vI x3), (4, vI r4), (5, vI s9)] [vI s11] h5 := by
          refine g_seg hK [.istore_n 1, .iload 5] 67 70 (L1 := [(1, vI s11), (0, vR 76), (2, vI x2), (3, vI x3), (4, vI r4), (5, vI s9)]) (st1 := [vI s9]) (h1 := h5) (P := True ∧ True ∧ True) (by decide +kernel) rfl rfl ⟨trivial, trivial, trivial⟩ ?_
          obtain ⟨s14, e17, hF⟩ := jn1_elim hF
          have j15 : K 79 [(0, vR 76), (1, vI s11), (3, vI x3)] [vI s14] h5 := by
            refine g_seg hK [.istore_n 2, .iinc 3 1] 79 83 (L1 := [(3, vI (wr (x3 + 1))), (2, vI s14), (0, vR 76), (1, vI s11)]) (st1 := []) (h1 := h5) (P := True ∧ True ∧ True) (by decide +kernel) rfl rfl ⟨trivial, trivial, trivial⟩ ?_
            refine g_goto hK 83 (-65) 18 (by decide +kernel) (by decide) ?_
            refine hK.2.1 _ _ ([(0, vR 76), (1, vI s11), (2, vI s14), (3, vI (wr (x3 + 1)))]) _ _ (sub_of [2, 3, 1, 0] rfl) ?_
            exact ih _ _ _ _ _ _ _ _ hF hE
          clear hF
          have hF := e17
          refine g_ifz hK 70 .eq (8) 78 (t1 := 78) (t2 := 73) (by decide +kernel) (by decide) rfl rfl (fun (hc16 : s9 = 0) => ?_) (fun (hc16 : ¬ (s9 = 0)) => ?_)
          · have hF := ite_t hc16 hF
            refine g_seg hK [.iload_n 2] 78 79 (L1 := [(1, vI s11), (0, vR 76), (2, vI x2), (3, vI x3), (4, vI r4), (5, vI s9)]) (st1 := [vI x2]) (h1 := h5) (P := True ∧ True) (by decide +kernel) rfl rfl ⟨trivial, trivial⟩ ?_
            refine hK.2.1 _ _ ([(0, vR 76), (1, vI s11), (3, vI x3)]) _ _ (sub_of [1, 0, 3] rfl) ?_
            cases hF
            exact j15
          · have hF := ite_f hc16 hF
            refine g_seg hK [.iload 4] 73 75 (L1 := [(1, vI s11), (0, vR 76), (2, vI x2), (3, vI x3), (4, vI r4), (5, vI s9)]) (st1 := [vI r4]) (h1 := h5) (P := True ∧ True) (by decide +kernel) rfl rfl ⟨trivial, trivial⟩ ?_
            refine g_goto hK 75 (4) 79 (by decide +kernel) (by decide) ?_
            refine hK.2.1 _ _ ([(0, vR 76), (1, vI s11), (3, vI x3)]) _ _ (sub_of [1, 0, 3] rfl) ?_
            cases hF
            exact j15
        clear hF
        have hF := e18
        refine g_ifz hK 59 .eq (7) 66 (t1 := 66) (t2 := 62) (by decide +kernel) (by decide) rfl rfl (fun (hc13 : s9 = 0) => ?_) (fun (hc13 : ¬ (s9 = 0)) => ?_)
        · have hF := ite_t hc13 hF
          refine g_seg hK [.iload_n 1] 66 67 (L1 := [(5, vI s9), (0, vR 76), (1, vI x1), (2, vI x2), (3, vI x3), (4, vI r4)]) (st1 := [vI x1]) (h1 := h5) (P := True ∧ True) (by decide +kernel) rfl rfl ⟨trivial, trivial⟩ ?_
          refine hK.2.1 _ _ ([(0, vR 76), (2, vI x2), (3, vI x3), (4, vI r4), (5, vI s9)]) _ _ (sub_of [1, 3, 4, 5, 0] rfl) ?_
          cases hF
          exact j12
        · have hF := ite_f hc13 hF
          refine g_seg hK [.iload_n 3] 62 63 (L1 := [(5, vI s9), (0, vR 76), (1, vI x1), (2, vI x2), (3, vI x3), (4, vI r4)]) (st1 := [vI x3]) (h1 := h5) (P := True ∧ True) (by decide +kernel) rfl rfl ⟨trivial, trivial⟩ ?_
          refine g_goto hK 63 (4) 67 (by decide +kernel) (by decide) ?_
          refine hK.2.1 _ _ ([(0, vR 76), (2, vI x2), (3, vI x3), (4, vI r4), (5, vI s9)]) _ _ (sub_of [1, 3, 4, 5, 0] rfl) ?_
          cases hF
          exact j12
      obtain ⟨kj8, e20, hF⟩ := jk1_elim hF
      have j8 : ∀ (u7 : Unit), kj8 u7 = some (x1', x2', x3', h') → K 50 [(0, vR 76), (1, vI x1), (2, vI x2), (3, vI x3), (4, vI r4)] [] h5 := by
        intro u7 hF
        have hF := (e20 u7).symm.trans hF
        refine g_seg hK [.iconst 1] 50 51 (L1 := [(0, vR 76), (1, vI x1), (2, vI x2), (3, vI x3), (4, vI r4)]) (st1 := [vI 1]) (h1 := h5) (P := True ∧ True) (by decide +kernel) rfl rfl ⟨trivial, trivial⟩ ?_
        refine g_goto hK 51 (4) 55 (by decide +kernel) (by decide) ?_
        exact j10 _ hF
      refine g_icmp hK 41 .eq (9) 50 (t1 := 50) (t2 := 44) (by decide +kernel) (by decide) rfl rfl (fun (hc21 : x1 = (-4)) => ?_) (fun (hc21 : ¬ (x1 = (-4))) => ?_)
      · have hF := ite_t hc21 hF
        refine hK.2.1 _ _ ([(0, vR 76), (1, vI x1), (2, vI x2), (3, vI x3), (4, vI r4)]) _ _ (sub_of [1, 2, 3, 4, 0] rfl) ?_
        exact j8 _ hF
      · have hF := ite_f hc21 hF
        refine g_seg hK [.iload 4, .iload_n 2] 44 47 (L1 := [(4, vI r4), (0, vR 76), (1, vI x1), (2, vI x2), (3, vI x3)]) (st1 := [vI x2, vI r4]) (h1 := h5) (P := True ∧ True ∧ True) (by decide +kernel) rfl rfl ⟨trivial, trivial, trivial⟩ ?_
        refine g_icmp hK 47 .ge (7) 54 (t1 := 50) (t2 := 54) (by decide +kernel) (by decide) rfl rfl (fun (hc22 : r4 < x2) => ?_) (fun (hc22 : ¬ (r4 < x2)) => ?_)
        · have hF := ite_t hc22 hF
          refine hK.2.1 _ _ ([(0, vR 76), (1, vI x1), (2, vI x2), (3, vI x3), (4, vI r4)]) _ _ (sub_of [1, 2, 3, 4, 0] rfl) ?_
          exact j8 _ hF
        · have hF := ite_f hc22 hF
          refine g_seg hK [.iconst 0] 54 55 (L1 := [(4, vI r4), (0, vR 76), (1, vI x1), (2, vI x2), (3, vI x3)]) (st1 := [vI 0]) (h1 := h5) (P := True ∧ True) (by decide +kernel) rfl rfl ⟨trivial, trivial⟩ ?_
          refine hK.2.1 _ _ ([(0, vR 76), (1, vI x1), (2, vI x2), (3, vI x3), (4, vI r4)]) _ _ (sub_of [1, 2, 3, 4, 0] rfl) ?_
          exact j10 _ hF
    · have hF := ite_f hc3 hF
      cases hF
      exact hE
set_option maxHeartbeats 4000000 in
set_option maxRecDepth 100000 in
theorem T_M_least {h : MH} {r : Int} {h' : MH} (hF : F_M_least h = some (r, h')) : CON 3 yX7_least cX7_least 6 (Option.some Jvm.ClassFile.FieldType.int) [vR 76] h (some (vI r)) h' := by
  refine con_of (own := RX7) (fl := flX7) (by decide +kernel) rfl flok_X7 rfl (Nat.le_of_ble_eq_true rfl) ?_
  intro K hK hR
  show K 0 [(0, vR 76)] [] h
  unfold F_M_least at hF
  refine g_seg hK [.aload_n 0, .iconst 0] 0 2 (L1 := [(0, vR 76)]) (st1 := [vI 0, vR 76]) (h1 := h) (P := True ∧ True ∧ True) (by decide +kernel) rfl rfl ⟨trivial, trivial, trivial⟩ ?_
  obtain ⟨r1, e2, hF⟩ := ob1_elim hF
  refine g_callV1 hK 2 47 (d1 := 0) (ci := 7) (i := 76) (vs := [vI 0]) (rest := []) (h1 := h) (r := vI r1) my_yX7_lines vw_X7_47 (by decide) (T_M_lines (p1 := 0) (h := h) (hF := e2)) rfl rfl rfl (Nat.le_of_ble_eq_true rfl) (by decide +kernel) ?_
  refine g_ifz hK 5 .ne (6) 11 (t1 := 8) (t2 := 11) (by decide +kernel) (by decide) rfl rfl (fun (hc3 : r1 = 0) => ?_) (fun (hc3 : ¬ (r1 = 0)) => ?_)
  · have hF := ite_t hc3 hF
    refine g_seg hK [.bipush (-2)] 8 10 (L1 := [(0, vR 76)]) (st1 := [vI (-2)]) (h1 := h) (P := True ∧ True) (by decide +kernel) rfl rfl ⟨trivial, trivial⟩ ?_
    cases hF
    exact hR.1 10 _ _ _ (by decide +kernel) rfl ⟨rfl, rfl⟩
  · have hF := ite_f hc3 hF
    refine g_seg hK [.bipush (-4), .istore_n 1, .iconst 0, .istore_n 2, .iconst 0, .istore_n 3] 11 18 (L1 := [(3, vI 0), (2, vI 0), (1, vI (-4)), (0, vR 76)]) (st1 := []) (h1 := h) (P := True ∧ True ∧ True ∧ True ∧ True ∧ True ∧ True) (by decide +kernel) rfl rfl ⟨trivial, trivial, trivial, trivial, trivial, trivial, trivial⟩ ?_
    refine hK.2.1 _ _ ([(0, vR 76), (1, vI (-4)), (2, vI 0), (3, vI 0)]) _ _ (sub_of [3, 2, 1, 0] rfl) ?_
    obtain ⟨x1_4, x2_5, x3_6, h7, e8, hF⟩ := ob4_elim hF
    refine LT_M_least_L18 hK _ _ _ _ _ _ _ _ _ e8 ?_
    refine g_seg hK [.aload_n 0, .bipush (-4), .putfield 40, .iload_n 1] 86 93 (L1 := [(0, vR 76), (1, vI x1_4), (2, vI x2_5), (3, vI x3_6)]) (st1 := [vI x1_4]) (h1 := (up h7 76 8 (-4))) (P := True ∧ True ∧ kd 76 = 9 ∧ True ∧ True) (by decide +kernel) rfl rfl ⟨trivial, trivial, rfl, trivial, trivial⟩ ?_
    cases hF
    exact hR.1 93 _ _ _ (by decide +kernel) rfl ⟨rfl, rfl⟩
set_option maxHeartbeats 4000000 in
set_option maxRecDepth 100000 in
theorem LT_M_undo_L22 {K : KT} (hK : Rules RX7 cX7_undo 2 (Option.some Jvm.ClassFile.FieldType.int) flX7 0 K) : ∀ (n : Nat) (x1 : Int) (h : MH) (x1' : Int) (h' : MH), F_M_undo_L22 n x1 h = some (x1', h') → K 54 [(0, vR 76), (1, vI x1')] [] h' → K 22 [(0, vR 76), (1, vI x1)] [] h := by
  intro n
  induction n with
  | zero =>
    intro x1 h x1' h' hF
    cases hF
  | succ n ih =>
    intro x1 h x1' h' hF hE
    unfold F_M_undo_L22 at hF
    refine g_seg hK [.iload_n 1, .bipush 49] 22 25 (L1 := [(0, vR 76), (1, vI x1)]) (st1 := [vI 49, vI x1]) (h1 := h) (P := True ∧ True ∧ True) (by decide +kernel) rfl rfl ⟨trivial, trivial, trivial⟩ ?_
    refine g_icmp hK 25 .ge (29) 54 (t1 := 28) (t2 := 54) (by decide +kernel) (by decide) rfl rfl (fun (hc1 : x1 < 49) => ?_) (fun (hc1 : ¬ (x1 < 49)) => ?_)
    · have hF := ite_t hc1 hF
      refine g_seg hK [.aload_n 0, .getfield 7, .iload_n 1, .aload_n 0, .getfield 13, .bipush 49, .aload_n 0, .getfield 44, .imul, .iload_n 1, .iadd] 28 46 (L1 := [(0, vR 76), (1, vI x1)]) (st1 := [vI (wr ((wr (49 * (h 76 2))) + x1)), vR 78, vI x1, vR 77]) (h1 := h) (P := True ∧ kd 76 = 9 ∧ True ∧ True ∧ kd 76 = 9 ∧ True ∧ True ∧ kd 76 = 9 ∧ True ∧ True ∧ True ∧ True) (by decide +kernel) rfl rfl ⟨trivial, rfl, trivial, trivial, rfl, trivial, trivial, rfl, trivial, trivial, trivial, trivial⟩ ?_
      obtain ⟨hg2, hF⟩ := gd_elim hF
      refine g_seg hK [.iaload] 46 47 (L1 := [(0, vR 76), (1, vI x1)]) (st1 := [vI (h 78 (wr ((wr (49 * (h 76 2))) + x1)).toNat), vI x1, vR 77]) (h1 := h) (P := (kd 78 = 0 ∧ 0 ≤ wr ((wr (49 * (h 76 2))) + x1) ∧ wr ((wr (49 * (h 76 2))) + x1) < 196) ∧ True) (by decide +kernel) rfl rfl ⟨⟨rfl, hg2⟩, trivial⟩ ?_
      obtain ⟨hg3, hF⟩ := gd_elim hF
      refine g_seg hK [.iastore, .iinc 1 1] 47 51 (L1 := [(1, vI (wr (x1 + 1))), (0, vR 76)]) (st1 := []) (h1 := (up h 77 x1.toNat (h 78 (wr ((wr (49 * (h 76 2))) + x1)).toNat))) (P := (kd 77 = 0 ∧ 0 ≤ x1 ∧ x1 < 49) ∧ True ∧ True) (by decide +kernel) rfl rfl ⟨⟨rfl, hg3⟩, trivial, trivial⟩ ?_
      refine g_goto hK 51 (-29) 22 (by decide +kernel) (by decide) ?_
      refine hK.2.1 _ _ ([(0, vR 76), (1, vI (wr (x1 + 1)))]) _ _ (sub_of [1, 0] rfl) ?_
      exact ih _ _ _ _ hF hE
    · have hF := ite_f hc1 hF
      cases hF
      exact hE
set_option maxHeartbeats 4000000 in
set_option maxRecDepth 100000 in
theorem T_M_undo {h : MH} {r : Int} {h' : MH} (hF : F_M_undo h = some (r, h')) : CON 0 yX7_undo cX7_undo 2 (Option.some Jvm.ClassFile.FieldType.int) [vR 76] h (some (vI r)) h' := by
  refine con_of (own := RX7) (fl := flX7) (by decide +kernel) rfl flok_X7 rfl (Nat.le_of_ble_eq_true rfl) ?_
  intro K hK hR
  show K 0 [(0, vR 76)] [] h
  unfold F_M_undo at hF
  refine g_seg hK [.aload_n 0, .getfield 44] 0 4 (L1 := [(0, vR 76)]) (st1 := [vI (h 76 2)]) (h1 := h) (P := True ∧ kd 76 = 9 ∧ True) (by decide +kernel) rfl rfl ⟨trivial, rfl, trivial⟩ ?_
  refine g_ifz hK 4 .ne (6) 10 (t1 := 7) (t2 := 10) (by decide +kernel) (by decide) rfl rfl (fun (hc1 : h 76 2 = 0) => ?_) (fun (hc1 : ¬ (h 76 2 = 0)) => ?_)
  · have hF := ite_t hc1 hF
    refine g_seg hK [.bipush (-2)] 7 9 (L1 := [(0, vR 76)]) (st1 := [vI (-2)]) (h1 := h) (P := True ∧ True) (by decide +kernel) rfl rfl ⟨trivial, trivial⟩ ?_
    cases hF
    exact hR.1 9 _ _ _ (by decide +kernel) rfl ⟨rfl, rfl⟩
  · have hF := ite_f hc1 hF
    refine g_seg hK [.aload_n 0, .dup, .getfield 44, .iconst 1, .isub, .putfield 44, .iconst 0, .istore_n 1] 10 22 (L1 := [(1, vI 0), (0, vR 76)]) (st1 := []) (h1 := (up h 76 2 (wr ((h 76 2) - 1)))) (P := True ∧ True ∧ kd 76 = 9 ∧ True ∧ True ∧ kd 76 = 9 ∧ True ∧ True ∧ True) (by decide +kernel) rfl rfl ⟨trivial, trivial, rfl, trivial, trivial, rfl, trivial, trivial, trivial⟩ ?_
    refine hK.2.1 _ _ ([(0, vR 76), (1, vI 0)]) _ _ (sub_of [1, 0] rfl) ?_
    obtain ⟨x1_2, h3, e4, hF⟩ := ob2_elim hF
    refine LT_M_undo_L22 hK _ _ _ _ _ e4 ?_
    refine g_seg hK [.aload_n 0, .getfield 44] 54 58 (L1 := [(0, vR 76), (1, vI x1_2)]) (st1 := [vI (h3 76 2)]) (h1 := h3) (P := True ∧ kd 76 = 9 ∧ True) (by decide +kernel) rfl rfl ⟨trivial, rfl, trivial⟩ ?_
    cases hF
    exact hR.1 58 _ _ _ (by decide +kernel) rfl ⟨rfl, rfl⟩
set_option maxHeartbeats 4000000 in
set_option maxRecDepth 100000 in
theorem LT_M_save_L2 {K : KT} (hK : Rules RX7 cX7_save 2 (Option.some Jvm.ClassFile.FieldType.int) flX7 3 K) : ∀ (n : Nat) (x1 : Int) (h : MH) (x1' : Int) (h' : MH), F_M_save_L2 n x1 h = some (x1', h') → K 26 [(0, vR 76), (1, vI x1')] [] h' → K 2 [(0, vR 76), (1, vI x1)] [] h := by
  intro n
  induction n with
  | zero =>
    intro x1 h x1' h' hF
    cases hF
  | succ n ih =>
    intro x1 h x1' h' hF hE
    unfold F_M_save_L2 at hF
    refine g_seg hK [.iload_n 1, .bipush 49] 2 5 (L1 := [(0, vR 76), (1, vI x1)]) (st1 := [vI 49, vI x1]) (h1 := h) (P := True ∧ True ∧ True) (by decide +kernel) rfl rfl ⟨trivial, trivial, trivial⟩ ?_
    refine g_icmp hK 5 .ge (21) 26 (t1 := 8) (t2 := 26) (by decide +kernel) (by decide) rfl rfl (fun (hc1 : x1 < 49) => ?_) (fun (hc1 : ¬ (x1 < 49)) => ?_)
    · have hF := ite_t hc1 hF
      refine g_seg hK [.aload_n 0, .getfield 16, .iload_n 1, .aload_n 0, .getfield 7, .iload_n 1] 8 18 (L1 := [(0, vR 76), (1, vI x1)]) (st1 := [vI x1, vR 77, vI x1, vR 79]) (h1 := h) (P := True ∧ kd 76 = 9 ∧ True ∧ True ∧ kd 76 = 9 ∧ True ∧ True) (by decide +kernel) rfl rfl ⟨trivial, rfl, trivial, trivial, rfl, trivial, trivial⟩ ?_
      obtain ⟨hg2, hF⟩ := gd_elim hF
      refine g_seg hK [.iaload] 18 19 (L1 := [(0, vR 76), (1, vI x1)]) (st1 := [vI (h 77 x1.toNat), vI x1, vR 79]) (h1 := h) (P := (kd 77 = 0 ∧ 0 ≤ x1 ∧ x1 < 49) ∧ True) (by decide +kernel) rfl rfl ⟨⟨rfl, hg2⟩, trivial⟩ ?_
      obtain ⟨hg3, hF⟩ := gd_elim hF
      refine g_seg hK [.iastore, .iinc 1 1] 19 23 (L1 := [(1, vI (wr (x1 + 1))), (0, vR 76)]) (st1 := []) (h1 := (up h 79 x1.toNat (h 77 x1.toNat))) (P := (kd 79 = 0 ∧ 0 ≤ x1 ∧ x1 < 49) ∧ True ∧ True) (by decide +kernel) rfl rfl ⟨⟨rfl, hg3⟩, trivial, trivial⟩ ?_
      refine g_goto hK 23 (-21) 2 (by decide +kernel) (by decide) ?_
      refine hK.2.1 _ _ ([(0, vR 76), (1, vI (wr (x1 + 1)))]) _ _ (sub_of [1, 0] rfl) ?_
      exact ih _ _ _ _ hF hE
    · have hF := ite_f hc1 hF
      cases hF
      exact hE
set_option maxHeartbeats 4000000 in
set_option maxRecDepth 100000 in
theorem T_M_save {h : MH} {r : Int} {h' : MH} (hF : F_M_save h = some (r, h')) : CON 3 yX7_save cX7_save 2 (Option.some Jvm.ClassFile.FieldType.int) [vR 76] h (some (vI r)) h' := by
  refine con_of (own := RX7) (fl := flX7) (by decide +kernel) rfl flok_X7 rfl (Nat.le_of_ble_eq_true rfl) ?_
  intro K hK hR
  show K 0 [(0, vR 76)] [] h
  unfold F_M_save at hF
  refine g_seg hK [.iconst 0, .istore_n 1] 0 2 (L1 := [(1, vI 0), (0, vR 76)]) (st1 := []) (h1 := h) (P := True ∧ True ∧ True) (by decide +kernel) rfl rfl ⟨trivial, trivial, trivial⟩ ?_
  refine hK.2.1 _ _ ([(0, vR 76), (1, vI 0)]) _ _ (sub_of [1, 0] rfl) ?_
  obtain ⟨x1_1, h2, e3, hF⟩ := ob2_elim hF
  refine LT_M_save_L2 hK _ _ _ _ _ e3 ?_
  refine g_seg hK [.aload_n 0, .iconst 1, .putfield 174, .aload_n 0] 26 32 (L1 := [(0, vR 76), (1, vI x1_1)]) (st1 := [vR 76]) (h1 := (up h2 76 4 1)) (P := True ∧ True ∧ (kd 76 = 9 ∧ (1 = 0 ∨ 1 = 1)) ∧ True ∧ True) (by decide +kernel) rfl rfl ⟨trivial, trivial, ⟨rfl, by decide⟩, trivial, trivial⟩ ?_
  obtain ⟨r4, h5, e6, hF⟩ := ob2_elim hF
  refine g_callV1 hK 32 65 (d1 := 2) (ci := 7) (i := 76) (vs := []) (rest := []) (h1 := h5) (r := vI r4) my_yX7_counts vw_X7_65 (by decide) (T_M_counts (h := (up h2 76 4 1)) (hF := e6)) rfl rfl rfl (Nat.le_of_ble_eq_true rfl) (by decide +kernel) ?_
  cases hF
  exact hR.1 35 _ _ _ (by decide +kernel) rfl ⟨rfl, rfl⟩
set_option maxHeartbeats 4000000 in
set_option maxRecDepth 100000 in
theorem LT_M_restore_L16 {K : KT} (hK : Rules RX7 cX7_restore 2 (Option.some Jvm.ClassFile.FieldType.int) flX7 3 K) : ∀ (n : Nat) (x1 : Int) (h : MH) (x1' : Int) (h' : MH), F_M_restore_L16 n x1 h = some (x1', h') → K 40 [(0, vR 76), (1, vI x1')] [] h' → K 16 [(0, vR 76), (1, vI x1)] [] h := by
  intro n
  induction n with
  | zero =>
    intro x1 h x1' h' hF
    cases hF
  | succ n ih =>
    intro x1 h x1' h' hF hE
    unfold F_M_restore_L16 at hF
    refine g_seg hK [.iload_n 1, .bipush 49] 16 19 (L1 := [(0, vR 76), (1, vI x1)]) (st1 := [vI 49, vI x1]) (h1 := h) (P := True ∧ True ∧ True) (by decide +kernel) rfl rfl ⟨trivial, trivial, trivial⟩ ?_
    refine g_icmp hK 19 .ge (21) 40 (t1 := 22) (t2 := 40) (by decide +kernel) (by decide) rfl rfl (fun (hc1 : x1 < 49) => ?_) (fun (hc1 : ¬ (x1 < 49)) => ?_)
    · have hF := ite_t hc1 hF
      refine g_seg hK [.aload_n 0, .getfield 7, .iload_n 1, .aload_n 0, .getfield 16, .iload_n 1] 22 32 (L1 := [(0, vR 76), (1, vI x1)]) (st1 := [vI x1, vR 79, vI x1, vR 77]) (h1 := h) (P := True ∧ kd 76 = 9 ∧ True ∧ True ∧ kd 76 = 9 ∧ True ∧ True) (by decide +kernel) rfl rfl ⟨trivial, rfl, trivial, trivial, rfl, trivial, trivial⟩ ?_
      obtain ⟨hg2, hF⟩ := gd_elim hF
      refine g_seg hK [.iaload] 32 33 (L1 := [(0, vR 76), (1, vI x1)]) (st1 := [vI (h 79 x1.toNat), vI x1, vR 77]) (h1 := h) (P := (kd 79 = 0 ∧ 0 ≤ x1 ∧ x1 < 49) ∧ True) (by decide +kernel) rfl rfl ⟨⟨rfl, hg2⟩, trivial⟩ ?_
      obtain ⟨hg3, hF⟩ := gd_elim hF
      refine g_seg hK [.iastore, .iinc 1 1] 33 37 (L1 := [(1, vI (wr (x1 + 1))), (0, vR 76)]) (st1 := []) (h1 := (up h 77 x1.toNat (h 79 x1.toNat))) (P := (kd 77 = 0 ∧ 0 ≤ x1 ∧ x1 < 49) ∧ True ∧ True) (by decide +kernel) rfl rfl ⟨⟨rfl, hg3⟩, trivial, trivial⟩ ?_
      refine g_goto hK 37 (-21) 16 (by decide +kernel) (by decide) ?_
      refine hK.2.1 _ _ ([(0, vR 76), (1, vI (wr (x1 + 1)))]) _ _ (sub_of [1, 0] rfl) ?_
      exact ih _ _ _ _ hF hE
    · have hF := ite_f hc1 hF
      cases hF
      exact hE
set_option maxHeartbeats 4000000 in
set_option maxRecDepth 100000 in
theorem T_M_restore {h : MH} {r : Int} {h' : MH} (hF : F_M_restore h = some (r, h')) : CON 3 yX7_restore cX7_restore 2 (Option.some Jvm.ClassFile.FieldType.int) [vR 76] h (some (vI r)) h' := by
  refine con_of (own := RX7) (fl := flX7) (by decide +kernel) rfl flok_X7 rfl (Nat.le_of_ble_eq_true rfl) ?_
  intro K hK hR
  show K 0 [(0, vR 76)] [] h
  unfold F_M_restore at hF
  refine g_seg hK [.aload_n 0, .getfield 174] 0 4 (L1 := [(0, vR 76)]) (st1 := [vI (h 76 4)]) (h1 := h) (P := True ∧ kd 76 = 9 ∧ True) (by decide +kernel) rfl rfl ⟨trivial, rfl, trivial⟩ ?_
  refine g_ifz hK 4 .ne (6) 10 (t1 := 7) (t2 := 10) (by decide +kernel) (by decide) rfl rfl (fun (hc1 : h 76 4 = 0) => ?_) (fun (hc1 : ¬ (h 76 4 = 0)) => ?_)
  · have hF := ite_t hc1 hF
    refine g_seg hK [.bipush (-2)] 7 9 (L1 := [(0, vR 76)]) (st1 := [vI (-2)]) (h1 := h) (P := True ∧ True) (by decide +kernel) rfl rfl ⟨trivial, trivial⟩ ?_
    cases hF
    exact hR.1 9 _ _ _ (by decide +kernel) rfl ⟨rfl, rfl⟩
  · have hF := ite_f hc1 hF
    refine g_seg hK [.aload_n 0] 10 11 (L1 := [(0, vR 76)]) (st1 := [vR 76]) (h1 := h) (P := True ∧ True) (by decide +kernel) rfl rfl ⟨trivial, trivial⟩ ?_
    obtain ⟨h2, e3, hF⟩ := ob1_elim hF
    refine g_callV0 hK 11 149 (d1 := 0) (ci := 7) (i := 76) (vs := []) (rest := []) (h1 := h2) my_yX7_remembers vw_X7_149 (by decide) (T_M_remembers (h := h) (hF := e3)) rfl rfl rfl (Nat.le_of_ble_eq_true rfl) (by decide +kernel) ?_
    refine g_seg hK [.iconst 0, .istore_n 1] 14 16 (L1 := [(1, vI 0), (0, vR 76)]) (st1 := []) (h1 := h2) (P := True ∧ True ∧ True) (by decide +kernel) rfl rfl ⟨trivial, trivial, trivial⟩ ?_
    refine hK.2.1 _ _ ([(0, vR 76), (1, vI 0)]) _ _ (sub_of [1, 0] rfl) ?_
    obtain ⟨x1_4, h5, e6, hF⟩ := ob2_elim hF
    refine LT_M_restore_L16 hK _ _ _ _ _ e6 ?_
    refine g_seg hK [.aload_n 0] 40 41 (L1 := [(0, vR 76), (1, vI x1_4)]) (st1 := [vR 76]) (h1 := h5) (P := True ∧ True) (by decide +kernel) rfl rfl ⟨trivial, trivial⟩ ?_
    obtain ⟨r7, h8, e9, hF⟩ := ob2_elim hF
    refine g_callV1 hK 41 65 (d1 := 2) (ci := 7) (i := 76) (vs := []) (rest := []) (h1 := h8) (r := vI r7) my_yX7_counts vw_X7_65 (by decide) (T_M_counts (h := h5) (hF := e9)) rfl rfl rfl (Nat.le_of_ble_eq_true rfl) (by decide +kernel) ?_
    cases hF
    exact hR.1 44 _ _ _ (by decide +kernel) rfl ⟨rfl, rfl⟩

set_option maxHeartbeats 4000000 in
set_option maxRecDepth 100000 in
theorem T_V_size {h : MH} {r : Int} (hF : F_V_size h = r) : CON 1 yX5_size cX5_size 1 (Option.some Jvm.ClassFile.FieldType.int) [vR 54] h (some (vI r)) h := by
  refine con_of (own := RX5) (fl := flX5) (by decide +kernel) rfl flok_X5 rfl (Nat.le_of_ble_eq_true rfl) ?_
  intro K hK hR
  show K 0 [(0, vR 54)] [] h
  unfold F_V_size at hF
  refine g_seg hK [.aload_n 0, .getfield 14] 0 4 (L1 := [(0, vR 54)]) (st1 := [vR 55]) (h1 := h) (P := True ∧ kd 54 = 7 ∧ True) (by decide +kernel) rfl rfl ⟨trivial, rfl, trivial⟩ ?_
  refine g_callV1 hK 4 41 (d1 := 0) (ci := 3) (i := 55) (vs := []) (rest := []) (h1 := h) (r := vI (F_Ro_size 55 h)) my_yX3_size vw_X5_41 (by decide) (T_Ro_size (o := 55) (h := h) (ko := rfl) (hF := rfl)) rfl rfl rfl (Nat.le_of_ble_eq_true rfl) (by decide +kernel) ?_
  cases hF
  exact hR.1 7 _ _ _ (by decide +kernel) rfl ⟨rfl, rfl⟩
set_option maxHeartbeats 4000000 in
set_option maxRecDepth 100000 in
theorem T_V_inHunk {p1 : Int} {h : MH} {r : Int} (hF : F_V_inHunk p1 h = r) : CON 1 yX5_inHunk cX5_inHunk 2 (Option.some Jvm.ClassFile.FieldType.boolean) [vR 54, vI p1] h (some (vI r)) h := by
  refine con_of (own := RX5) (fl := flX5) (by decide +kernel) rfl flok_X5 rfl (Nat.le_of_ble_eq_true rfl) ?_
  intro K hK hR
  show K 0 [(0, vR 54), (1, vI p1)] [] h
  unfold F_V_inHunk at hF
  refine g_seg hK [.aload_n 0, .getfield 14, .iload_n 1] 0 5 (L1 := [(0, vR 54), (1, vI p1)]) (st1 := [vI p1, vR 55]) (h1 := h) (P := True ∧ kd 54 = 7 ∧ True ∧ True) (by decide +kernel) rfl rfl ⟨trivial, rfl, trivial, trivial⟩ ?_
  refine g_callV1 hK 5 52 (d1 := 0) (ci := 3) (i := 55) (vs := [vI p1]) (rest := []) (h1 := h) (r := vI (F_Ro_at 55 p1 h)) my_yX3_at vw_X5_52 (by decide) (T_Ro_at (o := 55) (p1 := p1) (h := h) (ko := rfl) (hF := rfl)) rfl rfl rfl (Nat.le_of_ble_eq_true rfl) (by decide +kernel) ?_
  refine g_ifz hK 8 .le (7) 15 (t1 := 15) (t2 := 11) (by decide +kernel) (by decide) rfl rfl (fun (hc1 : F_Ro_at 55 p1 h ≤ 0) => ?_) (fun (hc1 : ¬ (F_Ro_at 55 p1 h ≤ 0)) => ?_)
  · have hF := ite_t hc1 hF
    refine g_seg hK [.iconst 0] 15 16 (L1 := [(0, vR 54), (1, vI p1)]) (st1 := [vI 0]) (h1 := h) (P := True ∧ True) (by decide +kernel) rfl rfl ⟨trivial, trivial⟩ ?_
    cases hF
    exact hR.2.1 16 _ _ _ (by decide +kernel) rfl (by decide) ⟨rfl, rfl⟩
  · have hF := ite_f hc1 hF
    refine g_seg hK [.iconst 1] 11 12 (L1 := [(0, vR 54), (1, vI p1)]) (st1 := [vI 1]) (h1 := h) (P := True ∧ True) (by decide +kernel) rfl rfl ⟨trivial, trivial⟩ ?_
    refine g_goto hK 12 (4) 16 (by decide +kernel) (by decide) ?_
    cases hF
    exact hR.2.1 16 _ _ _ (by decide +kernel) rfl (by decide) ⟨rfl, rfl⟩
set_option maxHeartbeats 4000000 in
set_option maxRecDepth 100000 in
theorem T_V_hunks {h : MH} {r : Int} (hF : F_V_hunks h = r) : CON 1 yX5_hunks cX5_hunks 1 (Option.some Jvm.ClassFile.FieldType.int) [vR 54] h (some (vI r)) h := by
  refine con_of (own := RX5) (fl := flX5) (by decide +kernel) rfl flok_X5 rfl (Nat.le_of_ble_eq_true rfl) ?_
  intro K hK hR
  show K 0 [(0, vR 54)] [] h
  unfold F_V_hunks at hF
  refine g_seg hK [.aload_n 0, .getfield 23] 0 4 (L1 := [(0, vR 54)]) (st1 := [vR 59]) (h1 := h) (P := True ∧ kd 54 = 7 ∧ True) (by decide +kernel) rfl rfl ⟨trivial, rfl, trivial⟩ ?_
  refine g_callV1 hK 4 41 (d1 := 0) (ci := 3) (i := 59) (vs := []) (rest := []) (h1 := h) (r := vI (F_Ro_size 59 h)) my_yX3_size vw_X5_41 (by decide) (T_Ro_size (o := 59) (h := h) (ko := rfl) (hF := rfl)) rfl rfl rfl (Nat.le_of_ble_eq_true rfl) (by decide +kernel) ?_
  cases hF
  exact hR.1 7 _ _ _ (by decide +kernel) rfl ⟨rfl, rfl⟩
set_option maxHeartbeats 4000000 in
set_option maxRecDepth 100000 in
theorem T_V_top {p1 : Int} {h : MH} {r : Int} (hF : F_V_top p1 h = r) : CON 1 yX5_top cX5_top 2 (Option.some Jvm.ClassFile.FieldType.int) [vR 54, vI p1] h (some (vI r)) h := by
  refine con_of (own := RX5) (fl := flX5) (by decide +kernel) rfl flok_X5 rfl (Nat.le_of_ble_eq_true rfl) ?_
  intro K hK hR
  show K 0 [(0, vR 54), (1, vI p1)] [] h
  unfold F_V_top at hF
  refine g_seg hK [.aload_n 0, .getfield 23, .iload_n 1] 0 5 (L1 := [(0, vR 54), (1, vI p1)]) (st1 := [vI p1, vR 59]) (h1 := h) (P := True ∧ kd 54 = 7 ∧ True ∧ True) (by decide +kernel) rfl rfl ⟨trivial, rfl, trivial, trivial⟩ ?_
  refine g_callV1 hK 5 52 (d1 := 0) (ci := 3) (i := 59) (vs := [vI p1]) (rest := []) (h1 := h) (r := vI (F_Ro_at 59 p1 h)) my_yX3_at vw_X5_52 (by decide) (T_Ro_at (o := 59) (p1 := p1) (h := h) (ko := rfl) (hF := rfl)) rfl rfl rfl (Nat.le_of_ble_eq_true rfl) (by decide +kernel) ?_
  cases hF
  exact hR.1 8 _ _ _ (by decide +kernel) rfl ⟨rfl, rfl⟩
set_option maxHeartbeats 4000000 in
set_option maxRecDepth 100000 in
theorem T_V_end {p1 : Int} {h : MH} {r : Int} (hF : F_V_end p1 h = r) : CON 1 yX5_end cX5_end 2 (Option.some Jvm.ClassFile.FieldType.int) [vR 54, vI p1] h (some (vI r)) h := by
  refine con_of (own := RX5) (fl := flX5) (by decide +kernel) rfl flok_X5 rfl (Nat.le_of_ble_eq_true rfl) ?_
  intro K hK hR
  show K 0 [(0, vR 54), (1, vI p1)] [] h
  unfold F_V_end at hF
  refine g_seg hK [.aload_n 0, .getfield 26, .iload_n 1] 0 5 (L1 := [(0, vR 54), (1, vI p1)]) (st1 := [vI p1, vR 61]) (h1 := h) (P := True ∧ kd 54 = 7 ∧ True ∧ True) (by decide +kernel) rfl rfl ⟨trivial, rfl, trivial, trivial⟩ ?_
  refine g_callV1 hK 5 52 (d1 := 0) (ci := 3) (i := 61) (vs := [vI p1]) (rest := []) (h1 := h) (r := vI (F_Ro_at 61 p1 h)) my_yX3_at vw_X5_52 (by decide) (T_Ro_at (o := 61) (p1 := p1) (h := h) (ko := rfl) (hF := rfl)) rfl rfl rfl (Nat.le_of_ble_eq_true rfl) (by decide +kernel) ?_
  cases hF
  exact hR.1 8 _ _ _ (by decide +kernel) rfl ⟨rfl, rfl⟩
set_option maxHeartbeats 4000000 in
set_option maxRecDepth 100000 in
theorem LT_V_linesWithin_L6 {K : KT} (hK : Rules RX5 cX5_linesWithin 6 (Option.some Jvm.ClassFile.FieldType.int) flX5 1 K) {x2 : Int} {x3 : Int} {h : MH} : ∀ (n : Nat) (x4 : Int) (x5 : Int) (x4' : Int) (x5' : Int), F_V_linesWithin_L6 x2 x3 h n x4 x5 = some (x4', x5') → K 41 [(0, vR 54), (2, vI x2), (3, vI x3), (4, vI x4'), (5, vI x5')] [] h → K 6 [(0, vR 54), (2, vI x2), (3, vI x3), (4, vI x4), (5, vI x5)] [] h := by
  intro n
  induction n with
  | zero =>
    intro x4 x5 x4' x5' hF
    cases hF
  | succ n ih =>
    intro x4 x5 x4' x5' hF hE
    unfold F_V_linesWithin_L6 at hF
    refine g_seg hK [.iload 5, .iload_n 2] 6 9 (L1 := [(0, vR 54), (2, vI x2), (3, vI x3), (4, vI x4), (5, vI x5)]) (st1 := [vI x2, vI x5]) (h1 := h) (P := True ∧ True ∧ True) (by decide +kernel) rfl rfl ⟨trivial, trivial, trivial⟩ ?_
    refine g_icmp hK 9 .ge (32) 41 (t1 := 12) (t2 := 41) (by decide +kernel) (by decide) rfl rfl (fun (hc1 : x5 < x2) => ?_) (fun (hc1 : ¬ (x5 < x2)) => ?_)
    · have hF := ite_t hc1 hF
      refine g_seg hK [.iload 4, .aload_n 0, .getfield 14, .iload 5] 12 20 (L1 := [(0, vR 54), (2, vI x2), (3, vI x3), (4, vI x4), (5, vI x5)]) (st1 := [vI x5, vR 55, vI x4]) (h1 := h) (P := True ∧ True ∧ kd 54 = 7 ∧ True ∧ True) (by decide +kernel) rfl rfl ⟨trivial, trivial, rfl, trivial, trivial⟩ ?_
      refine g_callV1 hK 20 52 (d1 := 0) (ci := 3) (i := 55) (vs := [vI x5]) (rest := [vI x4]) (h1 := h) (r := vI (F_Ro_at 55 x5 h)) my_yX3_at vw_X5_52 (by decide) (T_Ro_at (o := 55) (p1 := x5) (h := h) (ko := rfl) (hF := rfl)) rfl rfl rfl (Nat.le_of_ble_eq_true rfl) (by decide +kernel) ?_
      refine g_seg hK [.iload_n 3] 23 24 (L1 := [(0, vR 54), (2, vI x2), (3, vI x3), (4, vI x4), (5, vI x5)]) (st1 := [vI x3, vI (F_Ro_at 55 x5 h), vI x4]) (h1 := h) (P := True ∧ True) (by decide +kernel) rfl rfl ⟨trivial, trivial⟩ ?_
      obtain ⟨s2, e5, hF⟩ := jn1_elim hF
      have j3 : K 32 [(0, vR 54), (2, vI x2), (3, vI x3), (5, vI x5)] [vI s2, vI x4] h := by
        refine g_seg hK [.iadd, .istore 4, .iinc 5 1] 32 38 (L1 := [(5, vI (wr (x5 + 1))), (4, vI (wr (x4 + s2))), (0, vR 54), (2, vI x2), (3, vI x3)]) (st1 := []) (h1 := h) (P := True ∧ True ∧ True ∧ True) (by decide +kernel) rfl rfl ⟨trivial, trivial, trivial, trivial⟩ ?_
        refine g_goto hK 38 (-32) 6 (by decide +kernel) (by decide) ?_
        refine hK.2.1 _ _ ([(0, vR 54), (2, vI x2), (3, vI x3), (4, vI (wr (x4 + s2))), (5, vI (wr (x5 + 1)))]) _ _ (sub_of [2, 3, 4, 1, 0] rfl) ?_
        exact ih _ _ _ _ hF hE
      clear hF
      have hF := e5
      refine g_icmp hK 24 .ne (7) 31 (t1 := 27) (t2 := 31) (by decide +kernel) (by decide) rfl rfl (fun (hc4 : F_Ro_at 55 x5 h = x3) => ?_) (fun (hc4 : ¬ (F_Ro_at 55 x5 h = x3)) => ?_)
      · have hF := ite_t hc4 hF
        refine g_seg hK [.iconst 1] 27 28 (L1 := [(0, vR 54), (2, vI x2), (3, vI x3), (4, vI x4), (5, vI x5)]) (st1 := [vI 1, vI x4]) (h1 := h) (P := True ∧ True) (by decide +kernel) rfl rfl ⟨trivial, trivial⟩ ?_
        refine g_goto hK 28 (4) 32 (by decide +kernel) (by decide) ?_
        refine hK.2.1 _ _ ([(0, vR 54), (2, vI x2), (3, vI x3), (5, vI x5)]) _ _ (sub_of [0, 1, 2, 4] rfl) ?_
        cases hF
        exact j3
      · have hF := ite_f hc4 hF
        refine g_seg hK [.iconst 0] 31 32 (L1 := [(0, vR 54), (2, vI x2), (3, vI x3), (4, vI x4), (5, vI x5)]) (st1 := [vI 0, vI x4]) (h1 := h) (P := True ∧ True) (by decide +kernel) rfl rfl ⟨trivial, trivial⟩ ?_
        refine hK.2.1 _ _ ([(0, vR 54), (2, vI x2), (3, vI x3), (5, vI x5)]) _ _ (sub_of [0, 1, 2, 4] rfl) ?_
        cases hF
        exact j3
    · have hF := ite_f hc1 hF
      cases hF
      exact hE
set_option maxHeartbeats 4000000 in
set_option maxRecDepth 100000 in
theorem T_V_linesWithin {p1 : Int} {p2 : Int} {p3 : Int} {h : MH} {r : Int} (hF : F_V_linesWithin p1 p2 p3 h = some r) : CON 1 yX5_linesWithin cX5_linesWithin 6 (Option.some Jvm.ClassFile.FieldType.int) [vR 54, vI p1, vI p2, vI p3] h (some (vI r)) h := by
  refine con_of (own := RX5) (fl := flX5) (by decide +kernel) rfl flok_X5 rfl (Nat.le_of_ble_eq_true rfl) ?_
  intro K hK hR
  show K 0 [(0, vR 54), (1, vI p1), (2, vI p2), (3, vI p3)] [] h
  unfold F_V_linesWithin at hF
  refine g_seg hK [.iconst 0, .istore 4, .iload_n 1, .istore 5] 0 6 (L1 := [(5, vI p1), (4, vI 0), (0, vR 54), (1, vI p1), (2, vI p2), (3, vI p3)]) (st1 := []) (h1 := h) (P := True ∧ True ∧ True ∧ True ∧ True) (by decide +kernel) rfl rfl ⟨trivial, trivial, trivial, trivial, trivial⟩ ?_
  refine hK.2.1 _ _ ([(0, vR 54), (2, vI p2), (3, vI p3), (4, vI 0), (5, vI p1)]) _ _ (sub_of [2, 4, 5, 1, 0] rfl) ?_
  obtain ⟨x4_1, x5_2, e3, hF⟩ := ob2_elim hF
  refine LT_V_linesWithin_L6 hK _ _ _ _ _ e3 ?_
  refine g_seg hK [.iload 4] 41 43 (L1 := [(0, vR 54), (2, vI p2), (3, vI p3), (4, vI x4_1), (5, vI x5_2)]) (st1 := [vI x4_1]) (h1 := h) (P := True ∧ True) (by decide +kernel) rfl rfl ⟨trivial, trivial⟩ ?_
  cases hF
  exact hR.1 43 _ _ _ (by decide +kernel) rfl ⟨rfl, rfl⟩
set_option maxHeartbeats 4000000 in
set_option maxRecDepth 100000 in
theorem T_V_linesOf {p1 : Int} {p2 : Int} {h : MH} {r : Int} (hF : F_V_linesOf p1 p2 h = some r) : CON 2 yX5_linesOf cX5_linesOf 3 (Option.some Jvm.ClassFile.FieldType.int) [vR 54, vI p1, vI p2] h (some (vI r)) h := by
  refine con_of (own := RX5) (fl := flX5) (by decide +kernel) rfl flok_X5 rfl (Nat.le_of_ble_eq_true rfl) ?_
  intro K hK hR
  show K 0 [(0, vR 54), (1, vI p1), (2, vI p2)] [] h
  unfold F_V_linesOf at hF
  refine g_seg hK [.aload_n 0, .aload_n 0, .iload_n 1] 0 3 (L1 := [(0, vR 54), (1, vI p1), (2, vI p2)]) (st1 := [vI p1, vR 54, vR 54]) (h1 := h) (P := True ∧ True ∧ True ∧ True) (by decide +kernel) rfl rfl ⟨trivial, trivial, trivial, trivial⟩ ?_
  refine g_callV1 hK 3 81 (d1 := 1) (ci := 5) (i := 54) (vs := [vI p1]) (rest := [vR 54]) (h1 := h) (r := vI (F_V_top p1 h)) my_yX5_top vw_X5_81 (by decide) (T_V_top (p1 := p1) (h := h) (hF := rfl)) rfl rfl rfl (Nat.le_of_ble_eq_true rfl) (by decide +kernel) ?_
  refine g_seg hK [.aload_n 0, .iload_n 1] 6 8 (L1 := [(0, vR 54), (1, vI p1), (2, vI p2)]) (st1 := [vI p1, vR 54, vI (F_V_top p1 h), vR 54]) (h1 := h) (P := True ∧ True ∧ True) (by decide +kernel) rfl rfl ⟨trivial, trivial, trivial⟩ ?_
  refine g_callV1 hK 8 84 (d1 := 1) (ci := 5) (i := 54) (vs := [vI p1]) (rest := [vI (F_V_top p1 h), vR 54]) (h1 := h) (r := vI (F_V_end p1 h)) my_yX5_end vw_X5_84 (by decide) (T_V_end (p1 := p1) (h := h) (hF := rfl)) rfl rfl rfl (Nat.le_of_ble_eq_true rfl) (by decide +kernel) ?_
  refine g_seg hK [.iload_n 2] 11 12 (L1 := [(0, vR 54), (1, vI p1), (2, vI p2)]) (st1 := [vI p2, vI (F_V_end p1 h), vI (F_V_top p1 h), vR 54]) (h1 := h) (P := True ∧ True) (by decide +kernel) rfl rfl ⟨trivial, trivial⟩ ?_
  obtain ⟨r1, e2, hF⟩ := ob1_elim hF
  refine g_callV1 hK 12 97 (d1 := 1) (ci := 5) (i := 54) (vs := [vI (F_V_top p1 h), vI (F_V_end p1 h), vI p2]) (rest := []) (h1 := h) (r := vI r1) my_yX5_linesWithin vw_X5_97 (by decide) (T_V_linesWithin (p1 := (F_V_top p1 h)) (p2 := (F_V_end p1 h)) (p3 := p2) (h := h) (hF := e2)) rfl rfl rfl (Nat.le_of_ble_eq_true rfl) (by decide +kernel) ?_
  cases hF
  exact hR.1 15 _ _ _ (by decide +kernel) rfl ⟨rfl, rfl⟩
set_option maxHeartbeats 4000000 in
set_option maxRecDepth 100000 in
theorem LT_V_findHunks_L23 {K : KT} (hK : Rules RX5 cX5_findHunks 3 none flX5 3 K) : ∀ (n : Nat) (x1 : Int) (h : MH) (x1' : Int) (h' : MH), F_V_findHunks_L23 n x1 h = some (x1', h') → K 91 [(0, vR 54), (1, vI x1')] [] h' → K 23 [(0, vR 54), (1, vI x1)] [] h := by
  intro n
  induction n with
  | zero =>
    intro x1 h x1' h' hF
    cases hF
  | succ n ih =>
    intro x1 h x1' h' hF hE
    unfold F_V_findHunks_L23 at hF
    refine g_seg hK [.iload_n 1, .aload_n 0] 23 25 (L1 := [(0, vR 54), (1, vI x1)]) (st1 := [vR 54, vI x1]) (h1 := h) (P := True ∧ True ∧ True) (by decide +kernel) rfl rfl ⟨trivial, trivial, trivial⟩ ?_
    refine g_callV1 hK 25 59 (d1 := 1) (ci := 5) (i := 54) (vs := []) (rest := [vI x1]) (h1 := h) (r := vI (F_V_size h)) my_yX5_size vw_X5_59 (by decide) (T_V_size (h := h) (hF := rfl)) rfl rfl rfl (Nat.le_of_ble_eq_true rfl) (by decide +kernel) ?_
    refine g_icmp hK 28 .ge (63) 91 (t1 := 31) (t2 := 91) (by decide +kernel) (by decide) rfl rfl (fun (hc1 : x1 < F_V_size h) => ?_) (fun (hc1 : ¬ (x1 < F_V_size h)) => ?_)
    · have hF := ite_t hc1 hF
      refine g_seg hK [.aload_n 0, .iload_n 1] 31 33 (L1 := [(0, vR 54), (1, vI x1)]) (st1 := [vI x1, vR 54]) (h1 := h) (P := True ∧ True ∧ True) (by decide +kernel) rfl rfl ⟨trivial, trivial, trivial⟩ ?_
      refine g_callV1 hK 33 60 (d1 := 1) (ci := 5) (i := 54) (vs := [vI x1]) (rest := []) (h1 := h) (r := vI (F_V_inHunk x1 h)) my_yX5_inHunk vw_X5_60 (by decide) (T_V_inHunk (p1 := x1) (h := h) (hF := rfl)) rfl rfl rfl (Nat.le_of_ble_eq_true rfl) (by decide +kernel) ?_
      obtain ⟨h2, e11, hF⟩ := jn1_elim hF
      have j3 : K 57 [(0, vR 54), (1, vI x1)] [] h2 := by
        refine g_seg hK [.aload_n 0, .iload_n 1] 57 59 (L1 := [(0, vR 54), (1, vI x1)]) (st1 := [vI x1, vR 54]) (h1 := h2) (P := True ∧ True ∧ True) (by decide +kernel) rfl rfl ⟨trivial, trivial, trivial⟩ ?_
        refine g_callV1 hK 59 60 (d1 := 1) (ci := 5) (i := 54) (vs := [vI x1]) (rest := []) (h1 := h2) (r := vI (F_V_inHunk x1 h2)) my_yX5_inHunk vw_X5_60 (by decide) (T_V_inHunk (p1 := x1) (h := h2) (hF := rfl)) rfl rfl rfl (Nat.le_of_ble_eq_true rfl) (by decide +kernel) ?_
        obtain ⟨h6, e10, hF⟩ := jn1_elim hF
        have j7 : K 85 [(0, vR 54), (1, vI x1)] [] h6 := by
          refine g_seg hK [.iinc 1 1] 85 88 (L1 := [(1, vI (wr (x1 + 1))), (0, vR 54)]) (st1 := []) (h1 := h6) (P := True ∧ True) (by decide +kernel) rfl rfl ⟨trivial, trivial⟩ ?_
          refine g_goto hK 88 (-65) 23 (by decide +kernel) (by decide) ?_
          refine hK.2.1 _ _ ([(0, vR 54), (1, vI (wr (x1 + 1)))]) _ _ (sub_of [1, 0] rfl) ?_
          exact ih _ _ _ _ hF hE
        clear hF
        have hF := e10
        refine g_ifz hK 62 .eq (23) 85 (t1 := 85) (t2 := 65) (by decide +kernel) (by decide) rfl rfl (fun (hc8 : F_V_inHunk x1 h2 = 0) => ?_) (fun (hc8 : ¬ (F_V_inHunk x1 h2 = 0)) => ?_)
        · have hF := ite_t hc8 hF
          cases hF
          exact j7
        · have hF := ite_f hc8 hF
          refine g_seg hK [.aload_n 0, .iload_n 1, .iconst 1, .iadd] 65 69 (L1 := [(0, vR 54), (1, vI x1)]) (st1 := [vI (wr (x1 + 1)), vR 54]) (h1 := h2) (P := True ∧ True ∧ True ∧ True ∧ True) (by decide +kernel) rfl rfl ⟨trivial, trivial, trivial, trivial, trivial⟩ ?_
          refine g_callV1 hK 69 60 (d1 := 1) (ci := 5) (i := 54) (vs := [vI (wr (x1 + 1))]) (rest := []) (h1 := h2) (r := vI (F_V_inHunk (wr (x1 + 1)) h2)) my_yX5_inHunk vw_X5_60 (by decide) (T_V_inHunk (p1 := (wr (x1 + 1))) (h := h2) (hF := rfl)) rfl rfl rfl (Nat.le_of_ble_eq_true rfl) (by decide +kernel) ?_
          refine g_ifz hK 72 .ne (13) 85 (t1 := 75) (t2 := 85) (by decide +kernel) (by decide) rfl rfl (fun (hc9 : F_V_inHunk (wr (x1 + 1)) h2 = 0) => ?_) (fun (hc9 : ¬ (F_V_inHunk (wr (x1 + 1)) h2 = 0)) => ?_)
          · have hF := ite_t hc9 hF
            refine g_seg hK [.aload_n 0, .getfield 26, .iload_n 1, .iconst 1, .iadd] 75 82 (L1 := [(0, vR 54), (1, vI x1)]) (st1 := [vI (wr (x1 + 1)), vR 61]) (h1 := h2) (P := True ∧ kd 54 = 7 ∧ True ∧ True ∧ True ∧ True) (by decide +kernel) rfl rfl ⟨trivial, rfl, trivial, trivial, trivial, trivial⟩ ?_
            refine g_callV0 hK 82 49 (d1 := 0) (ci := 3) (i := 61) (vs := [vI (wr (x1 + 1))]) (rest := []) (h1 := (F_Ro_add 61 (wr (x1 + 1)) h2)) my_yX3_add vw_X5_49 (by decide) (T_Ro_add (o := 61) (p1 := (wr (x1 + 1))) (h := h2) (ko := rfl) (hF := rfl)) rfl rfl rfl (Nat.le_of_ble_eq_true rfl) (by decide +kernel) ?_
            cases hF
            exact j7
          · have hF := ite_f hc9 hF
            cases hF
            exact j7
      clear hF
      have hF := e11
      refine g_ifz hK 36 .eq (21) 57 (t1 := 57) (t2 := 39) (by decide +kernel) (by decide) rfl rfl (fun (hc4 : F_V_inHunk x1 h = 0) => ?_) (fun (hc4 : ¬ (F_V_inHunk x1 h = 0)) => ?_)
      · have hF := ite_t hc4 hF
        cases hF
        exact j3
      · have hF := ite_f hc4 hF
        refine g_seg hK [.aload_n 0, .iload_n 1, .iconst 1, .isub] 39 43 (L1 := [(0, vR 54), (1, vI x1)]) (st1 := [vI (wr (x1 - 1)), vR 54]) (h1 := h) (P := True ∧ True ∧ True ∧ True ∧ True) (by decide +kernel) rfl rfl ⟨trivial, trivial, trivial, trivial, trivial⟩ ?_
        refine g_callV1 hK 43 60 (d1 := 1) (ci := 5) (i := 54) (vs := [vI (wr (x1 - 1))]) (rest := []) (h1 := h) (r := vI (F_V_inHunk (wr (x1 - 1)) h)) my_yX5_inHunk vw_X5_60 (by decide) (T_V_inHunk (p1 := (wr (x1 - 1))) (h := h) (hF := rfl)) rfl rfl rfl (Nat.le_of_ble_eq_true rfl) (by decide +kernel) ?_
        refine g_ifz hK 46 .ne (11) 57 (t1 := 49) (t2 := 57) (by decide +kernel) (by decide) rfl rfl (fun (hc5 : F_V_inHunk (wr (x1 - 1)) h = 0) => ?_) (fun (hc5 : ¬ (F_V_inHunk (wr (x1 - 1)) h = 0)) => ?_)
        · have hF := ite_t hc5 hF
          refine g_seg hK [.aload_n 0, .getfield 23, .iload_n 1] 49 54 (L1 := [(0, vR 54), (1, vI x1)]) (st1 := [vI x1, vR 59]) (h1 := h) (P := True ∧ kd 54 = 7 ∧ True ∧ True) (by decide +kernel) rfl rfl ⟨trivial, rfl, trivial, trivial⟩ ?_
          refine g_callV0 hK 54 49 (d1 := 0) (ci := 3) (i := 59) (vs := [vI x1]) (rest := []) (h1 := (F_Ro_add 59 x1 h)) my_yX3_add vw_X5_49 (by decide) (T_Ro_add (o := 59) (p1 := x1) (h := h) (ko := rfl) (hF := rfl)) rfl rfl rfl (Nat.le_of_ble_eq_true rfl) (by decide +kernel) ?_
          cases hF
          exact j3
        · have hF := ite_f hc5 hF
          cases hF
          exact j3
    · have hF := ite_f hc1 hF
      cases hF
      exact hE
set_option maxHeartbeats 4000000 in
set_option maxRecDepth 100000 in
theorem LT_V_findHunks_L93 {K : KT} (hK : Rules RX5 cX5_findHunks 3 none flX5 3 K) : ∀ (n : Nat) (x1 : Int) (h : MH) (x1' : Int) (h' : MH), F_V_findHunks_L93 n x1 h = some (x1', h') → K 147 [(0, vR 54), (1, vI x1')] [] h' → K 93 [(0, vR 54), (1, vI x1)] [] h := by
  intro n
  induction n with
  | zero =>
    intro x1 h x1' h' hF
    cases hF
  | succ n ih =>
    intro x1 h x1' h' hF hE
    unfold F_V_findHunks_L93 at hF
    refine g_seg hK [.iload_n 1, .aload_n 0] 93 95 (L1 := [(0, vR 54), (1, vI x1)]) (st1 := [vR 54, vI x1]) (h1 := h) (P := True ∧ True ∧ True) (by decide +kernel) rfl rfl ⟨trivial, trivial, trivial⟩ ?_
    refine g_callV1 hK 95 64 (d1 := 1) (ci := 5) (i := 54) (vs := []) (rest := [vI x1]) (h1 := h) (r := vI (F_V_hunks h)) my_yX5_hunks vw_X5_64 (by decide) (T_V_hunks (h := h) (hF := rfl)) rfl rfl rfl (Nat.le_of_ble_eq_true rfl) (by decide +kernel) ?_
    refine g_icmp hK 98 .ge (49) 147 (t1 := 101) (t2 := 147) (by decide +kernel) (by decide) rfl rfl (fun (hc1 : x1 < F_V_hunks h) => ?_) (fun (hc1 : ¬ (x1 < F_V_hunks h)) => ?_)
    · have hF := ite_t hc1 hF
      refine g_seg hK [.aload_n 0, .iload_n 1, .iconst 1] 101 104 (L1 := [(0, vR 54), (1, vI x1)]) (st1 := [vI 1, vI x1, vR 54]) (h1 := h) (P := True ∧ True ∧ True ∧ True) (by decide +kernel) rfl rfl ⟨trivial, trivial, trivial, trivial⟩ ?_
      obtain ⟨r2, e3, hF⟩ := ob1_elim hF
      refine g_callV1 hK 104 67 (d1 := 2) (ci := 5) (i := 54) (vs := [vI x1, vI 1]) (rest := []) (h1 := h) (r := vI r2) my_yX5_linesOf vw_X5_67 (by decide) (T_V_linesOf (p1 := x1) (p2 := 1) (h := h) (hF := e3)) rfl rfl rfl (Nat.le_of_ble_eq_true rfl) (by decide +kernel) ?_
      obtain ⟨kj7, e12, hF⟩ := jk1_elim hF
      have j7 : ∀ (s6 : Int), kj7 s6 = some (x1', h') → K 124 [(0, vR 54), (1, vI x1)] [vI s6] h := by
        intro s6 hF
        have hF := (e12 s6).symm.trans hF
        refine g_seg hK [.istore_n 2, .aload_n 0, .getfield 29, .iload_n 2] 124 130 (L1 := [(2, vI s6), (0, vR 54), (1, vI x1)]) (st1 := [vI s6, vR 63]) (h1 := h) (P := True ∧ True ∧ kd 54 = 7 ∧ True ∧ True) (by decide +kernel) rfl rfl ⟨trivial, trivial, rfl, trivial, trivial⟩ ?_
        obtain ⟨s8, e11, hF⟩ := jn1_elim hF
        have j9 : K 138 [(0, vR 54), (1, vI x1)] [vI s8, vR 63] h := by
          refine g_callV0 hK 138 49 (d1 := 0) (ci := 3) (i := 63) (vs := [vI s8]) (rest := []) (h1 := (F_Ro_add 63 s8 h)) my_yX3_add vw_X5_49 (by decide) (T_Ro_add (o := 63) (p1 := s8) (h := h) (ko := rfl) (hF := rfl)) rfl rfl rfl (Nat.le_of_ble_eq_true rfl) (by decide +kernel) ?_
          refine g_seg hK [.iinc 1 1] 141 144 (L1 := [(1, vI (wr (x1 + 1))), (0, vR 54)]) (st1 := []) (h1 := (F_Ro_add 63 s8 h)) (P := True ∧ True) (by decide +kernel) rfl rfl ⟨trivial, trivial⟩ ?_
          refine g_goto hK 144 (-51) 93 (by decide +kernel) (by decide) ?_
          refine hK.2.1 _ _ ([(0, vR 54), (1, vI (wr (x1 + 1)))]) _ _ (sub_of [1, 0] rfl) ?_
          exact ih _ _ _ _ hF hE
        clear hF
        have hF := e11
        refine g_ifz hK 130 .eq (7) 137 (t1 := 137) (t2 := 133) (by decide +kernel) (by decide) rfl rfl (fun (hc10 : s6 = 0) => ?_) (fun (hc10 : ¬ (s6 = 0)) => ?_)
        · have hF := ite_t hc10 hF
          refine g_seg hK [.iconst 1] 137 138 (L1 := [(2, vI s6), (0, vR 54), (1, vI x1)]) (st1 := [vI 1, vR 63]) (h1 := h) (P := True ∧ True) (by decide +kernel) rfl rfl ⟨trivial, trivial⟩ ?_
          refine hK.2.1 _ _ ([(0, vR 54), (1, vI x1)]) _ _ (sub_of [1, 2] rfl) ?_
          cases hF
          exact j9
        · have hF := ite_f hc10 hF
          refine g_seg hK [.iconst 0] 133 134 (L1 := [(2, vI s6), (0, vR 54), (1, vI x1)]) (st1 := [vI 0, vR 63]) (h1 := h) (P := True ∧ True) (by decide +kernel) rfl rfl ⟨trivial, trivial⟩ ?_
          refine g_goto hK 134 (4) 138 (by decide +kernel) (by decide) ?_
          refine hK.2.1 _ _ ([(0, vR 54), (1, vI x1)]) _ _ (sub_of [1, 2] rfl) ?_
          cases hF
          exact j9
      obtain ⟨kj5, e13, hF⟩ := jk1_elim hF
      have j5 : ∀ (u4 : Unit), kj5 u4 = some (x1', h') → K 123 [(0, vR 54), (1, vI x1)] [] h := by
        intro u4 hF
        have hF := (e13 u4).symm.trans hF
        refine g_seg hK [.iconst 0] 123 124 (L1 := [(0, vR 54), (1, vI x1)]) (st1 := [vI 0]) (h1 := h) (P := True ∧ True) (by decide +kernel) rfl rfl ⟨trivial, trivial⟩ ?_
        exact j7 _ hF
      refine g_ifz hK 107 .le (16) 123 (t1 := 123) (t2 := 110) (by decide +kernel) (by decide) rfl rfl (fun (hc14 : r2 ≤ 0) => ?_) (fun (hc14 : ¬ (r2 ≤ 0)) => ?_)
      · have hF := ite_t hc14 hF
        exact j5 _ hF
      · have hF := ite_f hc14 hF
        refine g_seg hK [.aload_n 0, .iload_n 1, .iconst 2] 110 113 (L1 := [(0, vR 54), (1, vI x1)]) (st1 := [vI 2, vI x1, vR 54]) (h1 := h) (P := True ∧ True ∧ True ∧ True) (by decide +kernel) rfl rfl ⟨trivial, trivial, trivial, trivial⟩ ?_
        obtain ⟨r15, e16, hF⟩ := ob1_elim hF
        refine g_callV1 hK 113 67 (d1 := 2) (ci := 5) (i := 54) (vs := [vI x1, vI 2]) (rest := []) (h1 := h) (r := vI r15) my_yX5_linesOf vw_X5_67 (by decide) (T_V_linesOf (p1 := x1) (p2 := 2) (h := h) (hF := e16)) rfl rfl rfl (Nat.le_of_ble_eq_true rfl) (by decide +kernel) ?_
        refine g_ifz hK 116 .le (7) 123 (t1 := 123) (t2 := 119) (by decide +kernel) (by decide) rfl rfl (fun (hc17 : r15 ≤ 0) => ?_) (fun (hc17 : ¬ (r15 ≤ 0)) => ?_)
        · have hF := ite_t hc17 hF
          exact j5 _ hF
        · have hF := ite_f hc17 hF
          refine g_seg hK [.iconst 1] 119 120 (L1 := [(0, vR 54), (1, vI x1)]) (st1 := [vI 1]) (h1 := h) (P := True ∧ True) (by decide +kernel) rfl rfl ⟨trivial, trivial⟩ ?_
          refine g_goto hK 120 (4) 124 (by decide +kernel) (by decide) ?_
          exact j7 _ hF
    · have hF := ite_f hc1 hF
      cases hF
      exact hE
set_option maxHeartbeats 4000000 in
set_option maxRecDepth 100000 in
theorem T_V_findHunks {h : MH} {h' : MH} (hF : F_V_findHunks h = some h') : CON 3 yX5_findHunks cX5_findHunks 3 none [vR 54] h none h' := by
  refine con_of (own := RX5) (fl := flX5) (by decide +kernel) rfl flok_X5 rfl (Nat.le_of_ble_eq_true rfl) ?_
  intro K hK hR
  show K 0 [(0, vR 54)] [] h
  unfold F_V_findHunks at hF
  refine g_seg hK [.aload_n 0, .getfield 23] 0 4 (L1 := [(0, vR 54)]) (st1 := [vR 59]) (h1 := h) (P := True ∧ kd 54 = 7 ∧ True) (by decide +kernel) rfl rfl ⟨trivial, rfl, trivial⟩ ?_
  refine g_callV0 hK 4 38 (d1 := 0) (ci := 3) (i := 59) (vs := []) (rest := []) (h1 := (F_Ro_emptyOut 59 h)) my_yX3_emptyOut vw_X5_38 (by decide) (T_Ro_emptyOut (o := 59) (h := h) (ko := rfl) (hF := rfl)) rfl rfl rfl (Nat.le_of_ble_eq_true rfl) (by decide +kernel) ?_
  refine g_seg hK [.aload_n 0, .getfield 26] 7 11 (L1 := [(0, vR 54)]) (st1 := [vR 61]) (h1 := (F_Ro_emptyOut 59 h)) (P := True ∧ kd 54 = 7 ∧ True) (by decide +kernel) rfl rfl ⟨trivial, rfl, trivial⟩ ?_
  refine g_callV0 hK 11 38 (d1 := 0) (ci := 3) (i := 61) (vs := []) (rest := []) (h1 := (F_Ro_emptyOut 61 (F_Ro_emptyOut 59 h))) my_yX3_emptyOut vw_X5_38 (by decide) (T_Ro_emptyOut (o := 61) (h := (F_Ro_emptyOut 59 h)) (ko := rfl) (hF := rfl)) rfl rfl rfl (Nat.le_of_ble_eq_true rfl) (by decide +kernel) ?_
  refine g_seg hK [.aload_n 0, .getfield 29] 14 18 (L1 := [(0, vR 54)]) (st1 := [vR 63]) (h1 := (F_Ro_emptyOut 61 (F_Ro_emptyOut 59 h))) (P := True ∧ kd 54 = 7 ∧ True) (by decide +kernel) rfl rfl ⟨trivial, rfl, trivial⟩ ?_
  refine g_callV0 hK 18 38 (d1 := 0) (ci := 3) (i := 63) (vs := []) (rest := []) (h1 := (F_Ro_emptyOut 63 (F_Ro_emptyOut 61 (F_Ro_emptyOut 59 h)))) my_yX3_emptyOut vw_X5_38 (by decide) (T_Ro_emptyOut (o := 63) (h := (F_Ro_emptyOut 61 (F_Ro_emptyOut 59 h))) (ko := rfl) (hF := rfl)) rfl rfl rfl (Nat.le_of_ble_eq_true rfl) (by decide +kernel) ?_
  refine g_seg hK [.iconst 0, .istore_n 1] 21 23 (L1 := [(1, vI 0), (0, vR 54)]) (st1 := []) (h1 := (F_Ro_emptyOut 63 (F_Ro_emptyOut 61 (F_Ro_emptyOut 59 h)))) (P := True ∧ True ∧ True) (by decide +kernel) rfl rfl ⟨trivial, trivial, trivial⟩ ?_
  refine hK.2.1 _ _ ([(0, vR 54), (1, vI 0)]) _ _ (sub_of [1, 0] rfl) ?_
  obtain ⟨x1_1, h2, e3, hF⟩ := ob2_elim hF
  refine LT_V_findHunks_L23 hK _ _ _ _ _ e3 ?_
  refine g_seg hK [.iconst 0, .istore_n 1] 91 93 (L1 := [(1, vI 0), (0, vR 54)]) (st1 := []) (h1 := h2) (P := True ∧ True ∧ True) (by decide +kernel) rfl rfl ⟨trivial, trivial, trivial⟩ ?_
  refine hK.2.1 _ _ ([(0, vR 54), (1, vI 0)]) _ _ (sub_of [1, 0] rfl) ?_
  obtain ⟨x1_4, h5, e6, hF⟩ := ob2_elim hF
  refine LT_V_findHunks_L93 hK _ _ _ _ _ e6 ?_
  cases hF
  exact hR.2.2.2.2 147 _ _ (by decide +kernel) rfl ⟨rfl, rfl⟩
set_option maxHeartbeats 4000000 in
set_option maxRecDepth 100000 in
theorem LT_V_gather_L40 {K : KT} (hK : Rules RX5 cX5_gather 9 none flX5 4 K) {x1 : Nat} {x2 : Nat} {x4 : Int} (kx1 : kd x1 = 5) (kx2 : kd x2 = 5) : ∀ (n : Nat) (x5 : Int) (x6 : Int) (x7 : Int) (h : MH) (x5' : Int) (x6' : Int) (x7' : Int) (h' : MH), F_V_gather_L40 x1 x2 x4 n x5 x6 x7 h = some (x5', x6', x7', h') → K 144 [(0, vR 54), (1, vR x1), (2, vR x2), (3, vR 49), (4, vI x4), (5, vI x5'), (6, vI x6'), (7, vI x7')] [] h' → K 40 [(0, vR 54), (1, vR x1), (2, vR x2), (3, vR 49), (4, vI x4), (5, vI x5), (6, vI x6), (7, vI x7)] [] h := by
  intro n
  induction n with
  | zero =>
    intro x5 x6 x7 h x5' x6' x7' h' hF
    cases hF
  | succ n ih =>
    intro x5 x6 x7 h x5' x6' x7' h' hF hE
    unfold F_V_gather_L40 at hF
    refine g_seg hK [.iload 7, .iload 4] 40 44 (L1 := [(0, vR 54), (1, vR x1), (2, vR x2), (3, vR 49), (4, vI x4), (5, vI x5), (6, vI x6), (7, vI x7)]) (st1 := [vI x4, vI x7]) (h1 := h) (P := True ∧ True ∧ True) (by decide +kernel) rfl rfl ⟨trivial, trivial, trivial⟩ ?_
    refine g_icmp hK 44 .ge (100) 144 (t1 := 47) (t2 := 144) (by decide +kernel) (by decide) rfl rfl (fun (hc1 : x7 < x4) => ?_) (fun (hc1 : ¬ (x7 < x4)) => ?_)
    · have hF := ite_t hc1 hF
      refine g_seg hK [.iload 5, .iload 6, .iadd, .iload 4] 47 54 (L1 := [(0, vR 54), (1, vR x1), (2, vR x2), (3, vR 49), (4, vI x4), (5, vI x5), (6, vI x6), (7, vI x7)]) (st1 := [vI x4, vI (wr (x5 + x6))]) (h1 := h) (P := True ∧ True ∧ True ∧ True ∧ True) (by decide +kernel) rfl rfl ⟨trivial, trivial, trivial, trivial, trivial⟩ ?_
      refine g_icmp hK 54 .ge (90) 144 (t1 := 57) (t2 := 144) (by decide +kernel) (by decide) rfl rfl (fun (hc2 : wr (x5 + x6) < x4) => ?_) (fun (hc2 : ¬ (wr (x5 + x6) < x4)) => ?_)
      · have hF := ite_t hc2 hF
        refine g_seg hK [.aload_n 3, .aload_n 1, .aload_n 2, .iload 5, .iload 6] 57 64 (L1 := [(0, vR 54), (1, vR x1), (2, vR x2), (3, vR 49), (4, vI x4), (5, vI x5), (6, vI x6), (7, vI x7)]) (st1 := [vI x6, vI x5, vR x2, vR x1, vR 49]) (h1 := h) (P := True ∧ True ∧ True ∧ True ∧ True ∧ True) (by decide +kernel) rfl rfl ⟨trivial, trivial, trivial, trivial, trivial, trivial⟩ ?_
        refine g_callV1 hK 64 45 (d1 := 2) (ci := 0) (i := 49) (vs := [vR x1, vR x2, vI x5, vI x6]) (rest := []) (h1 := h) (r := vI (F_C_step x1 x2 x5 x6 h)) my_yX0_step vw_X5_45 (by decide) (T_C_step (p1 := x1) (p2 := x2) (p3 := x5) (p4 := x6) (h := h) (kp1 := kx1) (kp2 := kx2) (hF := rfl)) rfl rfl rfl (Nat.le_of_ble_eq_true rfl) (by decide +kernel) ?_
        refine g_seg hK [.istore 8, .aload_n 0, .getfield 14, .iload 8] 67 75 (L1 := [(8, vI (F_C_step x1 x2 x5 x6 h)), (0, vR 54), (1, vR x1), (2, vR x2), (3, vR 49), (4, vI x4), (5, vI x5), (6, vI x6), (7, vI x7)]) (st1 := [vI (F_C_step x1 x2 x5 x6 h), vR 55]) (h1 := h) (P := True ∧ True ∧ kd 54 = 7 ∧ True ∧ True) (by decide +kernel) rfl rfl ⟨trivial, trivial, rfl, trivial, trivial⟩ ?_
        refine g_callV0 hK 75 49 (d1 := 0) (ci := 3) (i := 55) (vs := [vI (F_C_step x1 x2 x5 x6 h)]) (rest := []) (h1 := (F_Ro_add 55 (F_C_step x1 x2 x5 x6 h) h)) my_yX3_add vw_X5_49 (by decide) (T_Ro_add (o := 55) (p1 := (F_C_step x1 x2 x5 x6 h)) (h := h) (ko := rfl) (hF := rfl)) rfl rfl rfl (Nat.le_of_ble_eq_true rfl) (by decide +kernel) ?_
        refine g_seg hK [.aload_n 0, .getfield 20, .iload 8, .iconst 2] 78 85 (L1 := [(8, vI (F_C_step x1 x2 x5 x6 h)), (0, vR 54), (1, vR x1), (2, vR x2), (3, vR 49), (4, vI x4), (5, vI x5), (6, vI x6), (7, vI x7)]) (st1 := [vI 2, vI (F_C_step x1 x2 x5 x6 h), vR 57]) (h1 := (F_Ro_add 55 (F_C_step x1 x2 x5 x6 h) h)) (P := True ∧ kd 54 = 7 ∧ True ∧ True ∧ True) (by decide +kernel) rfl rfl ⟨trivial, rfl, trivial, trivial, trivial⟩ ?_
        obtain ⟨s3, e14, hF⟩ := jn1_elim hF
        have j4 : K 103 [(0, vR 54), (1, vR x1), (2, vR x2), (3, vR 49), (4, vI x4), (5, vI x5), (6, vI x6), (7, vI x7), (8, vI (F_C_step x1 x2 x5 x6 h))] [vI s3, vR 57] (F_Ro_add 55 (F_C_step x1 x2 x5 x6 h) h) := by
          refine g_callV0 hK 103 49 (d1 := 0) (ci := 3) (i := 57) (vs := [vI s3]) (rest := []) (h1 := (F_Ro_add 57 s3 (F_Ro_add 55 (F_C_step x1 x2 x5 x6 h) h))) my_yX3_add vw_X5_49 (by decide) (T_Ro_add (o := 57) (p1 := s3) (h := (F_Ro_add 55 (F_C_step x1 x2 x5 x6 h) h)) (ko := rfl) (hF := rfl)) rfl rfl rfl (Nat.le_of_ble_eq_true rfl) (by decide +kernel) ?_
          refine g_seg hK [.iload 5, .iload 8, .iconst 2] 106 111 (L1 := [(0, vR 54), (1, vR x1), (2, vR x2), (3, vR 49), (4, vI x4), (5, vI x5), (6, vI x6), (7, vI x7), (8, vI (F_C_step x1 x2 x5 x6 h))]) (st1 := [vI 2, vI (F_C_step x1 x2 x5 x6 h), vI x5]) (h1 := (F_Ro_add 57 s3 (F_Ro_add 55 (F_C_step x1 x2 x5 x6 h) h))) (P := True ∧ True ∧ True ∧ True) (by decide +kernel) rfl rfl ⟨trivial, trivial, trivial, trivial⟩ ?_
          obtain ⟨s6, e13, hF⟩ := jn1_elim hF
          have j7 : K 119 [(0, vR 54), (1, vR x1), (2, vR x2), (3, vR 49), (4, vI x4), (6, vI x6), (7, vI x7), (8, vI (F_C_step x1 x2 x5 x6 h))] [vI s6, vI x5] (F_Ro_add 57 s3 (F_Ro_add 55 (F_C_step x1 x2 x5 x6 h) h)) := by
            refine g_seg hK [.iadd, .istore 5, .iload 6, .iload 8, .iconst 1] 119 127 (L1 := [(5, vI (wr (x5 + s6))), (0, vR 54), (1, vR x1), (2, vR x2), (3, vR 49), (4, vI x4), (6, vI x6), (7, vI x7), (8, vI (F_C_step x1 x2 x5 x6 h))]) (st1 := [vI 1, vI (F_C_step x1 x2 x5 x6 h), vI x6]) (h1 := (F_Ro_add 57 s3 (F_Ro_add 55 (F_C_step x1 x2 x5 x6 h) h))) (P := True ∧ True ∧ True ∧ True ∧ True ∧ True) (by decide +kernel) rfl rfl ⟨trivial, trivial, trivial, trivial, trivial, trivial⟩ ?_
            obtain ⟨s9, e12, hF⟩ := jn1_elim hF
            have j10 : K 135 [(0, vR 54), (1, vR x1), (2, vR x2), (3, vR 49), (4, vI x4), (5, vI (wr (x5 + s6))), (7, vI x7)] [vI s9, vI x6] (F_Ro_add 57 s3 (F_Ro_add 55 (F_C_step x1 x2 x5 x6 h) h)) := by
              refine g_seg hK [.iadd, .istore 6, .iinc 7 1] 135 141 (L1 := [(7, vI (wr (x7 + 1))), (6, vI (wr (x6 + s9))), (0, vR 54), (1, vR x1), (2, vR x2), (3, vR 49), (4, vI x4), (5, vI (wr (x5 + s6)))]) (st1 := []) (h1 := (F_Ro_add 57 s3 (F_Ro_add 55 (F_C_step x1 x2 x5 x6 h) h))) (P := True ∧ True ∧ True ∧ True) (by decide +kernel) rfl rfl ⟨trivial, trivial, trivial, trivial⟩ ?_
              refine g_goto hK 141 (-101) 40 (by decide +kernel) (by decide) ?_
              refine hK.2.1 _ _ ([(0, vR 54), (1, vR x1), (2, vR x2), (3, vR 49), (4, vI x4), (5, vI (wr (x5 + s6))), (6, vI (wr (x6 + s9))), (7, vI (wr (x7 + 1)))]) _ _ (sub_of [2, 3, 4, 5, 6, 7, 1, 0] rfl) ?_
              exact ih _ _ _ _ _ _ _ _ hF hE
            clear hF
            have hF := e12
            refine g_icmp hK 127 .ne (7) 134 (t1 := 130) (t2 := 134) (by decide +kernel) (by decide) rfl rfl (fun (hc11 : F_C_step x1 x2 x5 x6 h = 1) => ?_) (fun (hc11 : ¬ (F_C_step x1 x2 x5 x6 h = 1)) => ?_)
            · have hF := ite_t hc11 hF
              refine g_seg hK [.iconst 0] 130 131 (L1 := [(5, vI (wr (x5 + s6))), (0, vR 54), (1, vR x1), (2, vR x2), (3, vR 49), (4, vI x4), (6, vI x6), (7, vI x7), (8, vI (F_C_step x1 x2 x5 x6 h))]) (st1 := [vI 0, vI x6]) (h1 := (F_Ro_add 57 s3 (F_Ro_add 55 (F_C_step x1 x2 x5 x6 h) h))) (P := True ∧ True) (by decide +kernel) rfl rfl ⟨trivial, trivial⟩ ?_
              refine g_goto hK 131 (4) 135 (by decide +kernel) (by decide) ?_
              refine hK.2.1 _ _ ([(0, vR 54), (1, vR x1), (2, vR x2), (3, vR 49), (4, vI x4), (5, vI (wr (x5 + s6))), (7, vI x7)]) _ _ (sub_of [1, 2, 3, 4, 5, 0, 7] rfl) ?_
              cases hF
              exact j10
            · have hF := ite_f hc11 hF
              refine g_seg hK [.iconst 1] 134 135 (L1 := [(5, vI (wr (x5 + s6))), (0, vR 54), (1, vR x1), (2, vR x2), (3, vR 49), (4, vI x4), (6, vI x6), (7, vI x7), (8, vI (F_C_step x1 x2 x5 x6 h))]) (st1 := [vI 1, vI x6]) (h1 := (F_Ro_add 57 s3 (F_Ro_add 55 (F_C_step x1 x2 x5 x6 h) h))) (P := True ∧ True) (by decide +kernel) rfl rfl ⟨trivial, trivial⟩ ?_
              refine hK.2.1 _ _ ([(0, vR 54), (1, vR x1), (2, vR x2), (3, vR 49), (4, vI x4), (5, vI (wr (x5 + s6))), (7, vI x7)]) _ _ (sub_of [1, 2, 3, 4, 5, 0, 7] rfl) ?_
              cases hF
              exact j10
          clear hF
          have hF := e13
          refine g_icmp hK 111 .ne (7) 118 (t1 := 114) (t2 := 118) (by decide +kernel) (by decide) rfl rfl (fun (hc8 : F_C_step x1 x2 x5 x6 h = 2) => ?_) (fun (hc8 : ¬ (F_C_step x1 x2 x5 x6 h = 2)) => ?_)
          · have hF := ite_t hc8 hF
            refine g_seg hK [.iconst 0] 114 115 (L1 := [(0, vR 54), (1, vR x1), (2, vR x2), (3, vR 49), (4, vI x4), (5, vI x5), (6, vI x6), (7, vI x7), (8, vI (F_C_step x1 x2 x5 x6 h))]) (st1 := [vI 0, vI x5]) (h1 := (F_Ro_add 57 s3 (F_Ro_add 55 (F_C_step x1 x2 x5 x6 h) h))) (P := True ∧ True) (by decide +kernel) rfl rfl ⟨trivial, trivial⟩ ?_
            refine g_goto hK 115 (4) 119 (by decide +kernel) (by decide) ?_
            refine hK.2.1 _ _ ([(0, vR 54), (1, vR x1), (2, vR x2), (3, vR 49), (4, vI x4), (6, vI x6), (7, vI x7), (8, vI (F_C_step x1 x2 x5 x6 h))]) _ _ (sub_of [0, 1, 2, 3, 4, 6, 7, 8] rfl) ?_
            cases hF
            exact j7
          · have hF := ite_f hc8 hF
            refine g_seg hK [.iconst 1] 118 119 (L1 := [(0, vR 54), (1, vR x1), (2, vR x2), (3, vR 49), (4, vI x4), (5, vI x5), (6, vI x6), (7, vI x7), (8, vI (F_C_step x1 x2 x5 x6 h))]) (st1 := [vI 1, vI x5]) (h1 := (F_Ro_add 57 s3 (F_Ro_add 55 (F_C_step x1 x2 x5 x6 h) h))) (P := True ∧ True) (by decide +kernel) rfl rfl ⟨trivial, trivial⟩ ?_
            refine hK.2.1 _ _ ([(0, vR 54), (1, vR x1), (2, vR x2), (3, vR 49), (4, vI x4), (6, vI x6), (7, vI x7), (8, vI (F_C_step x1 x2 x5 x6 h))]) _ _ (sub_of [0, 1, 2, 3, 4, 6, 7, 8] rfl) ?_
            cases hF
            exact j7
        clear hF
        have hF := e14
        refine g_icmp hK 85 .ne (12) 97 (t1 := 88) (t2 := 97) (by decide +kernel) (by decide) rfl rfl (fun (hc5 : F_C_step x1 x2 x5 x6 h = 2) => ?_) (fun (hc5 : ¬ (F_C_step x1 x2 x5 x6 h = 2)) => ?_)
        · have hF := ite_t hc5 hF
          refine g_seg hK [.aload_n 2, .iload 6] 88 91 (L1 := [(8, vI (F_C_step x1 x2 x5 x6 h)), (0, vR 54), (1, vR x1), (2, vR x2), (3, vR 49), (4, vI x4), (5, vI x5), (6, vI x6), (7, vI x7)]) (st1 := [vI x6, vR x2, vR 57]) (h1 := (F_Ro_add 55 (F_C_step x1 x2 x5 x6 h) h)) (P := True ∧ True ∧ True) (by decide +kernel) rfl rfl ⟨trivial, trivial, trivial⟩ ?_
          refine g_callV1 hK 91 52 (d1 := 0) (ci := 3) (i := x2) (vs := [vI x6]) (rest := [vR 57]) (h1 := (F_Ro_add 55 (F_C_step x1 x2 x5 x6 h) h)) (r := vI (F_Ro_at x2 x6 (F_Ro_add 55 (F_C_step x1 x2 x5 x6 h) h))) my_yX3_at vw_X5_52 (by decide) (T_Ro_at (o := x2) (p1 := x6) (h := (F_Ro_add 55 (F_C_step x1 x2 x5 x6 h) h)) (ko := kx2) (hF := rfl)) kx2 rfl rfl (Nat.le_of_ble_eq_true rfl) (by decide +kernel) ?_
          refine g_goto hK 94 (9) 103 (by decide +kernel) (by decide) ?_
          refine hK.2.1 _ _ ([(0, vR 54), (1, vR x1), (2, vR x2), (3, vR 49), (4, vI x4), (5, vI x5), (6, vI x6), (7, vI x7), (8, vI (F_C_step x1 x2 x5 x6 h))]) _ _ (sub_of [1, 2, 3, 4, 5, 6, 7, 8, 0] rfl) ?_
          cases hF
          exact j4
        · have hF := ite_f hc5 hF
          refine g_seg hK [.aload_n 1, .iload 5] 97 100 (L1 := [(8, vI (F_C_step x1 x2 x5 x6 h)), (0, vR 54), (1, vR x1), (2, vR x2), (3, vR 49), (4, vI x4), (5, vI x5), (6, vI x6), (7, vI x7)]) (st1 := [vI x5, vR x1, vR 57]) (h1 := (F_Ro_add 55 (F_C_step x1 x2 x5 x6 h) h)) (P := True ∧ True ∧ True) (by decide +kernel) rfl rfl ⟨trivial, trivial, trivial⟩ ?_
          refine g_callV1 hK 100 52 (d1 := 0) (ci := 3) (i := x1) (vs := [vI x5]) (rest := [vR 57]) (h1 := (F_Ro_add 55 (F_C_step x1 x2 x5 x6 h) h)) (r := vI (F_Ro_at x1 x5 (F_Ro_add 55 (F_C_step x1 x2 x5 x6 h) h))) my_yX3_at vw_X5_52 (by decide) (T_Ro_at (o := x1) (p1 := x5) (h := (F_Ro_add 55 (F_C_step x1 x2 x5 x6 h) h)) (ko := kx1) (hF := rfl)) kx1 rfl rfl (Nat.le_of_ble_eq_true rfl) (by decide +kernel) ?_
          refine hK.2.1 _ _ ([(0, vR 54), (1, vR x1), (2, vR x2), (3, vR 49), (4, vI x4), (5, vI x5), (6, vI x6), (7, vI x7), (8, vI (F_C_step x1 x2 x5 x6 h))]) _ _ (sub_of [1, 2, 3, 4, 5, 6, 7, 8, 0] rfl) ?_
          cases hF
          exact j4
      · have hF := ite_f hc2 hF
        cases hF
        exact hE
    · have hF := ite_f hc1 hF
      cases hF
      exact hE
set_option maxHeartbeats 4000000 in
set_option maxRecDepth 100000 in
theorem T_V_gather {p1 : Nat} {p2 : Nat} {h : MH} {h' : MH} (kp1 : kd p1 = 5) (kp2 : kd p2 = 5) (hF : F_V_gather p1 p2 h = some h') : CON 4 yX5_gather cX5_gather 9 none [vR 54, vR p1, vR p2, vR 49] h none h' := by
  refine con_of (own := RX5) (fl := flX5) (by decide +kernel) rfl flok_X5 rfl (Nat.le_of_ble_eq_true rfl) ?_
  intro K hK hR
  show K 0 [(0, vR 54), (1, vR p1), (2, vR p2), (3, vR 49)] [] h
  unfold F_V_gather at hF
  refine g_seg hK [.aload_n 3, .aload_n 1, .aload_n 2] 0 3 (L1 := [(0, vR 54), (1, vR p1), (2, vR p2), (3, vR 49)]) (st1 := [vR p2, vR p1, vR 49]) (h1 := h) (P := True ∧ True ∧ True ∧ True) (by decide +kernel) rfl rfl ⟨trivial, trivial, trivial, trivial⟩ ?_
  obtain ⟨h1, e2, hF⟩ := ob1_elim hF
  refine g_callV0 hK 3 32 (d1 := 2) (ci := 0) (i := 49) (vs := [vR p1, vR p2]) (rest := []) (h1 := h1) my_yX0_compare vw_X5_32 (by decide) (T_C_compare (p1 := p1) (p2 := p2) (h := h) (kp1 := kp1) (kp2 := kp2) (hF := e2)) rfl rfl rfl (Nat.le_of_ble_eq_true rfl) (by decide +kernel) ?_
  refine g_seg hK [.aload_n 0, .getfield 14] 6 10 (L1 := [(0, vR 54), (1, vR p1), (2, vR p2), (3, vR 49)]) (st1 := [vR 55]) (h1 := h1) (P := True ∧ kd 54 = 7 ∧ True) (by decide +kernel) rfl rfl ⟨trivial, rfl, trivial⟩ ?_
  refine g_callV0 hK 10 38 (d1 := 0) (ci := 3) (i := 55) (vs := []) (rest := []) (h1 := (F_Ro_emptyOut 55 h1)) my_yX3_emptyOut vw_X5_38 (by decide) (T_Ro_emptyOut (o := 55) (h := h1) (ko := rfl) (hF := rfl)) rfl rfl rfl (Nat.le_of_ble_eq_true rfl) (by decide +kernel) ?_
  refine g_seg hK [.aload_n 0, .getfield 20] 13 17 (L1 := [(0, vR 54), (1, vR p1), (2, vR p2), (3, vR 49)]) (st1 := [vR 57]) (h1 := (F_Ro_emptyOut 55 h1)) (P := True ∧ kd 54 = 7 ∧ True) (by decide +kernel) rfl rfl ⟨trivial, rfl, trivial⟩ ?_
  refine g_callV0 hK 17 38 (d1 := 0) (ci := 3) (i := 57) (vs := []) (rest := []) (h1 := (F_Ro_emptyOut 57 (F_Ro_emptyOut 55 h1))) my_yX3_emptyOut vw_X5_38 (by decide) (T_Ro_emptyOut (o := 57) (h := (F_Ro_emptyOut 55 h1)) (ko := rfl) (hF := rfl)) rfl rfl rfl (Nat.le_of_ble_eq_true rfl) (by decide +kernel) ?_
  refine g_seg hK [.aload_n 1] 20 21 (L1 := [(0, vR 54), (1, vR p1), (2, vR p2), (3, vR 49)]) (st1 := [vR p1]) (h1 := (F_Ro_emptyOut 57 (F_Ro_emptyOut 55 h1))) (P := True ∧ True) (by decide +kernel) rfl rfl ⟨trivial, trivial⟩ ?_
  refine g_callV1 hK 21 41 (d1 := 0) (ci := 3) (i := p1) (vs := []) (rest := []) (h1 := (F_Ro_emptyOut 57 (F_Ro_emptyOut 55 h1))) (r := vI (F_Ro_size p1 (F_Ro_emptyOut 57 (F_Ro_emptyOut 55 h1)))) my_yX3_size vw_X5_41 (by decide) (T_Ro_size (o := p1) (h := (F_Ro_emptyOut 57 (F_Ro_emptyOut 55 h1))) (ko := kp1) (hF := rfl)) kp1 rfl rfl (Nat.le_of_ble_eq_true rfl) (by decide +kernel) ?_
  refine g_seg hK [.aload_n 2] 24 25 (L1 := [(0, vR 54), (1, vR p1), (2, vR p2), (3, vR 49)]) (st1 := [vR p2, vI (F_Ro_size p1 (F_Ro_emptyOut 57 (F_Ro_emptyOut 55 h1)))]) (h1 := (F_Ro_emptyOut 57 (F_Ro_emptyOut 55 h1))) (P := True ∧ True) (by decide +kernel) rfl rfl ⟨trivial, trivial⟩ ?_
  refine g_callV1 hK 25 41 (d1 := 0) (ci := 3) (i := p2) (vs := []) (rest := [vI (F_Ro_size p1 (F_Ro_emptyOut 57 (F_Ro_emptyOut 55 h1)))]) (h1 := (F_Ro_emptyOut 57 (F_Ro_emptyOut 55 h1))) (r := vI (F_Ro_size p2 (F_Ro_emptyOut 57 (F_Ro_emptyOut 55 h1)))) my_yX3_size vw_X5_41 (by decide) (T_Ro_size (o := p2) (h := (F_Ro_emptyOut 57 (F_Ro_emptyOut 55 h1))) (ko := kp2) (hF := rfl)) kp2 rfl rfl (Nat.le_of_ble_eq_true rfl) (by decide +kernel) ?_
  refine g_seg hK [.iadd, .istore 4, .iconst 0, .istore 5, .iconst 0, .istore 6, .iconst 0, .istore 7] 28 40 (L1 := [(7, vI 0), (6, vI 0), (5, vI 0), (4, vI (wr ((F_Ro_size p1 (F_Ro_emptyOut 57 (F_Ro_emptyOut 55 h1))) + (F_Ro_size p2 (F_Ro_emptyOut 57 (F_Ro_emptyOut 55 h1)))))), (0, vR 54), (1, vR p1), (2, vR p2), (3, vR 49)]) (st1 := []) (h1 := (F_Ro_emptyOut 57 (F_Ro_emptyOut 55 h1))) (P := True ∧ True ∧ True ∧ True ∧ True ∧ True ∧ True ∧ True ∧ True) (by decide +kernel) rfl rfl ⟨trivial, trivial, trivial, trivial, trivial, trivial, trivial, trivial, trivial⟩ ?_
  refine hK.2.1 _ _ ([(0, vR 54), (1, vR p1), (2, vR p2), (3, vR 49), (4, vI (wr ((F_Ro_size p1 (F_Ro_emptyOut 57 (F_Ro_emptyOut 55 h1))) + (F_Ro_size p2 (F_Ro_emptyOut 57 (F_Ro_emptyOut 55 h1)))))), (5, vI 0), (6, vI 0), (7, vI 0)]) _ _ (sub_of [4, 5, 6, 7, 3, 2, 1, 0] rfl) ?_
  obtain ⟨x5_3, x6_4, x7_5, h6, e7, hF⟩ := ob4_elim hF
  refine LT_V_gather_L40 hK (kx1 := kp1) (kx2 := kp2) _ _ _ _ _ _ _ _ _ e7 ?_
  refine g_seg hK [.aload_n 0] 144 145 (L1 := [(0, vR 54), (1, vR p1), (2, vR p2), (3, vR 49), (4, vI (wr ((F_Ro_size p1 (F_Ro_emptyOut 57 (F_Ro_emptyOut 55 h1))) + (F_Ro_size p2 (F_Ro_emptyOut 57 (F_Ro_emptyOut 55 h1)))))), (5, vI x5_3), (6, vI x6_4), (7, vI x7_5)]) (st1 := [vR 54]) (h1 := h6) (P := True ∧ True) (by decide +kernel) rfl rfl ⟨trivial, trivial⟩ ?_
  obtain ⟨h8, e9, hF⟩ := ob1_elim hF
  refine g_callV0 hK 145 56 (d1 := 3) (ci := 5) (i := 54) (vs := []) (rest := []) (h1 := h8) my_yX5_findHunks vw_X5_56 (by decide) (T_V_findHunks (h := h6) (hF := e9)) rfl rfl rfl (Nat.le_of_ble_eq_true rfl) (by decide +kernel) ?_
  cases hF
  exact hR.2.2.2.2 148 _ _ (by decide +kernel) rfl ⟨rfl, rfl⟩
set_option maxHeartbeats 4000000 in
set_option maxRecDepth 100000 in
theorem T_V_isPlain {p1 : Int} {h : MH} {r : Int} (hF : F_V_isPlain p1 h = r) : CON 1 yX5_isPlain cX5_isPlain 2 (Option.some Jvm.ClassFile.FieldType.boolean) [vR 54, vI p1] h (some (vI r)) h := by
  refine con_of (own := RX5) (fl := flX5) (by decide +kernel) rfl flok_X5 rfl (Nat.le_of_ble_eq_true rfl) ?_
  intro K hK hR
  show K 0 [(0, vR 54), (1, vI p1)] [] h
  unfold F_V_isPlain at hF
  refine g_seg hK [.aload_n 0, .getfield 29, .iload_n 1] 0 5 (L1 := [(0, vR 54), (1, vI p1)]) (st1 := [vI p1, vR 63]) (h1 := h) (P := True ∧ kd 54 = 7 ∧ True ∧ True) (by decide +kernel) rfl rfl ⟨trivial, rfl, trivial, trivial⟩ ?_
  refine g_callV1 hK 5 52 (d1 := 0) (ci := 3) (i := 63) (vs := [vI p1]) (rest := []) (h1 := h) (r := vI (F_Ro_at 63 p1 h)) my_yX3_at vw_X5_52 (by decide) (T_Ro_at (o := 63) (p1 := p1) (h := h) (ko := rfl) (hF := rfl)) rfl rfl rfl (Nat.le_of_ble_eq_true rfl) (by decide +kernel) ?_
  refine g_seg hK [.iconst 1] 8 9 (L1 := [(0, vR 54), (1, vI p1)]) (st1 := [vI 1, vI (F_Ro_at 63 p1 h)]) (h1 := h) (P := True ∧ True) (by decide +kernel) rfl rfl ⟨trivial, trivial⟩ ?_
  refine g_icmp hK 9 .ne (7) 16 (t1 := 12) (t2 := 16) (by decide +kernel) (by decide) rfl rfl (fun (hc1 : F_Ro_at 63 p1 h = 1) => ?_) (fun (hc1 : ¬ (F_Ro_at 63 p1 h = 1)) => ?_)
  · have hF := ite_t hc1 hF
    refine g_seg hK [.iconst 1] 12 13 (L1 := [(0, vR 54), (1, vI p1)]) (st1 := [vI 1]) (h1 := h) (P := True ∧ True) (by decide +kernel) rfl rfl ⟨trivial, trivial⟩ ?_
    refine g_goto hK 13 (4) 17 (by decide +kernel) (by decide) ?_
    cases hF
    exact hR.2.1 17 _ _ _ (by decide +kernel) rfl (by decide) ⟨rfl, rfl⟩
  · have hF := ite_f hc1 hF
    refine g_seg hK [.iconst 0] 16 17 (L1 := [(0, vR 54), (1, vI p1)]) (st1 := [vI 0]) (h1 := h) (P := True ∧ True) (by decide +kernel) rfl rfl ⟨trivial, trivial⟩ ?_
    cases hF
    exact hR.2.1 17 _ _ _ (by decide +kernel) rfl (by decide) ⟨rfl, rfl⟩
set_option maxHeartbeats 4000000 in
set_option maxRecDepth 100000 in
theorem T_V_barAt {p1 : Int} {p2 : Int} {p3 : Int} {h : MH} {r : Int} (hF : F_V_barAt p1 p2 p3 h = r) : CON 1 yX5_barAt cX5_barAt 6 (Option.some Jvm.ClassFile.FieldType.int) [vR 54, vI p1, vI p2, vI p3] h (some (vI r)) h := by
  refine con_of (own := RX5) (fl := flX5) (by decide +kernel) rfl flok_X5 rfl (Nat.le_of_ble_eq_true rfl) ?_
  intro K hK hR
  show K 0 [(0, vR 54), (1, vI p1), (2, vI p2), (3, vI p3)] [] h
  unfold F_V_barAt at hF
  refine g_seg hK [.aload_n 0, .getfield 20, .iload_n 3] 0 5 (L1 := [(0, vR 54), (1, vI p1), (2, vI p2), (3, vI p3)]) (st1 := [vI p3, vR 57]) (h1 := h) (P := True ∧ kd 54 = 7 ∧ True ∧ True) (by decide +kernel) rfl rfl ⟨trivial, rfl, trivial, trivial⟩ ?_
  obtain ⟨s1, e15, hF⟩ := jn1_elim hF
  have j2 : K 15 [(0, vR 54), (1, vI p1), (2, vI p2), (3, vI p3)] [vI s1, vR 57] h := by
    refine g_callV1 hK 15 52 (d1 := 0) (ci := 3) (i := 57) (vs := [vI s1]) (rest := []) (h1 := h) (r := vI (F_Ro_at 57 s1 h)) my_yX3_at vw_X5_52 (by decide) (T_Ro_at (o := 57) (p1 := s1) (h := h) (ko := rfl) (hF := rfl)) rfl rfl rfl (Nat.le_of_ble_eq_true rfl) (by decide +kernel) ?_
    refine g_seg hK [.istore 4, .aload_n 0, .getfield 20, .iload_n 3] 18 25 (L1 := [(4, vI (F_Ro_at 57 s1 h)), (0, vR 54), (1, vI p1), (2, vI p2), (3, vI p3)]) (st1 := [vI p3, vR 57]) (h1 := h) (P := True ∧ True ∧ kd 54 = 7 ∧ True ∧ True) (by decide +kernel) rfl rfl ⟨trivial, trivial, rfl, trivial, trivial⟩ ?_
    obtain ⟨s4, e14, hF⟩ := jn1_elim hF
    have j5 : K 35 [(0, vR 54), (1, vI p1), (2, vI p2), (3, vI p3), (4, vI (F_Ro_at 57 s1 h))] [vI s4, vR 57] h := by
      refine g_callV1 hK 35 52 (d1 := 0) (ci := 3) (i := 57) (vs := [vI s4]) (rest := []) (h1 := h) (r := vI (F_Ro_at 57 s4 h)) my_yX3_at vw_X5_52 (by decide) (T_Ro_at (o := 57) (p1 := s4) (h := h) (ko := rfl) (hF := rfl)) rfl rfl rfl (Nat.le_of_ble_eq_true rfl) (by decide +kernel) ?_
      refine g_seg hK [.istore 5, .iload 4, .iconst (-1)] 38 43 (L1 := [(5, vI (F_Ro_at 57 s4 h)), (0, vR 54), (1, vI p1), (2, vI p2), (3, vI p3), (4, vI (F_Ro_at 57 s1 h))]) (st1 := [vI (-1), vI (F_Ro_at 57 s1 h)]) (h1 := h) (P := True ∧ True ∧ True ∧ True) (by decide +kernel) rfl rfl ⟨trivial, trivial, trivial, trivial⟩ ?_
      refine g_icmp hK 43 .ne (5) 48 (t1 := 46) (t2 := 48) (by decide +kernel) (by decide) rfl rfl (fun (hc7 : F_Ro_at 57 s1 h = (-1)) => ?_) (fun (hc7 : ¬ (F_Ro_at 57 s1 h = (-1))) => ?_)
      · have hF := ite_t hc7 hF
        refine g_seg hK [.iconst 2] 46 47 (L1 := [(5, vI (F_Ro_at 57 s4 h)), (0, vR 54), (1, vI p1), (2, vI p2), (3, vI p3), (4, vI (F_Ro_at 57 s1 h))]) (st1 := [vI 2]) (h1 := h) (P := True ∧ True) (by decide +kernel) rfl rfl ⟨trivial, trivial⟩ ?_
        cases hF
        exact hR.1 47 _ _ _ (by decide +kernel) rfl ⟨rfl, rfl⟩
      · have hF := ite_f hc7 hF
        refine g_seg hK [.iload 4, .iload 5] 48 52 (L1 := [(5, vI (F_Ro_at 57 s4 h)), (0, vR 54), (1, vI p1), (2, vI p2), (3, vI p3), (4, vI (F_Ro_at 57 s1 h))]) (st1 := [vI (F_Ro_at 57 s4 h), vI (F_Ro_at 57 s1 h)]) (h1 := h) (P := True ∧ True ∧ True) (by decide +kernel) rfl rfl ⟨trivial, trivial, trivial⟩ ?_
        refine g_icmp hK 52 .eq (5) 57 (t1 := 57) (t2 := 55) (by decide +kernel) (by decide) rfl rfl (fun (hc8 : F_Ro_at 57 s1 h = F_Ro_at 57 s4 h) => ?_) (fun (hc8 : ¬ (F_Ro_at 57 s1 h = F_Ro_at 57 s4 h)) => ?_)
        · have hF := ite_t hc8 hF
          refine g_seg hK [.aload_n 0, .getfield 14, .iload_n 3] 57 62 (L1 := [(5, vI (F_Ro_at 57 s4 h)), (0, vR 54), (1, vI p1), (2, vI p2), (3, vI p3), (4, vI (F_Ro_at 57 s1 h))]) (st1 := [vI p3, vR 55]) (h1 := h) (P := True ∧ kd 54 = 7 ∧ True ∧ True) (by decide +kernel) rfl rfl ⟨trivial, rfl, trivial, trivial⟩ ?_
          obtain ⟨s9, e13, hF⟩ := jn1_elim hF
          have j10 : K 74 [] [vI s9, vR 55] h := by
            refine g_callV1 hK 74 52 (d1 := 0) (ci := 3) (i := 55) (vs := [vI s9]) (rest := []) (h1 := h) (r := vI (F_Ro_at 55 s9 h)) my_yX3_at vw_X5_52 (by decide) (T_Ro_at (o := 55) (p1 := s9) (h := h) (ko := rfl) (hF := rfl)) rfl rfl rfl (Nat.le_of_ble_eq_true rfl) (by decide +kernel) ?_
            refine g_ifz hK 77 .le (7) 84 (t1 := 84) (t2 := 80) (by decide +kernel) (by decide) rfl rfl (fun (hc12 : F_Ro_at 55 s9 h ≤ 0) => ?_) (fun (hc12 : ¬ (F_Ro_at 55 s9 h ≤ 0)) => ?_)
            · have hF := ite_t hc12 hF
              refine g_seg hK [.iconst 0] 84 85 (L1 := []) (st1 := [vI 0]) (h1 := h) (P := True ∧ True) (by decide +kernel) rfl rfl ⟨trivial, trivial⟩ ?_
              cases hF
              exact hR.1 85 _ _ _ (by decide +kernel) rfl ⟨rfl, rfl⟩
            · have hF := ite_f hc12 hF
              refine g_seg hK [.iconst 4] 80 81 (L1 := []) (st1 := [vI 4]) (h1 := h) (P := True ∧ True) (by decide +kernel) rfl rfl ⟨trivial, trivial⟩ ?_
              refine g_goto hK 81 (4) 85 (by decide +kernel) (by decide) ?_
              cases hF
              exact hR.1 85 _ _ _ (by decide +kernel) rfl ⟨rfl, rfl⟩
          clear hF
          have hF := e13
          refine g_ifz hK 62 .eq (9) 71 (t1 := 71) (t2 := 65) (by decide +kernel) (by decide) rfl rfl (fun (hc11 : p3 = 0) => ?_) (fun (hc11 : ¬ (p3 = 0)) => ?_)
          · have hF := ite_t hc11 hF
            refine g_seg hK [.iload_n 1, .iconst 2, .isub] 71 74 (L1 := [(5, vI (F_Ro_at 57 s4 h)), (0, vR 54), (1, vI p1), (2, vI p2), (3, vI p3), (4, vI (F_Ro_at 57 s1 h))]) (st1 := [vI (wr (p1 - 2)), vR 55]) (h1 := h) (P := True ∧ True ∧ True ∧ True) (by decide +kernel) rfl rfl ⟨trivial, trivial, trivial, trivial⟩ ?_
            refine hK.2.1 _ _ ([]) _ _ (sub_of [] rfl) ?_
            cases hF
            exact j10
          · have hF := ite_f hc11 hF
            refine g_seg hK [.iload_n 2, .iconst 1, .iadd] 65 68 (L1 := [(5, vI (F_Ro_at 57 s4 h)), (0, vR 54), (1, vI p1), (2, vI p2), (3, vI p3), (4, vI (F_Ro_at 57 s1 h))]) (st1 := [vI (wr (p2 + 1)), vR 55]) (h1 := h) (P := True ∧ True ∧ True ∧ True) (by decide +kernel) rfl rfl ⟨trivial, trivial, trivial, trivial⟩ ?_
            refine g_goto hK 68 (6) 74 (by decide +kernel) (by decide) ?_
            refine hK.2.1 _ _ ([]) _ _ (sub_of [] rfl) ?_
            cases hF
            exact j10
        · have hF := ite_f hc8 hF
          refine g_seg hK [.iconst 3] 55 56 (L1 := [(5, vI (F_Ro_at 57 s4 h)), (0, vR 54), (1, vI p1), (2, vI p2), (3, vI p3), (4, vI (F_Ro_at 57 s1 h))]) (st1 := [vI 3]) (h1 := h) (P := True ∧ True) (by decide +kernel) rfl rfl ⟨trivial, trivial⟩ ?_
          cases hF
          exact hR.1 56 _ _ _ (by decide +kernel) rfl ⟨rfl, rfl⟩
    clear hF
    have hF := e14
    refine g_ifz hK 25 .eq (7) 32 (t1 := 32) (t2 := 28) (by decide +kernel) (by decide) rfl rfl (fun (hc6 : p3 = 0) => ?_) (fun (hc6 : ¬ (p3 = 0)) => ?_)
    · have hF := ite_t hc6 hF
      refine g_seg hK [.iload_n 2, .iconst 1, .isub] 32 35 (L1 := [(4, vI (F_Ro_at 57 s1 h)), (0, vR 54), (1, vI p1), (2, vI p2), (3, vI p3)]) (st1 := [vI (wr (p2 - 1)), vR 57]) (h1 := h) (P := True ∧ True ∧ True ∧ True) (by decide +kernel) rfl rfl ⟨trivial, trivial, trivial, trivial⟩ ?_
      refine hK.2.1 _ _ ([(0, vR 54), (1, vI p1), (2, vI p2), (3, vI p3), (4, vI (F_Ro_at 57 s1 h))]) _ _ (sub_of [1, 2, 3, 4, 0] rfl) ?_
      cases hF
      exact j5
    · have hF := ite_f hc6 hF
      refine g_seg hK [.iload_n 1] 28 29 (L1 := [(4, vI (F_Ro_at 57 s1 h)), (0, vR 54), (1, vI p1), (2, vI p2), (3, vI p3)]) (st1 := [vI p1, vR 57]) (h1 := h) (P := True ∧ True) (by decide +kernel) rfl rfl ⟨trivial, trivial⟩ ?_
      refine g_goto hK 29 (6) 35 (by decide +kernel) (by decide) ?_
      refine hK.2.1 _ _ ([(0, vR 54), (1, vI p1), (2, vI p2), (3, vI p3), (4, vI (F_Ro_at 57 s1 h))]) _ _ (sub_of [1, 2, 3, 4, 0] rfl) ?_
      cases hF
      exact j5
  clear hF
  have hF := e15
  refine g_ifz hK 5 .eq (7) 12 (t1 := 12) (t2 := 8) (by decide +kernel) (by decide) rfl rfl (fun (hc3 : p3 = 0) => ?_) (fun (hc3 : ¬ (p3 = 0)) => ?_)
  · have hF := ite_t hc3 hF
    refine g_seg hK [.iload_n 1, .iconst 1, .isub] 12 15 (L1 := [(0, vR 54), (1, vI p1), (2, vI p2), (3, vI p3)]) (st1 := [vI (wr (p1 - 1)), vR 57]) (h1 := h) (P := True ∧ True ∧ True ∧ True) (by decide +kernel) rfl rfl ⟨trivial, trivial, trivial, trivial⟩ ?_
    cases hF
    exact j2
  · have hF := ite_f hc3 hF
    refine g_seg hK [.iload_n 2] 8 9 (L1 := [(0, vR 54), (1, vI p1), (2, vI p2), (3, vI p3)]) (st1 := [vI p2, vR 57]) (h1 := h) (P := True ∧ True) (by decide +kernel) rfl rfl ⟨trivial, trivial⟩ ?_
    refine g_goto hK 9 (6) 15 (by decide +kernel) (by decide) ?_
    cases hF
    exact j2
set_option maxHeartbeats 4000000 in
set_option maxRecDepth 100000 in
theorem LT_V_reach_L23 {K : KT} (hK : Rules RX5 cX5_reach 5 (Option.some Jvm.ClassFile.FieldType.int) flX5 2 K) {x1 : Int} {x2 : Int} {x3 : Int} {h : MH} : ∀ (n : Nat) (x4 : Int) (x4' : Int), F_V_reach_L23 x1 x2 x3 h n x4 = some x4' → K 66 [(0, vR 54), (1, vI x1), (2, vI x2), (3, vI x3), (4, vI x4')] [] h → K 23 [(0, vR 54), (1, vI x1), (2, vI x2), (3, vI x3), (4, vI x4)] [] h := by
  intro n
  induction n with
  | zero =>
    intro x4 x4' hF
    cases hF
  | succ n ih =>
    intro x4 x4' hF hE
    unfold F_V_reach_L23 at hF
    refine g_seg hK [.iload 4, .aload_n 0] 23 26 (L1 := [(0, vR 54), (1, vI x1), (2, vI x2), (3, vI x3), (4, vI x4)]) (st1 := [vR 54, vI x4]) (h1 := h) (P := True ∧ True ∧ True) (by decide +kernel) rfl rfl ⟨trivial, trivial, trivial⟩ ?_
    refine g_callV1 hK 26 59 (d1 := 1) (ci := 5) (i := 54) (vs := []) (rest := [vI x4]) (h1 := h) (r := vI (F_V_size h)) my_yX5_size vw_X5_59 (by decide) (T_V_size (h := h) (hF := rfl)) rfl rfl rfl (Nat.le_of_ble_eq_true rfl) (by decide +kernel) ?_
    refine g_icmp hK 29 .ge (37) 66 (t1 := 32) (t2 := 66) (by decide +kernel) (by decide) rfl rfl (fun (hc1 : x4 < F_V_size h) => ?_) (fun (hc1 : ¬ (x4 < F_V_size h)) => ?_)
    · have hF := ite_t hc1 hF
      refine g_seg hK [.aload_n 0, .aload_n 0, .iload_n 1] 32 35 (L1 := [(0, vR 54), (1, vI x1), (2, vI x2), (3, vI x3), (4, vI x4)]) (st1 := [vI x1, vR 54, vR 54]) (h1 := h) (P := True ∧ True ∧ True ∧ True) (by decide +kernel) rfl rfl ⟨trivial, trivial, trivial, trivial⟩ ?_
      refine g_callV1 hK 35 81 (d1 := 1) (ci := 5) (i := 54) (vs := [vI x1]) (rest := [vR 54]) (h1 := h) (r := vI (F_V_top x1 h)) my_yX5_top vw_X5_81 (by decide) (T_V_top (p1 := x1) (h := h) (hF := rfl)) rfl rfl rfl (Nat.le_of_ble_eq_true rfl) (by decide +kernel) ?_
      refine g_seg hK [.iload_n 3, .iload 4, .imul, .iadd, .aload_n 0, .iload_n 1] 38 45 (L1 := [(0, vR 54), (1, vI x1), (2, vI x2), (3, vI x3), (4, vI x4)]) (st1 := [vI x1, vR 54, vI (wr ((F_V_top x1 h) + (wr (x3 * x4)))), vR 54]) (h1 := h) (P := True ∧ True ∧ True ∧ True ∧ True ∧ True ∧ True) (by decide +kernel) rfl rfl ⟨trivial, trivial, trivial, trivial, trivial, trivial, trivial⟩ ?_
      refine g_callV1 hK 45 84 (d1 := 1) (ci := 5) (i := 54) (vs := [vI x1]) (rest := [vI (wr ((F_V_top x1 h) + (wr (x3 * x4)))), vR 54]) (h1 := h) (r := vI (F_V_end x1 h)) my_yX5_end vw_X5_84 (by decide) (T_V_end (p1 := x1) (h := h) (hF := rfl)) rfl rfl rfl (Nat.le_of_ble_eq_true rfl) (by decide +kernel) ?_
      refine g_seg hK [.iload_n 3, .iload 4, .imul, .iadd, .iload_n 2] 48 54 (L1 := [(0, vR 54), (1, vI x1), (2, vI x2), (3, vI x3), (4, vI x4)]) (st1 := [vI x2, vI (wr ((F_V_end x1 h) + (wr (x3 * x4)))), vI (wr ((F_V_top x1 h) + (wr (x3 * x4)))), vR 54]) (h1 := h) (P := True ∧ True ∧ True ∧ True ∧ True ∧ True) (by decide +kernel) rfl rfl ⟨trivial, trivial, trivial, trivial, trivial, trivial⟩ ?_
      refine g_callV1 hK 54 109 (d1 := 1) (ci := 5) (i := 54) (vs := [vI (wr ((F_V_top x1 h) + (wr (x3 * x4)))), vI (wr ((F_V_end x1 h) + (wr (x3 * x4)))), vI x2]) (rest := []) (h1 := h) (r := vI (F_V_barAt (wr ((F_V_top x1 h) + (wr (x3 * x4)))) (wr ((F_V_end x1 h) + (wr (x3 * x4)))) x2 h)) my_yX5_barAt vw_X5_109 (by decide) (T_V_barAt (p1 := (wr ((F_V_top x1 h) + (wr (x3 * x4))))) (p2 := (wr ((F_V_end x1 h) + (wr (x3 * x4))))) (p3 := x2) (h := h) (hF := rfl)) rfl rfl rfl (Nat.le_of_ble_eq_true rfl) (by decide +kernel) ?_
      refine g_ifz hK 57 .ne (9) 66 (t1 := 60) (t2 := 66) (by decide +kernel) (by decide) rfl rfl (fun (hc2 : F_V_barAt (wr ((F_V_top x1 h) + (wr (x3 * x4)))) (wr ((F_V_end x1 h) + (wr (x3 * x4)))) x2 h = 0) => ?_) (fun (hc2 : ¬ (F_V_barAt (wr ((F_V_top x1 h) + (wr (x3 * x4)))) (wr ((F_V_end x1 h) + (wr (x3 * x4)))) x2 h = 0)) => ?_)
      · have hF := ite_t hc2 hF
        refine g_seg hK [.iinc 4 1] 60 63 (L1 := [(4, vI (wr (x4 + 1))), (0, vR 54), (1, vI x1), (2, vI x2), (3, vI x3)]) (st1 := []) (h1 := h) (P := True ∧ True) (by decide +kernel) rfl rfl ⟨trivial, trivial⟩ ?_
        refine g_goto hK 63 (-40) 23 (by decide +kernel) (by decide) ?_
        refine hK.2.1 _ _ ([(0, vR 54), (1, vI x1), (2, vI x2), (3, vI x3), (4, vI (wr (x4 + 1)))]) _ _ (sub_of [1, 2, 3, 4, 0] rfl) ?_
        exact ih _ _ hF hE
      · have hF := ite_f hc2 hF
        cases hF
        exact hE
    · have hF := ite_f hc1 hF
      cases hF
      exact hE
set_option maxHeartbeats 4000000 in
set_option maxRecDepth 100000 in
theorem T_V_reach {p1 : Int} {p2 : Int} {h : MH} {r : Int} (hF : F_V_reach p1 p2 h = some r) : CON 2 yX5_reach cX5_reach 5 (Option.some Jvm.ClassFile.FieldType.int) [vR 54, vI p1, vI p2] h (some (vI r)) h := by
  refine con_of (own := RX5) (fl := flX5) (by decide +kernel) rfl flok_X5 rfl (Nat.le_of_ble_eq_true rfl) ?_
  intro K hK hR
  show K 0 [(0, vR 54), (1, vI p1), (2, vI p2)] [] h
  unfold F_V_reach at hF
  refine g_seg hK [.aload_n 0, .iload_n 1] 0 2 (L1 := [(0, vR 54), (1, vI p1), (2, vI p2)]) (st1 := [vI p1, vR 54]) (h1 := h) (P := True ∧ True ∧ True) (by decide +kernel) rfl rfl ⟨trivial, trivial, trivial⟩ ?_
  refine g_callV1 hK 2 71 (d1 := 1) (ci := 5) (i := 54) (vs := [vI p1]) (rest := []) (h1 := h) (r := vI (F_V_isPlain p1 h)) my_yX5_isPlain vw_X5_71 (by decide) (T_V_isPlain (p1 := p1) (h := h) (hF := rfl)) rfl rfl rfl (Nat.le_of_ble_eq_true rfl) (by decide +kernel) ?_
  refine g_ifz hK 5 .ne (5) 10 (t1 := 8) (t2 := 10) (by decide +kernel) (by decide) rfl rfl (fun (hc1 : F_V_isPlain p1 h = 0) => ?_) (fun (hc1 : ¬ (F_V_isPlain p1 h = 0)) => ?_)
  · have hF := ite_t hc1 hF
    refine g_seg hK [.iconst 0] 8 9 (L1 := [(0, vR 54), (1, vI p1), (2, vI p2)]) (st1 := [vI 0]) (h1 := h) (P := True ∧ True) (by decide +kernel) rfl rfl ⟨trivial, trivial⟩ ?_
    cases hF
    exact hR.1 9 _ _ _ (by decide +kernel) rfl ⟨rfl, rfl⟩
  · have hF := ite_f hc1 hF
    refine g_seg hK [.iload_n 2] 10 11 (L1 := [(0, vR 54), (1, vI p1), (2, vI p2)]) (st1 := [vI p2]) (h1 := h) (P := True ∧ True) (by decide +kernel) rfl rfl ⟨trivial, trivial⟩ ?_
    obtain ⟨s2, e7, hF⟩ := jn1_elim hF
    have j3 : K 19 [(0, vR 54), (1, vI p1), (2, vI p2)] [vI s2] h := by
      refine g_seg hK [.istore_n 3, .iconst 0, .istore 4] 19 23 (L1 := [(4, vI 0), (3, vI s2), (0, vR 54), (1, vI p1), (2, vI p2)]) (st1 := []) (h1 := h) (P := True ∧ True ∧ True ∧ True) (by decide +kernel) rfl rfl ⟨trivial, trivial, trivial, trivial⟩ ?_
      refine hK.2.1 _ _ ([(0, vR 54), (1, vI p1), (2, vI p2), (3, vI s2), (4, vI 0)]) _ _ (sub_of [2, 3, 4, 1, 0] rfl) ?_
      obtain ⟨x4_5, e6, hF⟩ := ob1_elim hF
      refine LT_V_reach_L23 hK _ _ _ e6 ?_
      refine g_seg hK [.iload 4] 66 68 (L1 := [(0, vR 54), (1, vI p1), (2, vI p2), (3, vI s2), (4, vI x4_5)]) (st1 := [vI x4_5]) (h1 := h) (P := True ∧ True) (by decide +kernel) rfl rfl ⟨trivial, trivial⟩ ?_
      cases hF
      exact hR.1 68 _ _ _ (by decide +kernel) rfl ⟨rfl, rfl⟩
    clear hF
    have hF := e7
    refine g_ifz hK 11 .eq (7) 18 (t1 := 18) (t2 := 14) (by decide +kernel) (by decide) rfl rfl (fun (hc4 : p2 = 0) => ?_) (fun (hc4 : ¬ (p2 = 0)) => ?_)
    · have hF := ite_t hc4 hF
      refine g_seg hK [.iconst (-1)] 18 19 (L1 := [(0, vR 54), (1, vI p1), (2, vI p2)]) (st1 := [vI (-1)]) (h1 := h) (P := True ∧ True) (by decide +kernel) rfl rfl ⟨trivial, trivial⟩ ?_
      cases hF
      exact j3
    · have hF := ite_f hc4 hF
      refine g_seg hK [.iconst 1] 14 15 (L1 := [(0, vR 54), (1, vI p1), (2, vI p2)]) (st1 := [vI 1]) (h1 := h) (P := True ∧ True) (by decide +kernel) rfl rfl ⟨trivial, trivial⟩ ?_
      refine g_goto hK 15 (4) 19 (by decide +kernel) (by decide) ?_
      cases hF
      exact j3
set_option maxHeartbeats 4000000 in
set_option maxRecDepth 100000 in
theorem T_V_worthAt {p1 : Int} {p2 : Int} {h : MH} {r : Int} (hF : F_V_worthAt p1 p2 h = r) : CON 1 yX5_worthAt cX5_worthAt 6 (Option.some Jvm.ClassFile.FieldType.int) [vR 54, vI p1, vI p2] h (some (vI r)) h := by
  refine con_of (own := RX5) (fl := flX5) (by decide +kernel) rfl flok_X5 rfl (Nat.le_of_ble_eq_true rfl) ?_
  intro K hK hR
  show K 0 [(0, vR 54), (1, vI p1), (2, vI p2)] [] h
  unfold F_V_worthAt at hF
  refine g_seg hK [.aload_n 0, .getfield 20, .iload_n 1, .iconst 1, .isub] 0 7 (L1 := [(0, vR 54), (1, vI p1), (2, vI p2)]) (st1 := [vI (wr (p1 - 1)), vR 57]) (h1 := h) (P := True ∧ kd 54 = 7 ∧ True ∧ True ∧ True ∧ True) (by decide +kernel) rfl rfl ⟨trivial, rfl, trivial, trivial, trivial, trivial⟩ ?_
  refine g_callV1 hK 7 52 (d1 := 0) (ci := 3) (i := 57) (vs := [vI (wr (p1 - 1))]) (rest := []) (h1 := h) (r := vI (F_Ro_at 57 (wr (p1 - 1)) h)) my_yX3_at vw_X5_52 (by decide) (T_Ro_at (o := 57) (p1 := (wr (p1 - 1))) (h := h) (ko := rfl) (hF := rfl)) rfl rfl rfl (Nat.le_of_ble_eq_true rfl) (by decide +kernel) ?_
  refine g_seg hK [.istore_n 3, .aload_n 0, .getfield 20, .iload_n 2, .iconst 1, .isub] 10 18 (L1 := [(3, vI (F_Ro_at 57 (wr (p1 - 1)) h)), (0, vR 54), (1, vI p1), (2, vI p2)]) (st1 := [vI (wr (p2 - 1)), vR 57]) (h1 := h) (P := True ∧ True ∧ kd 54 = 7 ∧ True ∧ True ∧ True ∧ True) (by decide +kernel) rfl rfl ⟨trivial, trivial, rfl, trivial, trivial, trivial, trivial⟩ ?_
  refine g_callV1 hK 18 52 (d1 := 0) (ci := 3) (i := 57) (vs := [vI (wr (p2 - 1))]) (rest := []) (h1 := h) (r := vI (F_Ro_at 57 (wr (p2 - 1)) h)) my_yX3_at vw_X5_52 (by decide) (T_Ro_at (o := 57) (p1 := (wr (p2 - 1))) (h := h) (ko := rfl) (hF := rfl)) rfl rfl rfl (Nat.le_of_ble_eq_true rfl) (by decide +kernel) ?_
  refine g_seg hK [.istore 4, .iload_n 3, .bipush 6] 21 26 (L1 := [(4, vI (F_Ro_at 57 (wr (p2 - 1)) h)), (3, vI (F_Ro_at 57 (wr (p1 - 1)) h)), (0, vR 54), (1, vI p1), (2, vI p2)]) (st1 := [vI 6, vI (F_Ro_at 57 (wr (p1 - 1)) h)]) (h1 := h) (P := True ∧ True ∧ True ∧ True) (by decide +kernel) rfl rfl ⟨trivial, trivial, trivial, trivial⟩ ?_
  obtain ⟨kj4, e14, hF⟩ := jk1_elim hF
  have j4 : ∀ (s3 : Int), kj4 s3 = r → K 39 [(0, vR 54), (1, vI p1), (4, vI (F_Ro_at 57 (wr (p2 - 1)) h))] [vI s3] h := by
    intro s3 hF
    have hF := (e14 s3).symm.trans hF
    refine g_seg hK [.istore 5, .iload 5, .iload 4, .bipush 6] 39 47 (L1 := [(5, vI s3), (0, vR 54), (1, vI p1), (4, vI (F_Ro_at 57 (wr (p2 - 1)) h))]) (st1 := [vI 6, vI (F_Ro_at 57 (wr (p2 - 1)) h), vI s3]) (h1 := h) (P := True ∧ True ∧ True ∧ True ∧ True) (by decide +kernel) rfl rfl ⟨trivial, trivial, trivial, trivial, trivial⟩ ?_
    obtain ⟨s5, e13, hF⟩ := jn1_elim hF
    have j6 : K 55 [(0, vR 54), (1, vI p1), (4, vI (F_Ro_at 57 (wr (p2 - 1)) h))] [vI s5, vI s3] h := by
      refine g_seg hK [.iadd, .istore 5, .iload 5, .aload_n 0, .getfield 20, .iload_n 1] 55 65 (L1 := [(5, vI (wr (s3 + s5))), (0, vR 54), (1, vI p1), (4, vI (F_Ro_at 57 (wr (p2 - 1)) h))]) (st1 := [vI p1, vR 57, vI (wr (s3 + s5))]) (h1 := h) (P := True ∧ True ∧ True ∧ True ∧ kd 54 = 7 ∧ True ∧ True) (by decide +kernel) rfl rfl ⟨trivial, trivial, trivial, trivial, rfl, trivial, trivial⟩ ?_
      refine g_callV1 hK 65 52 (d1 := 0) (ci := 3) (i := 57) (vs := [vI p1]) (rest := [vI (wr (s3 + s5))]) (h1 := h) (r := vI (F_Ro_at 57 p1 h)) my_yX3_at vw_X5_52 (by decide) (T_Ro_at (o := 57) (p1 := p1) (h := h) (ko := rfl) (hF := rfl)) rfl rfl rfl (Nat.le_of_ble_eq_true rfl) (by decide +kernel) ?_
      refine g_seg hK [.bipush 7] 68 70 (L1 := [(5, vI (wr (s3 + s5))), (0, vR 54), (1, vI p1), (4, vI (F_Ro_at 57 (wr (p2 - 1)) h))]) (st1 := [vI 7, vI (F_Ro_at 57 p1 h), vI (wr (s3 + s5))]) (h1 := h) (P := True ∧ True) (by decide +kernel) rfl rfl ⟨trivial, trivial⟩ ?_
      obtain ⟨s8, e12, hF⟩ := jn1_elim hF
      have j9 : K 78 [(4, vI (F_Ro_at 57 (wr (p2 - 1)) h))] [vI s8, vI (wr (s3 + s5))] h := by
        refine g_seg hK [.iadd, .istore 5, .iload 5, .iload 4, .bipush 8] 78 87 (L1 := [(5, vI (wr ((wr (s3 + s5)) + s8))), (4, vI (F_Ro_at 57 (wr (p2 - 1)) h))]) (st1 := [vI 8, vI (F_Ro_at 57 (wr (p2 - 1)) h), vI (wr ((wr (s3 + s5)) + s8))]) (h1 := h) (P := True ∧ True ∧ True ∧ True ∧ True ∧ True) (by decide +kernel) rfl rfl ⟨trivial, trivial, trivial, trivial, trivial, trivial⟩ ?_
        refine g_icmp hK 87 .ne (7) 94 (t1 := 90) (t2 := 94) (by decide +kernel) (by decide) rfl rfl (fun (hc11 : F_Ro_at 57 (wr (p2 - 1)) h = 8) => ?_) (fun (hc11 : ¬ (F_Ro_at 57 (wr (p2 - 1)) h = 8)) => ?_)
        · have hF := ite_t hc11 hF
          refine g_seg hK [.iconst 3] 90 91 (L1 := [(5, vI (wr ((wr (s3 + s5)) + s8))), (4, vI (F_Ro_at 57 (wr (p2 - 1)) h))]) (st1 := [vI 3, vI (wr ((wr (s3 + s5)) + s8))]) (h1 := h) (P := True ∧ True) (by decide +kernel) rfl rfl ⟨trivial, trivial⟩ ?_
          refine g_goto hK 91 (4) 95 (by decide +kernel) (by decide) ?_
          refine g_seg hK [.iadd, .istore 5, .iload 5] 95 100 (L1 := [(5, vI (wr ((wr ((wr (s3 + s5)) + s8)) + 3))), (4, vI (F_Ro_at 57 (wr (p2 - 1)) h))]) (st1 := [vI (wr ((wr ((wr (s3 + s5)) + s8)) + 3))]) (h1 := h) (P := True ∧ True ∧ True ∧ True) (by decide +kernel) rfl rfl ⟨trivial, trivial, trivial, trivial⟩ ?_
          cases hF
          exact hR.1 100 _ _ _ (by decide +kernel) rfl ⟨rfl, rfl⟩
        · have hF := ite_f hc11 hF
          refine g_seg hK [.iconst 0, .iadd, .istore 5, .iload 5] 94 100 (L1 := [(5, vI (wr ((wr ((wr (s3 + s5)) + s8)) + 0))), (4, vI (F_Ro_at 57 (wr (p2 - 1)) h))]) (st1 := [vI (wr ((wr ((wr (s3 + s5)) + s8)) + 0))]) (h1 := h) (P := True ∧ True ∧ True ∧ True ∧ True) (by decide +kernel) rfl rfl ⟨trivial, trivial, trivial, trivial, trivial⟩ ?_
          cases hF
          exact hR.1 100 _ _ _ (by decide +kernel) rfl ⟨rfl, rfl⟩
      clear hF
      have hF := e12
      refine g_icmp hK 70 .ne (7) 77 (t1 := 73) (t2 := 77) (by decide +kernel) (by decide) rfl rfl (fun (hc10 : F_Ro_at 57 p1 h = 7) => ?_) (fun (hc10 : ¬ (F_Ro_at 57 p1 h = 7)) => ?_)
      · have hF := ite_t hc10 hF
        refine g_seg hK [.iconst 1] 73 74 (L1 := [(5, vI (wr (s3 + s5))), (0, vR 54), (1, vI p1), (4, vI (F_Ro_at 57 (wr (p2 - 1)) h))]) (st1 := [vI 1, vI (wr (s3 + s5))]) (h1 := h) (P := True ∧ True) (by decide +kernel) rfl rfl ⟨trivial, trivial⟩ ?_
        refine g_goto hK 74 (4) 78 (by decide +kernel) (by decide) ?_
        refine hK.2.1 _ _ ([(4, vI (F_Ro_at 57 (wr (p2 - 1)) h))]) _ _ (sub_of [3] rfl) ?_
        cases hF
        exact j9
      · have hF := ite_f hc10 hF
        refine g_seg hK [.iconst 0] 77 78 (L1 := [(5, vI (wr (s3 + s5))), (0, vR 54), (1, vI p1), (4, vI (F_Ro_at 57 (wr (p2 - 1)) h))]) (st1 := [vI 0, vI (wr (s3 + s5))]) (h1 := h) (P := True ∧ True) (by decide +kernel) rfl rfl ⟨trivial, trivial⟩ ?_
        refine hK.2.1 _ _ ([(4, vI (F_Ro_at 57 (wr (p2 - 1)) h))]) _ _ (sub_of [3] rfl) ?_
        cases hF
        exact j9
    clear hF
    have hF := e13
    refine g_icmp hK 47 .ne (7) 54 (t1 := 50) (t2 := 54) (by decide +kernel) (by decide) rfl rfl (fun (hc7 : F_Ro_at 57 (wr (p2 - 1)) h = 6) => ?_) (fun (hc7 : ¬ (F_Ro_at 57 (wr (p2 - 1)) h = 6)) => ?_)
    · have hF := ite_t hc7 hF
      refine g_seg hK [.iconst 2] 50 51 (L1 := [(5, vI s3), (0, vR 54), (1, vI p1), (4, vI (F_Ro_at 57 (wr (p2 - 1)) h))]) (st1 := [vI 2, vI s3]) (h1 := h) (P := True ∧ True) (by decide +kernel) rfl rfl ⟨trivial, trivial⟩ ?_
      refine g_goto hK 51 (4) 55 (by decide +kernel) (by decide) ?_
      refine hK.2.1 _ _ ([(0, vR 54), (1, vI p1), (4, vI (F_Ro_at 57 (wr (p2 - 1)) h))]) _ _ (sub_of [1, 2, 3] rfl) ?_
      cases hF
      exact j6
    · have hF := ite_f hc7 hF
      refine g_seg hK [.iconst 0] 54 55 (L1 := [(5, vI s3), (0, vR 54), (1, vI p1), (4, vI (F_Ro_at 57 (wr (p2 - 1)) h))]) (st1 := [vI 0, vI s3]) (h1 := h) (P := True ∧ True) (by decide +kernel) rfl rfl ⟨trivial, trivial⟩ ?_
      refine hK.2.1 _ _ ([(0, vR 54), (1, vI p1), (4, vI (F_Ro_at 57 (wr (p2 - 1)) h))]) _ _ (sub_of [1, 2, 3] rfl) ?_
      cases hF
      exact j6
  obtain ⟨kj2, e15, hF⟩ := jk1_elim hF
  have j2 : ∀ (u1 : Unit), kj2 u1 = r → K 34 [(0, vR 54), (1, vI p1), (4, vI (F_Ro_at 57 (wr (p2 - 1)) h))] [] h := by
    intro u1 hF
    have hF := (e15 u1).symm.trans hF
    refine g_seg hK [.iconst 4] 34 35 (L1 := [(0, vR 54), (1, vI p1), (4, vI (F_Ro_at 57 (wr (p2 - 1)) h))]) (st1 := [vI 4]) (h1 := h) (P := True ∧ True) (by decide +kernel) rfl rfl ⟨trivial, trivial⟩ ?_
    refine g_goto hK 35 (4) 39 (by decide +kernel) (by decide) ?_
    exact j4 _ hF
  refine g_icmp hK 26 .eq (8) 34 (t1 := 34) (t2 := 29) (by decide +kernel) (by decide) rfl rfl (fun (hc16 : F_Ro_at 57 (wr (p1 - 1)) h = 6) => ?_) (fun (hc16 : ¬ (F_Ro_at 57 (wr (p1 - 1)) h = 6)) => ?_)
  · have hF := ite_t hc16 hF
    refine hK.2.1 _ _ ([(0, vR 54), (1, vI p1), (4, vI (F_Ro_at 57 (wr (p2 - 1)) h))]) _ _ (sub_of [2, 3, 0] rfl) ?_
    exact j2 _ hF
  · have hF := ite_f hc16 hF
    refine g_seg hK [.iload_n 3, .iconst (-1)] 29 31 (L1 := [(4, vI (F_Ro_at 57 (wr (p2 - 1)) h)), (3, vI (F_Ro_at 57 (wr (p1 - 1)) h)), (0, vR 54), (1, vI p1), (2, vI p2)]) (st1 := [vI (-1), vI (F_Ro_at 57 (wr (p1 - 1)) h)]) (h1 := h) (P := True ∧ True ∧ True) (by decide +kernel) rfl rfl ⟨trivial, trivial, trivial⟩ ?_
    refine g_icmp hK 31 .ne (7) 38 (t1 := 34) (t2 := 38) (by decide +kernel) (by decide) rfl rfl (fun (hc17 : F_Ro_at 57 (wr (p1 - 1)) h = (-1)) => ?_) (fun (hc17 : ¬ (F_Ro_at 57 (wr (p1 - 1)) h = (-1))) => ?_)
    · have hF := ite_t hc17 hF
      refine hK.2.1 _ _ ([(0, vR 54), (1, vI p1), (4, vI (F_Ro_at 57 (wr (p2 - 1)) h))]) _ _ (sub_of [2, 3, 0] rfl) ?_
      exact j2 _ hF
    · have hF := ite_f hc17 hF
      refine g_seg hK [.iconst 0] 38 39 (L1 := [(4, vI (F_Ro_at 57 (wr (p2 - 1)) h)), (3, vI (F_Ro_at 57 (wr (p1 - 1)) h)), (0, vR 54), (1, vI p1), (2, vI p2)]) (st1 := [vI 0]) (h1 := h) (P := True ∧ True) (by decide +kernel) rfl rfl ⟨trivial, trivial⟩ ?_
      refine hK.2.1 _ _ ([(0, vR 54), (1, vI p1), (4, vI (F_Ro_at 57 (wr (p2 - 1)) h))]) _ _ (sub_of [2, 3, 0] rfl) ?_
      exact j4 _ hF
set_option maxHeartbeats 4000000 in
set_option maxRecDepth 100000 in
theorem LT_V_bestTop_L45 {K : KT} (hK : Rules RX5 cX5_bestTop 6 (Option.some Jvm.ClassFile.FieldType.int) flX5 3 K) {x2 : Int} {x3 : Int} {h : MH} : ∀ (n : Nat) (x4 : Int) (x5 : Int) (x4' : Int) (x5' : Int), F_V_bestTop_L45 x2 x3 h n x4 x5 = some (x4', x5') → K 84 [(0, vR 54), (2, vI x2), (3, vI x3), (4, vI x4'), (5, vI x5')] [] h → K 45 [(0, vR 54), (2, vI x2), (3, vI x3), (4, vI x4), (5, vI x5)] [] h := by
  intro n
  induction n with
  | zero =>
    intro x4 x5 x4' x5' hF
    cases hF
  | succ n ih =>
    intro x4 x5 x4' x5' hF hE
    unfold F_V_bestTop_L45 at hF
    refine g_seg hK [.iload 5, .iload_n 3] 45 48 (L1 := [(0, vR 54), (2, vI x2), (3, vI x3), (4, vI x4), (5, vI x5)]) (st1 := [vI x3, vI x5]) (h1 := h) (P := True ∧ True ∧ True) (by decide +kernel) rfl rfl ⟨trivial, trivial, trivial⟩ ?_
    refine g_icmp hK 48 .gt (36) 84 (t1 := 51) (t2 := 84) (by decide +kernel) (by decide) rfl rfl (fun (hc1 : x5 ≤ x3) => ?_) (fun (hc1 : ¬ (x5 ≤ x3)) => ?_)
    · have hF := ite_t hc1 hF
      refine g_seg hK [.aload_n 0, .iload 5, .iload 5, .iload_n 2, .iadd] 51 58 (L1 := [(0, vR 54), (2, vI x2), (3, vI x3), (4, vI x4), (5, vI x5)]) (st1 := [vI (wr (x5 + x2)), vI x5, vR 54]) (h1 := h) (P := True ∧ True ∧ True ∧ True ∧ True ∧ True) (by decide +kernel) rfl rfl ⟨trivial, trivial, trivial, trivial, trivial, trivial⟩ ?_
      refine g_callV1 hK 58 94 (d1 := 1) (ci := 5) (i := 54) (vs := [vI x5, vI (wr (x5 + x2))]) (rest := []) (h1 := h) (r := vI (F_V_worthAt x5 (wr (x5 + x2)) h)) my_yX5_worthAt vw_X5_94 (by decide) (T_V_worthAt (p1 := x5) (p2 := (wr (x5 + x2))) (h := h) (hF := rfl)) rfl rfl rfl (Nat.le_of_ble_eq_true rfl) (by decide +kernel) ?_
      refine g_seg hK [.aload_n 0, .iload 4, .iload 4, .iload_n 2, .iadd] 61 68 (L1 := [(0, vR 54), (2, vI x2), (3, vI x3), (4, vI x4), (5, vI x5)]) (st1 := [vI (wr (x4 + x2)), vI x4, vR 54, vI (F_V_worthAt x5 (wr (x5 + x2)) h)]) (h1 := h) (P := True ∧ True ∧ True ∧ True ∧ True ∧ True) (by decide +kernel) rfl rfl ⟨trivial, trivial, trivial, trivial, trivial, trivial⟩ ?_
      refine g_callV1 hK 68 94 (d1 := 1) (ci := 5) (i := 54) (vs := [vI x4, vI (wr (x4 + x2))]) (rest := [vI (F_V_worthAt x5 (wr (x5 + x2)) h)]) (h1 := h) (r := vI (F_V_worthAt x4 (wr (x4 + x2)) h)) my_yX5_worthAt vw_X5_94 (by decide) (T_V_worthAt (p1 := x4) (p2 := (wr (x4 + x2))) (h := h) (hF := rfl)) rfl rfl rfl (Nat.le_of_ble_eq_true rfl) (by decide +kernel) ?_
      obtain ⟨x4_2, e5, hF⟩ := jn1_elim hF
      have j3 : K 78 [(0, vR 54), (2, vI x2), (3, vI x3), (4, vI x4_2), (5, vI x5)] [] h := by
        refine g_seg hK [.iinc 5 1] 78 81 (L1 := [(5, vI (wr (x5 + 1))), (0, vR 54), (2, vI x2), (3, vI x3), (4, vI x4_2)]) (st1 := []) (h1 := h) (P := True ∧ True) (by decide +kernel) rfl rfl ⟨trivial, trivial⟩ ?_
        refine g_goto hK 81 (-36) 45 (by decide +kernel) (by decide) ?_
        refine hK.2.1 _ _ ([(0, vR 54), (2, vI x2), (3, vI x3), (4, vI x4_2), (5, vI (wr (x5 + 1)))]) _ _ (sub_of [1, 2, 3, 4, 0] rfl) ?_
        exact ih _ _ _ _ hF hE
      clear hF
      have hF := e5
      refine g_icmp hK 71 .lt (7) 78 (t1 := 78) (t2 := 74) (by decide +kernel) (by decide) rfl rfl (fun (hc4 : F_V_worthAt x5 (wr (x5 + x2)) h < F_V_worthAt x4 (wr (x4 + x2)) h) => ?_) (fun (hc4 : ¬ (F_V_worthAt x5 (wr (x5 + x2)) h < F_V_worthAt x4 (wr (x4 + x2)) h)) => ?_)
      · have hF := ite_t hc4 hF
        cases hF
        exact j3
      · have hF := ite_f hc4 hF
        refine g_seg hK [.iload 5, .istore 4] 74 78 (L1 := [(4, vI x5), (0, vR 54), (2, vI x2), (3, vI x3), (5, vI x5)]) (st1 := []) (h1 := h) (P := True ∧ True ∧ True) (by decide +kernel) rfl rfl ⟨trivial, trivial, trivial⟩ ?_
        refine hK.2.1 _ _ ([(0, vR 54), (2, vI x2), (3, vI x3), (4, vI x5), (5, vI x5)]) _ _ (sub_of [1, 2, 3, 0, 4] rfl) ?_
        cases hF
        exact j3
    · have hF := ite_f hc1 hF
      cases hF
      exact hE
set_option maxHeartbeats 4000000 in
set_option maxRecDepth 100000 in
theorem T_V_bestTop {p1 : Int} {h : MH} {r : Int} (hF : F_V_bestTop p1 h = some r) : CON 3 yX5_bestTop cX5_bestTop 6 (Option.some Jvm.ClassFile.FieldType.int) [vR 54, vI p1] h (some (vI r)) h := by
  refine con_of (own := RX5) (fl := flX5) (by decide +kernel) rfl flok_X5 rfl (Nat.le_of_ble_eq_true rfl) ?_
  intro K hK hR
  show K 0 [(0, vR 54), (1, vI p1)] [] h
  unfold F_V_bestTop at hF
  refine g_seg hK [.aload_n 0, .iload_n 1] 0 2 (L1 := [(0, vR 54), (1, vI p1)]) (st1 := [vI p1, vR 54]) (h1 := h) (P := True ∧ True ∧ True) (by decide +kernel) rfl rfl ⟨trivial, trivial, trivial⟩ ?_
  refine g_callV1 hK 2 84 (d1 := 1) (ci := 5) (i := 54) (vs := [vI p1]) (rest := []) (h1 := h) (r := vI (F_V_end p1 h)) my_yX5_end vw_X5_84 (by decide) (T_V_end (p1 := p1) (h := h) (hF := rfl)) rfl rfl rfl (Nat.le_of_ble_eq_true rfl) (by decide +kernel) ?_
  refine g_seg hK [.aload_n 0, .iload_n 1] 5 7 (L1 := [(0, vR 54), (1, vI p1)]) (st1 := [vI p1, vR 54, vI (F_V_end p1 h)]) (h1 := h) (P := True ∧ True ∧ True) (by decide +kernel) rfl rfl ⟨trivial, trivial, trivial⟩ ?_
  refine g_callV1 hK 7 81 (d1 := 1) (ci := 5) (i := 54) (vs := [vI p1]) (rest := [vI (F_V_end p1 h)]) (h1 := h) (r := vI (F_V_top p1 h)) my_yX5_top vw_X5_81 (by decide) (T_V_top (p1 := p1) (h := h) (hF := rfl)) rfl rfl rfl (Nat.le_of_ble_eq_true rfl) (by decide +kernel) ?_
  refine g_seg hK [.isub, .istore_n 2, .aload_n 0, .iload_n 1] 10 14 (L1 := [(2, vI (wr ((F_V_end p1 h) - (F_V_top p1 h)))), (0, vR 54), (1, vI p1)]) (st1 := [vI p1, vR 54]) (h1 := h) (P := True ∧ True ∧ True ∧ True ∧ True) (by decide +kernel) rfl rfl ⟨trivial, trivial, trivial, trivial, trivial⟩ ?_
  refine g_callV1 hK 14 81 (d1 := 1) (ci := 5) (i := 54) (vs := [vI p1]) (rest := []) (h1 := h) (r := vI (F_V_top p1 h)) my_yX5_top vw_X5_81 (by decide) (T_V_top (p1 := p1) (h := h) (hF := rfl)) rfl rfl rfl (Nat.le_of_ble_eq_true rfl) (by decide +kernel) ?_
  refine g_seg hK [.aload_n 0, .iload_n 1, .iconst 1] 17 20 (L1 := [(2, vI (wr ((F_V_end p1 h) - (F_V_top p1 h)))), (0, vR 54), (1, vI p1)]) (st1 := [vI 1, vI p1, vR 54, vI (F_V_top p1 h)]) (h1 := h) (P := True ∧ True ∧ True ∧ True) (by decide +kernel) rfl rfl ⟨trivial, trivial, trivial, trivial⟩ ?_
  obtain ⟨r1, e2, hF⟩ := ob1_elim hF
  refine g_callV1 hK 20 90 (d1 := 2) (ci := 5) (i := 54) (vs := [vI p1, vI 1]) (rest := [vI (F_V_top p1 h)]) (h1 := h) (r := vI r1) my_yX5_reach vw_X5_90 (by decide) (T_V_reach (p1 := p1) (p2 := 1) (h := h) (hF := e2)) rfl rfl rfl (Nat.le_of_ble_eq_true rfl) (by decide +kernel) ?_
  refine g_seg hK [.iadd, .istore_n 3, .aload_n 0, .iload_n 1] 23 27 (L1 := [(3, vI (wr ((F_V_top p1 h) + r1))), (2, vI (wr ((F_V_end p1 h) - (F_V_top p1 h)))), (0, vR 54), (1, vI p1)]) (st1 := [vI p1, vR 54]) (h1 := h) (P := True ∧ True ∧ True ∧ True ∧ True) (by decide +kernel) rfl rfl ⟨trivial, trivial, trivial, trivial, trivial⟩ ?_
  refine g_callV1 hK 27 81 (d1 := 1) (ci := 5) (i := 54) (vs := [vI p1]) (rest := []) (h1 := h) (r := vI (F_V_top p1 h)) my_yX5_top vw_X5_81 (by decide) (T_V_top (p1 := p1) (h := h) (hF := rfl)) rfl rfl rfl (Nat.le_of_ble_eq_true rfl) (by decide +kernel) ?_
  refine g_seg hK [.aload_n 0, .iload_n 1, .iconst 0] 30 33 (L1 := [(3, vI (wr ((F_V_top p1 h) + r1))), (2, vI (wr ((F_V_end p1 h) - (F_V_top p1 h)))), (0, vR 54), (1, vI p1)]) (st1 := [vI 0, vI p1, vR 54, vI (F_V_top p1 h)]) (h1 := h) (P := True ∧ True ∧ True ∧ True) (by decide +kernel) rfl rfl ⟨trivial, trivial, trivial, trivial⟩ ?_
  obtain ⟨r3, e4, hF⟩ := ob1_elim hF
  refine g_callV1 hK 33 90 (d1 := 2) (ci := 5) (i := 54) (vs := [vI p1, vI 0]) (rest := [vI (F_V_top p1 h)]) (h1 := h) (r := vI r3) my_yX5_reach vw_X5_90 (by decide) (T_V_reach (p1 := p1) (p2 := 0) (h := h) (hF := e4)) rfl rfl rfl (Nat.le_of_ble_eq_true rfl) (by decide +kernel) ?_
  refine g_seg hK [.isub, .istore 4, .iload 4, .iconst 1, .iadd, .istore 5] 36 45 (L1 := [(5, vI (wr ((wr ((F_V_top p1 h) - r3)) + 1))), (4, vI (wr ((F_V_top p1 h) - r3))), (3, vI (wr ((F_V_top p1 h) + r1))), (2, vI (wr ((F_V_end p1 h) - (F_V_top p1 h)))), (0, vR 54), (1, vI p1)]) (st1 := []) (h1 := h) (P := True ∧ True ∧ True ∧ True ∧ True ∧ True ∧ True) (by decide +kernel) rfl rfl ⟨trivial, trivial, trivial, trivial, trivial, trivial, trivial⟩ ?_
  refine hK.2.1 _ _ ([(0, vR 54), (2, vI (wr ((F_V_end p1 h) - (F_V_top p1 h)))), (3, vI (wr ((F_V_top p1 h) + r1))), (4, vI (wr ((F_V_top p1 h) - r3))), (5, vI (wr ((wr ((F_V_top p1 h) - r3)) + 1)))]) _ _ (sub_of [4, 3, 2, 1, 0] rfl) ?_
  obtain ⟨x4_5, x5_6, e7, hF⟩ := ob2_elim hF
  refine LT_V_bestTop_L45 hK _ _ _ _ _ e7 ?_
  refine g_seg hK [.iload 4] 84 86 (L1 := [(0, vR 54), (2, vI (wr ((F_V_end p1 h) - (F_V_top p1 h)))), (3, vI (wr ((F_V_top p1 h) + r1))), (4, vI x4_5), (5, vI x5_6)]) (st1 := [vI x4_5]) (h1 := h) (P := True ∧ True) (by decide +kernel) rfl rfl ⟨trivial, trivial⟩ ?_
  cases hF
  exact hR.1 86 _ _ _ (by decide +kernel) rfl ⟨rfl, rfl⟩
set_option maxHeartbeats 4000000 in
set_option maxRecDepth 100000 in
theorem LT_V_moveTo_L35 {K : KT} (hK : Rules RX5 cX5_moveTo 6 none flX5 2 K) {x1 : Int} {x2 : Int} {x3 : Int} {x4 : Int} : ∀ (n : Nat) (x5 : Int) (h : MH) (x5' : Int) (h' : MH), F_V_moveTo_L35 x1 x2 x3 x4 n x5 h = some (x5', h') → K 61 [(0, vR 54), (1, vI x1), (2, vI x2), (3, vI x3), (4, vI x4), (5, vI x5')] [] h' → K 35 [(0, vR 54), (1, vI x1), (2, vI x2), (3, vI x3), (4, vI x4), (5, vI x5)] [] h := by
  intro n
  induction n with
  | zero =>
    intro x5 h x5' h' hF
    cases hF
  | succ n ih =>
    intro x5 h x5' h' hF hE
    unfold F_V_moveTo_L35 at hF
    refine g_seg hK [.iload 5, .aload_n 0, .iload_n 1] 35 39 (L1 := [(0, vR 54), (1, vI x1), (2, vI x2), (3, vI x3), (4, vI x4), (5, vI x5)]) (st1 := [vI x1, vR 54, vI x5]) (h1 := h) (P := True ∧ True ∧ True ∧ True) (by decide +kernel) rfl rfl ⟨trivial, trivial, trivial, trivial⟩ ?_
    refine g_callV1 hK 39 84 (d1 := 1) (ci := 5) (i := 54) (vs := [vI x1]) (rest := [vI x5]) (h1 := h) (r := vI (F_V_end x1 h)) my_yX5_end vw_X5_84 (by decide) (T_V_end (p1 := x1) (h := h) (hF := rfl)) rfl rfl rfl (Nat.le_of_ble_eq_true rfl) (by decide +kernel) ?_
    refine g_icmp hK 42 .ge (19) 61 (t1 := 45) (t2 := 61) (by decide +kernel) (by decide) rfl rfl (fun (hc1 : x5 < F_V_end x1 h) => ?_) (fun (hc1 : ¬ (x5 < F_V_end x1 h)) => ?_)
    · have hF := ite_t hc1 hF
      refine g_seg hK [.aload_n 0, .getfield 14, .iload 5, .iconst 0] 45 52 (L1 := [(0, vR 54), (1, vI x1), (2, vI x2), (3, vI x3), (4, vI x4), (5, vI x5)]) (st1 := [vI 0, vI x5, vR 55]) (h1 := h) (P := True ∧ kd 54 = 7 ∧ True ∧ True ∧ True) (by decide +kernel) rfl rfl ⟨trivial, rfl, trivial, trivial, trivial⟩ ?_
      refine g_callV0 hK 52 87 (d1 := 0) (ci := 3) (i := 55) (vs := [vI x5, vI 0]) (rest := []) (h1 := (F_Ro_change 55 x5 0 h)) my_yX3_change vw_X5_87 (by decide) (T_Ro_change (o := 55) (p1 := x5) (p2 := 0) (h := h) (ko := rfl) (hF := rfl)) rfl rfl rfl (Nat.le_of_ble_eq_true rfl) (by decide +kernel) ?_
      refine g_seg hK [.iinc 5 1] 55 58 (L1 := [(5, vI (wr (x5 + 1))), (0, vR 54), (1, vI x1), (2, vI x2), (3, vI x3), (4, vI x4)]) (st1 := []) (h1 := (F_Ro_change 55 x5 0 h)) (P := True ∧ True) (by decide +kernel) rfl rfl ⟨trivial, trivial⟩ ?_
      refine g_goto hK 58 (-23) 35 (by decide +kernel) (by decide) ?_
      refine hK.2.1 _ _ ([(0, vR 54), (1, vI x1), (2, vI x2), (3, vI x3), (4, vI x4), (5, vI (wr (x5 + 1)))]) _ _ (sub_of [1, 2, 3, 4, 5, 0] rfl) ?_
      exact ih _ _ _ _ hF hE
    · have hF := ite_f hc1 hF
      cases hF
      exact hE
set_option maxHeartbeats 4000000 in
set_option maxRecDepth 100000 in
theorem LT_V_moveTo_L64 {K : KT} (hK : Rules RX5 cX5_moveTo 6 none flX5 2 K) {x1 : Int} {x2 : Int} {x3 : Int} {x4 : Int} : ∀ (n : Nat) (x5 : Int) (h : MH) (x5' : Int) (h' : MH), F_V_moveTo_L64 x1 x2 x3 x4 n x5 h = some (x5', h') → K 87 [(0, vR 54), (1, vI x1), (2, vI x2), (3, vI x3), (4, vI x4), (5, vI x5')] [] h' → K 64 [(0, vR 54), (1, vI x1), (2, vI x2), (3, vI x3), (4, vI x4), (5, vI x5)] [] h := by
  intro n
  induction n with
  | zero =>
    intro x5 h x5' h' hF
    cases hF
  | succ n ih =>
    intro x5 h x5' h' hF hE
    unfold F_V_moveTo_L64 at hF
    refine g_seg hK [.iload 5, .iload 4] 64 68 (L1 := [(0, vR 54), (1, vI x1), (2, vI x2), (3, vI x3), (4, vI x4), (5, vI x5)]) (st1 := [vI x4, vI x5]) (h1 := h) (P := True ∧ True ∧ True) (by decide +kernel) rfl rfl ⟨trivial, trivial, trivial⟩ ?_
    refine g_icmp hK 68 .ge (19) 87 (t1 := 71) (t2 := 87) (by decide +kernel) (by decide) rfl rfl (fun (hc1 : x5 < x4) => ?_) (fun (hc1 : ¬ (x5 < x4)) => ?_)
    · have hF := ite_t hc1 hF
      refine g_seg hK [.aload_n 0, .getfield 14, .iload 5, .iload_n 3] 71 78 (L1 := [(0, vR 54), (1, vI x1), (2, vI x2), (3, vI x3), (4, vI x4), (5, vI x5)]) (st1 := [vI x3, vI x5, vR 55]) (h1 := h) (P := True ∧ kd 54 = 7 ∧ True ∧ True ∧ True) (by decide +kernel) rfl rfl ⟨trivial, rfl, trivial, trivial, trivial⟩ ?_
      refine g_callV0 hK 78 87 (d1 := 0) (ci := 3) (i := 55) (vs := [vI x5, vI x3]) (rest := []) (h1 := (F_Ro_change 55 x5 x3 h)) my_yX3_change vw_X5_87 (by decide) (T_Ro_change (o := 55) (p1 := x5) (p2 := x3) (h := h) (ko := rfl) (hF := rfl)) rfl rfl rfl (Nat.le_of_ble_eq_true rfl) (by decide +kernel) ?_
      refine g_seg hK [.iinc 5 1] 81 84 (L1 := [(5, vI (wr (x5 + 1))), (0, vR 54), (1, vI x1), (2, vI x2), (3, vI x3), (4, vI x4)]) (st1 := []) (h1 := (F_Ro_change 55 x5 x3 h)) (P := True ∧ True) (by decide +kernel) rfl rfl ⟨trivial, trivial⟩ ?_
      refine g_goto hK 84 (-20) 64 (by decide +kernel) (by decide) ?_
      refine hK.2.1 _ _ ([(0, vR 54), (1, vI x1), (2, vI x2), (3, vI x3), (4, vI x4), (5, vI (wr (x5 + 1)))]) _ _ (sub_of [1, 2, 3, 4, 5, 0] rfl) ?_
      exact ih _ _ _ _ hF hE
    · have hF := ite_f hc1 hF
      cases hF
      exact hE
set_option maxHeartbeats 4000000 in
set_option maxRecDepth 100000 in
theorem T_V_moveTo {p1 : Int} {p2 : Int} {h : MH} {h' : MH} (hF : F_V_moveTo p1 p2 h = some h') : CON 2 yX5_moveTo cX5_moveTo 6 none [vR 54, vI p1, vI p2] h none h' := by
  refine con_of (own := RX5) (fl := flX5) (by decide +kernel) rfl flok_X5 rfl (Nat.le_of_ble_eq_true rfl) ?_
  intro K hK hR
  show K 0 [(0, vR 54), (1, vI p1), (2, vI p2)] [] h
  unfold F_V_moveTo at hF
  refine g_seg hK [.aload_n 0, .getfield 14, .aload_n 0, .iload_n 1] 0 6 (L1 := [(0, vR 54), (1, vI p1), (2, vI p2)]) (st1 := [vI p1, vR 54, vR 55]) (h1 := h) (P := True ∧ kd 54 = 7 ∧ True ∧ True ∧ True) (by decide +kernel) rfl rfl ⟨trivial, rfl, trivial, trivial, trivial⟩ ?_
  refine g_callV1 hK 6 81 (d1 := 1) (ci := 5) (i := 54) (vs := [vI p1]) (rest := [vR 55]) (h1 := h) (r := vI (F_V_top p1 h)) my_yX5_top vw_X5_81 (by decide) (T_V_top (p1 := p1) (h := h) (hF := rfl)) rfl rfl rfl (Nat.le_of_ble_eq_true rfl) (by decide +kernel) ?_
  refine g_callV1 hK 9 52 (d1 := 0) (ci := 3) (i := 55) (vs := [vI (F_V_top p1 h)]) (rest := []) (h1 := h) (r := vI (F_Ro_at 55 (F_V_top p1 h) h)) my_yX3_at vw_X5_52 (by decide) (T_Ro_at (o := 55) (p1 := (F_V_top p1 h)) (h := h) (ko := rfl) (hF := rfl)) rfl rfl rfl (Nat.le_of_ble_eq_true rfl) (by decide +kernel) ?_
  refine g_seg hK [.istore_n 3, .iload_n 2, .aload_n 0, .iload_n 1] 12 16 (L1 := [(3, vI (F_Ro_at 55 (F_V_top p1 h) h)), (0, vR 54), (1, vI p1), (2, vI p2)]) (st1 := [vI p1, vR 54, vI p2]) (h1 := h) (P := True ∧ True ∧ True ∧ True ∧ True) (by decide +kernel) rfl rfl ⟨trivial, trivial, trivial, trivial, trivial⟩ ?_
  refine g_callV1 hK 16 84 (d1 := 1) (ci := 5) (i := 54) (vs := [vI p1]) (rest := [vI p2]) (h1 := h) (r := vI (F_V_end p1 h)) my_yX5_end vw_X5_84 (by decide) (T_V_end (p1 := p1) (h := h) (hF := rfl)) rfl rfl rfl (Nat.le_of_ble_eq_true rfl) (by decide +kernel) ?_
  refine g_seg hK [.iadd, .aload_n 0, .iload_n 1] 19 22 (L1 := [(3, vI (F_Ro_at 55 (F_V_top p1 h) h)), (0, vR 54), (1, vI p1), (2, vI p2)]) (st1 := [vI p1, vR 54, vI (wr (p2 + (F_V_end p1 h)))]) (h1 := h) (P := True ∧ True ∧ True ∧ True) (by decide +kernel) rfl rfl ⟨trivial, trivial, trivial, trivial⟩ ?_
  refine g_callV1 hK 22 81 (d1 := 1) (ci := 5) (i := 54) (vs := [vI p1]) (rest := [vI (wr (p2 + (F_V_end p1 h)))]) (h1 := h) (r := vI (F_V_top p1 h)) my_yX5_top vw_X5_81 (by decide) (T_V_top (p1 := p1) (h := h) (hF := rfl)) rfl rfl rfl (Nat.le_of_ble_eq_true rfl) (by decide +kernel) ?_
  refine g_seg hK [.isub, .istore 4, .aload_n 0, .iload_n 1] 25 30 (L1 := [(4, vI (wr ((wr (p2 + (F_V_end p1 h))) - (F_V_top p1 h)))), (3, vI (F_Ro_at 55 (F_V_top p1 h) h)), (0, vR 54), (1, vI p1), (2, vI p2)]) (st1 := [vI p1, vR 54]) (h1 := h) (P := True ∧ True ∧ True ∧ True ∧ True) (by decide +kernel) rfl rfl ⟨trivial, trivial, trivial, trivial, trivial⟩ ?_
  refine g_callV1 hK 30 81 (d1 := 1) (ci := 5) (i := 54) (vs := [vI p1]) (rest := []) (h1 := h) (r := vI (F_V_top p1 h)) my_yX5_top vw_X5_81 (by decide) (T_V_top (p1 := p1) (h := h) (hF := rfl)) rfl rfl rfl (Nat.le_of_ble_eq_true rfl) (by decide +kernel) ?_
  refine g_seg hK [.istore 5] 33 35 (L1 := [(5, vI (F_V_top p1 h)), (4, vI (wr ((wr (p2 + (F_V_end p1 h))) - (F_V_top p1 h)))), (3, vI (F_Ro_at 55 (F_V_top p1 h) h)), (0, vR 54), (1, vI p1), (2, vI p2)]) (st1 := []) (h1 := h) (P := True ∧ True) (by decide +kernel) rfl rfl ⟨trivial, trivial⟩ ?_
  refine hK.2.1 _ _ ([(0, vR 54), (1, vI p1), (2, vI p2), (3, vI (F_Ro_at 55 (F_V_top p1 h) h)), (4, vI (wr ((wr (p2 + (F_V_end p1 h))) - (F_V_top p1 h)))), (5, vI (F_V_top p1 h))]) _ _ (sub_of [3, 4, 5, 2, 1, 0] rfl) ?_
  obtain ⟨x5_1, h2, e3, hF⟩ := ob2_elim hF
  refine LT_V_moveTo_L35 hK _ _ _ _ _ e3 ?_
  refine g_seg hK [.iload_n 2, .istore 5] 61 64 (L1 := [(5, vI p2), (0, vR 54), (1, vI p1), (2, vI p2), (3, vI (F_Ro_at 55 (F_V_top p1 h) h)), (4, vI (wr ((wr (p2 + (F_V_end p1 h))) - (F_V_top p1 h))))]) (st1 := []) (h1 := h2) (P := True ∧ True ∧ True) (by decide +kernel) rfl rfl ⟨trivial, trivial, trivial⟩ ?_
  refine hK.2.1 _ _ ([(0, vR 54), (1, vI p1), (2, vI p2), (3, vI (F_Ro_at 55 (F_V_top p1 h) h)), (4, vI (wr ((wr (p2 + (F_V_end p1 h))) - (F_V_top p1 h)))), (5, vI p2)]) _ _ (sub_of [1, 2, 3, 4, 5, 0] rfl) ?_
  obtain ⟨x5_4, h5, e6, hF⟩ := ob2_elim hF
  refine LT_V_moveTo_L64 hK _ _ _ _ _ e6 ?_
  refine g_seg hK [.aload_n 0, .getfield 23, .iload_n 1, .iload_n 2] 87 93 (L1 := [(0, vR 54), (1, vI p1), (2, vI p2), (3, vI (F_Ro_at 55 (F_V_top p1 h) h)), (4, vI (wr ((wr (p2 + (F_V_end p1 h))) - (F_V_top p1 h)))), (5, vI x5_4)]) (st1 := [vI p2, vI p1, vR 59]) (h1 := h5) (P := True ∧ kd 54 = 7 ∧ True ∧ True ∧ True) (by decide +kernel) rfl rfl ⟨trivial, rfl, trivial, trivial, trivial⟩ ?_
  refine g_callV0 hK 93 87 (d1 := 0) (ci := 3) (i := 59) (vs := [vI p1, vI p2]) (rest := []) (h1 := (F_Ro_change 59 p1 p2 h5)) my_yX3_change vw_X5_87 (by decide) (T_Ro_change (o := 59) (p1 := p1) (p2 := p2) (h := h5) (ko := rfl) (hF := rfl)) rfl rfl rfl (Nat.le_of_ble_eq_true rfl) (by decide +kernel) ?_
  refine g_seg hK [.aload_n 0, .getfield 26, .iload_n 1, .iload 4] 96 103 (L1 := [(0, vR 54), (1, vI p1), (2, vI p2), (3, vI (F_Ro_at 55 (F_V_top p1 h) h)), (4, vI (wr ((wr (p2 + (F_V_end p1 h))) - (F_V_top p1 h)))), (5, vI x5_4)]) (st1 := [vI (wr ((wr (p2 + (F_V_end p1 h))) - (F_V_top p1 h))), vI p1, vR 61]) (h1 := (F_Ro_change 59 p1 p2 h5)) (P := True ∧ kd 54 = 7 ∧ True ∧ True ∧ True) (by decide +kernel) rfl rfl ⟨trivial, rfl, trivial, trivial, trivial⟩ ?_
  refine g_callV0 hK 103 87 (d1 := 0) (ci := 3) (i := 61) (vs := [vI p1, vI (wr ((wr (p2 + (F_V_end p1 h))) - (F_V_top p1 h)))]) (rest := []) (h1 := (F_Ro_change 61 p1 (wr ((wr (p2 + (F_V_end p1 h))) - (F_V_top p1 h))) (F_Ro_change 59 p1 p2 h5))) my_yX3_change vw_X5_87 (by decide) (T_Ro_change (o := 61) (p1 := p1) (p2 := (wr ((wr (p2 + (F_V_end p1 h))) - (F_V_top p1 h)))) (h := (F_Ro_change 59 p1 p2 h5)) (ko := rfl) (hF := rfl)) rfl rfl rfl (Nat.le_of_ble_eq_true rfl) (by decide +kernel) ?_
  cases hF
  exact hR.2.2.2.2 106 _ _ (by decide +kernel) rfl ⟨rfl, rfl⟩
set_option maxHeartbeats 4000000 in
set_option maxRecDepth 100000 in
theorem LT_V_settle_L2 {K : KT} (hK : Rules RX5 cX5_settle 2 none flX5 4 K) : ∀ (n : Nat) (x1 : Int) (h : MH) (x1' : Int) (h' : MH), F_V_settle_L2 n x1 h = some (x1', h') → K 34 [(0, vR 54), (1, vI x1')] [] h' → K 2 [(0, vR 54), (1, vI x1)] [] h := by
  intro n
  induction n with
  | zero =>
    intro x1 h x1' h' hF
    cases hF
  | succ n ih =>
    intro x1 h x1' h' hF hE
    unfold F_V_settle_L2 at hF
    refine g_seg hK [.iload_n 1, .aload_n 0] 2 4 (L1 := [(0, vR 54), (1, vI x1)]) (st1 := [vR 54, vI x1]) (h1 := h) (P := True ∧ True ∧ True) (by decide +kernel) rfl rfl ⟨trivial, trivial, trivial⟩ ?_
    refine g_callV1 hK 4 64 (d1 := 1) (ci := 5) (i := 54) (vs := []) (rest := [vI x1]) (h1 := h) (r := vI (F_V_hunks h)) my_yX5_hunks vw_X5_64 (by decide) (T_V_hunks (h := h) (hF := rfl)) rfl rfl rfl (Nat.le_of_ble_eq_true rfl) (by decide +kernel) ?_
    refine g_icmp hK 7 .ge (27) 34 (t1 := 10) (t2 := 34) (by decide +kernel) (by decide) rfl rfl (fun (hc1 : x1 < F_V_hunks h) => ?_) (fun (hc1 : ¬ (x1 < F_V_hunks h)) => ?_)
    · have hF := ite_t hc1 hF
      refine g_seg hK [.aload_n 0, .iload_n 1] 10 12 (L1 := [(0, vR 54), (1, vI x1)]) (st1 := [vI x1, vR 54]) (h1 := h) (P := True ∧ True ∧ True) (by decide +kernel) rfl rfl ⟨trivial, trivial, trivial⟩ ?_
      refine g_callV1 hK 12 71 (d1 := 1) (ci := 5) (i := 54) (vs := [vI x1]) (rest := []) (h1 := h) (r := vI (F_V_isPlain x1 h)) my_yX5_isPlain vw_X5_71 (by decide) (T_V_isPlain (p1 := x1) (h := h) (hF := rfl)) rfl rfl rfl (Nat.le_of_ble_eq_true rfl) (by decide +kernel) ?_
      obtain ⟨kj3, e4, hF⟩ := jk1_elim hF
      have j3 : ∀ (h2 : MH), kj3 h2 = some (x1', h') → K 28 [(0, vR 54), (1, vI x1)] [] h2 := by
        intro h2 hF
        have hF := (e4 h2).symm.trans hF
        refine g_seg hK [.iinc 1 1] 28 31 (L1 := [(1, vI (wr (x1 + 1))), (0, vR 54)]) (st1 := []) (h1 := h2) (P := True ∧ True) (by decide +kernel) rfl rfl ⟨trivial, trivial⟩ ?_
        refine g_goto hK 31 (-29) 2 (by decide +kernel) (by decide) ?_
        refine hK.2.1 _ _ ([(0, vR 54), (1, vI (wr (x1 + 1)))]) _ _ (sub_of [1, 0] rfl) ?_
        exact ih _ _ _ _ hF hE
      refine g_ifz hK 15 .eq (13) 28 (t1 := 28) (t2 := 18) (by decide +kernel) (by decide) rfl rfl (fun (hc5 : F_V_isPlain x1 h = 0) => ?_) (fun (hc5 : ¬ (F_V_isPlain x1 h = 0)) => ?_)
      · have hF := ite_t hc5 hF
        exact j3 _ hF
      · have hF := ite_f hc5 hF
        refine g_seg hK [.aload_n 0, .iload_n 1, .aload_n 0, .iload_n 1] 18 22 (L1 := [(0, vR 54), (1, vI x1)]) (st1 := [vI x1, vR 54, vI x1, vR 54]) (h1 := h) (P := True ∧ True ∧ True ∧ True ∧ True) (by decide +kernel) rfl rfl ⟨trivial, trivial, trivial, trivial, trivial⟩ ?_
        obtain ⟨r6, e7, hF⟩ := ob1_elim hF
        refine g_callV1 hK 22 74 (d1 := 3) (ci := 5) (i := 54) (vs := [vI x1]) (rest := [vI x1, vR 54]) (h1 := h) (r := vI r6) my_yX5_bestTop vw_X5_74 (by decide) (T_V_bestTop (p1 := x1) (h := h) (hF := e7)) rfl rfl rfl (Nat.le_of_ble_eq_true rfl) (by decide +kernel) ?_
        obtain ⟨h8, e9, hF⟩ := ob1_elim hF
        refine g_callV0 hK 25 77 (d1 := 2) (ci := 5) (i := 54) (vs := [vI x1, vI r6]) (rest := []) (h1 := h8) my_yX5_moveTo vw_X5_77 (by decide) (T_V_moveTo (p1 := x1) (p2 := r6) (h := h) (hF := e9)) rfl rfl rfl (Nat.le_of_ble_eq_true rfl) (by decide +kernel) ?_
        exact j3 _ hF
    · have hF := ite_f hc1 hF
      cases hF
      exact hE
set_option maxHeartbeats 4000000 in
set_option maxRecDepth 100000 in
theorem T_V_settle {h : MH} {h' : MH} (hF : F_V_settle h = some h') : CON 4 yX5_settle cX5_settle 2 none [vR 54] h none h' := by
  refine con_of (own := RX5) (fl := flX5) (by decide +kernel) rfl flok_X5 rfl (Nat.le_of_ble_eq_true rfl) ?_
  intro K hK hR
  show K 0 [(0, vR 54)] [] h
  unfold F_V_settle at hF
  refine g_seg hK [.iconst 0, .istore_n 1] 0 2 (L1 := [(1, vI 0), (0, vR 54)]) (st1 := []) (h1 := h) (P := True ∧ True ∧ True) (by decide +kernel) rfl rfl ⟨trivial, trivial, trivial⟩ ?_
  refine hK.2.1 _ _ ([(0, vR 54), (1, vI 0)]) _ _ (sub_of [1, 0] rfl) ?_
  obtain ⟨x1_1, h2, e3, hF⟩ := ob2_elim hF
  refine LT_V_settle_L2 hK _ _ _ _ _ e3 ?_
  cases hF
  exact hR.2.2.2.2 34 _ _ (by decide +kernel) rfl ⟨rfl, rfl⟩
set_option maxHeartbeats 4000000 in
set_option maxRecDepth 100000 in
theorem T_X_show {h : MH} {h' : MH} (hF : F_X_show h = some h') : CON 5 yX6_show cX6_show 1 none [vR 0] h none h' := by
  refine con_of (own := RX6) (fl := flX6) (by decide +kernel) rfl flok_X6 rfl (Nat.le_of_ble_eq_true rfl) ?_
  intro K hK hR
  show K 0 [(0, vR 0)] [] h
  unfold F_X_show at hF
  refine g_seg hK [.aload_n 0, .getfield 52, .aload_n 0, .getfield 21, .iconst 0] 0 9 (L1 := [(0, vR 0)]) (st1 := [vI 0, vR 3, vR 54]) (h1 := h) (P := True ∧ kd 0 = 8 ∧ True ∧ kd 0 = 8 ∧ True ∧ True) (by decide +kernel) rfl rfl ⟨trivial, rfl, trivial, rfl, trivial, trivial⟩ ?_
  refine g_callV1 hK 9 88 (d1 := 0) (ci := 4) (i := 3) (vs := [vI 0]) (rest := [vR 54]) (h1 := h) (r := vR (F_St_text 3 0)) my_yX4_text vw_X6_88 (by decide) (T_St_text (o := 3) (p1 := 0) (h := h) (ks := rfl) (hF := rfl)) rfl rfl rfl (Nat.le_of_ble_eq_true rfl) (by decide +kernel) ?_
  refine g_seg hK [.aload_n 0, .getfield 21, .iconst 1] 12 17 (L1 := [(0, vR 0)]) (st1 := [vI 1, vR 3, vR (F_St_text 3 0), vR 54]) (h1 := h) (P := True ∧ kd 0 = 8 ∧ True ∧ True) (by decide +kernel) rfl rfl ⟨trivial, rfl, trivial, trivial⟩ ?_
  refine g_callV1 hK 17 88 (d1 := 0) (ci := 4) (i := 3) (vs := [vI 1]) (rest := [vR (F_St_text 3 0), vR 54]) (h1 := h) (r := vR (F_St_text 3 1)) my_yX4_text vw_X6_88 (by decide) (T_St_text (o := 3) (p1 := 1) (h := h) (ks := rfl) (hF := rfl)) rfl rfl rfl (Nat.le_of_ble_eq_true rfl) (by decide +kernel) ?_
  refine g_seg hK [.aload_n 0, .getfield 45] 20 24 (L1 := [(0, vR 0)]) (st1 := [vR 49, vR (F_St_text 3 1), vR (F_St_text 3 0), vR 54]) (h1 := h) (P := True ∧ kd 0 = 8 ∧ True) (by decide +kernel) rfl rfl ⟨trivial, rfl, trivial⟩ ?_
  obtain ⟨h1, e2, hF⟩ := ob1_elim hF
  refine g_callV0 hK 24 233 (d1 := 4) (ci := 5) (i := 54) (vs := [vR (F_St_text 3 0), vR (F_St_text 3 1), vR 49]) (rest := []) (h1 := h1) my_yX5_gather vw_X6_233 (by decide) (T_V_gather (p1 := (F_St_text 3 0)) (p2 := (F_St_text 3 1)) (h := h) (kp1 := (kd_St_text rfl)) (kp2 := (kd_St_text rfl)) (hF := e2)) rfl rfl rfl (Nat.le_of_ble_eq_true rfl) (by decide +kernel) ?_
  refine g_seg hK [.aload_n 0, .getfield 21, .iconst 1] 27 32 (L1 := [(0, vR 0)]) (st1 := [vI 1, vR 3]) (h1 := h1) (P := True ∧ kd 0 = 8 ∧ True ∧ True) (by decide +kernel) rfl rfl ⟨trivial, rfl, trivial, trivial⟩ ?_
  refine g_callV1 hK 32 112 (d1 := 0) (ci := 4) (i := 3) (vs := [vI 1]) (rest := []) (h1 := h1) (r := vI (F_St_setting 3 1 h1)) my_yX4_setting vw_X6_112 (by decide) (T_St_setting (o := 3) (p1 := 1) (h := h1) (ks := rfl) (hF := rfl)) rfl rfl rfl (Nat.le_of_ble_eq_true rfl) (by decide +kernel) ?_
  refine g_seg hK [.iconst 1] 35 36 (L1 := [(0, vR 0)]) (st1 := [vI 1, vI (F_St_setting 3 1 h1)]) (h1 := h1) (P := True ∧ True) (by decide +kernel) rfl rfl ⟨trivial, trivial⟩ ?_
  refine g_icmp hK 36 .ne (10) 46 (t1 := 39) (t2 := 46) (by decide +kernel) (by decide) rfl rfl (fun (hc3 : F_St_setting 3 1 h1 = 1) => ?_) (fun (hc3 : ¬ (F_St_setting 3 1 h1 = 1)) => ?_)
  · have hF := ite_t hc3 hF
    refine g_seg hK [.aload_n 0, .getfield 52] 39 43 (L1 := [(0, vR 0)]) (st1 := [vR 54]) (h1 := h1) (P := True ∧ kd 0 = 8 ∧ True) (by decide +kernel) rfl rfl ⟨trivial, rfl, trivial⟩ ?_
    obtain ⟨h4, e5, hF⟩ := ob1_elim hF
    refine g_callV0 hK 43 237 (d1 := 4) (ci := 5) (i := 54) (vs := []) (rest := []) (h1 := h4) my_yX5_settle vw_X6_237 (by decide) (T_V_settle (h := h1) (hF := e5)) rfl rfl rfl (Nat.le_of_ble_eq_true rfl) (by decide +kernel) ?_
    cases hF
    exact hR.2.2.2.2 46 _ _ (by decide +kernel) rfl ⟨rfl, rfl⟩
  · have hF := ite_f hc3 hF
    cases hF
    exact hR.2.2.2.2 46 _ _ (by decide +kernel) rfl ⟨rfl, rfl⟩
set_option maxHeartbeats 4000000 in
set_option maxRecDepth 100000 in
theorem T_V_has {p1 : Int} {h : MH} {r : Int} (hF : F_V_has p1 h = r) : CON 2 yX5_has cX5_has 2 (Option.some Jvm.ClassFile.FieldType.boolean) [vR 54, vI p1] h (some (vI r)) h := by
  refine con_of (own := RX5) (fl := flX5) (by decide +kernel) rfl flok_X5 rfl (Nat.le_of_ble_eq_true rfl) ?_
  intro K hK hR
  show K 0 [(0, vR 54), (1, vI p1)] [] h
  unfold F_V_has at hF
  refine g_seg hK [.iload_n 1] 0 1 (L1 := [(0, vR 54), (1, vI p1)]) (st1 := [vI p1]) (h1 := h) (P := True ∧ True) (by decide +kernel) rfl rfl ⟨trivial, trivial⟩ ?_
  refine g_ifz hK 1 .lt (15) 16 (t1 := 16) (t2 := 4) (by decide +kernel) (by decide) rfl rfl (fun (hc1 : p1 < 0) => ?_) (fun (hc1 : ¬ (p1 < 0)) => ?_)
  · have hF := ite_t hc1 hF
    refine g_seg hK [.iconst 0] 16 17 (L1 := [(0, vR 54), (1, vI p1)]) (st1 := [vI 0]) (h1 := h) (P := True ∧ True) (by decide +kernel) rfl rfl ⟨trivial, trivial⟩ ?_
    cases hF
    exact hR.2.1 17 _ _ _ (by decide +kernel) rfl (by decide) ⟨rfl, rfl⟩
  · have hF := ite_f hc1 hF
    refine g_seg hK [.iload_n 1, .aload_n 0] 4 6 (L1 := [(0, vR 54), (1, vI p1)]) (st1 := [vR 54, vI p1]) (h1 := h) (P := True ∧ True ∧ True) (by decide +kernel) rfl rfl ⟨trivial, trivial, trivial⟩ ?_
    refine g_callV1 hK 6 64 (d1 := 1) (ci := 5) (i := 54) (vs := []) (rest := [vI p1]) (h1 := h) (r := vI (F_V_hunks h)) my_yX5_hunks vw_X5_64 (by decide) (T_V_hunks (h := h) (hF := rfl)) rfl rfl rfl (Nat.le_of_ble_eq_true rfl) (by decide +kernel) ?_
    refine g_icmp hK 9 .ge (7) 16 (t1 := 12) (t2 := 16) (by decide +kernel) (by decide) rfl rfl (fun (hc2 : p1 < F_V_hunks h) => ?_) (fun (hc2 : ¬ (p1 < F_V_hunks h)) => ?_)
    · have hF := ite_t hc2 hF
      refine g_seg hK [.iconst 1] 12 13 (L1 := [(0, vR 54), (1, vI p1)]) (st1 := [vI 1]) (h1 := h) (P := True ∧ True) (by decide +kernel) rfl rfl ⟨trivial, trivial⟩ ?_
      refine g_goto hK 13 (4) 17 (by decide +kernel) (by decide) ?_
      cases hF
      exact hR.2.1 17 _ _ _ (by decide +kernel) rfl (by decide) ⟨rfl, rfl⟩
    · have hF := ite_f hc2 hF
      refine g_seg hK [.iconst 0] 16 17 (L1 := [(0, vR 54), (1, vI p1)]) (st1 := [vI 0]) (h1 := h) (P := True ∧ True) (by decide +kernel) rfl rfl ⟨trivial, trivial⟩ ?_
      cases hF
      exact hR.2.1 17 _ _ _ (by decide +kernel) rfl (by decide) ⟨rfl, rfl⟩
set_option maxHeartbeats 4000000 in
set_option maxRecDepth 100000 in
theorem T_V_around {p1 : Int} {p2 : Int} {p3 : Int} {h : MH} {r : Int} (hF : F_V_around p1 p2 p3 h = r) : CON 3 yX5_around cX5_around 5 (Option.some Jvm.ClassFile.FieldType.int) [vR 54, vI p1, vI p2, vI p3] h (some (vI r)) h := by
  refine con_of (own := RX5) (fl := flX5) (by decide +kernel) rfl flok_X5 rfl (Nat.le_of_ble_eq_true rfl) ?_
  intro K hK hR
  show K 0 [(0, vR 54), (1, vI p1), (2, vI p2), (3, vI p3)] [] h
  unfold F_V_around at hF
  refine g_seg hK [.iload_n 3] 0 1 (L1 := [(0, vR 54), (1, vI p1), (2, vI p2), (3, vI p3)]) (st1 := [vI p3]) (h1 := h) (P := True ∧ True) (by decide +kernel) rfl rfl ⟨trivial, trivial⟩ ?_
  obtain ⟨x4_1, e12, hF⟩ := jn1_elim hF
  have j2 : K 68 [(2, vI p2), (4, vI x4_1)] [] h := by
    refine g_seg hK [.iload_n 2, .iload 4] 68 71 (L1 := [(2, vI p2), (4, vI x4_1)]) (st1 := [vI x4_1, vI p2]) (h1 := h) (P := True ∧ True ∧ True) (by decide +kernel) rfl rfl ⟨trivial, trivial, trivial⟩ ?_
    refine g_mmin hK 71 116 (by decide) mw_X5_116 (Nat.le_of_ble_eq_true rfl) (by decide +kernel) ?_
    cases hF
    exact hR.1 74 _ _ _ (by decide +kernel) rfl ⟨rfl, rfl⟩
  clear hF
  have hF := e12
  refine g_ifz hK 1 .eq (38) 39 (t1 := 39) (t2 := 4) (by decide +kernel) (by decide) rfl rfl (fun (hc3 : p3 = 0) => ?_) (fun (hc3 : ¬ (p3 = 0)) => ?_)
  · have hF := ite_t hc3 hF
    refine g_seg hK [.aload_n 0, .iload_n 1] 39 41 (L1 := [(0, vR 54), (1, vI p1), (2, vI p2), (3, vI p3)]) (st1 := [vI p1, vR 54]) (h1 := h) (P := True ∧ True ∧ True) (by decide +kernel) rfl rfl ⟨trivial, trivial, trivial⟩ ?_
    refine g_callV1 hK 41 81 (d1 := 1) (ci := 5) (i := 54) (vs := [vI p1]) (rest := []) (h1 := h) (r := vI (F_V_top p1 h)) my_yX5_top vw_X5_81 (by decide) (T_V_top (p1 := p1) (h := h) (hF := rfl)) rfl rfl rfl (Nat.le_of_ble_eq_true rfl) (by decide +kernel) ?_
    refine g_seg hK [.aload_n 0, .iload_n 1, .iconst 1, .isub] 44 48 (L1 := [(0, vR 54), (1, vI p1), (2, vI p2), (3, vI p3)]) (st1 := [vI (wr (p1 - 1)), vR 54, vI (F_V_top p1 h)]) (h1 := h) (P := True ∧ True ∧ True ∧ True ∧ True) (by decide +kernel) rfl rfl ⟨trivial, trivial, trivial, trivial, trivial⟩ ?_
    refine g_callV1 hK 48 113 (d1 := 2) (ci := 5) (i := 54) (vs := [vI (wr (p1 - 1))]) (rest := [vI (F_V_top p1 h)]) (h1 := h) (r := vI (F_V_has (wr (p1 - 1)) h)) my_yX5_has vw_X5_113 (by decide) (T_V_has (p1 := (wr (p1 - 1))) (h := h) (hF := rfl)) rfl rfl rfl (Nat.le_of_ble_eq_true rfl) (by decide +kernel) ?_
    obtain ⟨s4, e7, hF⟩ := jn1_elim hF
    have j5 : K 65 [(2, vI p2)] [vI s4, vI (F_V_top p1 h)] h := by
      refine g_seg hK [.isub, .istore 4] 65 68 (L1 := [(4, vI (wr ((F_V_top p1 h) - s4))), (2, vI p2)]) (st1 := []) (h1 := h) (P := True ∧ True ∧ True) (by decide +kernel) rfl rfl ⟨trivial, trivial, trivial⟩ ?_
      refine hK.2.1 _ _ ([(2, vI p2), (4, vI (wr ((F_V_top p1 h) - s4)))]) _ _ (sub_of [1, 0] rfl) ?_
      cases hF
      exact j2
    clear hF
    have hF := e7
    refine g_ifz hK 51 .eq (13) 64 (t1 := 64) (t2 := 54) (by decide +kernel) (by decide) rfl rfl (fun (hc6 : F_V_has (wr (p1 - 1)) h = 0) => ?_) (fun (hc6 : ¬ (F_V_has (wr (p1 - 1)) h = 0)) => ?_)
    · have hF := ite_t hc6 hF
      refine g_seg hK [.iconst 0] 64 65 (L1 := [(0, vR 54), (1, vI p1), (2, vI p2), (3, vI p3)]) (st1 := [vI 0, vI (F_V_top p1 h)]) (h1 := h) (P := True ∧ True) (by decide +kernel) rfl rfl ⟨trivial, trivial⟩ ?_
      refine hK.2.1 _ _ ([(2, vI p2)]) _ _ (sub_of [2] rfl) ?_
      cases hF
      exact j5
    · have hF := ite_f hc6 hF
      refine g_seg hK [.aload_n 0, .iload_n 1, .iconst 1, .isub] 54 58 (L1 := [(0, vR 54), (1, vI p1), (2, vI p2), (3, vI p3)]) (st1 := [vI (wr (p1 - 1)), vR 54, vI (F_V_top p1 h)]) (h1 := h) (P := True ∧ True ∧ True ∧ True ∧ True) (by decide +kernel) rfl rfl ⟨trivial, trivial, trivial, trivial, trivial⟩ ?_
      refine g_callV1 hK 58 84 (d1 := 1) (ci := 5) (i := 54) (vs := [vI (wr (p1 - 1))]) (rest := [vI (F_V_top p1 h)]) (h1 := h) (r := vI (F_V_end (wr (p1 - 1)) h)) my_yX5_end vw_X5_84 (by decide) (T_V_end (p1 := (wr (p1 - 1))) (h := h) (hF := rfl)) rfl rfl rfl (Nat.le_of_ble_eq_true rfl) (by decide +kernel) ?_
      refine g_goto hK 61 (4) 65 (by decide +kernel) (by decide) ?_
      refine hK.2.1 _ _ ([(2, vI p2)]) _ _ (sub_of [2] rfl) ?_
      cases hF
      exact j5
  · have hF := ite_f hc3 hF
    refine g_seg hK [.aload_n 0, .iload_n 1, .iconst 1, .iadd] 4 8 (L1 := [(0, vR 54), (1, vI p1), (2, vI p2), (3, vI p3)]) (st1 := [vI (wr (p1 + 1)), vR 54]) (h1 := h) (P := True ∧ True ∧ True ∧ True ∧ True) (by decide +kernel) rfl rfl ⟨trivial, trivial, trivial, trivial, trivial⟩ ?_
    refine g_callV1 hK 8 113 (d1 := 2) (ci := 5) (i := 54) (vs := [vI (wr (p1 + 1))]) (rest := []) (h1 := h) (r := vI (F_V_has (wr (p1 + 1)) h)) my_yX5_has vw_X5_113 (by decide) (T_V_has (p1 := (wr (p1 + 1))) (h := h) (hF := rfl)) rfl rfl rfl (Nat.le_of_ble_eq_true rfl) (by decide +kernel) ?_
    obtain ⟨s8, e11, hF⟩ := jn1_elim hF
    have j9 : K 28 [(0, vR 54), (1, vI p1), (2, vI p2)] [vI s8] h := by
      refine g_seg hK [.aload_n 0, .iload_n 1] 28 30 (L1 := [(0, vR 54), (1, vI p1), (2, vI p2)]) (st1 := [vI p1, vR 54, vI s8]) (h1 := h) (P := True ∧ True ∧ True) (by decide +kernel) rfl rfl ⟨trivial, trivial, trivial⟩ ?_
      refine g_callV1 hK 30 84 (d1 := 1) (ci := 5) (i := 54) (vs := [vI p1]) (rest := [vI s8]) (h1 := h) (r := vI (F_V_end p1 h)) my_yX5_end vw_X5_84 (by decide) (T_V_end (p1 := p1) (h := h) (hF := rfl)) rfl rfl rfl (Nat.le_of_ble_eq_true rfl) (by decide +kernel) ?_
      refine g_seg hK [.isub, .istore 4] 33 36 (L1 := [(4, vI (wr (s8 - (F_V_end p1 h)))), (0, vR 54), (1, vI p1), (2, vI p2)]) (st1 := []) (h1 := h) (P := True ∧ True ∧ True) (by decide +kernel) rfl rfl ⟨trivial, trivial, trivial⟩ ?_
      refine g_goto hK 36 (32) 68 (by decide +kernel) (by decide) ?_
      refine hK.2.1 _ _ ([(2, vI p2), (4, vI (wr (s8 - (F_V_end p1 h))))]) _ _ (sub_of [3, 0] rfl) ?_
      cases hF
      exact j2
    clear hF
    have hF := e11
    refine g_ifz hK 11 .eq (13) 24 (t1 := 24) (t2 := 14) (by decide +kernel) (by decide) rfl rfl (fun (hc10 : F_V_has (wr (p1 + 1)) h = 0) => ?_) (fun (hc10 : ¬ (F_V_has (wr (p1 + 1)) h = 0)) => ?_)
    · have hF := ite_t hc10 hF
      refine g_seg hK [.aload_n 0] 24 25 (L1 := [(0, vR 54), (1, vI p1), (2, vI p2), (3, vI p3)]) (st1 := [vR 54]) (h1 := h) (P := True ∧ True) (by decide +kernel) rfl rfl ⟨trivial, trivial⟩ ?_
      refine g_callV1 hK 25 59 (d1 := 1) (ci := 5) (i := 54) (vs := []) (rest := []) (h1 := h) (r := vI (F_V_size h)) my_yX5_size vw_X5_59 (by decide) (T_V_size (h := h) (hF := rfl)) rfl rfl rfl (Nat.le_of_ble_eq_true rfl) (by decide +kernel) ?_
      refine hK.2.1 _ _ ([(0, vR 54), (1, vI p1), (2, vI p2)]) _ _ (sub_of [0, 1, 2] rfl) ?_
      cases hF
      exact j9
    · have hF := ite_f hc10 hF
      refine g_seg hK [.aload_n 0, .iload_n 1, .iconst 1, .iadd] 14 18 (L1 := [(0, vR 54), (1, vI p1), (2, vI p2), (3, vI p3)]) (st1 := [vI (wr (p1 + 1)), vR 54]) (h1 := h) (P := True ∧ True ∧ True ∧ True ∧ True) (by decide +kernel) rfl rfl ⟨trivial, trivial, trivial, trivial, trivial⟩ ?_
      refine g_callV1 hK 18 81 (d1 := 1) (ci := 5) (i := 54) (vs := [vI (wr (p1 + 1))]) (rest := []) (h1 := h) (r := vI (F_V_top (wr (p1 + 1)) h)) my_yX5_top vw_X5_81 (by decide) (T_V_top (p1 := (wr (p1 + 1))) (h := h) (hF := rfl)) rfl rfl rfl (Nat.le_of_ble_eq_true rfl) (by decide +kernel) ?_
      refine g_goto hK 21 (7) 28 (by decide +kernel) (by decide) ?_
      refine hK.2.1 _ _ ([(0, vR 54), (1, vI p1), (2, vI p2)]) _ _ (sub_of [0, 1, 2] rfl) ?_
      cases hF
      exact j9
set_option maxHeartbeats 4000000 in
set_option maxRecDepth 100000 in
theorem T_V_kind {p1 : Int} {h : MH} {r : Int} (hF : F_V_kind p1 h = r) : CON 1 yX5_kind cX5_kind 2 (Option.some Jvm.ClassFile.FieldType.int) [vR 54, vI p1] h (some (vI r)) h := by
  refine con_of (own := RX5) (fl := flX5) (by decide +kernel) rfl flok_X5 rfl (Nat.le_of_ble_eq_true rfl) ?_
  intro K hK hR
  show K 0 [(0, vR 54), (1, vI p1)] [] h
  unfold F_V_kind at hF
  refine g_seg hK [.aload_n 0, .getfield 14, .iload_n 1] 0 5 (L1 := [(0, vR 54), (1, vI p1)]) (st1 := [vI p1, vR 55]) (h1 := h) (P := True ∧ kd 54 = 7 ∧ True ∧ True) (by decide +kernel) rfl rfl ⟨trivial, rfl, trivial, trivial⟩ ?_
  refine g_callV1 hK 5 52 (d1 := 0) (ci := 3) (i := 55) (vs := [vI p1]) (rest := []) (h1 := h) (r := vI (F_Ro_at 55 p1 h)) my_yX3_at vw_X5_52 (by decide) (T_Ro_at (o := 55) (p1 := p1) (h := h) (ko := rfl) (hF := rfl)) rfl rfl rfl (Nat.le_of_ble_eq_true rfl) (by decide +kernel) ?_
  cases hF
  exact hR.1 8 _ _ _ (by decide +kernel) rfl ⟨rfl, rfl⟩
set_option maxHeartbeats 4000000 in
set_option maxRecDepth 100000 in
theorem T_V_sign {p1 : Int} {h : MH} {r : Int} (hF : F_V_sign p1 h = r) : CON 1 yX5_sign cX5_sign 2 (Option.some Jvm.ClassFile.FieldType.int) [vR 54, vI p1] h (some (vI r)) h := by
  refine con_of (own := RX5) (fl := flX5) (by decide +kernel) rfl flok_X5 rfl (Nat.le_of_ble_eq_true rfl) ?_
  intro K hK hR
  show K 0 [(0, vR 54), (1, vI p1)] [] h
  unfold F_V_sign at hF
  refine g_seg hK [.aload_n 0, .getfield 20, .iload_n 1] 0 5 (L1 := [(0, vR 54), (1, vI p1)]) (st1 := [vI p1, vR 57]) (h1 := h) (P := True ∧ kd 54 = 7 ∧ True ∧ True) (by decide +kernel) rfl rfl ⟨trivial, rfl, trivial, trivial⟩ ?_
  refine g_callV1 hK 5 52 (d1 := 0) (ci := 3) (i := 57) (vs := [vI p1]) (rest := []) (h1 := h) (r := vI (F_Ro_at 57 p1 h)) my_yX3_at vw_X5_52 (by decide) (T_Ro_at (o := 57) (p1 := p1) (h := h) (ko := rfl) (hF := rfl)) rfl rfl rfl (Nat.le_of_ble_eq_true rfl) (by decide +kernel) ?_
  cases hF
  exact hR.1 8 _ _ _ (by decide +kernel) rfl ⟨rfl, rfl⟩
set_option maxHeartbeats 4000000 in
set_option maxRecDepth 100000 in
theorem LT_La_takeParts_L41 {K : KT} (hK : Rules RX2 cX2_takeParts 8 none flX2 2 K) {x3 : Int} {x5 : Int} {x6 : Int} : ∀ (n : Nat) (x7 : Int) (h : MH) (x7' : Int) (h' : MH), F_La_takeParts_L41 x3 x5 x6 n x7 h = some (x7', h') → K 101 [(0, vR 65), (1, vR 54), (3, vI x3), (5, vI x5), (6, vI x6), (7, vI x7')] [] h' → K 41 [(0, vR 65), (1, vR 54), (3, vI x3), (5, vI x5), (6, vI x6), (7, vI x7)] [] h := by
  intro n
  induction n with
  | zero =>
    intro x7 h x7' h' hF
    cases hF
  | succ n ih =>
    intro x7 h x7' h' hF hE
    unfold F_La_takeParts_L41 at hF
    refine g_seg hK [.iload 7, .iload_n 3] 41 44 (L1 := [(0, vR 65), (1, vR 54), (3, vI x3), (5, vI x5), (6, vI x6), (7, vI x7)]) (st1 := [vI x3, vI x7]) (h1 := h) (P := True ∧ True ∧ True) (by decide +kernel) rfl rfl ⟨trivial, trivial, trivial⟩ ?_
    refine g_icmp hK 44 .ge (57) 101 (t1 := 47) (t2 := 101) (by decide +kernel) (by decide) rfl rfl (fun (hc1 : x7 < x3) => ?_) (fun (hc1 : ¬ (x7 < x3)) => ?_)
    · have hF := ite_t hc1 hF
      refine g_seg hK [.aload_n 1, .iload 7] 47 50 (L1 := [(0, vR 65), (1, vR 54), (3, vI x3), (5, vI x5), (6, vI x6), (7, vI x7)]) (st1 := [vI x7, vR 54]) (h1 := h) (P := True ∧ True ∧ True) (by decide +kernel) rfl rfl ⟨trivial, trivial, trivial⟩ ?_
      refine g_callV1 hK 50 106 (d1 := 1) (ci := 5) (i := 54) (vs := [vI x7]) (rest := []) (h1 := h) (r := vI (F_V_kind x7 h)) my_yX5_kind vw_X2_106 (by decide) (T_V_kind (p1 := x7) (h := h) (hF := rfl)) rfl rfl rfl (Nat.le_of_ble_eq_true rfl) (by decide +kernel) ?_
      refine g_seg hK [.iload 6] 53 55 (L1 := [(0, vR 65), (1, vR 54), (3, vI x3), (5, vI x5), (6, vI x6), (7, vI x7)]) (st1 := [vI x6, vI (F_V_kind x7 h)]) (h1 := h) (P := True ∧ True) (by decide +kernel) rfl rfl ⟨trivial, trivial⟩ ?_
      obtain ⟨h2, e9, hF⟩ := jn1_elim hF
      have j3 : K 71 [(0, vR 65), (1, vR 54), (3, vI x3), (5, vI x5), (6, vI x6), (7, vI x7)] [] h2 := by
        refine g_seg hK [.aload_n 1, .iload 7] 71 74 (L1 := [(0, vR 65), (1, vR 54), (3, vI x3), (5, vI x5), (6, vI x6), (7, vI x7)]) (st1 := [vI x7, vR 54]) (h1 := h2) (P := True ∧ True ∧ True) (by decide +kernel) rfl rfl ⟨trivial, trivial, trivial⟩ ?_
        refine g_callV1 hK 74 106 (d1 := 1) (ci := 5) (i := 54) (vs := [vI x7]) (rest := []) (h1 := h2) (r := vI (F_V_kind x7 h2)) my_yX5_kind vw_X2_106 (by decide) (T_V_kind (p1 := x7) (h := h2) (hF := rfl)) rfl rfl rfl (Nat.le_of_ble_eq_true rfl) (by decide +kernel) ?_
        refine g_seg hK [.iload 5] 77 79 (L1 := [(0, vR 65), (1, vR 54), (3, vI x3), (5, vI x5), (6, vI x6), (7, vI x7)]) (st1 := [vI x5, vI (F_V_kind x7 h2)]) (h1 := h2) (P := True ∧ True) (by decide +kernel) rfl rfl ⟨trivial, trivial⟩ ?_
        obtain ⟨h5, e8, hF⟩ := jn1_elim hF
        have j6 : K 95 [(0, vR 65), (1, vR 54), (3, vI x3), (5, vI x5), (6, vI x6), (7, vI x7)] [] h5 := by
          refine g_seg hK [.iinc 7 1] 95 98 (L1 := [(7, vI (wr (x7 + 1))), (0, vR 65), (1, vR 54), (3, vI x3), (5, vI x5), (6, vI x6)]) (st1 := []) (h1 := h5) (P := True ∧ True) (by decide +kernel) rfl rfl ⟨trivial, trivial⟩ ?_
          refine g_goto hK 98 (-57) 41 (by decide +kernel) (by decide) ?_
          refine hK.2.1 _ _ ([(0, vR 65), (1, vR 54), (3, vI x3), (5, vI x5), (6, vI x6), (7, vI (wr (x7 + 1)))]) _ _ (sub_of [1, 2, 3, 4, 5, 0] rfl) ?_
          exact ih _ _ _ _ hF hE
        clear hF
        have hF := e8
        refine g_icmp hK 79 .eq (16) 95 (t1 := 95) (t2 := 82) (by decide +kernel) (by decide) rfl rfl (fun (hc7 : F_V_kind x7 h2 = x5) => ?_) (fun (hc7 : ¬ (F_V_kind x7 h2 = x5)) => ?_)
        · have hF := ite_t hc7 hF
          cases hF
          exact j6
        · have hF := ite_f hc7 hF
          refine g_seg hK [.aload_n 0, .getfield 23, .aload_n 1, .iload 7] 82 89 (L1 := [(0, vR 65), (1, vR 54), (3, vI x3), (5, vI x5), (6, vI x6), (7, vI x7)]) (st1 := [vI x7, vR 54, vR 70]) (h1 := h2) (P := True ∧ kd 65 = 4 ∧ True ∧ True ∧ True) (by decide +kernel) rfl rfl ⟨trivial, rfl, trivial, trivial, trivial⟩ ?_
          refine g_callV1 hK 89 109 (d1 := 1) (ci := 5) (i := 54) (vs := [vI x7]) (rest := [vR 70]) (h1 := h2) (r := vI (F_V_sign x7 h2)) my_yX5_sign vw_X2_109 (by decide) (T_V_sign (p1 := x7) (h := h2) (hF := rfl)) rfl rfl rfl (Nat.le_of_ble_eq_true rfl) (by decide +kernel) ?_
          refine g_callV0 hK 92 91 (d1 := 0) (ci := 3) (i := 70) (vs := [vI (F_V_sign x7 h2)]) (rest := []) (h1 := (F_Ro_add 70 (F_V_sign x7 h2) h2)) my_yX3_add vw_X2_91 (by decide) (T_Ro_add (o := 70) (p1 := (F_V_sign x7 h2)) (h := h2) (ko := rfl) (hF := rfl)) rfl rfl rfl (Nat.le_of_ble_eq_true rfl) (by decide +kernel) ?_
          cases hF
          exact j6
      clear hF
      have hF := e9
      refine g_icmp hK 55 .eq (16) 71 (t1 := 71) (t2 := 58) (by decide +kernel) (by decide) rfl rfl (fun (hc4 : F_V_kind x7 h = x6) => ?_) (fun (hc4 : ¬ (F_V_kind x7 h = x6)) => ?_)
      · have hF := ite_t hc4 hF
        cases hF
        exact j3
      · have hF := ite_f hc4 hF
        refine g_seg hK [.aload_n 0, .getfield 20, .aload_n 1, .iload 7] 58 65 (L1 := [(0, vR 65), (1, vR 54), (3, vI x3), (5, vI x5), (6, vI x6), (7, vI x7)]) (st1 := [vI x7, vR 54, vR 68]) (h1 := h) (P := True ∧ kd 65 = 4 ∧ True ∧ True ∧ True) (by decide +kernel) rfl rfl ⟨trivial, rfl, trivial, trivial, trivial⟩ ?_
        refine g_callV1 hK 65 109 (d1 := 1) (ci := 5) (i := 54) (vs := [vI x7]) (rest := [vR 68]) (h1 := h) (r := vI (F_V_sign x7 h)) my_yX5_sign vw_X2_109 (by decide) (T_V_sign (p1 := x7) (h := h) (hF := rfl)) rfl rfl rfl (Nat.le_of_ble_eq_true rfl) (by decide +kernel) ?_
        refine g_callV0 hK 68 91 (d1 := 0) (ci := 3) (i := 68) (vs := [vI (F_V_sign x7 h)]) (rest := []) (h1 := (F_Ro_add 68 (F_V_sign x7 h) h)) my_yX3_add vw_X2_91 (by decide) (T_Ro_add (o := 68) (p1 := (F_V_sign x7 h)) (h := h) (ko := rfl) (hF := rfl)) rfl rfl rfl (Nat.le_of_ble_eq_true rfl) (by decide +kernel) ?_
        cases hF
        exact j3
    · have hF := ite_f hc1 hF
      cases hF
      exact hE
set_option maxHeartbeats 4000000 in
set_option maxRecDepth 100000 in
theorem T_La_takeParts {p2 : Int} {p3 : Int} {p4 : Int} {h : MH} {h' : MH} (hF : F_La_takeParts p2 p3 p4 h = some h') : CON 2 yX2_takeParts cX2_takeParts 8 none [vR 65, vR 54, vI p2, vI p3, vI p4] h none h' := by
  refine con_of (own := RX2) (fl := flX2) (by decide +kernel) rfl flok_X2 rfl (Nat.le_of_ble_eq_true rfl) ?_
  intro K hK hR
  show K 0 [(0, vR 65), (1, vR 54), (2, vI p2), (3, vI p3), (4, vI p4)] [] h
  unfold F_La_takeParts at hF
  refine g_seg hK [.iload 4] 0 2 (L1 := [(0, vR 65), (1, vR 54), (2, vI p2), (3, vI p3), (4, vI p4)]) (st1 := [vI p4]) (h1 := h) (P := True ∧ True) (by decide +kernel) rfl rfl ⟨trivial, trivial⟩ ?_
  obtain ⟨s1, e11, hF⟩ := jn1_elim hF
  have j2 : K 10 [(0, vR 65), (1, vR 54), (2, vI p2), (3, vI p3), (4, vI p4)] [vI s1] h := by
    refine g_seg hK [.istore 5, .iload 4] 10 14 (L1 := [(5, vI s1), (0, vR 65), (1, vR 54), (2, vI p2), (3, vI p3), (4, vI p4)]) (st1 := [vI p4]) (h1 := h) (P := True ∧ True ∧ True) (by decide +kernel) rfl rfl ⟨trivial, trivial, trivial⟩ ?_
    obtain ⟨s4, e10, hF⟩ := jn1_elim hF
    have j5 : K 22 [(0, vR 65), (1, vR 54), (2, vI p2), (3, vI p3), (5, vI s1)] [vI s4] h := by
      refine g_seg hK [.istore 6, .aload_n 0, .getfield 20] 22 28 (L1 := [(6, vI s4), (0, vR 65), (1, vR 54), (2, vI p2), (3, vI p3), (5, vI s1)]) (st1 := [vR 68]) (h1 := h) (P := True ∧ True ∧ kd 65 = 4 ∧ True) (by decide +kernel) rfl rfl ⟨trivial, trivial, rfl, trivial⟩ ?_
      refine g_callV0 hK 28 52 (d1 := 0) (ci := 3) (i := 68) (vs := []) (rest := []) (h1 := (F_Ro_emptyOut 68 h)) my_yX3_emptyOut vw_X2_52 (by decide) (T_Ro_emptyOut (o := 68) (h := h) (ko := rfl) (hF := rfl)) rfl rfl rfl (Nat.le_of_ble_eq_true rfl) (by decide +kernel) ?_
      refine g_seg hK [.aload_n 0, .getfield 23] 31 35 (L1 := [(6, vI s4), (0, vR 65), (1, vR 54), (2, vI p2), (3, vI p3), (5, vI s1)]) (st1 := [vR 70]) (h1 := (F_Ro_emptyOut 68 h)) (P := True ∧ kd 65 = 4 ∧ True) (by decide +kernel) rfl rfl ⟨trivial, rfl, trivial⟩ ?_
      refine g_callV0 hK 35 52 (d1 := 0) (ci := 3) (i := 70) (vs := []) (rest := []) (h1 := (F_Ro_emptyOut 70 (F_Ro_emptyOut 68 h))) my_yX3_emptyOut vw_X2_52 (by decide) (T_Ro_emptyOut (o := 70) (h := (F_Ro_emptyOut 68 h)) (ko := rfl) (hF := rfl)) rfl rfl rfl (Nat.le_of_ble_eq_true rfl) (by decide +kernel) ?_
      refine g_seg hK [.iload_n 2, .istore 7] 38 41 (L1 := [(7, vI p2), (6, vI s4), (0, vR 65), (1, vR 54), (2, vI p2), (3, vI p3), (5, vI s1)]) (st1 := []) (h1 := (F_Ro_emptyOut 70 (F_Ro_emptyOut 68 h))) (P := True ∧ True ∧ True) (by decide +kernel) rfl rfl ⟨trivial, trivial, trivial⟩ ?_
      refine hK.2.1 _ _ ([(0, vR 65), (1, vR 54), (3, vI p3), (5, vI s1), (6, vI s4), (7, vI p2)]) _ _ (sub_of [2, 3, 5, 6, 1, 0] rfl) ?_
      obtain ⟨x7_7, h8, e9, hF⟩ := ob2_elim hF
      refine LT_La_takeParts_L41 hK _ _ _ _ _ e9 ?_
      cases hF
      exact hR.2.2.2.2 101 _ _ (by decide +kernel) rfl ⟨rfl, rfl⟩
    clear hF
    have hF := e10
    refine g_ifz hK 14 .eq (7) 21 (t1 := 21) (t2 := 17) (by decide +kernel) (by decide) rfl rfl (fun (hc6 : p4 = 0) => ?_) (fun (hc6 : ¬ (p4 = 0)) => ?_)
    · have hF := ite_t hc6 hF
      refine g_seg hK [.iconst 2] 21 22 (L1 := [(5, vI s1), (0, vR 65), (1, vR 54), (2, vI p2), (3, vI p3), (4, vI p4)]) (st1 := [vI 2]) (h1 := h) (P := True ∧ True) (by decide +kernel) rfl rfl ⟨trivial, trivial⟩ ?_
      refine hK.2.1 _ _ ([(0, vR 65), (1, vR 54), (2, vI p2), (3, vI p3), (5, vI s1)]) _ _ (sub_of [1, 2, 3, 4, 0] rfl) ?_
      cases hF
      exact j5
    · have hF := ite_f hc6 hF
      refine g_seg hK [.iconst 1] 17 18 (L1 := [(5, vI s1), (0, vR 65), (1, vR 54), (2, vI p2), (3, vI p3), (4, vI p4)]) (st1 := [vI 1]) (h1 := h) (P := True ∧ True) (by decide +kernel) rfl rfl ⟨trivial, trivial⟩ ?_
      refine g_goto hK 18 (4) 22 (by decide +kernel) (by decide) ?_
      refine hK.2.1 _ _ ([(0, vR 65), (1, vR 54), (2, vI p2), (3, vI p3), (5, vI s1)]) _ _ (sub_of [1, 2, 3, 4, 0] rfl) ?_
      cases hF
      exact j5
  clear hF
  have hF := e11
  refine g_ifz hK 2 .eq (7) 9 (t1 := 9) (t2 := 5) (by decide +kernel) (by decide) rfl rfl (fun (hc3 : p4 = 0) => ?_) (fun (hc3 : ¬ (p4 = 0)) => ?_)
  · have hF := ite_t hc3 hF
    refine g_seg hK [.iconst 1] 9 10 (L1 := [(0, vR 65), (1, vR 54), (2, vI p2), (3, vI p3), (4, vI p4)]) (st1 := [vI 1]) (h1 := h) (P := True ∧ True) (by decide +kernel) rfl rfl ⟨trivial, trivial⟩ ?_
    cases hF
    exact j2
  · have hF := ite_f hc3 hF
    refine g_seg hK [.iconst 2] 5 6 (L1 := [(0, vR 65), (1, vR 54), (2, vI p2), (3, vI p3), (4, vI p4)]) (st1 := [vI 2]) (h1 := h) (P := True ∧ True) (by decide +kernel) rfl rfl ⟨trivial, trivial⟩ ?_
    refine g_goto hK 6 (4) 10 (by decide +kernel) (by decide) ?_
    cases hF
    exact j2

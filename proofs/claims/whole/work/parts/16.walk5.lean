set_option maxHeartbeats 4000000 in
set_option maxRecDepth 100000 in
theorem T_Hi_isEmpty {h : MH} {r : Int} (hF : F_Hi_isEmpty h = r) : CON 0 yX1_isEmpty cX1_isEmpty 1 (Option.some Jvm.ClassFile.FieldType.boolean) [vR 17] h (some (vI r)) h := by
  refine con_of (own := RX1) (fl := flX1) (by decide +kernel) rfl flok_X1 rfl (Nat.le_of_ble_eq_true rfl) ?_
  intro K hK hR
  show K 0 [(0, vR 17)] [] h
  unfold F_Hi_isEmpty at hF
  refine g_seg hK [.aload_n 0, .getfield 17] 0 4 (L1 := [(0, vR 17)]) (st1 := [vI (h 17 1)]) (h1 := h) (P := True ∧ kd 17 = 3 ∧ True) (by decide +kernel) rfl rfl ⟨trivial, rfl, trivial⟩ ?_
  refine g_ifz hK 4 .ne (7) 11 (t1 := 7) (t2 := 11) (by decide +kernel) (by decide) rfl rfl (fun (hc1 : h 17 1 = 0) => ?_) (fun (hc1 : ¬ (h 17 1 = 0)) => ?_)
  · have hF := ite_t hc1 hF
    refine g_seg hK [.iconst 1] 7 8 (L1 := [(0, vR 17)]) (st1 := [vI 1]) (h1 := h) (P := True ∧ True) (by decide +kernel) rfl rfl ⟨trivial, trivial⟩ ?_
    refine g_goto hK 8 (4) 12 (by decide +kernel) (by decide) ?_
    cases hF
    exact hR.2.1 12 _ _ _ (by decide +kernel) rfl (by decide) ⟨rfl, rfl⟩
  · have hF := ite_f hc1 hF
    refine g_seg hK [.iconst 0] 11 12 (L1 := [(0, vR 17)]) (st1 := [vI 0]) (h1 := h) (P := True ∧ True) (by decide +kernel) rfl rfl ⟨trivial, trivial⟩ ?_
    cases hF
    exact hR.2.1 12 _ _ _ (by decide +kernel) rfl (by decide) ⟨rfl, rfl⟩
set_option maxHeartbeats 4000000 in
set_option maxRecDepth 100000 in
theorem T_Hi_takeBack {p1 : Nat} {h : MH} {h' : MH} (kp1 : kd p1 = 6) (hF : F_Hi_takeBack p1 h = some h') : CON 4 yX1_takeBack cX1_takeBack 2 none [vR 17, vR p1] h none h' := by
  refine con_of (own := RX1) (fl := flX1) (by decide +kernel) rfl flok_X1 rfl (Nat.le_of_ble_eq_true rfl) ?_
  intro K hK hR
  show K 0 [(0, vR 17), (1, vR p1)] [] h
  unfold F_Hi_takeBack at hF
  refine g_seg hK [.aload_n 0, .getfield 17] 0 4 (L1 := [(0, vR 17), (1, vR p1)]) (st1 := [vI (h 17 1)]) (h1 := h) (P := True ∧ kd 17 = 3 ∧ True) (by decide +kernel) rfl rfl ⟨trivial, rfl, trivial⟩ ?_
  refine g_ifz hK 4 .le (25) 29 (t1 := 29) (t2 := 7) (by decide +kernel) (by decide) rfl rfl (fun (hc1 : h 17 1 ≤ 0) => ?_) (fun (hc1 : ¬ (h 17 1 ≤ 0)) => ?_)
  · have hF := ite_t hc1 hF
    cases hF
    exact hR.2.2.2.2 29 _ _ (by decide +kernel) rfl ⟨rfl, rfl⟩
  · have hF := ite_f hc1 hF
    refine g_seg hK [.aload_n 0, .dup, .getfield 17, .iconst 1, .isub, .putfield 17, .aload_n 0, .aload_n 0, .getfield 17] 7 22 (L1 := [(0, vR 17), (1, vR p1)]) (st1 := [vI ((up h 17 1 (wr ((h 17 1) - 1))) 17 1), vR 17]) (h1 := (up h 17 1 (wr ((h 17 1) - 1)))) (P := True ∧ True ∧ kd 17 = 3 ∧ True ∧ True ∧ kd 17 = 3 ∧ True ∧ True ∧ kd 17 = 3 ∧ True) (by decide +kernel) rfl rfl ⟨trivial, trivial, rfl, trivial, trivial, rfl, trivial, trivial, rfl, trivial⟩ ?_
    refine g_callV1 hK 22 25 (d1 := 0) (ci := 1) (i := 17) (vs := [vI ((up h 17 1 (wr ((h 17 1) - 1))) 17 1)]) (rest := []) (h1 := (up h 17 1 (wr ((h 17 1) - 1)))) (r := vO (F_Hi_slot ((up h 17 1 (wr ((h 17 1) - 1))) 17 1))) my_yX1_slot vw_X1_25 (by decide) (T_Hi_slot (p1 := ((up h 17 1 (wr ((h 17 1) - 1))) 17 1)) (h := (up h 17 1 (wr ((h 17 1) - 1)))) (hF := rfl)) rfl rfl rfl (Nat.le_of_ble_eq_true rfl) (by decide +kernel) ?_
    refine g_seg hK [.aload_n 1] 25 26 (L1 := [(0, vR 17), (1, vR p1)]) (st1 := [vR p1, vO (F_Hi_slot ((up h 17 1 (wr ((h 17 1) - 1))) 17 1))]) (h1 := (up h 17 1 (wr ((h 17 1) - 1)))) (P := True ∧ True) (by decide +kernel) rfl rfl ⟨trivial, trivial⟩ ?_
    obtain ⟨h2, e3, hF⟩ := ob1_elim hF
    refine g_callS0 hK 26 29 (d1 := 3) (vs := [vO (F_Hi_slot ((up h 17 1 (wr ((h 17 1) - 1))) 17 1)), vR p1]) (rest := []) (h1 := h2) my_yX1_copy sw_X1_29 (by decide) (T_Hi_copy (p1 := (F_Hi_slot ((up h 17 1 (wr ((h 17 1) - 1))) 17 1))) (p2 := (some p1)) (h := (up h 17 1 (wr ((h 17 1) - 1)))) (kp1 := (kd_Hi_slot _)) (kp2 := (fun i e => by cases e; exact kp1)) (hF := e3)) rfl (Nat.le_of_ble_eq_true rfl) (by decide +kernel) ?_
    cases hF
    exact hR.2.2.2.2 29 _ _ (by decide +kernel) rfl ⟨rfl, rfl⟩
set_option maxHeartbeats 4000000 in
set_option maxRecDepth 100000 in
theorem T_X_undo {h : MH} {r : Int} {h' : MH} (hF : F_X_undo h = some (r, h')) : CON 5 yX6_undo cX6_undo 1 (Option.some Jvm.ClassFile.FieldType.int) [vR 0] h (some (vI r)) h' := by
  refine con_of (own := RX6) (fl := flX6) (by decide +kernel) rfl flok_X6 rfl (Nat.le_of_ble_eq_true rfl) ?_
  intro K hK hR
  show K 0 [(0, vR 0)] [] h
  unfold F_X_undo at hF
  refine g_seg hK [.aload_n 0, .getfield 35] 0 4 (L1 := [(0, vR 0)]) (st1 := [vR 17]) (h1 := h) (P := True ∧ kd 0 = 8 ∧ True) (by decide +kernel) rfl rfl ⟨trivial, rfl, trivial⟩ ?_
  refine g_callV1 hK 4 216 (d1 := 0) (ci := 1) (i := 17) (vs := []) (rest := []) (h1 := h) (r := vI (F_Hi_isEmpty h)) my_yX1_isEmpty vw_X6_216 (by decide) (T_Hi_isEmpty (h := h) (hF := rfl)) rfl rfl rfl (Nat.le_of_ble_eq_true rfl) (by decide +kernel) ?_
  refine g_ifz hK 7 .eq (6) 13 (t1 := 13) (t2 := 10) (by decide +kernel) (by decide) rfl rfl (fun (hc1 : F_Hi_isEmpty h = 0) => ?_) (fun (hc1 : ¬ (F_Hi_isEmpty h = 0)) => ?_)
  · have hF := ite_t hc1 hF
    refine g_seg hK [.aload_n 0, .getfield 35, .aload_n 0, .getfield 21] 13 21 (L1 := [(0, vR 0)]) (st1 := [vR 3, vR 17]) (h1 := h) (P := True ∧ kd 0 = 8 ∧ True ∧ kd 0 = 8 ∧ True) (by decide +kernel) rfl rfl ⟨trivial, rfl, trivial, rfl, trivial⟩ ?_
    obtain ⟨h2, e3, hF⟩ := ob1_elim hF
    refine g_callV0 hK 21 217 (d1 := 4) (ci := 1) (i := 17) (vs := [vR 3]) (rest := []) (h1 := h2) my_yX1_takeBack vw_X6_217 (by decide) (T_Hi_takeBack (p1 := 3) (h := h) (kp1 := rfl) (hF := e3)) rfl rfl rfl (Nat.le_of_ble_eq_true rfl) (by decide +kernel) ?_
    refine g_seg hK [.aload_n 0, .getfield 35] 24 28 (L1 := [(0, vR 0)]) (st1 := [vR 17]) (h1 := h2) (P := True ∧ kd 0 = 8 ∧ True) (by decide +kernel) rfl rfl ⟨trivial, rfl, trivial⟩ ?_
    refine g_callV1 hK 28 220 (d1 := 0) (ci := 1) (i := 17) (vs := []) (rest := []) (h1 := h2) (r := vI (F_Hi_size h2)) my_yX1_size vw_X6_220 (by decide) (T_Hi_size (h := h2) (hF := rfl)) rfl rfl rfl (Nat.le_of_ble_eq_true rfl) (by decide +kernel) ?_
    cases hF
    exact hR.1 31 _ _ _ (by decide +kernel) rfl ⟨rfl, rfl⟩
  · have hF := ite_f hc1 hF
    refine g_seg hK [.bipush (-2)] 10 12 (L1 := [(0, vR 0)]) (st1 := [vI (-2)]) (h1 := h) (P := True ∧ True) (by decide +kernel) rfl rfl ⟨trivial, trivial⟩ ?_
    cases hF
    exact hR.1 12 _ _ _ (by decide +kernel) rfl ⟨rfl, rfl⟩
set_option maxHeartbeats 4000000 in
set_option maxRecDepth 100000 in
theorem T_X_save {h : MH} {r : Int} {h' : MH} (hF : F_X_save h = some (r, h')) : CON 6 yX6_save cX6_save 1 (Option.some Jvm.ClassFile.FieldType.int) [vR 0] h (some (vI r)) h' := by
  refine con_of (own := RX6) (fl := flX6) (by decide +kernel) rfl flok_X6 rfl (Nat.le_of_ble_eq_true rfl) ?_
  intro K hK hR
  show K 0 [(0, vR 0)] [] h
  unfold F_X_save at hF
  refine g_seg hK [.aload_n 0, .getfield 25, .aload_n 0, .getfield 21] 0 8 (L1 := [(0, vR 0)]) (st1 := [vR 3, vR 10]) (h1 := h) (P := True ∧ kd 0 = 8 ∧ True ∧ kd 0 = 8 ∧ True) (by decide +kernel) rfl rfl ⟨trivial, rfl, trivial, rfl, trivial⟩ ?_
  obtain ⟨h1, e2, hF⟩ := ob1_elim hF
  refine g_callV0 hK 8 221 (d1 := 2) (ci := 4) (i := 10) (vs := [vR 3]) (rest := []) (h1 := h1) my_yX4_become vw_X6_221 (by decide) (T_St_become (o := 10) (p1 := 3) (h := h) (ks := rfl) (kp1 := rfl) (hF := e2)) rfl rfl rfl (Nat.le_of_ble_eq_true rfl) (by decide +kernel) ?_
  refine g_seg hK [.aload_n 0, .iconst 1, .putfield 28, .aload_n 0] 11 17 (L1 := [(0, vR 0)]) (st1 := [vR 0]) (h1 := (up h1 0 3 1)) (P := True ∧ True ∧ (kd 0 = 8 ∧ (1 = 0 ∨ 1 = 1)) ∧ True ∧ True) (by decide +kernel) rfl rfl ⟨trivial, trivial, ⟨rfl, by decide⟩, trivial, trivial⟩ ?_
  obtain ⟨r3, h4, e5, hF⟩ := ob2_elim hF
  refine g_callV1 hK 17 109 (d1 := 5) (ci := 6) (i := 0) (vs := []) (rest := []) (h1 := h4) (r := vI r3) my_yX6_distanceNow vw_X6_109 (by decide) (T_X_distanceNow (h := (up h1 0 3 1)) (hF := e5)) rfl rfl rfl (Nat.le_of_ble_eq_true rfl) (by decide +kernel) ?_
  cases hF
  exact hR.1 20 _ _ _ (by decide +kernel) rfl ⟨rfl, rfl⟩
set_option maxHeartbeats 4000000 in
set_option maxRecDepth 100000 in
theorem T_X_restore {h : MH} {r : Int} {h' : MH} (hF : F_X_restore h = some (r, h')) : CON 6 yX6_restore cX6_restore 1 (Option.some Jvm.ClassFile.FieldType.int) [vR 0] h (some (vI r)) h' := by
  refine con_of (own := RX6) (fl := flX6) (by decide +kernel) rfl flok_X6 rfl (Nat.le_of_ble_eq_true rfl) ?_
  intro K hK hR
  show K 0 [(0, vR 0)] [] h
  unfold F_X_restore at hF
  refine g_seg hK [.aload_n 0, .getfield 28] 0 4 (L1 := [(0, vR 0)]) (st1 := [vI (h 0 3)]) (h1 := h) (P := True ∧ kd 0 = 8 ∧ True) (by decide +kernel) rfl rfl ⟨trivial, rfl, trivial⟩ ?_
  refine g_ifz hK 4 .ne (6) 10 (t1 := 7) (t2 := 10) (by decide +kernel) (by decide) rfl rfl (fun (hc1 : h 0 3 = 0) => ?_) (fun (hc1 : ¬ (h 0 3 = 0)) => ?_)
  · have hF := ite_t hc1 hF
    refine g_seg hK [.bipush (-2)] 7 9 (L1 := [(0, vR 0)]) (st1 := [vI (-2)]) (h1 := h) (P := True ∧ True) (by decide +kernel) rfl rfl ⟨trivial, trivial⟩ ?_
    cases hF
    exact hR.1 9 _ _ _ (by decide +kernel) rfl ⟨rfl, rfl⟩
  · have hF := ite_f hc1 hF
    refine g_seg hK [.aload_n 0, .getfield 35, .aload_n 0, .getfield 21] 10 18 (L1 := [(0, vR 0)]) (st1 := [vR 3, vR 17]) (h1 := h) (P := True ∧ kd 0 = 8 ∧ True ∧ kd 0 = 8 ∧ True) (by decide +kernel) rfl rfl ⟨trivial, rfl, trivial, rfl, trivial⟩ ?_
    obtain ⟨h2, e3, hF⟩ := ob1_elim hF
    refine g_callV0 hK 18 84 (d1 := 5) (ci := 1) (i := 17) (vs := [vR 3]) (rest := []) (h1 := h2) my_yX1_record vw_X6_84 (by decide) (T_Hi_record (p1 := 3) (h := h) (kp1 := rfl) (hF := e3)) rfl rfl rfl (Nat.le_of_ble_eq_true rfl) (by decide +kernel) ?_
    refine g_seg hK [.aload_n 0, .getfield 21, .aload_n 0, .getfield 25] 21 29 (L1 := [(0, vR 0)]) (st1 := [vR 10, vR 3]) (h1 := h2) (P := True ∧ kd 0 = 8 ∧ True ∧ kd 0 = 8 ∧ True) (by decide +kernel) rfl rfl ⟨trivial, rfl, trivial, rfl, trivial⟩ ?_
    obtain ⟨h4, e5, hF⟩ := ob1_elim hF
    refine g_callV0 hK 29 221 (d1 := 2) (ci := 4) (i := 3) (vs := [vR 10]) (rest := []) (h1 := h4) my_yX4_become vw_X6_221 (by decide) (T_St_become (o := 3) (p1 := 10) (h := h2) (ks := rfl) (kp1 := rfl) (hF := e5)) rfl rfl rfl (Nat.le_of_ble_eq_true rfl) (by decide +kernel) ?_
    refine g_seg hK [.aload_n 0] 32 33 (L1 := [(0, vR 0)]) (st1 := [vR 0]) (h1 := h4) (P := True ∧ True) (by decide +kernel) rfl rfl ⟨trivial, trivial⟩ ?_
    obtain ⟨r6, h7, e8, hF⟩ := ob2_elim hF
    refine g_callV1 hK 33 109 (d1 := 5) (ci := 6) (i := 0) (vs := []) (rest := []) (h1 := h7) (r := vI r6) my_yX6_distanceNow vw_X6_109 (by decide) (T_X_distanceNow (h := h4) (hF := e8)) rfl rfl rfl (Nat.le_of_ble_eq_true rfl) (by decide +kernel) ?_
    cases hF
    exact hR.1 36 _ _ _ (by decide +kernel) rfl ⟨rfl, rfl⟩
set_option maxHeartbeats 4000000 in
set_option maxRecDepth 100000 in
theorem T_M_in {p1 : Int} {p2 : Int} {p3 : Int} {h : MH} {r : Int} (hF : F_M_in p1 p2 p3 = r) : CON 0 yX7_in cX7_in 3 (Option.some Jvm.ClassFile.FieldType.boolean) [vI p1, vI p2, vI p3] h (some (vI r)) h := by
  refine con_of (own := RX7) (fl := flX7) (by decide +kernel) rfl flok_X7 rfl (Nat.le_of_ble_eq_true rfl) ?_
  intro K hK hR
  show K 0 [(0, vI p1), (1, vI p2), (2, vI p3)] [] h
  unfold F_M_in at hF
  refine g_seg hK [.iload_n 0, .iload_n 1] 0 2 (L1 := [(0, vI p1), (1, vI p2), (2, vI p3)]) (st1 := [vI p2, vI p1]) (h1 := h) (P := True ∧ True ∧ True) (by decide +kernel) rfl rfl ⟨trivial, trivial, trivial⟩ ?_
  refine g_icmp hK 2 .lt (12) 14 (t1 := 14) (t2 := 5) (by decide +kernel) (by decide) rfl rfl (fun (hc1 : p1 < p2) => ?_) (fun (hc1 : ¬ (p1 < p2)) => ?_)
  · have hF := ite_t hc1 hF
    refine g_seg hK [.iconst 0] 14 15 (L1 := [(0, vI p1), (1, vI p2), (2, vI p3)]) (st1 := [vI 0]) (h1 := h) (P := True ∧ True) (by decide +kernel) rfl rfl ⟨trivial, trivial⟩ ?_
    cases hF
    exact hR.2.1 15 _ _ _ (by decide +kernel) rfl (by decide) ⟨rfl, rfl⟩
  · have hF := ite_f hc1 hF
    refine g_seg hK [.iload_n 0, .iload_n 2] 5 7 (L1 := [(0, vI p1), (1, vI p2), (2, vI p3)]) (st1 := [vI p3, vI p1]) (h1 := h) (P := True ∧ True ∧ True) (by decide +kernel) rfl rfl ⟨trivial, trivial, trivial⟩ ?_
    refine g_icmp hK 7 .gt (7) 14 (t1 := 10) (t2 := 14) (by decide +kernel) (by decide) rfl rfl (fun (hc2 : p1 ≤ p3) => ?_) (fun (hc2 : ¬ (p1 ≤ p3)) => ?_)
    · have hF := ite_t hc2 hF
      refine g_seg hK [.iconst 1] 10 11 (L1 := [(0, vI p1), (1, vI p2), (2, vI p3)]) (st1 := [vI 1]) (h1 := h) (P := True ∧ True) (by decide +kernel) rfl rfl ⟨trivial, trivial⟩ ?_
      refine g_goto hK 11 (4) 15 (by decide +kernel) (by decide) ?_
      cases hF
      exact hR.2.1 15 _ _ _ (by decide +kernel) rfl (by decide) ⟨rfl, rfl⟩
    · have hF := ite_f hc2 hF
      refine g_seg hK [.iconst 0] 14 15 (L1 := [(0, vI p1), (1, vI p2), (2, vI p3)]) (st1 := [vI 0]) (h1 := h) (P := True ∧ True) (by decide +kernel) rfl rfl ⟨trivial, trivial⟩ ?_
      cases hF
      exact hR.2.1 15 _ _ _ (by decide +kernel) rfl (by decide) ⟨rfl, rfl⟩
set_option maxHeartbeats 4000000 in
set_option maxRecDepth 100000 in
theorem LT_M_remembers_L50 {K : KT} (hK : Rules RX7 cX7_remembers 2 none flX7 0 K) : ∀ (n : Nat) (x1 : Int) (h : MH) (x1' : Int) (h' : MH), F_M_remembers_L50 n x1 h = some (x1', h') → K 82 [(0, vR 76), (1, vI x1')] [] h' → K 50 [(0, vR 76), (1, vI x1)] [] h := by
  intro n
  induction n with
  | zero =>
    intro x1 h x1' h' hF
    cases hF
  | succ n ih =>
    intro x1 h x1' h' hF hE
    unfold F_M_remembers_L50 at hF
    refine g_seg hK [.iload_n 1, .bipush 49] 50 53 (L1 := [(0, vR 76), (1, vI x1)]) (st1 := [vI 49, vI x1]) (h1 := h) (P := True ∧ True ∧ True) (by decide +kernel) rfl rfl ⟨trivial, trivial, trivial⟩ ?_
    refine g_icmp hK 53 .ge (29) 82 (t1 := 56) (t2 := 82) (by decide +kernel) (by decide) rfl rfl (fun (hc1 : x1 < 49) => ?_) (fun (hc1 : ¬ (x1 < 49)) => ?_)
    · have hF := ite_t hc1 hF
      refine g_seg hK [.aload_n 0, .getfield 13, .bipush 49, .aload_n 0, .getfield 44, .imul, .iload_n 1, .iadd, .aload_n 0, .getfield 7, .iload_n 1] 56 74 (L1 := [(0, vR 76), (1, vI x1)]) (st1 := [vI x1, vR 77, vI (wr ((wr (49 * (h 76 2))) + x1)), vR 78]) (h1 := h) (P := True ∧ kd 76 = 9 ∧ True ∧ True ∧ kd 76 = 9 ∧ True ∧ True ∧ True ∧ True ∧ kd 76 = 9 ∧ True ∧ True) (by decide +kernel) rfl rfl ⟨trivial, rfl, trivial, trivial, rfl, trivial, trivial, trivial, trivial, rfl, trivial, trivial⟩ ?_
      obtain ⟨hg2, hF⟩ := gd_elim hF
      refine g_seg hK [.iaload] 74 75 (L1 := [(0, vR 76), (1, vI x1)]) (st1 := [vI (h 77 x1.toNat), vI (wr ((wr (49 * (h 76 2))) + x1)), vR 78]) (h1 := h) (P := (kd 77 = 0 ∧ 0 ≤ x1 ∧ x1 < 49) ∧ True) (by decide +kernel) rfl rfl ⟨⟨rfl, hg2⟩, trivial⟩ ?_
      obtain ⟨hg3, hF⟩ := gd_elim hF
      refine g_seg hK [.iastore, .iinc 1 1] 75 79 (L1 := [(1, vI (wr (x1 + 1))), (0, vR 76)]) (st1 := []) (h1 := (up h 78 (wr ((wr (49 * (h 76 2))) + x1)).toNat (h 77 x1.toNat))) (P := (kd 78 = 0 ∧ 0 ≤ wr ((wr (49 * (h 76 2))) + x1) ∧ wr ((wr (49 * (h 76 2))) + x1) < 196) ∧ True ∧ True) (by decide +kernel) rfl rfl ⟨⟨rfl, hg3⟩, trivial, trivial⟩ ?_
      refine g_goto hK 79 (-29) 50 (by decide +kernel) (by decide) ?_
      refine hK.2.1 _ _ ([(0, vR 76), (1, vI (wr (x1 + 1)))]) _ _ (sub_of [1, 0] rfl) ?_
      exact ih _ _ _ _ hF hE
    · have hF := ite_f hc1 hF
      cases hF
      exact hE
set_option maxHeartbeats 4000000 in
set_option maxRecDepth 100000 in
theorem LT_M_remembers_L10 {K : KT} (hK : Rules RX7 cX7_remembers 2 none flX7 0 K) : ∀ (n : Nat) (x1 : Int) (h : MH) (x1' : Int) (h' : MH), F_M_remembers_L10 n x1 h = some (x1', h') → K 38 [(0, vR 76), (1, vI x1')] [] h' → K 10 [(0, vR 76), (1, vI x1)] [] h := by
  intro n
  induction n with
  | zero =>
    intro x1 h x1' h' hF
    cases hF
  | succ n ih =>
    intro x1 h x1' h' hF hE
    unfold F_M_remembers_L10 at hF
    refine g_seg hK [.iload_n 1, .sipush 147] 10 14 (L1 := [(0, vR 76), (1, vI x1)]) (st1 := [vI 147, vI x1]) (h1 := h) (P := True ∧ True ∧ True) (by decide +kernel) rfl rfl ⟨trivial, trivial, trivial⟩ ?_
    refine g_icmp hK 14 .ge (24) 38 (t1 := 17) (t2 := 38) (by decide +kernel) (by decide) rfl rfl (fun (hc1 : x1 < 147) => ?_) (fun (hc1 : ¬ (x1 < 147)) => ?_)
    · have hF := ite_t hc1 hF
      refine g_seg hK [.aload_n 0, .getfield 13, .iload_n 1, .aload_n 0, .getfield 13, .bipush 49, .iload_n 1, .iadd] 17 30 (L1 := [(0, vR 76), (1, vI x1)]) (st1 := [vI (wr (49 + x1)), vR 78, vI x1, vR 78]) (h1 := h) (P := True ∧ kd 76 = 9 ∧ True ∧ True ∧ kd 76 = 9 ∧ True ∧ True ∧ True ∧ True) (by decide +kernel) rfl rfl ⟨trivial, rfl, trivial, trivial, rfl, trivial, trivial, trivial, trivial⟩ ?_
      obtain ⟨hg2, hF⟩ := gd_elim hF
      refine g_seg hK [.iaload] 30 31 (L1 := [(0, vR 76), (1, vI x1)]) (st1 := [vI (h 78 (wr (49 + x1)).toNat), vI x1, vR 78]) (h1 := h) (P := (kd 78 = 0 ∧ 0 ≤ wr (49 + x1) ∧ wr (49 + x1) < 196) ∧ True) (by decide +kernel) rfl rfl ⟨⟨rfl, hg2⟩, trivial⟩ ?_
      obtain ⟨hg3, hF⟩ := gd_elim hF
      refine g_seg hK [.iastore, .iinc 1 1] 31 35 (L1 := [(1, vI (wr (x1 + 1))), (0, vR 76)]) (st1 := []) (h1 := (up h 78 x1.toNat (h 78 (wr (49 + x1)).toNat))) (P := (kd 78 = 0 ∧ 0 ≤ x1 ∧ x1 < 196) ∧ True ∧ True) (by decide +kernel) rfl rfl ⟨⟨rfl, hg3⟩, trivial, trivial⟩ ?_
      refine g_goto hK 35 (-25) 10 (by decide +kernel) (by decide) ?_
      refine hK.2.1 _ _ ([(0, vR 76), (1, vI (wr (x1 + 1)))]) _ _ (sub_of [1, 0] rfl) ?_
      exact ih _ _ _ _ hF hE
    · have hF := ite_f hc1 hF
      cases hF
      exact hE
set_option maxHeartbeats 4000000 in
set_option maxRecDepth 100000 in
theorem T_M_remembers {h : MH} {h' : MH} (hF : F_M_remembers h = some h') : CON 0 yX7_remembers cX7_remembers 2 none [vR 76] h none h' := by
  refine con_of (own := RX7) (fl := flX7) (by decide +kernel) rfl flok_X7 rfl (Nat.le_of_ble_eq_true rfl) ?_
  intro K hK hR
  show K 0 [(0, vR 76)] [] h
  unfold F_M_remembers at hF
  refine g_seg hK [.aload_n 0, .getfield 44, .iconst 4] 0 5 (L1 := [(0, vR 76)]) (st1 := [vI 4, vI (h 76 2)]) (h1 := h) (P := True ∧ kd 76 = 9 ∧ True ∧ True) (by decide +kernel) rfl rfl ⟨trivial, rfl, trivial, trivial⟩ ?_
  obtain ⟨kj2, e6, hF⟩ := jk1_elim hF
  have j2 : ∀ (h1 : MH), kj2 h1 = some h' → K 48 [(0, vR 76)] [] h1 := by
    intro h1 hF
    have hF := (e6 h1).symm.trans hF
    refine g_seg hK [.iconst 0, .istore_n 1] 48 50 (L1 := [(1, vI 0), (0, vR 76)]) (st1 := []) (h1 := h1) (P := True ∧ True ∧ True) (by decide +kernel) rfl rfl ⟨trivial, trivial, trivial⟩ ?_
    refine hK.2.1 _ _ ([(0, vR 76), (1, vI 0)]) _ _ (sub_of [1, 0] rfl) ?_
    obtain ⟨x1_3, h4, e5, hF⟩ := ob2_elim hF
    refine LT_M_remembers_L50 hK _ _ _ _ _ e5 ?_
    refine g_seg hK [.aload_n 0, .dup, .getfield 44, .iconst 1, .iadd, .putfield 44] 82 92 (L1 := [(0, vR 76), (1, vI x1_3)]) (st1 := []) (h1 := (up h4 76 2 (wr ((h4 76 2) + 1)))) (P := True ∧ True ∧ kd 76 = 9 ∧ True ∧ True ∧ kd 76 = 9 ∧ True) (by decide +kernel) rfl rfl ⟨trivial, trivial, rfl, trivial, trivial, rfl, trivial⟩ ?_
    cases hF
    exact hR.2.2.2.2 92 _ _ (by decide +kernel) rfl ⟨rfl, rfl⟩
  refine g_icmp hK 5 .ne (43) 48 (t1 := 8) (t2 := 48) (by decide +kernel) (by decide) rfl rfl (fun (hc7 : h 76 2 = 4) => ?_) (fun (hc7 : ¬ (h 76 2 = 4)) => ?_)
  · have hF := ite_t hc7 hF
    refine g_seg hK [.iconst 0, .istore_n 1] 8 10 (L1 := [(1, vI 0), (0, vR 76)]) (st1 := []) (h1 := h) (P := True ∧ True ∧ True) (by decide +kernel) rfl rfl ⟨trivial, trivial, trivial⟩ ?_
    refine hK.2.1 _ _ ([(0, vR 76), (1, vI 0)]) _ _ (sub_of [1, 0] rfl) ?_
    obtain ⟨x1_8, h9, e10, hF⟩ := ob2_elim hF
    refine LT_M_remembers_L10 hK _ _ _ _ _ e10 ?_
    refine g_seg hK [.aload_n 0, .dup, .getfield 44, .iconst 1, .isub, .putfield 44] 38 48 (L1 := [(0, vR 76), (1, vI x1_8)]) (st1 := []) (h1 := (up h9 76 2 (wr ((h9 76 2) - 1)))) (P := True ∧ True ∧ kd 76 = 9 ∧ True ∧ True ∧ kd 76 = 9 ∧ True) (by decide +kernel) rfl rfl ⟨trivial, trivial, rfl, trivial, trivial, rfl, trivial⟩ ?_
    refine hK.2.1 _ _ ([(0, vR 76)]) _ _ (sub_of [0] rfl) ?_
    exact j2 _ hF
  · have hF := ite_f hc7 hF
    exact j2 _ hF
set_option maxHeartbeats 4000000 in
set_option maxRecDepth 100000 in
theorem T_M_lines {p1 : Int} {h : MH} {r : Int} (hF : F_M_lines p1 h = some r) : CON 0 yX7_lines cX7_lines 2 (Option.some Jvm.ClassFile.FieldType.int) [vR 76, vI p1] h (some (vI r)) h := by
  refine con_of (own := RX7) (fl := flX7) (by decide +kernel) rfl flok_X7 rfl (Nat.le_of_ble_eq_true rfl) ?_
  intro K hK hR
  show K 0 [(0, vR 76), (1, vI p1)] [] h
  unfold F_M_lines at hF
  refine g_seg hK [.aload_n 0, .getfield 7, .bipush 15, .iload_n 1, .imul] 0 8 (L1 := [(0, vR 76), (1, vI p1)]) (st1 := [vI (wr (15 * p1)), vR 77]) (h1 := h) (P := True ∧ kd 76 = 9 ∧ True ∧ True ∧ True ∧ True) (by decide +kernel) rfl rfl ⟨trivial, rfl, trivial, trivial, trivial, trivial⟩ ?_
  obtain ⟨hg1, hF⟩ := gd_elim hF
  refine g_seg hK [.iaload] 8 9 (L1 := [(0, vR 76), (1, vI p1)]) (st1 := [vI (h 77 (wr (15 * p1)).toNat)]) (h1 := h) (P := (kd 77 = 0 ∧ 0 ≤ wr (15 * p1) ∧ wr (15 * p1) < 49) ∧ True) (by decide +kernel) rfl rfl ⟨⟨rfl, hg1⟩, trivial⟩ ?_
  cases hF
  exact hR.1 9 _ _ _ (by decide +kernel) rfl ⟨rfl, rfl⟩
set_option maxHeartbeats 4000000 in
set_option maxRecDepth 100000 in
theorem T_M_lineOf {p1 : Int} {p2 : Int} {h : MH} {r : Int} (hF : F_M_lineOf p1 p2 h = some r) : CON 0 yX7_lineOf cX7_lineOf 3 (Option.some Jvm.ClassFile.FieldType.int) [vR 76, vI p1, vI p2] h (some (vI r)) h := by
  refine con_of (own := RX7) (fl := flX7) (by decide +kernel) rfl flok_X7 rfl (Nat.le_of_ble_eq_true rfl) ?_
  intro K hK hR
  show K 0 [(0, vR 76), (1, vI p1), (2, vI p2)] [] h
  unfold F_M_lineOf at hF
  refine g_seg hK [.aload_n 0, .getfield 7, .bipush 15, .iload_n 1, .imul, .iconst 1, .iadd, .iload_n 2, .iadd] 0 12 (L1 := [(0, vR 76), (1, vI p1), (2, vI p2)]) (st1 := [vI (wr ((wr ((wr (15 * p1)) + 1)) + p2)), vR 77]) (h1 := h) (P := True ∧ kd 76 = 9 ∧ True ∧ True ∧ True ∧ True ∧ True ∧ True ∧ True ∧ True) (by decide +kernel) rfl rfl ⟨trivial, rfl, trivial, trivial, trivial, trivial, trivial, trivial, trivial, trivial⟩ ?_
  obtain ⟨hg1, hF⟩ := gd_elim hF
  refine g_seg hK [.iaload] 12 13 (L1 := [(0, vR 76), (1, vI p1), (2, vI p2)]) (st1 := [vI (h 77 (wr ((wr ((wr (15 * p1)) + 1)) + p2)).toNat)]) (h1 := h) (P := (kd 77 = 0 ∧ 0 ≤ wr ((wr ((wr (15 * p1)) + 1)) + p2) ∧ wr ((wr ((wr (15 * p1)) + 1)) + p2) < 49) ∧ True) (by decide +kernel) rfl rfl ⟨⟨rfl, hg1⟩, trivial⟩ ?_
  cases hF
  exact hR.1 13 _ _ _ (by decide +kernel) rfl ⟨rfl, rfl⟩
set_option maxHeartbeats 4000000 in
set_option maxRecDepth 100000 in
theorem T_M_olds {h : MH} {r : Int} (hF : F_M_olds h = some r) : CON 1 yX7_olds cX7_olds 1 (Option.some Jvm.ClassFile.FieldType.int) [vR 76] h (some (vI r)) h := by
  refine con_of (own := RX7) (fl := flX7) (by decide +kernel) rfl flok_X7 rfl (Nat.le_of_ble_eq_true rfl) ?_
  intro K hK hR
  show K 0 [(0, vR 76)] [] h
  unfold F_M_olds at hF
  refine g_seg hK [.aload_n 0, .iconst 0] 0 2 (L1 := [(0, vR 76)]) (st1 := [vI 0, vR 76]) (h1 := h) (P := True ∧ True ∧ True) (by decide +kernel) rfl rfl ⟨trivial, trivial, trivial⟩ ?_
  obtain ⟨r1, e2, hF⟩ := ob1_elim hF
  refine g_callV1 hK 2 47 (d1 := 0) (ci := 7) (i := 76) (vs := [vI 0]) (rest := []) (h1 := h) (r := vI r1) my_yX7_lines vw_X7_47 (by decide) (T_M_lines (p1 := 0) (h := h) (hF := e2)) rfl rfl rfl (Nat.le_of_ble_eq_true rfl) (by decide +kernel) ?_
  refine g_seg hK [.aload_n 0, .getfield 40, .bipush (-4)] 5 11 (L1 := [(0, vR 76)]) (st1 := [vI (-4), vI (h 76 8), vI r1]) (h1 := h) (P := True ∧ kd 76 = 9 ∧ True ∧ True) (by decide +kernel) rfl rfl ⟨trivial, rfl, trivial, trivial⟩ ?_
  refine g_icmp hK 11 .ne (7) 18 (t1 := 14) (t2 := 18) (by decide +kernel) (by decide) rfl rfl (fun (hc3 : h 76 8 = (-4)) => ?_) (fun (hc3 : ¬ (h 76 8 = (-4))) => ?_)
  · have hF := ite_t hc3 hF
    refine g_seg hK [.iconst 0] 14 15 (L1 := [(0, vR 76)]) (st1 := [vI 0, vI r1]) (h1 := h) (P := True ∧ True) (by decide +kernel) rfl rfl ⟨trivial, trivial⟩ ?_
    refine g_goto hK 15 (4) 19 (by decide +kernel) (by decide) ?_
    refine g_seg hK [.isub] 19 20 (L1 := [(0, vR 76)]) (st1 := [vI (wr (r1 - 0))]) (h1 := h) (P := True ∧ True) (by decide +kernel) rfl rfl ⟨trivial, trivial⟩ ?_
    cases hF
    exact hR.1 20 _ _ _ (by decide +kernel) rfl ⟨rfl, rfl⟩
  · have hF := ite_f hc3 hF
    refine g_seg hK [.iconst 1, .isub] 18 20 (L1 := [(0, vR 76)]) (st1 := [vI (wr (r1 - 1))]) (h1 := h) (P := True ∧ True ∧ True) (by decide +kernel) rfl rfl ⟨trivial, trivial, trivial⟩ ?_
    cases hF
    exact hR.1 20 _ _ _ (by decide +kernel) rfl ⟨rfl, rfl⟩
set_option maxHeartbeats 4000000 in
set_option maxRecDepth 100000 in
theorem T_M_old {p1 : Int} {h : MH} {r : Int} (hF : F_M_old p1 h = some r) : CON 1 yX7_old cX7_old 2 (Option.some Jvm.ClassFile.FieldType.int) [vR 76, vI p1] h (some (vI r)) h := by
  refine con_of (own := RX7) (fl := flX7) (by decide +kernel) rfl flok_X7 rfl (Nat.le_of_ble_eq_true rfl) ?_
  intro K hK hR
  show K 0 [(0, vR 76), (1, vI p1)] [] h
  unfold F_M_old at hF
  refine g_seg hK [.aload_n 0, .iconst 0, .aload_n 0, .getfield 40, .bipush (-4)] 0 8 (L1 := [(0, vR 76), (1, vI p1)]) (st1 := [vI (-4), vI (h 76 8), vI 0, vR 76]) (h1 := h) (P := True ∧ True ∧ True ∧ kd 76 = 9 ∧ True ∧ True) (by decide +kernel) rfl rfl ⟨trivial, trivial, trivial, rfl, trivial, trivial⟩ ?_
  obtain ⟨kj4, e7, hF⟩ := jk1_elim hF
  have j4 : ∀ (s3 : Int), kj4 s3 = some r → K 26 [] [vI s3, vI 0, vR 76] h := by
    intro s3 hF
    have hF := (e7 s3).symm.trans hF
    obtain ⟨r5, e6, hF⟩ := ob1_elim hF
    refine g_callV1 hK 26 51 (d1 := 0) (ci := 7) (i := 76) (vs := [vI 0, vI s3]) (rest := []) (h1 := h) (r := vI r5) my_yX7_lineOf vw_X7_51 (by decide) (T_M_lineOf (p1 := 0) (p2 := s3) (h := h) (hF := e6)) rfl rfl rfl (Nat.le_of_ble_eq_true rfl) (by decide +kernel) ?_
    cases hF
    exact hR.1 29 _ _ _ (by decide +kernel) rfl ⟨rfl, rfl⟩
  obtain ⟨kj2, e8, hF⟩ := jk1_elim hF
  have j2 : ∀ (u1 : Unit), kj2 u1 = some r → K 25 [(1, vI p1)] [vI 0, vR 76] h := by
    intro u1 hF
    have hF := (e8 u1).symm.trans hF
    refine g_seg hK [.iload_n 1] 25 26 (L1 := [(1, vI p1)]) (st1 := [vI p1, vI 0, vR 76]) (h1 := h) (P := True ∧ True) (by decide +kernel) rfl rfl ⟨trivial, trivial⟩ ?_
    refine hK.2.1 _ _ ([]) _ _ (sub_of [] rfl) ?_
    exact j4 _ hF
  refine g_icmp hK 8 .eq (17) 25 (t1 := 25) (t2 := 11) (by decide +kernel) (by decide) rfl rfl (fun (hc9 : h 76 8 = (-4)) => ?_) (fun (hc9 : ¬ (h 76 8 = (-4))) => ?_)
  · have hF := ite_t hc9 hF
    refine hK.2.1 _ _ ([(1, vI p1)]) _ _ (sub_of [1] rfl) ?_
    exact j2 _ hF
  · have hF := ite_f hc9 hF
    refine g_seg hK [.iload_n 1, .aload_n 0, .getfield 40] 11 16 (L1 := [(0, vR 76), (1, vI p1)]) (st1 := [vI (h 76 8), vI p1, vI 0, vR 76]) (h1 := h) (P := True ∧ True ∧ kd 76 = 9 ∧ True) (by decide +kernel) rfl rfl ⟨trivial, trivial, rfl, trivial⟩ ?_
    refine g_icmp hK 16 .lt (9) 25 (t1 := 25) (t2 := 19) (by decide +kernel) (by decide) rfl rfl (fun (hc10 : p1 < h 76 8) => ?_) (fun (hc10 : ¬ (p1 < h 76 8)) => ?_)
    · have hF := ite_t hc10 hF
      refine hK.2.1 _ _ ([(1, vI p1)]) _ _ (sub_of [1] rfl) ?_
      exact j2 _ hF
    · have hF := ite_f hc10 hF
      refine g_seg hK [.iload_n 1, .iconst 1, .iadd] 19 22 (L1 := [(0, vR 76), (1, vI p1)]) (st1 := [vI (wr (p1 + 1)), vI 0, vR 76]) (h1 := h) (P := True ∧ True ∧ True ∧ True) (by decide +kernel) rfl rfl ⟨trivial, trivial, trivial, trivial⟩ ?_
      refine g_goto hK 22 (4) 26 (by decide +kernel) (by decide) ?_
      refine hK.2.1 _ _ ([]) _ _ (sub_of [] rfl) ?_
      exact j4 _ hF
set_option maxHeartbeats 4000000 in
set_option maxRecDepth 100000 in
theorem LT_M_counts_L15 {K : KT} (hK : Rules RX7 cX7_counts 6 (Option.some Jvm.ClassFile.FieldType.int) flX7 2 K) {x1 : Int} : ∀ (n : Nat) (x2 : Int) (h : MH) (x2' : Int) (h' : MH), F_M_counts_L15 x1 n x2 h = some (x2', h') → K 157 [(0, vR 76), (1, vI x1), (2, vI x2')] [] h' → K 15 [(0, vR 76), (1, vI x1), (2, vI x2)] [] h := by
  intro n
  induction n with
  | zero =>
    intro x2 h x2' h' hF
    cases hF
  | succ n ih =>
    intro x2 h x2' h' hF hE
    unfold F_M_counts_L15 at hF
    refine g_seg hK [.iload_n 2] 15 16 (L1 := [(0, vR 76), (1, vI x1), (2, vI x2)]) (st1 := [vI x2]) (h1 := h) (P := True ∧ True) (by decide +kernel) rfl rfl ⟨trivial, trivial⟩ ?_
    refine g_ifz hK 16 .lt (141) 157 (t1 := 157) (t2 := 19) (by decide +kernel) (by decide) rfl rfl (fun (hc1 : x2 < 0) => ?_) (fun (hc1 : ¬ (x2 < 0)) => ?_)
    · have hF := ite_t hc1 hF
      cases hF
      exact hE
    · have hF := ite_f hc1 hF
      refine g_seg hK [.iconst 0, .istore_n 3, .iload_n 1, .aload_n 0] 19 23 (L1 := [(3, vI 0), (0, vR 76), (1, vI x1), (2, vI x2)]) (st1 := [vR 76, vI x1]) (h1 := h) (P := True ∧ True ∧ True ∧ True ∧ True) (by decide +kernel) rfl rfl ⟨trivial, trivial, trivial, trivial, trivial⟩ ?_
      obtain ⟨r2, e3, hF⟩ := ob1_elim hF
      refine g_callV1 hK 23 55 (d1 := 1) (ci := 7) (i := 76) (vs := []) (rest := [vI x1]) (h1 := h) (r := vI r2) my_yX7_olds vw_X7_55 (by decide) (T_M_olds (h := h) (hF := e3)) rfl rfl rfl (Nat.le_of_ble_eq_true rfl) (by decide +kernel) ?_
      obtain ⟨kj5, e7, hF⟩ := jk1_elim hF
      have j5 : ∀ (x3_4 : Int), kj5 x3_4 = some (x2', h') → K 139 [(0, vR 76), (1, vI x1), (2, vI x2), (3, vI x3_4)] [] h := by
        intro x3_4 hF
        have hF := (e7 x3_4).symm.trans hF
        refine g_seg hK [.aload_n 0, .getfield 22, .bipush 15, .iload_n 1, .imul, .iload_n 2, .iadd, .iload_n 3] 139 150 (L1 := [(0, vR 76), (1, vI x1), (2, vI x2), (3, vI x3_4)]) (st1 := [vI x3_4, vI (wr ((wr (15 * x1)) + x2)), vR 81]) (h1 := h) (P := True ∧ kd 76 = 9 ∧ True ∧ True ∧ True ∧ True ∧ True ∧ True ∧ True) (by decide +kernel) rfl rfl ⟨trivial, rfl, trivial, trivial, trivial, trivial, trivial, trivial, trivial⟩ ?_
        obtain ⟨hg6, hF⟩ := gd_elim hF
        refine g_seg hK [.iastore, .iinc 2 (-1)] 150 154 (L1 := [(2, vI (wr (x2 + (-1)))), (0, vR 76), (1, vI x1), (3, vI x3_4)]) (st1 := []) (h1 := (up h 81 (wr ((wr (15 * x1)) + x2)).toNat x3_4)) (P := (kd 81 = 0 ∧ 0 ≤ wr ((wr (15 * x1)) + x2) ∧ wr ((wr (15 * x1)) + x2) < 225) ∧ True ∧ True) (by decide +kernel) rfl rfl ⟨⟨rfl, hg6⟩, trivial, trivial⟩ ?_
        refine g_goto hK 154 (-139) 15 (by decide +kernel) (by decide) ?_
        refine hK.2.1 _ _ ([(0, vR 76), (1, vI x1), (2, vI (wr (x2 + (-1))))]) _ _ (sub_of [1, 2, 0] rfl) ?_
        exact ih _ _ _ _ hF hE
      refine g_icmp hK 26 .ge (113) 139 (t1 := 29) (t2 := 139) (by decide +kernel) (by decide) rfl rfl (fun (hc8 : x1 < r2) => ?_) (fun (hc8 : ¬ (x1 < r2)) => ?_)
      · have hF := ite_t hc8 hF
        refine g_seg hK [.iload_n 2, .aload_n 0, .iconst 1] 29 32 (L1 := [(3, vI 0), (0, vR 76), (1, vI x1), (2, vI x2)]) (st1 := [vI 1, vR 76, vI x2]) (h1 := h) (P := True ∧ True ∧ True ∧ True) (by decide +kernel) rfl rfl ⟨trivial, trivial, trivial, trivial⟩ ?_
        obtain ⟨r9, e10, hF⟩ := ob1_elim hF
        refine g_callV1 hK 32 47 (d1 := 0) (ci := 7) (i := 76) (vs := [vI 1]) (rest := [vI x2]) (h1 := h) (r := vI r9) my_yX7_lines vw_X7_47 (by decide) (T_M_lines (p1 := 1) (h := h) (hF := e10)) rfl rfl rfl (Nat.le_of_ble_eq_true rfl) (by decide +kernel) ?_
        refine g_icmp hK 35 .ge (104) 139 (t1 := 38) (t2 := 139) (by decide +kernel) (by decide) rfl rfl (fun (hc11 : x2 < r9) => ?_) (fun (hc11 : ¬ (x2 < r9)) => ?_)
        · have hF := ite_t hc11 hF
          refine g_seg hK [.aload_n 0, .getfield 22, .bipush 15, .iload_n 1, .imul, .bipush 15, .iadd, .iload_n 2, .iadd] 38 51 (L1 := [(3, vI 0), (0, vR 76), (1, vI x1), (2, vI x2)]) (st1 := [vI (wr ((wr ((wr (15 * x1)) + 15)) + x2)), vR 81]) (h1 := h) (P := True ∧ kd 76 = 9 ∧ True ∧ True ∧ True ∧ True ∧ True ∧ True ∧ True ∧ True) (by decide +kernel) rfl rfl ⟨trivial, rfl, trivial, trivial, trivial, trivial, trivial, trivial, trivial, trivial⟩ ?_
          obtain ⟨hg12, hF⟩ := gd_elim hF
          refine g_seg hK [.iaload, .istore 4, .aload_n 0, .getfield 22, .bipush 15, .iload_n 1, .imul, .iload_n 2, .iadd, .iconst 1, .iadd] 51 66 (L1 := [(4, vI (h 81 (wr ((wr ((wr (15 * x1)) + 15)) + x2)).toNat)), (3, vI 0), (0, vR 76), (1, vI x1), (2, vI x2)]) (st1 := [vI (wr ((wr ((wr (15 * x1)) + x2)) + 1)), vR 81]) (h1 := h) (P := (kd 81 = 0 ∧ 0 ≤ wr ((wr ((wr (15 * x1)) + 15)) + x2) ∧ wr ((wr ((wr (15 * x1)) + 15)) + x2) < 225) ∧ True ∧ True ∧ kd 76 = 9 ∧ True ∧ True ∧ True ∧ True ∧ True ∧ True ∧ True ∧ True) (by decide +kernel) rfl rfl ⟨⟨rfl, hg12⟩, trivial, trivial, rfl, trivial, trivial, trivial, trivial, trivial, trivial, trivial, trivial⟩ ?_
          obtain ⟨hg13, hF⟩ := gd_elim hF
          refine g_seg hK [.iaload, .istore 5, .iload 4, .iload 5] 66 73 (L1 := [(5, vI (h 81 (wr ((wr ((wr (15 * x1)) + x2)) + 1)).toNat)), (4, vI (h 81 (wr ((wr ((wr (15 * x1)) + 15)) + x2)).toNat)), (3, vI 0), (0, vR 76), (1, vI x1), (2, vI x2)]) (st1 := [vI (h 81 (wr ((wr ((wr (15 * x1)) + x2)) + 1)).toNat), vI (h 81 (wr ((wr ((wr (15 * x1)) + 15)) + x2)).toNat)]) (h1 := h) (P := (kd 81 = 0 ∧ 0 ≤ wr ((wr ((wr (15 * x1)) + x2)) + 1) ∧ wr ((wr ((wr (15 * x1)) + x2)) + 1) < 225) ∧ True ∧ True ∧ True ∧ True) (by decide +kernel) rfl rfl ⟨⟨rfl, hg13⟩, trivial, trivial, trivial, trivial⟩ ?_
          obtain ⟨s14, e31, hF⟩ := jn1_elim hF
          have j15 : K 83 [(0, vR 76), (1, vI x1), (2, vI x2)] [vI s14] h := by
            refine g_seg hK [.istore_n 3, .aload_n 0, .iload_n 1] 83 86 (L1 := [(3, vI s14), (0, vR 76), (1, vI x1), (2, vI x2)]) (st1 := [vI x1, vR 76]) (h1 := h) (P := True ∧ True ∧ True ∧ True) (by decide +kernel) rfl rfl ⟨trivial, trivial, trivial, trivial⟩ ?_
            obtain ⟨r17, e18, hF⟩ := ob1_elim hF
            refine g_callV1 hK 86 59 (d1 := 1) (ci := 7) (i := 76) (vs := [vI x1]) (rest := []) (h1 := h) (r := vI r17) my_yX7_old vw_X7_59 (by decide) (T_M_old (p1 := x1) (h := h) (hF := e18)) rfl rfl rfl (Nat.le_of_ble_eq_true rfl) (by decide +kernel) ?_
            refine g_seg hK [.aload_n 0, .iconst 1, .iload_n 2] 89 92 (L1 := [(3, vI s14), (0, vR 76), (1, vI x1), (2, vI x2)]) (st1 := [vI x2, vI 1, vR 76, vI r17]) (h1 := h) (P := True ∧ True ∧ True ∧ True) (by decide +kernel) rfl rfl ⟨trivial, trivial, trivial, trivial⟩ ?_
            obtain ⟨r19, e20, hF⟩ := ob1_elim hF
            refine g_callV1 hK 92 51 (d1 := 0) (ci := 7) (i := 76) (vs := [vI 1, vI x2]) (rest := [vI r17]) (h1 := h) (r := vI r19) my_yX7_lineOf vw_X7_51 (by decide) (T_M_lineOf (p1 := 1) (p2 := x2) (h := h) (hF := e20)) rfl rfl rfl (Nat.le_of_ble_eq_true rfl) (by decide +kernel) ?_
            obtain ⟨kj24, e25, hF⟩ := jk1_elim hF
            have j24 : ∀ (s23 : Int), kj24 s23 = some (x2', h') → K 138 [(0, vR 76), (1, vI x1), (2, vI x2)] [vI s23] h := by
              intro s23 hF
              have hF := (e25 s23).symm.trans hF
              refine g_seg hK [.istore_n 3] 138 139 (L1 := [(3, vI s23), (0, vR 76), (1, vI x1), (2, vI x2)]) (st1 := []) (h1 := h) (P := True ∧ True) (by decide +kernel) rfl rfl ⟨trivial, trivial⟩ ?_
              refine hK.2.1 _ _ ([(0, vR 76), (1, vI x1), (2, vI x2), (3, vI s23)]) _ _ (sub_of [1, 2, 3, 0] rfl) ?_
              exact j5 _ hF
            obtain ⟨kj22, e26, hF⟩ := jk1_elim hF
            have j22 : ∀ (u21 : Unit), kj22 u21 = some (x2', h') → K 137 [(0, vR 76), (1, vI x1), (2, vI x2), (3, vI s14)] [] h := by
              intro u21 hF
              have hF := (e26 u21).symm.trans hF
              refine g_seg hK [.iload_n 3] 137 138 (L1 := [(0, vR 76), (1, vI x1), (2, vI x2), (3, vI s14)]) (st1 := [vI s14]) (h1 := h) (P := True ∧ True) (by decide +kernel) rfl rfl ⟨trivial, trivial⟩ ?_
              refine hK.2.1 _ _ ([(0, vR 76), (1, vI x1), (2, vI x2)]) _ _ (sub_of [0, 1, 2] rfl) ?_
              exact j24 _ hF
            refine g_icmp hK 95 .ne (42) 137 (t1 := 98) (t2 := 137) (by decide +kernel) (by decide) rfl rfl (fun (hc27 : r17 = r19) => ?_) (fun (hc27 : ¬ (r17 = r19)) => ?_)
            · have hF := ite_t hc27 hF
              refine g_seg hK [.aload_n 0, .getfield 22, .bipush 15, .iload_n 1, .imul, .bipush 16, .iadd, .iload_n 2, .iadd] 98 111 (L1 := [(3, vI s14), (0, vR 76), (1, vI x1), (2, vI x2)]) (st1 := [vI (wr ((wr ((wr (15 * x1)) + 16)) + x2)), vR 81]) (h1 := h) (P := True ∧ kd 76 = 9 ∧ True ∧ True ∧ True ∧ True ∧ True ∧ True ∧ True ∧ True) (by decide +kernel) rfl rfl ⟨trivial, rfl, trivial, trivial, trivial, trivial, trivial, trivial, trivial, trivial⟩ ?_
              obtain ⟨hg28, hF⟩ := gd_elim hF
              refine g_seg hK [.iaload, .iconst 1, .iadd, .iload_n 3] 111 115 (L1 := [(3, vI s14), (0, vR 76), (1, vI x1), (2, vI x2)]) (st1 := [vI s14, vI (wr ((h 81 (wr ((wr ((wr (15 * x1)) + 16)) + x2)).toNat) + 1))]) (h1 := h) (P := (kd 81 = 0 ∧ 0 ≤ wr ((wr ((wr (15 * x1)) + 16)) + x2) ∧ wr ((wr ((wr (15 * x1)) + 16)) + x2) < 225) ∧ True ∧ True ∧ True ∧ True) (by decide +kernel) rfl rfl ⟨⟨rfl, hg28⟩, trivial, trivial, trivial, trivial⟩ ?_
              refine g_icmp hK 115 .le (22) 137 (t1 := 137) (t2 := 118) (by decide +kernel) (by decide) rfl rfl (fun (hc29 : wr ((h 81 (wr ((wr ((wr (15 * x1)) + 16)) + x2)).toNat) + 1) ≤ s14) => ?_) (fun (hc29 : ¬ (wr ((h 81 (wr ((wr ((wr (15 * x1)) + 16)) + x2)).toNat) + 1) ≤ s14)) => ?_)
              · have hF := ite_t hc29 hF
                refine hK.2.1 _ _ ([(0, vR 76), (1, vI x1), (2, vI x2), (3, vI s14)]) _ _ (sub_of [1, 2, 3, 0] rfl) ?_
                exact j22 _ hF
              · have hF := ite_f hc29 hF
                refine g_seg hK [.aload_n 0, .getfield 22, .bipush 15, .iload_n 1, .imul, .bipush 16, .iadd, .iload_n 2, .iadd] 118 131 (L1 := [(3, vI s14), (0, vR 76), (1, vI x1), (2, vI x2)]) (st1 := [vI (wr ((wr ((wr (15 * x1)) + 16)) + x2)), vR 81]) (h1 := h) (P := True ∧ kd 76 = 9 ∧ True ∧ True ∧ True ∧ True ∧ True ∧ True ∧ True ∧ True) (by decide +kernel) rfl rfl ⟨trivial, rfl, trivial, trivial, trivial, trivial, trivial, trivial, trivial, trivial⟩ ?_
                obtain ⟨hg30, hF⟩ := gd_elim hF
                refine g_seg hK [.iaload, .iconst 1, .iadd] 131 134 (L1 := [(3, vI s14), (0, vR 76), (1, vI x1), (2, vI x2)]) (st1 := [vI (wr ((h 81 (wr ((wr ((wr (15 * x1)) + 16)) + x2)).toNat) + 1))]) (h1 := h) (P := (kd 81 = 0 ∧ 0 ≤ wr ((wr ((wr (15 * x1)) + 16)) + x2) ∧ wr ((wr ((wr (15 * x1)) + 16)) + x2) < 225) ∧ True ∧ True ∧ True) (by decide +kernel) rfl rfl ⟨⟨rfl, hg30⟩, trivial, trivial, trivial⟩ ?_
                refine g_goto hK 134 (4) 138 (by decide +kernel) (by decide) ?_
                refine hK.2.1 _ _ ([(0, vR 76), (1, vI x1), (2, vI x2)]) _ _ (sub_of [1, 2, 3] rfl) ?_
                exact j24 _ hF
            · have hF := ite_f hc27 hF
              refine hK.2.1 _ _ ([(0, vR 76), (1, vI x1), (2, vI x2), (3, vI s14)]) _ _ (sub_of [1, 2, 3, 0] rfl) ?_
              exact j22 _ hF
          clear hF
          have hF := e31
          refine g_icmp hK 73 .le (8) 81 (t1 := 81) (t2 := 76) (by decide +kernel) (by decide) rfl rfl (fun (hc16 : h 81 (wr ((wr ((wr (15 * x1)) + 15)) + x2)).toNat ≤ h 81 (wr ((wr ((wr (15 * x1)) + x2)) + 1)).toNat) => ?_) (fun (hc16 : ¬ (h 81 (wr ((wr ((wr (15 * x1)) + 15)) + x2)).toNat ≤ h 81 (wr ((wr ((wr (15 * x1)) + x2)) + 1)).toNat)) => ?_)
          · have hF := ite_t hc16 hF
            refine g_seg hK [.iload 5] 81 83 (L1 := [(5, vI (h 81 (wr ((wr ((wr (15 * x1)) + x2)) + 1)).toNat)), (4, vI (h 81 (wr ((wr ((wr (15 * x1)) + 15)) + x2)).toNat)), (3, vI 0), (0, vR 76), (1, vI x1), (2, vI x2)]) (st1 := [vI (h 81 (wr ((wr ((wr (15 * x1)) + x2)) + 1)).toNat)]) (h1 := h) (P := True ∧ True) (by decide +kernel) rfl rfl ⟨trivial, trivial⟩ ?_
            refine hK.2.1 _ _ ([(0, vR 76), (1, vI x1), (2, vI x2)]) _ _ (sub_of [3, 4, 5] rfl) ?_
            cases hF
            exact j15
          · have hF := ite_f hc16 hF
            refine g_seg hK [.iload 4] 76 78 (L1 := [(5, vI (h 81 (wr ((wr ((wr (15 * x1)) + x2)) + 1)).toNat)), (4, vI (h 81 (wr ((wr ((wr (15 * x1)) + 15)) + x2)).toNat)), (3, vI 0), (0, vR 76), (1, vI x1), (2, vI x2)]) (st1 := [vI (h 81 (wr ((wr ((wr (15 * x1)) + 15)) + x2)).toNat)]) (h1 := h) (P := True ∧ True) (by decide +kernel) rfl rfl ⟨trivial, trivial⟩ ?_
            refine g_goto hK 78 (5) 83 (by decide +kernel) (by decide) ?_
            refine hK.2.1 _ _ ([(0, vR 76), (1, vI x1), (2, vI x2)]) _ _ (sub_of [3, 4, 5] rfl) ?_
            cases hF
            exact j15
        · have hF := ite_f hc11 hF
          refine hK.2.1 _ _ ([(0, vR 76), (1, vI x1), (2, vI x2), (3, vI 0)]) _ _ (sub_of [1, 2, 3, 0] rfl) ?_
          exact j5 _ hF
      · have hF := ite_f hc8 hF
        refine hK.2.1 _ _ ([(0, vR 76), (1, vI x1), (2, vI x2), (3, vI 0)]) _ _ (sub_of [1, 2, 3, 0] rfl) ?_
        exact j5 _ hF
set_option maxHeartbeats 4000000 in
set_option maxRecDepth 100000 in
theorem LT_M_counts_L5 {K : KT} (hK : Rules RX7 cX7_counts 6 (Option.some Jvm.ClassFile.FieldType.int) flX7 2 K) : ∀ (n : Nat) (x1 : Int) (h : MH) (x1' : Int) (h' : MH), F_M_counts_L5 n x1 h = some (x1', h') → K 163 [(0, vR 76), (1, vI x1')] [] h' → K 5 [(0, vR 76), (1, vI x1)] [] h := by
  intro n
  induction n with
  | zero =>
    intro x1 h x1' h' hF
    cases hF
  | succ n ih =>
    intro x1 h x1' h' hF hE
    unfold F_M_counts_L5 at hF
    refine g_seg hK [.iload_n 1] 5 6 (L1 := [(0, vR 76), (1, vI x1)]) (st1 := [vI x1]) (h1 := h) (P := True ∧ True) (by decide +kernel) rfl rfl ⟨trivial, trivial⟩ ?_
    refine g_ifz hK 6 .lt (157) 163 (t1 := 163) (t2 := 9) (by decide +kernel) (by decide) rfl rfl (fun (hc1 : x1 < 0) => ?_) (fun (hc1 : ¬ (x1 < 0)) => ?_)
    · have hF := ite_t hc1 hF
      cases hF
      exact hE
    · have hF := ite_f hc1 hF
      refine g_seg hK [.aload_n 0, .iconst 1] 9 11 (L1 := [(0, vR 76), (1, vI x1)]) (st1 := [vI 1, vR 76]) (h1 := h) (P := True ∧ True ∧ True) (by decide +kernel) rfl rfl ⟨trivial, trivial, trivial⟩ ?_
      obtain ⟨r2, e3, hF⟩ := ob1_elim hF
      refine g_callV1 hK 11 47 (d1 := 0) (ci := 7) (i := 76) (vs := [vI 1]) (rest := []) (h1 := h) (r := vI r2) my_yX7_lines vw_X7_47 (by decide) (T_M_lines (p1 := 1) (h := h) (hF := e3)) rfl rfl rfl (Nat.le_of_ble_eq_true rfl) (by decide +kernel) ?_
      refine g_seg hK [.istore_n 2] 14 15 (L1 := [(2, vI r2), (0, vR 76), (1, vI x1)]) (st1 := []) (h1 := h) (P := True ∧ True) (by decide +kernel) rfl rfl ⟨trivial, trivial⟩ ?_
      refine hK.2.1 _ _ ([(0, vR 76), (1, vI x1), (2, vI r2)]) _ _ (sub_of [1, 2, 0] rfl) ?_
      obtain ⟨x2_4, h5, e6, hF⟩ := ob2_elim hF
      refine LT_M_counts_L15 hK _ _ _ _ _ e6 ?_
      refine g_seg hK [.iinc 1 (-1)] 157 160 (L1 := [(1, vI (wr (x1 + (-1)))), (0, vR 76), (2, vI x2_4)]) (st1 := []) (h1 := h5) (P := True ∧ True) (by decide +kernel) rfl rfl ⟨trivial, trivial⟩ ?_
      refine g_goto hK 160 (-155) 5 (by decide +kernel) (by decide) ?_
      refine hK.2.1 _ _ ([(0, vR 76), (1, vI (wr (x1 + (-1))))]) _ _ (sub_of [1, 0] rfl) ?_
      exact ih _ _ _ _ hF hE
set_option maxHeartbeats 4000000 in
set_option maxRecDepth 100000 in
theorem T_M_counts {h : MH} {r : Int} {h' : MH} (hF : F_M_counts h = some (r, h')) : CON 2 yX7_counts cX7_counts 6 (Option.some Jvm.ClassFile.FieldType.int) [vR 76] h (some (vI r)) h' := by
  refine con_of (own := RX7) (fl := flX7) (by decide +kernel) rfl flok_X7 rfl (Nat.le_of_ble_eq_true rfl) ?_
  intro K hK hR
  show K 0 [(0, vR 76)] [] h
  unfold F_M_counts at hF
  refine g_seg hK [.aload_n 0] 0 1 (L1 := [(0, vR 76)]) (st1 := [vR 76]) (h1 := h) (P := True ∧ True) (by decide +kernel) rfl rfl ⟨trivial, trivial⟩ ?_
  obtain ⟨r1, e2, hF⟩ := ob1_elim hF
  refine g_callV1 hK 1 55 (d1 := 1) (ci := 7) (i := 76) (vs := []) (rest := []) (h1 := h) (r := vI r1) my_yX7_olds vw_X7_55 (by decide) (T_M_olds (h := h) (hF := e2)) rfl rfl rfl (Nat.le_of_ble_eq_true rfl) (by decide +kernel) ?_
  refine g_seg hK [.istore_n 1] 4 5 (L1 := [(1, vI r1), (0, vR 76)]) (st1 := []) (h1 := h) (P := True ∧ True) (by decide +kernel) rfl rfl ⟨trivial, trivial⟩ ?_
  refine hK.2.1 _ _ ([(0, vR 76), (1, vI r1)]) _ _ (sub_of [1, 0] rfl) ?_
  obtain ⟨x1_3, h4, e5, hF⟩ := ob2_elim hF
  refine LT_M_counts_L5 hK _ _ _ _ _ e5 ?_
  refine g_seg hK [.aload_n 0] 163 164 (L1 := [(0, vR 76), (1, vI x1_3)]) (st1 := [vR 76]) (h1 := h4) (P := True ∧ True) (by decide +kernel) rfl rfl ⟨trivial, trivial⟩ ?_
  obtain ⟨r6, e7, hF⟩ := ob1_elim hF
  refine g_callV1 hK 164 55 (d1 := 1) (ci := 7) (i := 76) (vs := []) (rest := []) (h1 := h4) (r := vI r6) my_yX7_olds vw_X7_55 (by decide) (T_M_olds (h := h4) (hF := e7)) rfl rfl rfl (Nat.le_of_ble_eq_true rfl) (by decide +kernel) ?_
  refine g_seg hK [.aload_n 0, .iconst 1] 167 169 (L1 := [(0, vR 76), (1, vI x1_3)]) (st1 := [vI 1, vR 76, vI r6]) (h1 := h4) (P := True ∧ True ∧ True) (by decide +kernel) rfl rfl ⟨trivial, trivial, trivial⟩ ?_
  obtain ⟨r8, e9, hF⟩ := ob1_elim hF
  refine g_callV1 hK 169 47 (d1 := 0) (ci := 7) (i := 76) (vs := [vI 1]) (rest := [vI r6]) (h1 := h4) (r := vI r8) my_yX7_lines vw_X7_47 (by decide) (T_M_lines (p1 := 1) (h := h4) (hF := e9)) rfl rfl rfl (Nat.le_of_ble_eq_true rfl) (by decide +kernel) ?_
  refine g_seg hK [.iadd, .iconst 2, .aload_n 0, .getfield 22, .iconst 0, .iaload, .imul, .isub] 172 182 (L1 := [(0, vR 76), (1, vI x1_3)]) (st1 := [vI (wr ((wr (r6 + r8)) - (wr (2 * (h4 81 0)))))]) (h1 := h4) (P := True ∧ True ∧ True ∧ kd 76 = 9 ∧ True ∧ (kd 81 = 0 ∧ 0 ≤ 0 ∧ 0 < 225) ∧ True ∧ True ∧ True) (by decide +kernel) rfl rfl ⟨trivial, trivial, trivial, rfl, trivial, ⟨rfl, (by decide)⟩, trivial, trivial, trivial⟩ ?_
  cases hF
  exact hR.1 182 _ _ _ (by decide +kernel) rfl ⟨rfl, rfl⟩
set_option maxHeartbeats 4000000 in
set_option maxRecDepth 100000 in
theorem T_M_shows {p1 : Int} {p2 : Int} {h : MH} {h' : MH} (hF : F_M_shows p1 p2 h = some h') : CON 0 yX7_shows cX7_shows 3 none [vR 76, vI p1, vI p2] h none h' := by
  refine con_of (own := RX7) (fl := flX7) (by decide +kernel) rfl flok_X7 rfl (Nat.le_of_ble_eq_true rfl) ?_
  intro K hK hR
  show K 0 [(0, vR 76), (1, vI p1), (2, vI p2)] [] h
  unfold F_M_shows at hF
  refine g_seg hK [.aload_n 0, .getfield 25, .aload_n 0, .getfield 62, .iload_n 2] 0 9 (L1 := [(0, vR 76), (1, vI p1), (2, vI p2)]) (st1 := [vI p2, vI (h 76 11), vR 82]) (h1 := h) (P := True ∧ kd 76 = 9 ∧ True ∧ kd 76 = 9 ∧ True ∧ True) (by decide +kernel) rfl rfl ⟨trivial, rfl, trivial, rfl, trivial, trivial⟩ ?_
  obtain ⟨hg1, hF⟩ := gd_elim hF
  refine g_seg hK [.iastore, .aload_n 0, .getfield 28, .aload_n 0, .getfield 62, .iload_n 1] 9 19 (L1 := [(0, vR 76), (1, vI p1), (2, vI p2)]) (st1 := [vI p1, vI ((up h 82 (h 76 11).toNat p2) 76 11), vR 83]) (h1 := (up h 82 (h 76 11).toNat p2)) (P := (kd 82 = 0 ∧ 0 ≤ h 76 11 ∧ h 76 11 < 28) ∧ True ∧ kd 76 = 9 ∧ True ∧ kd 76 = 9 ∧ True ∧ True) (by decide +kernel) rfl rfl ⟨⟨rfl, hg1⟩, trivial, rfl, trivial, rfl, trivial, trivial⟩ ?_
  obtain ⟨hg2, hF⟩ := gd_elim hF
  refine g_seg hK [.iastore, .aload_n 0, .dup, .getfield 62, .iconst 1, .iadd, .putfield 62] 19 30 (L1 := [(0, vR 76), (1, vI p1), (2, vI p2)]) (st1 := []) (h1 := (up (up (up h 82 (h 76 11).toNat p2) 83 ((up h 82 (h 76 11).toNat p2) 76 11).toNat p1) 76 11 (wr (((up (up h 82 (h 76 11).toNat p2) 83 ((up h 82 (h 76 11).toNat p2) 76 11).toNat p1) 76 11) + 1)))) (P := (kd 83 = 0 ∧ 0 ≤ (up h 82 (h 76 11).toNat p2) 76 11 ∧ (up h 82 (h 76 11).toNat p2) 76 11 < 28) ∧ True ∧ True ∧ kd 76 = 9 ∧ True ∧ True ∧ kd 76 = 9 ∧ True) (by decide +kernel) rfl rfl ⟨⟨rfl, hg2⟩, trivial, trivial, rfl, trivial, trivial, rfl, trivial⟩ ?_
  cases hF
  exact hR.2.2.2.2 30 _ _ (by decide +kernel) rfl ⟨rfl, rfl⟩
set_option maxHeartbeats 4000000 in
set_option maxRecDepth 100000 in
theorem T_M_begins {p1 : Int} {h : MH} {r : Int} (hF : F_M_begins p1 h = some r) : CON 0 yX7_begins cX7_begins 2 (Option.some Jvm.ClassFile.FieldType.boolean) [vR 76, vI p1] h (some (vI r)) h := by
  refine con_of (own := RX7) (fl := flX7) (by decide +kernel) rfl flok_X7 rfl (Nat.le_of_ble_eq_true rfl) ?_
  intro K hK hR
  show K 0 [(0, vR 76), (1, vI p1)] [] h
  unfold F_M_begins at hF
  refine g_seg hK [.aload_n 0, .getfield 28, .iload_n 1] 0 5 (L1 := [(0, vR 76), (1, vI p1)]) (st1 := [vI p1, vR 83]) (h1 := h) (P := True ∧ kd 76 = 9 ∧ True ∧ True) (by decide +kernel) rfl rfl ⟨trivial, rfl, trivial, trivial⟩ ?_
  obtain ⟨hg1, hF⟩ := gd_elim hF
  refine g_seg hK [.iaload] 5 6 (L1 := [(0, vR 76), (1, vI p1)]) (st1 := [vI (h 83 p1.toNat)]) (h1 := h) (P := (kd 83 = 0 ∧ 0 ≤ p1 ∧ p1 < 28) ∧ True) (by decide +kernel) rfl rfl ⟨⟨rfl, hg1⟩, trivial⟩ ?_
  refine g_ifz hK 6 .le (22) 28 (t1 := 28) (t2 := 9) (by decide +kernel) (by decide) rfl rfl (fun (hc2 : h 83 p1.toNat ≤ 0) => ?_) (fun (hc2 : ¬ (h 83 p1.toNat ≤ 0)) => ?_)
  · have hF := ite_t hc2 hF
    refine g_seg hK [.iconst 0] 28 29 (L1 := [(0, vR 76), (1, vI p1)]) (st1 := [vI 0]) (h1 := h) (P := True ∧ True) (by decide +kernel) rfl rfl ⟨trivial, trivial⟩ ?_
    cases hF
    exact hR.2.1 29 _ _ _ (by decide +kernel) rfl (by decide) ⟨rfl, rfl⟩
  · have hF := ite_f hc2 hF
    refine g_seg hK [.iload_n 1] 9 10 (L1 := [(0, vR 76), (1, vI p1)]) (st1 := [vI p1]) (h1 := h) (P := True ∧ True) (by decide +kernel) rfl rfl ⟨trivial, trivial⟩ ?_
    refine g_ifz hK 10 .eq (14) 24 (t1 := 24) (t2 := 13) (by decide +kernel) (by decide) rfl rfl (fun (hc3 : p1 = 0) => ?_) (fun (hc3 : ¬ (p1 = 0)) => ?_)
    · have hF := ite_t hc3 hF
      refine g_seg hK [.iconst 1] 24 25 (L1 := [(0, vR 76), (1, vI p1)]) (st1 := [vI 1]) (h1 := h) (P := True ∧ True) (by decide +kernel) rfl rfl ⟨trivial, trivial⟩ ?_
      refine g_goto hK 25 (4) 29 (by decide +kernel) (by decide) ?_
      cases hF
      exact hR.2.1 29 _ _ _ (by decide +kernel) rfl (by decide) ⟨rfl, rfl⟩
    · have hF := ite_f hc3 hF
      refine g_seg hK [.aload_n 0, .getfield 28, .iload_n 1, .iconst 1, .isub] 13 20 (L1 := [(0, vR 76), (1, vI p1)]) (st1 := [vI (wr (p1 - 1)), vR 83]) (h1 := h) (P := True ∧ kd 76 = 9 ∧ True ∧ True ∧ True ∧ True) (by decide +kernel) rfl rfl ⟨trivial, rfl, trivial, trivial, trivial, trivial⟩ ?_
      obtain ⟨hg4, hF⟩ := gd_elim hF
      refine g_seg hK [.iaload] 20 21 (L1 := [(0, vR 76), (1, vI p1)]) (st1 := [vI (h 83 (wr (p1 - 1)).toNat)]) (h1 := h) (P := (kd 83 = 0 ∧ 0 ≤ wr (p1 - 1) ∧ wr (p1 - 1) < 28) ∧ True) (by decide +kernel) rfl rfl ⟨⟨rfl, hg4⟩, trivial⟩ ?_
      refine g_ifz hK 21 .ne (7) 28 (t1 := 24) (t2 := 28) (by decide +kernel) (by decide) rfl rfl (fun (hc5 : h 83 (wr (p1 - 1)).toNat = 0) => ?_) (fun (hc5 : ¬ (h 83 (wr (p1 - 1)).toNat = 0)) => ?_)
      · have hF := ite_t hc5 hF
        refine g_seg hK [.iconst 1] 24 25 (L1 := [(0, vR 76), (1, vI p1)]) (st1 := [vI 1]) (h1 := h) (P := True ∧ True) (by decide +kernel) rfl rfl ⟨trivial, trivial⟩ ?_
        refine g_goto hK 25 (4) 29 (by decide +kernel) (by decide) ?_
        cases hF
        exact hR.2.1 29 _ _ _ (by decide +kernel) rfl (by decide) ⟨rfl, rfl⟩
      · have hF := ite_f hc5 hF
        refine g_seg hK [.iconst 0] 28 29 (L1 := [(0, vR 76), (1, vI p1)]) (st1 := [vI 0]) (h1 := h) (P := True ∧ True) (by decide +kernel) rfl rfl ⟨trivial, trivial⟩ ?_
        cases hF
        exact hR.2.1 29 _ _ _ (by decide +kernel) rfl (by decide) ⟨rfl, rfl⟩
set_option maxHeartbeats 4000000 in
set_option maxRecDepth 100000 in
theorem LT_M_hunks_L4 {K : KT} (hK : Rules RX7 cX7_hunks 3 (Option.some Jvm.ClassFile.FieldType.int) flX7 1 K) {h : MH} : ∀ (n : Nat) (x1 : Int) (x2 : Int) (x1' : Int) (x2' : Int), F_M_hunks_L4 h n x1 x2 = some (x1', x2') → K 34 [(0, vR 76), (1, vI x1'), (2, vI x2')] [] h → K 4 [(0, vR 76), (1, vI x1), (2, vI x2)] [] h := by
  intro n
  induction n with
  | zero =>
    intro x1 x2 x1' x2' hF
    cases hF
  | succ n ih =>
    intro x1 x2 x1' x2' hF hE
    unfold F_M_hunks_L4 at hF
    refine g_seg hK [.iload_n 2, .aload_n 0, .getfield 62] 4 9 (L1 := [(0, vR 76), (1, vI x1), (2, vI x2)]) (st1 := [vI (h 76 11), vI x2]) (h1 := h) (P := True ∧ True ∧ kd 76 = 9 ∧ True) (by decide +kernel) rfl rfl ⟨trivial, trivial, rfl, trivial⟩ ?_
    refine g_icmp hK 9 .ge (25) 34 (t1 := 12) (t2 := 34) (by decide +kernel) (by decide) rfl rfl (fun (hc1 : x2 < h 76 11) => ?_) (fun (hc1 : ¬ (x2 < h 76 11)) => ?_)
    · have hF := ite_t hc1 hF
      refine g_seg hK [.iload_n 1, .aload_n 0, .iload_n 2] 12 15 (L1 := [(0, vR 76), (1, vI x1), (2, vI x2)]) (st1 := [vI x2, vR 76, vI x1]) (h1 := h) (P := True ∧ True ∧ True ∧ True) (by decide +kernel) rfl rfl ⟨trivial, trivial, trivial, trivial⟩ ?_
      obtain ⟨r2, e3, hF⟩ := ob1_elim hF
      refine g_callV1 hK 15 79 (d1 := 0) (ci := 7) (i := 76) (vs := [vI x2]) (rest := [vI x1]) (h1 := h) (r := vI r2) my_yX7_begins vw_X7_79 (by decide) (T_M_begins (p1 := x2) (h := h) (hF := e3)) rfl rfl rfl (Nat.le_of_ble_eq_true rfl) (by decide +kernel) ?_
      obtain ⟨s4, e7, hF⟩ := jn1_elim hF
      have j5 : K 26 [(0, vR 76), (2, vI x2)] [vI s4, vI x1] h := by
        refine g_seg hK [.iadd, .istore_n 1, .iinc 2 1] 26 31 (L1 := [(2, vI (wr (x2 + 1))), (1, vI (wr (x1 + s4))), (0, vR 76)]) (st1 := []) (h1 := h) (P := True ∧ True ∧ True ∧ True) (by decide +kernel) rfl rfl ⟨trivial, trivial, trivial, trivial⟩ ?_
        refine g_goto hK 31 (-27) 4 (by decide +kernel) (by decide) ?_
        refine hK.2.1 _ _ ([(0, vR 76), (1, vI (wr (x1 + s4))), (2, vI (wr (x2 + 1)))]) _ _ (sub_of [2, 1, 0] rfl) ?_
        exact ih _ _ _ _ hF hE
      clear hF
      have hF := e7
      refine g_ifz hK 18 .eq (7) 25 (t1 := 25) (t2 := 21) (by decide +kernel) (by decide) rfl rfl (fun (hc6 : r2 = 0) => ?_) (fun (hc6 : ¬ (r2 = 0)) => ?_)
      · have hF := ite_t hc6 hF
        refine g_seg hK [.iconst 0] 25 26 (L1 := [(0, vR 76), (1, vI x1), (2, vI x2)]) (st1 := [vI 0, vI x1]) (h1 := h) (P := True ∧ True) (by decide +kernel) rfl rfl ⟨trivial, trivial⟩ ?_
        refine hK.2.1 _ _ ([(0, vR 76), (2, vI x2)]) _ _ (sub_of [0, 2] rfl) ?_
        cases hF
        exact j5
      · have hF := ite_f hc6 hF
        refine g_seg hK [.iconst 1] 21 22 (L1 := [(0, vR 76), (1, vI x1), (2, vI x2)]) (st1 := [vI 1, vI x1]) (h1 := h) (P := True ∧ True) (by decide +kernel) rfl rfl ⟨trivial, trivial⟩ ?_
        refine g_goto hK 22 (4) 26 (by decide +kernel) (by decide) ?_
        refine hK.2.1 _ _ ([(0, vR 76), (2, vI x2)]) _ _ (sub_of [0, 2] rfl) ?_
        cases hF
        exact j5
    · have hF := ite_f hc1 hF
      cases hF
      exact hE
set_option maxHeartbeats 4000000 in
set_option maxRecDepth 100000 in
theorem T_M_hunks {h : MH} {r : Int} (hF : F_M_hunks h = some r) : CON 1 yX7_hunks cX7_hunks 3 (Option.some Jvm.ClassFile.FieldType.int) [vR 76] h (some (vI r)) h := by
  refine con_of (own := RX7) (fl := flX7) (by decide +kernel) rfl flok_X7 rfl (Nat.le_of_ble_eq_true rfl) ?_
  intro K hK hR
  show K 0 [(0, vR 76)] [] h
  unfold F_M_hunks at hF
  refine g_seg hK [.iconst 0, .istore_n 1, .iconst 0, .istore_n 2] 0 4 (L1 := [(2, vI 0), (1, vI 0), (0, vR 76)]) (st1 := []) (h1 := h) (P := True ∧ True ∧ True ∧ True ∧ True) (by decide +kernel) rfl rfl ⟨trivial, trivial, trivial, trivial, trivial⟩ ?_
  refine hK.2.1 _ _ ([(0, vR 76), (1, vI 0), (2, vI 0)]) _ _ (sub_of [2, 1, 0] rfl) ?_
  obtain ⟨x1_1, x2_2, e3, hF⟩ := ob2_elim hF
  refine LT_M_hunks_L4 hK _ _ _ _ _ e3 ?_
  refine g_seg hK [.iload_n 1] 34 35 (L1 := [(0, vR 76), (1, vI x1_1), (2, vI x2_2)]) (st1 := [vI x1_1]) (h1 := h) (P := True ∧ True) (by decide +kernel) rfl rfl ⟨trivial, trivial⟩ ?_
  cases hF
  exact hR.1 35 _ _ _ (by decide +kernel) rfl ⟨rfl, rfl⟩
set_option maxHeartbeats 4000000 in
set_option maxRecDepth 100000 in
theorem LT_M_start_L4 {K : KT} (hK : Rules RX7 cX7_start 4 (Option.some Jvm.ClassFile.FieldType.int) flX7 1 K) {Post : Option MV → MH → Prop} (hR : R_ret cX7_start (Option.some Jvm.ClassFile.FieldType.int) Post K) {h : MH} : ∀ (n : Nat) (x2 : Int) (x3 : Int) (out : Sum (Int) (Int × Int)), F_M_start_L4 h n x2 x3 = some out → (∀ a : Int, out = Sum.inl a → Post (some (vI a)) h) → (∀ q : Int × Int, out = Sum.inr q → K 35 [(0, vR 76), (2, vI q.1), (3, vI q.2)] [] h) → K 4 [(0, vR 76), (2, vI x2), (3, vI x3)] [] h := by
  intro n
  induction n with
  | zero =>
    intro x2 x3 out hF
    cases hF
  | succ n ih =>
    intro x2 x3 out hF hRet hE
    unfold F_M_start_L4 at hF
    refine g_seg hK [.iload_n 3, .aload_n 0, .getfield 62] 4 9 (L1 := [(0, vR 76), (2, vI x2), (3, vI x3)]) (st1 := [vI (h 76 11), vI x3]) (h1 := h) (P := True ∧ True ∧ kd 76 = 9 ∧ True) (by decide +kernel) rfl rfl ⟨trivial, trivial, rfl, trivial⟩ ?_
    refine g_icmp hK 9 .ge (26) 35 (t1 := 12) (t2 := 35) (by decide +kernel) (by decide) rfl rfl (fun (hc1 : x3 < h 76 11) => ?_) (fun (hc1 : ¬ (x3 < h 76 11)) => ?_)
    · have hF := ite_t hc1 hF
      refine g_seg hK [.aload_n 0, .iload_n 3] 12 14 (L1 := [(0, vR 76), (2, vI x2), (3, vI x3)]) (st1 := [vI x3, vR 76]) (h1 := h) (P := True ∧ True ∧ True) (by decide +kernel) rfl rfl ⟨trivial, trivial, trivial⟩ ?_
      obtain ⟨r2, e3, hF⟩ := ob1_elim hF
      refine g_callV1 hK 14 79 (d1 := 0) (ci := 7) (i := 76) (vs := [vI x3]) (rest := []) (h1 := h) (r := vI r2) my_yX7_begins vw_X7_79 (by decide) (T_M_begins (p1 := x3) (h := h) (hF := e3)) rfl rfl rfl (Nat.le_of_ble_eq_true rfl) (by decide +kernel) ?_
      obtain ⟨kj5, e6, hF⟩ := jk1_elim hF
      have j5 : ∀ (x2_4 : Int), kj5 x2_4 = some out → K 29 [(0, vR 76), (2, vI x2_4), (3, vI x3)] [] h := by
        intro x2_4 hF
        have hF := (e6 x2_4).symm.trans hF
        refine g_seg hK [.iinc 3 1] 29 32 (L1 := [(3, vI (wr (x3 + 1))), (0, vR 76), (2, vI x2_4)]) (st1 := []) (h1 := h) (P := True ∧ True) (by decide +kernel) rfl rfl ⟨trivial, trivial⟩ ?_
        refine g_goto hK 32 (-28) 4 (by decide +kernel) (by decide) ?_
        refine hK.2.1 _ _ ([(0, vR 76), (2, vI x2_4), (3, vI (wr (x3 + 1)))]) _ _ (sub_of [1, 2, 0] rfl) ?_
        exact ih _ _ _ hF hRet hE
      refine g_ifz hK 17 .eq (12) 29 (t1 := 29) (t2 := 20) (by decide +kernel) (by decide) rfl rfl (fun (hc7 : r2 = 0) => ?_) (fun (hc7 : ¬ (r2 = 0)) => ?_)
      · have hF := ite_t hc7 hF
        exact j5 _ hF
      · have hF := ite_f hc7 hF
        refine g_seg hK [.iload_n 2] 20 21 (L1 := [(0, vR 76), (2, vI x2), (3, vI x3)]) (st1 := [vI x2]) (h1 := h) (P := True ∧ True) (by decide +kernel) rfl rfl ⟨trivial, trivial⟩ ?_
        refine g_ifz hK 21 .ne (5) 26 (t1 := 24) (t2 := 26) (by decide +kernel) (by decide) rfl rfl (fun (hc8 : x2 = 0) => ?_) (fun (hc8 : ¬ (x2 = 0)) => ?_)
        · have hF := ite_t hc8 hF
          refine g_seg hK [.iload_n 3] 24 25 (L1 := [(0, vR 76), (2, vI x2), (3, vI x3)]) (st1 := [vI x3]) (h1 := h) (P := True ∧ True) (by decide +kernel) rfl rfl ⟨trivial, trivial⟩ ?_
          cases hF
          exact hR.1 25 _ _ _ (by decide +kernel) rfl (hRet _ rfl)
        · have hF := ite_f hc8 hF
          refine g_seg hK [.iinc 2 (-1)] 26 29 (L1 := [(2, vI (wr (x2 + (-1)))), (0, vR 76), (3, vI x3)]) (st1 := []) (h1 := h) (P := True ∧ True) (by decide +kernel) rfl rfl ⟨trivial, trivial⟩ ?_
          refine hK.2.1 _ _ ([(0, vR 76), (2, vI (wr (x2 + (-1)))), (3, vI x3)]) _ _ (sub_of [1, 0, 2] rfl) ?_
          exact j5 _ hF
    · have hF := ite_f hc1 hF
      cases hF
      exact hE _ rfl
set_option maxHeartbeats 4000000 in
set_option maxRecDepth 100000 in
theorem T_M_start {p1 : Int} {h : MH} {r : Int} (hF : F_M_start p1 h = some r) : CON 1 yX7_start cX7_start 4 (Option.some Jvm.ClassFile.FieldType.int) [vR 76, vI p1] h (some (vI r)) h := by
  refine con_of (own := RX7) (fl := flX7) (by decide +kernel) rfl flok_X7 rfl (Nat.le_of_ble_eq_true rfl) ?_
  intro K hK hR
  show K 0 [(0, vR 76), (1, vI p1)] [] h
  unfold F_M_start at hF
  refine g_seg hK [.iload_n 1, .istore_n 2, .iconst 0, .istore_n 3] 0 4 (L1 := [(3, vI 0), (2, vI p1), (0, vR 76), (1, vI p1)]) (st1 := []) (h1 := h) (P := True ∧ True ∧ True ∧ True ∧ True) (by decide +kernel) rfl rfl ⟨trivial, trivial, trivial, trivial, trivial⟩ ?_
  refine hK.2.1 _ _ ([(0, vR 76), (2, vI p1), (3, vI 0)]) _ _ (sub_of [2, 1, 0] rfl) ?_
  obtain ⟨out5, e3, hr6, hx7⟩ := os_elim hF
  refine LT_M_start_L4 hK hR _ _ _ out5 e3 ?_ ?_
  · intro a ha
    have hF := hr6 a ha
    cases hF
    exact ⟨rfl, rfl⟩
  · intro q4 hq
    have hF := hx7 q4 hq
    refine g_seg hK [.bipush (-4)] 35 37 (L1 := [(0, vR 76), (2, vI q4.1), (3, vI q4.2)]) (st1 := [vI (-4)]) (h1 := h) (P := True ∧ True) (by decide +kernel) rfl rfl ⟨trivial, trivial⟩ ?_
    cases hF
    exact hR.1 37 _ _ _ (by decide +kernel) rfl ⟨rfl, rfl⟩
set_option maxHeartbeats 4000000 in
set_option maxRecDepth 100000 in
theorem LT_M_size_L2 {K : KT} (hK : Rules RX7 cX7_size 3 (Option.some Jvm.ClassFile.FieldType.int) flX7 0 K) {x1 : Int} {h : MH} : ∀ (n : Nat) (x2 : Int) (x2' : Int), F_M_size_L2 x1 h n x2 = some x2' → K 29 [(0, vR 76), (1, vI x1), (2, vI x2')] [] h → K 2 [(0, vR 76), (1, vI x1), (2, vI x2)] [] h := by
  intro n
  induction n with
  | zero =>
    intro x2 x2' hF
    cases hF
  | succ n ih =>
    intro x2 x2' hF hE
    unfold F_M_size_L2 at hF
    refine g_seg hK [.iload_n 1, .iload_n 2, .iadd, .aload_n 0, .getfield 62] 2 9 (L1 := [(0, vR 76), (1, vI x1), (2, vI x2)]) (st1 := [vI (h 76 11), vI (wr (x1 + x2))]) (h1 := h) (P := True ∧ True ∧ True ∧ True ∧ kd 76 = 9 ∧ True) (by decide +kernel) rfl rfl ⟨trivial, trivial, trivial, trivial, rfl, trivial⟩ ?_
    refine g_icmp hK 9 .ge (20) 29 (t1 := 12) (t2 := 29) (by decide +kernel) (by decide) rfl rfl (fun (hc1 : wr (x1 + x2) < h 76 11) => ?_) (fun (hc1 : ¬ (wr (x1 + x2) < h 76 11)) => ?_)
    · have hF := ite_t hc1 hF
      refine g_seg hK [.aload_n 0, .getfield 28, .iload_n 1, .iload_n 2, .iadd] 12 19 (L1 := [(0, vR 76), (1, vI x1), (2, vI x2)]) (st1 := [vI (wr (x1 + x2)), vR 83]) (h1 := h) (P := True ∧ kd 76 = 9 ∧ True ∧ True ∧ True ∧ True) (by decide +kernel) rfl rfl ⟨trivial, rfl, trivial, trivial, trivial, trivial⟩ ?_
      obtain ⟨hg2, hF⟩ := gd_elim hF
      refine g_seg hK [.iaload] 19 20 (L1 := [(0, vR 76), (1, vI x1), (2, vI x2)]) (st1 := [vI (h 83 (wr (x1 + x2)).toNat)]) (h1 := h) (P := (kd 83 = 0 ∧ 0 ≤ wr (x1 + x2) ∧ wr (x1 + x2) < 28) ∧ True) (by decide +kernel) rfl rfl ⟨⟨rfl, hg2⟩, trivial⟩ ?_
      refine g_ifz hK 20 .le (9) 29 (t1 := 29) (t2 := 23) (by decide +kernel) (by decide) rfl rfl (fun (hc3 : h 83 (wr (x1 + x2)).toNat ≤ 0) => ?_) (fun (hc3 : ¬ (h 83 (wr (x1 + x2)).toNat ≤ 0)) => ?_)
      · have hF := ite_t hc3 hF
        cases hF
        exact hE
      · have hF := ite_f hc3 hF
        refine g_seg hK [.iinc 2 1] 23 26 (L1 := [(2, vI (wr (x2 + 1))), (0, vR 76), (1, vI x1)]) (st1 := []) (h1 := h) (P := True ∧ True) (by decide +kernel) rfl rfl ⟨trivial, trivial⟩ ?_
        refine g_goto hK 26 (-24) 2 (by decide +kernel) (by decide) ?_
        refine hK.2.1 _ _ ([(0, vR 76), (1, vI x1), (2, vI (wr (x2 + 1)))]) _ _ (sub_of [1, 2, 0] rfl) ?_
        exact ih _ _ hF hE
    · have hF := ite_f hc1 hF
      cases hF
      exact hE
set_option maxHeartbeats 4000000 in
set_option maxRecDepth 100000 in
theorem T_M_size {p1 : Int} {h : MH} {r : Int} (hF : F_M_size p1 h = some r) : CON 0 yX7_size cX7_size 3 (Option.some Jvm.ClassFile.FieldType.int) [vR 76, vI p1] h (some (vI r)) h := by
  refine con_of (own := RX7) (fl := flX7) (by decide +kernel) rfl flok_X7 rfl (Nat.le_of_ble_eq_true rfl) ?_
  intro K hK hR
  show K 0 [(0, vR 76), (1, vI p1)] [] h
  unfold F_M_size at hF
  refine g_seg hK [.iconst 0, .istore_n 2] 0 2 (L1 := [(2, vI 0), (0, vR 76), (1, vI p1)]) (st1 := []) (h1 := h) (P := True ∧ True ∧ True) (by decide +kernel) rfl rfl ⟨trivial, trivial, trivial⟩ ?_
  refine hK.2.1 _ _ ([(0, vR 76), (1, vI p1), (2, vI 0)]) _ _ (sub_of [1, 2, 0] rfl) ?_
  obtain ⟨x2_1, e2, hF⟩ := ob1_elim hF
  refine LT_M_size_L2 hK _ _ _ e2 ?_
  refine g_seg hK [.iload_n 2] 29 30 (L1 := [(0, vR 76), (1, vI p1), (2, vI x2_1)]) (st1 := [vI x2_1]) (h1 := h) (P := True ∧ True) (by decide +kernel) rfl rfl ⟨trivial, trivial⟩ ?_
  cases hF
  exact hR.1 30 _ _ _ (by decide +kernel) rfl ⟨rfl, rfl⟩
set_option maxHeartbeats 4000000 in
set_option maxRecDepth 100000 in
theorem LT_M_marked_L5 {K : KT} (hK : Rules RX7 cX7_marked 5 (Option.some Jvm.ClassFile.FieldType.int) flX7 1 K) {x1 : Int} {x2 : Int} {h : MH} : ∀ (n : Nat) (x3 : Int) (x4 : Int) (x3' : Int) (x4' : Int), F_M_marked_L5 x1 x2 h n x3 x4 = some (x3', x4') → K 42 [(0, vR 76), (1, vI x1), (2, vI x2), (3, vI x3'), (4, vI x4')] [] h → K 5 [(0, vR 76), (1, vI x1), (2, vI x2), (3, vI x3), (4, vI x4)] [] h := by
  intro n
  induction n with
  | zero =>
    intro x3 x4 x3' x4' hF
    cases hF
  | succ n ih =>
    intro x3 x4 x3' x4' hF hE
    unfold F_M_marked_L5 at hF
    refine g_seg hK [.iload 4, .aload_n 0, .iload_n 1] 5 9 (L1 := [(0, vR 76), (1, vI x1), (2, vI x2), (3, vI x3), (4, vI x4)]) (st1 := [vI x1, vR 76, vI x4]) (h1 := h) (P := True ∧ True ∧ True ∧ True) (by decide +kernel) rfl rfl ⟨trivial, trivial, trivial, trivial⟩ ?_
    obtain ⟨r1, e2, hF⟩ := ob1_elim hF
    refine g_callV1 hK 9 83 (d1 := 0) (ci := 7) (i := 76) (vs := [vI x1]) (rest := [vI x4]) (h1 := h) (r := vI r1) my_yX7_size vw_X7_83 (by decide) (T_M_size (p1 := x1) (h := h) (hF := e2)) rfl rfl rfl (Nat.le_of_ble_eq_true rfl) (by decide +kernel) ?_
    refine g_icmp hK 12 .ge (30) 42 (t1 := 15) (t2 := 42) (by decide +kernel) (by decide) rfl rfl (fun (hc3 : x4 < r1) => ?_) (fun (hc3 : ¬ (x4 < r1)) => ?_)
    · have hF := ite_t hc3 hF
      refine g_seg hK [.iload_n 3, .aload_n 0, .getfield 28, .iload_n 1, .iload 4, .iadd] 15 24 (L1 := [(0, vR 76), (1, vI x1), (2, vI x2), (3, vI x3), (4, vI x4)]) (st1 := [vI (wr (x1 + x4)), vR 83, vI x3]) (h1 := h) (P := True ∧ True ∧ kd 76 = 9 ∧ True ∧ True ∧ True ∧ True) (by decide +kernel) rfl rfl ⟨trivial, trivial, rfl, trivial, trivial, trivial, trivial⟩ ?_
      obtain ⟨hg4, hF⟩ := gd_elim hF
      refine g_seg hK [.iaload, .iload_n 2] 24 26 (L1 := [(0, vR 76), (1, vI x1), (2, vI x2), (3, vI x3), (4, vI x4)]) (st1 := [vI x2, vI (h 83 (wr (x1 + x4)).toNat), vI x3]) (h1 := h) (P := (kd 83 = 0 ∧ 0 ≤ wr (x1 + x4) ∧ wr (x1 + x4) < 28) ∧ True ∧ True) (by decide +kernel) rfl rfl ⟨⟨rfl, hg4⟩, trivial, trivial⟩ ?_
      obtain ⟨s5, e8, hF⟩ := jn1_elim hF
      have j6 : K 34 [(0, vR 76), (1, vI x1), (2, vI x2), (4, vI x4)] [vI s5, vI x3] h := by
        refine g_seg hK [.iadd, .istore_n 3, .iinc 4 1] 34 39 (L1 := [(4, vI (wr (x4 + 1))), (3, vI (wr (x3 + s5))), (0, vR 76), (1, vI x1), (2, vI x2)]) (st1 := []) (h1 := h) (P := True ∧ True ∧ True ∧ True) (by decide +kernel) rfl rfl ⟨trivial, trivial, trivial, trivial⟩ ?_
        refine g_goto hK 39 (-34) 5 (by decide +kernel) (by decide) ?_
        refine hK.2.1 _ _ ([(0, vR 76), (1, vI x1), (2, vI x2), (3, vI (wr (x3 + s5))), (4, vI (wr (x4 + 1)))]) _ _ (sub_of [2, 3, 4, 1, 0] rfl) ?_
        exact ih _ _ _ _ hF hE
      clear hF
      have hF := e8
      refine g_icmp hK 26 .ne (7) 33 (t1 := 29) (t2 := 33) (by decide +kernel) (by decide) rfl rfl (fun (hc7 : h 83 (wr (x1 + x4)).toNat = x2) => ?_) (fun (hc7 : ¬ (h 83 (wr (x1 + x4)).toNat = x2)) => ?_)
      · have hF := ite_t hc7 hF
        refine g_seg hK [.iconst 1] 29 30 (L1 := [(0, vR 76), (1, vI x1), (2, vI x2), (3, vI x3), (4, vI x4)]) (st1 := [vI 1, vI x3]) (h1 := h) (P := True ∧ True) (by decide +kernel) rfl rfl ⟨trivial, trivial⟩ ?_
        refine g_goto hK 30 (4) 34 (by decide +kernel) (by decide) ?_
        refine hK.2.1 _ _ ([(0, vR 76), (1, vI x1), (2, vI x2), (4, vI x4)]) _ _ (sub_of [0, 1, 2, 4] rfl) ?_
        cases hF
        exact j6
      · have hF := ite_f hc7 hF
        refine g_seg hK [.iconst 0] 33 34 (L1 := [(0, vR 76), (1, vI x1), (2, vI x2), (3, vI x3), (4, vI x4)]) (st1 := [vI 0, vI x3]) (h1 := h) (P := True ∧ True) (by decide +kernel) rfl rfl ⟨trivial, trivial⟩ ?_
        refine hK.2.1 _ _ ([(0, vR 76), (1, vI x1), (2, vI x2), (4, vI x4)]) _ _ (sub_of [0, 1, 2, 4] rfl) ?_
        cases hF
        exact j6
    · have hF := ite_f hc3 hF
      cases hF
      exact hE
set_option maxHeartbeats 4000000 in
set_option maxRecDepth 100000 in
theorem T_M_marked {p1 : Int} {p2 : Int} {h : MH} {r : Int} (hF : F_M_marked p1 p2 h = some r) : CON 1 yX7_marked cX7_marked 5 (Option.some Jvm.ClassFile.FieldType.int) [vR 76, vI p1, vI p2] h (some (vI r)) h := by
  refine con_of (own := RX7) (fl := flX7) (by decide +kernel) rfl flok_X7 rfl (Nat.le_of_ble_eq_true rfl) ?_
  intro K hK hR
  show K 0 [(0, vR 76), (1, vI p1), (2, vI p2)] [] h
  unfold F_M_marked at hF
  refine g_seg hK [.iconst 0, .istore_n 3, .iconst 0, .istore 4] 0 5 (L1 := [(4, vI 0), (3, vI 0), (0, vR 76), (1, vI p1), (2, vI p2)]) (st1 := []) (h1 := h) (P := True ∧ True ∧ True ∧ True ∧ True) (by decide +kernel) rfl rfl ⟨trivial, trivial, trivial, trivial, trivial⟩ ?_
  refine hK.2.1 _ _ ([(0, vR 76), (1, vI p1), (2, vI p2), (3, vI 0), (4, vI 0)]) _ _ (sub_of [2, 3, 4, 1, 0] rfl) ?_
  obtain ⟨x3_1, x4_2, e3, hF⟩ := ob2_elim hF
  refine LT_M_marked_L5 hK _ _ _ _ _ e3 ?_
  refine g_seg hK [.iload_n 3] 42 43 (L1 := [(0, vR 76), (1, vI p1), (2, vI p2), (3, vI x3_1), (4, vI x4_2)]) (st1 := [vI x3_1]) (h1 := h) (P := True ∧ True) (by decide +kernel) rfl rfl ⟨trivial, trivial⟩ ?_
  cases hF
  exact hR.1 43 _ _ _ (by decide +kernel) rfl ⟨rfl, rfl⟩
set_option maxHeartbeats 4000000 in
set_option maxRecDepth 100000 in
theorem T_M_isPlain {p1 : Int} {h : MH} {r : Int} (hF : F_M_isPlain p1 h = some r) : CON 2 yX7_isPlain cX7_isPlain 2 (Option.some Jvm.ClassFile.FieldType.boolean) [vR 76, vI p1] h (some (vI r)) h := by
  refine con_of (own := RX7) (fl := flX7) (by decide +kernel) rfl flok_X7 rfl (Nat.le_of_ble_eq_true rfl) ?_
  intro K hK hR
  show K 0 [(0, vR 76), (1, vI p1)] [] h
  unfold F_M_isPlain at hF
  refine g_seg hK [.aload_n 0, .iload_n 1, .iconst 1] 0 3 (L1 := [(0, vR 76), (1, vI p1)]) (st1 := [vI 1, vI p1, vR 76]) (h1 := h) (P := True ∧ True ∧ True ∧ True) (by decide +kernel) rfl rfl ⟨trivial, trivial, trivial, trivial⟩ ?_
  obtain ⟨r1, e2, hF⟩ := ob1_elim hF
  refine g_callV1 hK 3 86 (d1 := 1) (ci := 7) (i := 76) (vs := [vI p1, vI 1]) (rest := []) (h1 := h) (r := vI r1) my_yX7_marked vw_X7_86 (by decide) (T_M_marked (p1 := p1) (p2 := 1) (h := h) (hF := e2)) rfl rfl rfl (Nat.le_of_ble_eq_true rfl) (by decide +kernel) ?_
  refine g_ifz hK 6 .eq (12) 18 (t1 := 18) (t2 := 9) (by decide +kernel) (by decide) rfl rfl (fun (hc3 : r1 = 0) => ?_) (fun (hc3 : ¬ (r1 = 0)) => ?_)
  · have hF := ite_t hc3 hF
    refine g_seg hK [.iconst 1] 18 19 (L1 := [(0, vR 76), (1, vI p1)]) (st1 := [vI 1]) (h1 := h) (P := True ∧ True) (by decide +kernel) rfl rfl ⟨trivial, trivial⟩ ?_
    refine g_goto hK 19 (4) 23 (by decide +kernel) (by decide) ?_
    cases hF
    exact hR.2.1 23 _ _ _ (by decide +kernel) rfl (by decide) ⟨rfl, rfl⟩
  · have hF := ite_f hc3 hF
    refine g_seg hK [.aload_n 0, .iload_n 1, .iconst 2] 9 12 (L1 := [(0, vR 76), (1, vI p1)]) (st1 := [vI 2, vI p1, vR 76]) (h1 := h) (P := True ∧ True ∧ True ∧ True) (by decide +kernel) rfl rfl ⟨trivial, trivial, trivial, trivial⟩ ?_
    obtain ⟨r4, e5, hF⟩ := ob1_elim hF
    refine g_callV1 hK 12 86 (d1 := 1) (ci := 7) (i := 76) (vs := [vI p1, vI 2]) (rest := []) (h1 := h) (r := vI r4) my_yX7_marked vw_X7_86 (by decide) (T_M_marked (p1 := p1) (p2 := 2) (h := h) (hF := e5)) rfl rfl rfl (Nat.le_of_ble_eq_true rfl) (by decide +kernel) ?_
    refine g_ifz hK 15 .ne (7) 22 (t1 := 18) (t2 := 22) (by decide +kernel) (by decide) rfl rfl (fun (hc6 : r4 = 0) => ?_) (fun (hc6 : ¬ (r4 = 0)) => ?_)
    · have hF := ite_t hc6 hF
      refine g_seg hK [.iconst 1] 18 19 (L1 := [(0, vR 76), (1, vI p1)]) (st1 := [vI 1]) (h1 := h) (P := True ∧ True) (by decide +kernel) rfl rfl ⟨trivial, trivial⟩ ?_
      refine g_goto hK 19 (4) 23 (by decide +kernel) (by decide) ?_
      cases hF
      exact hR.2.1 23 _ _ _ (by decide +kernel) rfl (by decide) ⟨rfl, rfl⟩
    · have hF := ite_f hc6 hF
      refine g_seg hK [.iconst 0] 22 23 (L1 := [(0, vR 76), (1, vI p1)]) (st1 := [vI 0]) (h1 := h) (P := True ∧ True) (by decide +kernel) rfl rfl ⟨trivial, trivial⟩ ?_
      cases hF
      exact hR.2.1 23 _ _ _ (by decide +kernel) rfl (by decide) ⟨rfl, rfl⟩
set_option maxHeartbeats 4000000 in
set_option maxRecDepth 100000 in
theorem T_M_whyNotFrom {p1 : Int} {p2 : Int} {p3 : Int} {h : MH} {r : Int} (hF : F_M_whyNotFrom p1 p2 p3 h = some r) : CON 1 yX7_whyNotFrom cX7_whyNotFrom 7 (Option.some Jvm.ClassFile.FieldType.int) [vR 76, vI p1, vI p2, vI p3] h (some (vI r)) h := by
  refine con_of (own := RX7) (fl := flX7) (by decide +kernel) rfl flok_X7 rfl (Nat.le_of_ble_eq_true rfl) ?_
  intro K hK hR
  show K 0 [(0, vR 76), (1, vI p1), (2, vI p2), (3, vI p3)] [] h
  unfold F_M_whyNotFrom at hF
  refine g_seg hK [.iload_n 3] 0 1 (L1 := [(0, vR 76), (1, vI p1), (2, vI p2), (3, vI p3)]) (st1 := [vI p3]) (h1 := h) (P := True ∧ True) (by decide +kernel) rfl rfl ⟨trivial, trivial⟩ ?_
  obtain ⟨s1, e19, hF⟩ := jn1_elim hF
  have j2 : K 13 [(0, vR 76), (1, vI p1), (2, vI p2), (3, vI p3)] [vI s1] h := by
    refine g_seg hK [.istore 4, .iload_n 3] 13 16 (L1 := [(4, vI s1), (0, vR 76), (1, vI p1), (2, vI p2), (3, vI p3)]) (st1 := [vI p3]) (h1 := h) (P := True ∧ True ∧ True) (by decide +kernel) rfl rfl ⟨trivial, trivial, trivial⟩ ?_
    obtain ⟨s4, e18, hF⟩ := jn1_elim hF
    have j5 : K 28 [(0, vR 76), (3, vI p3), (4, vI s1)] [vI s4] h := by
      refine g_seg hK [.istore 5, .iload_n 3] 28 31 (L1 := [(5, vI s4), (0, vR 76), (3, vI p3), (4, vI s1)]) (st1 := [vI p3]) (h1 := h) (P := True ∧ True ∧ True) (by decide +kernel) rfl rfl ⟨trivial, trivial, trivial⟩ ?_
      obtain ⟨s7, e17, hF⟩ := jn1_elim hF
      have j8 : K 45 [(0, vR 76), (4, vI s1), (5, vI s4)] [vI s7] h := by
        refine g_seg hK [.istore 6, .iload 4, .iconst 0, .aload_n 0, .getfield 62, .iconst 1, .isub] 45 56 (L1 := [(6, vI s7), (0, vR 76), (4, vI s1), (5, vI s4)]) (st1 := [vI (wr ((h 76 11) - 1)), vI 0, vI s1]) (h1 := h) (P := True ∧ True ∧ True ∧ True ∧ kd 76 = 9 ∧ True ∧ True ∧ True) (by decide +kernel) rfl rfl ⟨trivial, trivial, trivial, trivial, rfl, trivial, trivial, trivial⟩ ?_
        refine g_callS1 hK 56 89 (d1 := 0) (vs := [vI s1, vI 0, vI (wr ((h 76 11) - 1))]) (rest := []) (h1 := h) (r := vI (F_M_in s1 0 (wr ((h 76 11) - 1)))) my_yX7_in sw_X7_89 (by decide) (T_M_in (p1 := s1) (p2 := 0) (p3 := (wr ((h 76 11) - 1))) (h := h) (hF := rfl)) rfl (Nat.le_of_ble_eq_true rfl) (by decide +kernel) ?_
        refine g_ifz hK 59 .ne (5) 64 (t1 := 62) (t2 := 64) (by decide +kernel) (by decide) rfl rfl (fun (hc10 : F_M_in s1 0 (wr ((h 76 11) - 1)) = 0) => ?_) (fun (hc10 : ¬ (F_M_in s1 0 (wr ((h 76 11) - 1)) = 0)) => ?_)
        · have hF := ite_t hc10 hF
          refine g_seg hK [.iconst 2] 62 63 (L1 := [(6, vI s7), (0, vR 76), (4, vI s1), (5, vI s4)]) (st1 := [vI 2]) (h1 := h) (P := True ∧ True) (by decide +kernel) rfl rfl ⟨trivial, trivial⟩ ?_
          cases hF
          exact hR.1 63 _ _ _ (by decide +kernel) rfl ⟨rfl, rfl⟩
        · have hF := ite_f hc10 hF
          refine g_seg hK [.aload_n 0, .getfield 25, .iload 4] 64 70 (L1 := [(6, vI s7), (0, vR 76), (4, vI s1), (5, vI s4)]) (st1 := [vI s1, vR 82]) (h1 := h) (P := True ∧ kd 76 = 9 ∧ True ∧ True) (by decide +kernel) rfl rfl ⟨trivial, rfl, trivial, trivial⟩ ?_
          obtain ⟨hg11, hF⟩ := gd_elim hF
          refine g_seg hK [.iaload, .aload_n 0, .getfield 25, .iload 5] 70 77 (L1 := [(6, vI s7), (0, vR 76), (4, vI s1), (5, vI s4)]) (st1 := [vI s4, vR 82, vI (h 82 s1.toNat)]) (h1 := h) (P := (kd 82 = 0 ∧ 0 ≤ s1 ∧ s1 < 28) ∧ True ∧ kd 76 = 9 ∧ True ∧ True) (by decide +kernel) rfl rfl ⟨⟨rfl, hg11⟩, trivial, rfl, trivial, trivial⟩ ?_
          obtain ⟨hg12, hF⟩ := gd_elim hF
          refine g_seg hK [.iaload] 77 78 (L1 := [(6, vI s7), (0, vR 76), (4, vI s1), (5, vI s4)]) (st1 := [vI (h 82 s4.toNat), vI (h 82 s1.toNat)]) (h1 := h) (P := (kd 82 = 0 ∧ 0 ≤ s4 ∧ s4 < 28) ∧ True) (by decide +kernel) rfl rfl ⟨⟨rfl, hg12⟩, trivial⟩ ?_
          refine g_icmp hK 78 .eq (5) 83 (t1 := 83) (t2 := 81) (by decide +kernel) (by decide) rfl rfl (fun (hc13 : h 82 s1.toNat = h 82 s4.toNat) => ?_) (fun (hc13 : ¬ (h 82 s1.toNat = h 82 s4.toNat)) => ?_)
          · have hF := ite_t hc13 hF
            refine g_seg hK [.iload 6, .iconst 0, .aload_n 0, .getfield 62, .iconst 1, .isub] 83 92 (L1 := [(6, vI s7), (0, vR 76), (4, vI s1), (5, vI s4)]) (st1 := [vI (wr ((h 76 11) - 1)), vI 0, vI s7]) (h1 := h) (P := True ∧ True ∧ True ∧ kd 76 = 9 ∧ True ∧ True ∧ True) (by decide +kernel) rfl rfl ⟨trivial, trivial, trivial, rfl, trivial, trivial, trivial⟩ ?_
            refine g_callS1 hK 92 89 (d1 := 0) (vs := [vI s7, vI 0, vI (wr ((h 76 11) - 1))]) (rest := []) (h1 := h) (r := vI (F_M_in s7 0 (wr ((h 76 11) - 1)))) my_yX7_in sw_X7_89 (by decide) (T_M_in (p1 := s7) (p2 := 0) (p3 := (wr ((h 76 11) - 1))) (h := h) (hF := rfl)) rfl (Nat.le_of_ble_eq_true rfl) (by decide +kernel) ?_
            refine g_ifz hK 95 .eq (17) 112 (t1 := 112) (t2 := 98) (by decide +kernel) (by decide) rfl rfl (fun (hc14 : F_M_in s7 0 (wr ((h 76 11) - 1)) = 0) => ?_) (fun (hc14 : ¬ (F_M_in s7 0 (wr ((h 76 11) - 1)) = 0)) => ?_)
            · have hF := ite_t hc14 hF
              refine g_seg hK [.iconst 0] 112 113 (L1 := [(6, vI s7), (0, vR 76), (4, vI s1), (5, vI s4)]) (st1 := [vI 0]) (h1 := h) (P := True ∧ True) (by decide +kernel) rfl rfl ⟨trivial, trivial⟩ ?_
              cases hF
              exact hR.1 113 _ _ _ (by decide +kernel) rfl ⟨rfl, rfl⟩
            · have hF := ite_f hc14 hF
              refine g_seg hK [.aload_n 0, .getfield 28, .iload 6] 98 104 (L1 := [(6, vI s7), (0, vR 76), (4, vI s1), (5, vI s4)]) (st1 := [vI s7, vR 83]) (h1 := h) (P := True ∧ kd 76 = 9 ∧ True ∧ True) (by decide +kernel) rfl rfl ⟨trivial, rfl, trivial, trivial⟩ ?_
              obtain ⟨hg15, hF⟩ := gd_elim hF
              refine g_seg hK [.iaload] 104 105 (L1 := [(6, vI s7), (0, vR 76), (4, vI s1), (5, vI s4)]) (st1 := [vI (h 83 s7.toNat)]) (h1 := h) (P := (kd 83 = 0 ∧ 0 ≤ s7 ∧ s7 < 28) ∧ True) (by decide +kernel) rfl rfl ⟨⟨rfl, hg15⟩, trivial⟩ ?_
              refine g_ifz hK 105 .le (7) 112 (t1 := 112) (t2 := 108) (by decide +kernel) (by decide) rfl rfl (fun (hc16 : h 83 s7.toNat ≤ 0) => ?_) (fun (hc16 : ¬ (h 83 s7.toNat ≤ 0)) => ?_)
              · have hF := ite_t hc16 hF
                refine g_seg hK [.iconst 0] 112 113 (L1 := [(6, vI s7), (0, vR 76), (4, vI s1), (5, vI s4)]) (st1 := [vI 0]) (h1 := h) (P := True ∧ True) (by decide +kernel) rfl rfl ⟨trivial, trivial⟩ ?_
                cases hF
                exact hR.1 113 _ _ _ (by decide +kernel) rfl ⟨rfl, rfl⟩
              · have hF := ite_f hc16 hF
                refine g_seg hK [.iconst 4] 108 109 (L1 := [(6, vI s7), (0, vR 76), (4, vI s1), (5, vI s4)]) (st1 := [vI 4]) (h1 := h) (P := True ∧ True) (by decide +kernel) rfl rfl ⟨trivial, trivial⟩ ?_
                refine g_goto hK 109 (4) 113 (by decide +kernel) (by decide) ?_
                cases hF
                exact hR.1 113 _ _ _ (by decide +kernel) rfl ⟨rfl, rfl⟩
          · have hF := ite_f hc13 hF
            refine g_seg hK [.iconst 3] 81 82 (L1 := [(6, vI s7), (0, vR 76), (4, vI s1), (5, vI s4)]) (st1 := [vI 3]) (h1 := h) (P := True ∧ True) (by decide +kernel) rfl rfl ⟨trivial, trivial⟩ ?_
            cases hF
            exact hR.1 82 _ _ _ (by decide +kernel) rfl ⟨rfl, rfl⟩
      clear hF
      have hF := e17
      refine g_ifz hK 31 .eq (10) 41 (t1 := 41) (t2 := 34) (by decide +kernel) (by decide) rfl rfl (fun (hc9 : p3 = 0) => ?_) (fun (hc9 : ¬ (p3 = 0)) => ?_)
      · have hF := ite_t hc9 hF
        refine g_seg hK [.iload 4, .iconst 1, .isub] 41 45 (L1 := [(5, vI s4), (0, vR 76), (3, vI p3), (4, vI s1)]) (st1 := [vI (wr (s1 - 1))]) (h1 := h) (P := True ∧ True ∧ True ∧ True) (by decide +kernel) rfl rfl ⟨trivial, trivial, trivial, trivial⟩ ?_
        refine hK.2.1 _ _ ([(0, vR 76), (4, vI s1), (5, vI s4)]) _ _ (sub_of [1, 3, 0] rfl) ?_
        cases hF
        exact j8
      · have hF := ite_f hc9 hF
        refine g_seg hK [.iload 4, .iconst 1, .iadd] 34 38 (L1 := [(5, vI s4), (0, vR 76), (3, vI p3), (4, vI s1)]) (st1 := [vI (wr (s1 + 1))]) (h1 := h) (P := True ∧ True ∧ True ∧ True) (by decide +kernel) rfl rfl ⟨trivial, trivial, trivial, trivial⟩ ?_
        refine g_goto hK 38 (7) 45 (by decide +kernel) (by decide) ?_
        refine hK.2.1 _ _ ([(0, vR 76), (4, vI s1), (5, vI s4)]) _ _ (sub_of [1, 3, 0] rfl) ?_
        cases hF
        exact j8
    clear hF
    have hF := e18
    refine g_ifz hK 16 .eq (7) 23 (t1 := 23) (t2 := 19) (by decide +kernel) (by decide) rfl rfl (fun (hc6 : p3 = 0) => ?_) (fun (hc6 : ¬ (p3 = 0)) => ?_)
    · have hF := ite_t hc6 hF
      refine g_seg hK [.iload_n 1, .iload_n 2, .iadd, .iconst 1, .isub] 23 28 (L1 := [(4, vI s1), (0, vR 76), (1, vI p1), (2, vI p2), (3, vI p3)]) (st1 := [vI (wr ((wr (p1 + p2)) - 1))]) (h1 := h) (P := True ∧ True ∧ True ∧ True ∧ True ∧ True) (by decide +kernel) rfl rfl ⟨trivial, trivial, trivial, trivial, trivial, trivial⟩ ?_
      refine hK.2.1 _ _ ([(0, vR 76), (3, vI p3), (4, vI s1)]) _ _ (sub_of [1, 4, 0] rfl) ?_
      cases hF
      exact j5
    · have hF := ite_f hc6 hF
      refine g_seg hK [.iload_n 1] 19 20 (L1 := [(4, vI s1), (0, vR 76), (1, vI p1), (2, vI p2), (3, vI p3)]) (st1 := [vI p1]) (h1 := h) (P := True ∧ True) (by decide +kernel) rfl rfl ⟨trivial, trivial⟩ ?_
      refine g_goto hK 20 (8) 28 (by decide +kernel) (by decide) ?_
      refine hK.2.1 _ _ ([(0, vR 76), (3, vI p3), (4, vI s1)]) _ _ (sub_of [1, 4, 0] rfl) ?_
      cases hF
      exact j5
  clear hF
  have hF := e19
  refine g_ifz hK 1 .eq (9) 10 (t1 := 10) (t2 := 4) (by decide +kernel) (by decide) rfl rfl (fun (hc3 : p3 = 0) => ?_) (fun (hc3 : ¬ (p3 = 0)) => ?_)
  · have hF := ite_t hc3 hF
    refine g_seg hK [.iload_n 1, .iconst 1, .isub] 10 13 (L1 := [(0, vR 76), (1, vI p1), (2, vI p2), (3, vI p3)]) (st1 := [vI (wr (p1 - 1))]) (h1 := h) (P := True ∧ True ∧ True ∧ True) (by decide +kernel) rfl rfl ⟨trivial, trivial, trivial, trivial⟩ ?_
    cases hF
    exact j2
  · have hF := ite_f hc3 hF
    refine g_seg hK [.iload_n 1, .iload_n 2, .iadd] 4 7 (L1 := [(0, vR 76), (1, vI p1), (2, vI p2), (3, vI p3)]) (st1 := [vI (wr (p1 + p2))]) (h1 := h) (P := True ∧ True ∧ True ∧ True) (by decide +kernel) rfl rfl ⟨trivial, trivial, trivial, trivial⟩ ?_
    refine g_goto hK 7 (6) 13 (by decide +kernel) (by decide) ?_
    cases hF
    exact j2
set_option maxHeartbeats 4000000 in
set_option maxRecDepth 100000 in
theorem LT_M_slides_L13 {K : KT} (hK : Rules RX7 cX7_slides 5 (Option.some Jvm.ClassFile.FieldType.int) flX7 3 K) {x1 : Int} {x2 : Int} {x4 : Int} {h : MH} : ∀ (n : Nat) (x3 : Int) (x3' : Int), F_M_slides_L13 x1 x2 x4 h n x3 = some x3' → K 46 [(0, vR 76), (1, vI x1), (2, vI x2), (3, vI x3'), (4, vI x4)] [] h → K 13 [(0, vR 76), (1, vI x1), (2, vI x2), (3, vI x3), (4, vI x4)] [] h := by
  intro n
  induction n with
  | zero =>
    intro x3 x3' hF
    cases hF
  | succ n ih =>
    intro x3 x3' hF hE
    unfold F_M_slides_L13 at hF
    refine g_seg hK [.aload_n 0, .iload_n 1] 13 15 (L1 := [(0, vR 76), (1, vI x1), (2, vI x2), (3, vI x3), (4, vI x4)]) (st1 := [vI x1, vR 76]) (h1 := h) (P := True ∧ True ∧ True) (by decide +kernel) rfl rfl ⟨trivial, trivial, trivial⟩ ?_
    obtain ⟨r1, e2, hF⟩ := ob1_elim hF
    refine g_callV1 hK 15 93 (d1 := 2) (ci := 7) (i := 76) (vs := [vI x1]) (rest := []) (h1 := h) (r := vI r1) my_yX7_isPlain vw_X7_93 (by decide) (T_M_isPlain (p1 := x1) (h := h) (hF := e2)) rfl rfl rfl (Nat.le_of_ble_eq_true rfl) (by decide +kernel) ?_
    refine g_ifz hK 18 .eq (28) 46 (t1 := 46) (t2 := 21) (by decide +kernel) (by decide) rfl rfl (fun (hc3 : r1 = 0) => ?_) (fun (hc3 : ¬ (r1 = 0)) => ?_)
    · have hF := ite_t hc3 hF
      cases hF
      exact hE
    · have hF := ite_f hc3 hF
      refine g_seg hK [.aload_n 0, .iload_n 1, .iload_n 3, .iload 4, .imul, .iadd, .aload_n 0, .iload_n 1] 21 30 (L1 := [(0, vR 76), (1, vI x1), (2, vI x2), (3, vI x3), (4, vI x4)]) (st1 := [vI x1, vR 76, vI (wr (x1 + (wr (x3 * x4)))), vR 76]) (h1 := h) (P := True ∧ True ∧ True ∧ True ∧ True ∧ True ∧ True ∧ True ∧ True) (by decide +kernel) rfl rfl ⟨trivial, trivial, trivial, trivial, trivial, trivial, trivial, trivial, trivial⟩ ?_
      obtain ⟨r4, e5, hF⟩ := ob1_elim hF
      refine g_callV1 hK 30 83 (d1 := 0) (ci := 7) (i := 76) (vs := [vI x1]) (rest := [vI (wr (x1 + (wr (x3 * x4)))), vR 76]) (h1 := h) (r := vI r4) my_yX7_size vw_X7_83 (by decide) (T_M_size (p1 := x1) (h := h) (hF := e5)) rfl rfl rfl (Nat.le_of_ble_eq_true rfl) (by decide +kernel) ?_
      refine g_seg hK [.iload_n 2] 33 34 (L1 := [(0, vR 76), (1, vI x1), (2, vI x2), (3, vI x3), (4, vI x4)]) (st1 := [vI x2, vI r4, vI (wr (x1 + (wr (x3 * x4)))), vR 76]) (h1 := h) (P := True ∧ True) (by decide +kernel) rfl rfl ⟨trivial, trivial⟩ ?_
      obtain ⟨r6, e7, hF⟩ := ob1_elim hF
      refine g_callV1 hK 34 96 (d1 := 1) (ci := 7) (i := 76) (vs := [vI (wr (x1 + (wr (x3 * x4)))), vI r4, vI x2]) (rest := []) (h1 := h) (r := vI r6) my_yX7_whyNotFrom vw_X7_96 (by decide) (T_M_whyNotFrom (p1 := (wr (x1 + (wr (x3 * x4))))) (p2 := r4) (p3 := x2) (h := h) (hF := e7)) rfl rfl rfl (Nat.le_of_ble_eq_true rfl) (by decide +kernel) ?_
      refine g_ifz hK 37 .ne (9) 46 (t1 := 40) (t2 := 46) (by decide +kernel) (by decide) rfl rfl (fun (hc8 : r6 = 0) => ?_) (fun (hc8 : ¬ (r6 = 0)) => ?_)
      · have hF := ite_t hc8 hF
        refine g_seg hK [.iinc 3 1] 40 43 (L1 := [(3, vI (wr (x3 + 1))), (0, vR 76), (1, vI x1), (2, vI x2), (4, vI x4)]) (st1 := []) (h1 := h) (P := True ∧ True) (by decide +kernel) rfl rfl ⟨trivial, trivial⟩ ?_
        refine g_goto hK 43 (-30) 13 (by decide +kernel) (by decide) ?_
        refine hK.2.1 _ _ ([(0, vR 76), (1, vI x1), (2, vI x2), (3, vI (wr (x3 + 1))), (4, vI x4)]) _ _ (sub_of [1, 2, 3, 0, 4] rfl) ?_
        exact ih _ _ hF hE
      · have hF := ite_f hc8 hF
        cases hF
        exact hE
set_option maxHeartbeats 4000000 in
set_option maxRecDepth 100000 in
theorem T_M_slides {p1 : Int} {p2 : Int} {h : MH} {r : Int} (hF : F_M_slides p1 p2 h = some r) : CON 3 yX7_slides cX7_slides 5 (Option.some Jvm.ClassFile.FieldType.int) [vR 76, vI p1, vI p2] h (some (vI r)) h := by
  refine con_of (own := RX7) (fl := flX7) (by decide +kernel) rfl flok_X7 rfl (Nat.le_of_ble_eq_true rfl) ?_
  intro K hK hR
  show K 0 [(0, vR 76), (1, vI p1), (2, vI p2)] [] h
  unfold F_M_slides at hF
  refine g_seg hK [.iconst 0, .istore_n 3, .iload_n 2] 0 3 (L1 := [(3, vI 0), (0, vR 76), (1, vI p1), (2, vI p2)]) (st1 := [vI p2]) (h1 := h) (P := True ∧ True ∧ True ∧ True) (by decide +kernel) rfl rfl ⟨trivial, trivial, trivial, trivial⟩ ?_
  obtain ⟨s1, e6, hF⟩ := jn1_elim hF
  have j2 : K 11 [(0, vR 76), (1, vI p1), (2, vI p2), (3, vI 0)] [vI s1] h := by
    refine g_seg hK [.istore 4] 11 13 (L1 := [(4, vI s1), (0, vR 76), (1, vI p1), (2, vI p2), (3, vI 0)]) (st1 := []) (h1 := h) (P := True ∧ True) (by decide +kernel) rfl rfl ⟨trivial, trivial⟩ ?_
    refine hK.2.1 _ _ ([(0, vR 76), (1, vI p1), (2, vI p2), (3, vI 0), (4, vI s1)]) _ _ (sub_of [1, 2, 3, 4, 0] rfl) ?_
    obtain ⟨x3_4, e5, hF⟩ := ob1_elim hF
    refine LT_M_slides_L13 hK _ _ _ e5 ?_
    refine g_seg hK [.iload_n 3] 46 47 (L1 := [(0, vR 76), (1, vI p1), (2, vI p2), (3, vI x3_4), (4, vI s1)]) (st1 := [vI x3_4]) (h1 := h) (P := True ∧ True) (by decide +kernel) rfl rfl ⟨trivial, trivial⟩ ?_
    cases hF
    exact hR.1 47 _ _ _ (by decide +kernel) rfl ⟨rfl, rfl⟩
  clear hF
  have hF := e6
  refine g_ifz hK 3 .eq (7) 10 (t1 := 10) (t2 := 6) (by decide +kernel) (by decide) rfl rfl (fun (hc3 : p2 = 0) => ?_) (fun (hc3 : ¬ (p2 = 0)) => ?_)
  · have hF := ite_t hc3 hF
    refine g_seg hK [.iconst (-1)] 10 11 (L1 := [(3, vI 0), (0, vR 76), (1, vI p1), (2, vI p2)]) (st1 := [vI (-1)]) (h1 := h) (P := True ∧ True) (by decide +kernel) rfl rfl ⟨trivial, trivial⟩ ?_
    refine hK.2.1 _ _ ([(0, vR 76), (1, vI p1), (2, vI p2), (3, vI 0)]) _ _ (sub_of [1, 2, 3, 0] rfl) ?_
    cases hF
    exact j2
  · have hF := ite_f hc3 hF
    refine g_seg hK [.iconst 1] 6 7 (L1 := [(3, vI 0), (0, vR 76), (1, vI p1), (2, vI p2)]) (st1 := [vI 1]) (h1 := h) (P := True ∧ True) (by decide +kernel) rfl rfl ⟨trivial, trivial⟩ ?_
    refine g_goto hK 7 (4) 11 (by decide +kernel) (by decide) ?_
    refine hK.2.1 _ _ ([(0, vR 76), (1, vI p1), (2, vI p2), (3, vI 0)]) _ _ (sub_of [1, 2, 3, 0] rfl) ?_
    cases hF
    exact j2
set_option maxHeartbeats 4000000 in
set_option maxRecDepth 100000 in
theorem T_M_worth {p1 : Int} {p2 : Int} {h : MH} {r : Int} (hF : F_M_worth p1 p2 h = some r) : CON 0 yX7_worth cX7_worth 5 (Option.some Jvm.ClassFile.FieldType.int) [vR 76, vI p1, vI p2] h (some (vI r)) h := by
  refine con_of (own := RX7) (fl := flX7) (by decide +kernel) rfl flok_X7 rfl (Nat.le_of_ble_eq_true rfl) ?_
  intro K hK hR
  show K 0 [(0, vR 76), (1, vI p1), (2, vI p2)] [] h
  unfold F_M_worth at hF
  refine g_seg hK [.aload_n 0, .getfield 25, .iload_n 1, .iload_n 2, .iadd, .iconst 1, .isub] 0 9 (L1 := [(0, vR 76), (1, vI p1), (2, vI p2)]) (st1 := [vI (wr ((wr (p1 + p2)) - 1)), vR 82]) (h1 := h) (P := True ∧ kd 76 = 9 ∧ True ∧ True ∧ True ∧ True ∧ True ∧ True) (by decide +kernel) rfl rfl ⟨trivial, rfl, trivial, trivial, trivial, trivial, trivial, trivial⟩ ?_
  obtain ⟨hg1, hF⟩ := gd_elim hF
  refine g_seg hK [.iaload, .istore_n 3, .iload_n 1] 9 12 (L1 := [(3, vI (h 82 (wr ((wr (p1 + p2)) - 1)).toNat)), (0, vR 76), (1, vI p1), (2, vI p2)]) (st1 := [vI p1]) (h1 := h) (P := (kd 82 = 0 ∧ 0 ≤ wr ((wr (p1 + p2)) - 1) ∧ wr ((wr (p1 + p2)) - 1) < 28) ∧ True ∧ True ∧ True) (by decide +kernel) rfl rfl ⟨⟨rfl, hg1⟩, trivial, trivial, trivial⟩ ?_
  obtain ⟨kj5, e20, hF⟩ := jk1_elim hF
  have j5 : ∀ (s4 : Int), kj5 s4 = some r → K 33 [(0, vR 76), (1, vI p1), (3, vI (h 82 (wr ((wr (p1 + p2)) - 1)).toNat))] [vI s4] h := by
    intro s4 hF
    have hF := (e20 s4).symm.trans hF
    refine g_seg hK [.istore 4, .iload 4] 33 37 (L1 := [(4, vI s4), (0, vR 76), (1, vI p1), (3, vI (h 82 (wr ((wr (p1 + p2)) - 1)).toNat))]) (st1 := [vI s4]) (h1 := h) (P := True ∧ True ∧ True) (by decide +kernel) rfl rfl ⟨trivial, trivial, trivial⟩ ?_
    obtain ⟨s6, e19, hF⟩ := jn1_elim hF
    have j7 : K 45 [(0, vR 76), (1, vI p1), (3, vI (h 82 (wr ((wr (p1 + p2)) - 1)).toNat))] [vI s6] h := by
      refine g_seg hK [.iload_n 3, .bipush 6] 45 48 (L1 := [(0, vR 76), (1, vI p1), (3, vI (h 82 (wr ((wr (p1 + p2)) - 1)).toNat))]) (st1 := [vI 6, vI (h 82 (wr ((wr (p1 + p2)) - 1)).toNat), vI s6]) (h1 := h) (P := True ∧ True ∧ True) (by decide +kernel) rfl rfl ⟨trivial, trivial, trivial⟩ ?_
      obtain ⟨s9, e18, hF⟩ := jn1_elim hF
      have j10 : K 56 [(0, vR 76), (1, vI p1), (3, vI (h 82 (wr ((wr (p1 + p2)) - 1)).toNat))] [vI s9, vI s6] h := by
        refine g_seg hK [.iadd, .aload_n 0, .getfield 25, .iload_n 1] 56 62 (L1 := [(0, vR 76), (1, vI p1), (3, vI (h 82 (wr ((wr (p1 + p2)) - 1)).toNat))]) (st1 := [vI p1, vR 82, vI (wr (s6 + s9))]) (h1 := h) (P := True ∧ True ∧ kd 76 = 9 ∧ True ∧ True) (by decide +kernel) rfl rfl ⟨trivial, trivial, rfl, trivial, trivial⟩ ?_
        obtain ⟨hg12, hF⟩ := gd_elim hF
        refine g_seg hK [.iaload, .bipush 7] 62 65 (L1 := [(0, vR 76), (1, vI p1), (3, vI (h 82 (wr ((wr (p1 + p2)) - 1)).toNat))]) (st1 := [vI 7, vI (h 82 p1.toNat), vI (wr (s6 + s9))]) (h1 := h) (P := (kd 82 = 0 ∧ 0 ≤ p1 ∧ p1 < 28) ∧ True ∧ True) (by decide +kernel) rfl rfl ⟨⟨rfl, hg12⟩, trivial, trivial⟩ ?_
        obtain ⟨s13, e17, hF⟩ := jn1_elim hF
        have j14 : K 73 [(3, vI (h 82 (wr ((wr (p1 + p2)) - 1)).toNat))] [vI s13, vI (wr (s6 + s9))] h := by
          refine g_seg hK [.iadd, .iload_n 3, .bipush 8] 73 77 (L1 := [(3, vI (h 82 (wr ((wr (p1 + p2)) - 1)).toNat))]) (st1 := [vI 8, vI (h 82 (wr ((wr (p1 + p2)) - 1)).toNat), vI (wr ((wr (s6 + s9)) + s13))]) (h1 := h) (P := True ∧ True ∧ True ∧ True) (by decide +kernel) rfl rfl ⟨trivial, trivial, trivial, trivial⟩ ?_
          refine g_icmp hK 77 .ne (7) 84 (t1 := 80) (t2 := 84) (by decide +kernel) (by decide) rfl rfl (fun (hc16 : h 82 (wr ((wr (p1 + p2)) - 1)).toNat = 8) => ?_) (fun (hc16 : ¬ (h 82 (wr ((wr (p1 + p2)) - 1)).toNat = 8)) => ?_)
          · have hF := ite_t hc16 hF
            refine g_seg hK [.iconst 3] 80 81 (L1 := [(3, vI (h 82 (wr ((wr (p1 + p2)) - 1)).toNat))]) (st1 := [vI 3, vI (wr ((wr (s6 + s9)) + s13))]) (h1 := h) (P := True ∧ True) (by decide +kernel) rfl rfl ⟨trivial, trivial⟩ ?_
            refine g_goto hK 81 (4) 85 (by decide +kernel) (by decide) ?_
            refine g_seg hK [.iadd] 85 86 (L1 := [(3, vI (h 82 (wr ((wr (p1 + p2)) - 1)).toNat))]) (st1 := [vI (wr ((wr ((wr (s6 + s9)) + s13)) + 3))]) (h1 := h) (P := True ∧ True) (by decide +kernel) rfl rfl ⟨trivial, trivial⟩ ?_
            cases hF
            exact hR.1 86 _ _ _ (by decide +kernel) rfl ⟨rfl, rfl⟩
          · have hF := ite_f hc16 hF
            refine g_seg hK [.iconst 0, .iadd] 84 86 (L1 := [(3, vI (h 82 (wr ((wr (p1 + p2)) - 1)).toNat))]) (st1 := [vI (wr ((wr ((wr (s6 + s9)) + s13)) + 0))]) (h1 := h) (P := True ∧ True ∧ True) (by decide +kernel) rfl rfl ⟨trivial, trivial, trivial⟩ ?_
            cases hF
            exact hR.1 86 _ _ _ (by decide +kernel) rfl ⟨rfl, rfl⟩
        clear hF
        have hF := e17
        refine g_icmp hK 65 .ne (7) 72 (t1 := 68) (t2 := 72) (by decide +kernel) (by decide) rfl rfl (fun (hc15 : h 82 p1.toNat = 7) => ?_) (fun (hc15 : ¬ (h 82 p1.toNat = 7)) => ?_)
        · have hF := ite_t hc15 hF
          refine g_seg hK [.iconst 1] 68 69 (L1 := [(0, vR 76), (1, vI p1), (3, vI (h 82 (wr ((wr (p1 + p2)) - 1)).toNat))]) (st1 := [vI 1, vI (wr (s6 + s9))]) (h1 := h) (P := True ∧ True) (by decide +kernel) rfl rfl ⟨trivial, trivial⟩ ?_
          refine g_goto hK 69 (4) 73 (by decide +kernel) (by decide) ?_
          refine hK.2.1 _ _ ([(3, vI (h 82 (wr ((wr (p1 + p2)) - 1)).toNat))]) _ _ (sub_of [2] rfl) ?_
          cases hF
          exact j14
        · have hF := ite_f hc15 hF
          refine g_seg hK [.iconst 0] 72 73 (L1 := [(0, vR 76), (1, vI p1), (3, vI (h 82 (wr ((wr (p1 + p2)) - 1)).toNat))]) (st1 := [vI 0, vI (wr (s6 + s9))]) (h1 := h) (P := True ∧ True) (by decide +kernel) rfl rfl ⟨trivial, trivial⟩ ?_
          refine hK.2.1 _ _ ([(3, vI (h 82 (wr ((wr (p1 + p2)) - 1)).toNat))]) _ _ (sub_of [2] rfl) ?_
          cases hF
          exact j14
      clear hF
      have hF := e18
      refine g_icmp hK 48 .ne (7) 55 (t1 := 51) (t2 := 55) (by decide +kernel) (by decide) rfl rfl (fun (hc11 : h 82 (wr ((wr (p1 + p2)) - 1)).toNat = 6) => ?_) (fun (hc11 : ¬ (h 82 (wr ((wr (p1 + p2)) - 1)).toNat = 6)) => ?_)
      · have hF := ite_t hc11 hF
        refine g_seg hK [.iconst 2] 51 52 (L1 := [(0, vR 76), (1, vI p1), (3, vI (h 82 (wr ((wr (p1 + p2)) - 1)).toNat))]) (st1 := [vI 2, vI s6]) (h1 := h) (P := True ∧ True) (by decide +kernel) rfl rfl ⟨trivial, trivial⟩ ?_
        refine g_goto hK 52 (4) 56 (by decide +kernel) (by decide) ?_
        cases hF
        exact j10
      · have hF := ite_f hc11 hF
        refine g_seg hK [.iconst 0] 55 56 (L1 := [(0, vR 76), (1, vI p1), (3, vI (h 82 (wr ((wr (p1 + p2)) - 1)).toNat))]) (st1 := [vI 0, vI s6]) (h1 := h) (P := True ∧ True) (by decide +kernel) rfl rfl ⟨trivial, trivial⟩ ?_
        cases hF
        exact j10
    clear hF
    have hF := e19
    refine g_ifz hK 37 .eq (7) 44 (t1 := 44) (t2 := 40) (by decide +kernel) (by decide) rfl rfl (fun (hc8 : s4 = 0) => ?_) (fun (hc8 : ¬ (s4 = 0)) => ?_)
    · have hF := ite_t hc8 hF
      refine g_seg hK [.iconst 0] 44 45 (L1 := [(4, vI s4), (0, vR 76), (1, vI p1), (3, vI (h 82 (wr ((wr (p1 + p2)) - 1)).toNat))]) (st1 := [vI 0]) (h1 := h) (P := True ∧ True) (by decide +kernel) rfl rfl ⟨trivial, trivial⟩ ?_
      refine hK.2.1 _ _ ([(0, vR 76), (1, vI p1), (3, vI (h 82 (wr ((wr (p1 + p2)) - 1)).toNat))]) _ _ (sub_of [1, 2, 3] rfl) ?_
      cases hF
      exact j7
    · have hF := ite_f hc8 hF
      refine g_seg hK [.iconst 4] 40 41 (L1 := [(4, vI s4), (0, vR 76), (1, vI p1), (3, vI (h 82 (wr ((wr (p1 + p2)) - 1)).toNat))]) (st1 := [vI 4]) (h1 := h) (P := True ∧ True) (by decide +kernel) rfl rfl ⟨trivial, trivial⟩ ?_
      refine g_goto hK 41 (4) 45 (by decide +kernel) (by decide) ?_
      refine hK.2.1 _ _ ([(0, vR 76), (1, vI p1), (3, vI (h 82 (wr ((wr (p1 + p2)) - 1)).toNat))]) _ _ (sub_of [1, 2, 3] rfl) ?_
      cases hF
      exact j7
  obtain ⟨kj3, e21, hF⟩ := jk1_elim hF
  have j3 : ∀ (u2 : Unit), kj3 u2 = some r → K 28 [(0, vR 76), (1, vI p1), (3, vI (h 82 (wr ((wr (p1 + p2)) - 1)).toNat))] [] h := by
    intro u2 hF
    have hF := (e21 u2).symm.trans hF
    refine g_seg hK [.iconst 1] 28 29 (L1 := [(0, vR 76), (1, vI p1), (3, vI (h 82 (wr ((wr (p1 + p2)) - 1)).toNat))]) (st1 := [vI 1]) (h1 := h) (P := True ∧ True) (by decide +kernel) rfl rfl ⟨trivial, trivial⟩ ?_
    refine g_goto hK 29 (4) 33 (by decide +kernel) (by decide) ?_
    exact j5 _ hF
  refine g_ifz hK 12 .eq (16) 28 (t1 := 28) (t2 := 15) (by decide +kernel) (by decide) rfl rfl (fun (hc22 : p1 = 0) => ?_) (fun (hc22 : ¬ (p1 = 0)) => ?_)
  · have hF := ite_t hc22 hF
    refine hK.2.1 _ _ ([(0, vR 76), (1, vI p1), (3, vI (h 82 (wr ((wr (p1 + p2)) - 1)).toNat))]) _ _ (sub_of [1, 2, 0] rfl) ?_
    exact j3 _ hF
  · have hF := ite_f hc22 hF
    refine g_seg hK [.aload_n 0, .getfield 25, .iload_n 1, .iconst 1, .isub] 15 22 (L1 := [(3, vI (h 82 (wr ((wr (p1 + p2)) - 1)).toNat)), (0, vR 76), (1, vI p1), (2, vI p2)]) (st1 := [vI (wr (p1 - 1)), vR 82]) (h1 := h) (P := True ∧ kd 76 = 9 ∧ True ∧ True ∧ True ∧ True) (by decide +kernel) rfl rfl ⟨trivial, rfl, trivial, trivial, trivial, trivial⟩ ?_
    obtain ⟨hg23, hF⟩ := gd_elim hF
    refine g_seg hK [.iaload, .bipush 6] 22 25 (L1 := [(3, vI (h 82 (wr ((wr (p1 + p2)) - 1)).toNat)), (0, vR 76), (1, vI p1), (2, vI p2)]) (st1 := [vI 6, vI (h 82 (wr (p1 - 1)).toNat)]) (h1 := h) (P := (kd 82 = 0 ∧ 0 ≤ wr (p1 - 1) ∧ wr (p1 - 1) < 28) ∧ True ∧ True) (by decide +kernel) rfl rfl ⟨⟨rfl, hg23⟩, trivial, trivial⟩ ?_
    refine g_icmp hK 25 .ne (7) 32 (t1 := 28) (t2 := 32) (by decide +kernel) (by decide) rfl rfl (fun (hc24 : h 82 (wr (p1 - 1)).toNat = 6) => ?_) (fun (hc24 : ¬ (h 82 (wr (p1 - 1)).toNat = 6)) => ?_)
    · have hF := ite_t hc24 hF
      refine hK.2.1 _ _ ([(0, vR 76), (1, vI p1), (3, vI (h 82 (wr ((wr (p1 + p2)) - 1)).toNat))]) _ _ (sub_of [1, 2, 0] rfl) ?_
      exact j3 _ hF
    · have hF := ite_f hc24 hF
      refine g_seg hK [.iconst 0] 32 33 (L1 := [(3, vI (h 82 (wr ((wr (p1 + p2)) - 1)).toNat)), (0, vR 76), (1, vI p1), (2, vI p2)]) (st1 := [vI 0]) (h1 := h) (P := True ∧ True) (by decide +kernel) rfl rfl ⟨trivial, trivial⟩ ?_
      refine hK.2.1 _ _ ([(0, vR 76), (1, vI p1), (3, vI (h 82 (wr ((wr (p1 + p2)) - 1)).toNat))]) _ _ (sub_of [1, 2, 0] rfl) ?_
      exact j5 _ hF
set_option maxHeartbeats 4000000 in
set_option maxRecDepth 100000 in
theorem LT_M_bestPlace_L27 {K : KT} (hK : Rules RX7 cX7_bestPlace 8 (Option.some Jvm.ClassFile.FieldType.int) flX7 4 K) {x1 : Int} {x4 : Int} {h : MH} : ∀ (n : Nat) (x2 : Int) (x5 : Int) (x6 : Int) (x2' : Int) (x5' : Int) (x6' : Int), F_M_bestPlace_L27 x1 x4 h n x2 x5 x6 = some (x2', x5', x6') → K 83 [(0, vR 76), (1, vI x1), (2, vI x2'), (4, vI x4), (5, vI x5'), (6, vI x6')] [] h → K 27 [(0, vR 76), (1, vI x1), (2, vI x2), (4, vI x4), (5, vI x5), (6, vI x6)] [] h := by
  intro n
  induction n with
  | zero =>
    intro x2 x5 x6 x2' x5' x6' hF
    cases hF
  | succ n ih =>
    intro x2 x5 x6 x2' x5' x6' hF hE
    unfold F_M_bestPlace_L27 at hF
    refine g_seg hK [.iload 6, .iload 4] 27 31 (L1 := [(0, vR 76), (1, vI x1), (2, vI x2), (4, vI x4), (5, vI x5), (6, vI x6)]) (st1 := [vI x4, vI x6]) (h1 := h) (P := True ∧ True ∧ True) (by decide +kernel) rfl rfl ⟨trivial, trivial, trivial⟩ ?_
    refine g_icmp hK 31 .gt (52) 83 (t1 := 34) (t2 := 83) (by decide +kernel) (by decide) rfl rfl (fun (hc1 : x6 ≤ x4) => ?_) (fun (hc1 : ¬ (x6 ≤ x4)) => ?_)
    · have hF := ite_t hc1 hF
      refine g_seg hK [.aload_n 0, .iload 6, .aload_n 0, .iload_n 1] 34 39 (L1 := [(0, vR 76), (1, vI x1), (2, vI x2), (4, vI x4), (5, vI x5), (6, vI x6)]) (st1 := [vI x1, vR 76, vI x6, vR 76]) (h1 := h) (P := True ∧ True ∧ True ∧ True ∧ True) (by decide +kernel) rfl rfl ⟨trivial, trivial, trivial, trivial, trivial⟩ ?_
      obtain ⟨r2, e3, hF⟩ := ob1_elim hF
      refine g_callV1 hK 39 83 (d1 := 0) (ci := 7) (i := 76) (vs := [vI x1]) (rest := [vI x6, vR 76]) (h1 := h) (r := vI r2) my_yX7_size vw_X7_83 (by decide) (T_M_size (p1 := x1) (h := h) (hF := e3)) rfl rfl rfl (Nat.le_of_ble_eq_true rfl) (by decide +kernel) ?_
      obtain ⟨r4, e5, hF⟩ := ob1_elim hF
      refine g_callV1 hK 42 104 (d1 := 0) (ci := 7) (i := 76) (vs := [vI x6, vI r2]) (rest := []) (h1 := h) (r := vI r4) my_yX7_worth vw_X7_104 (by decide) (T_M_worth (p1 := x6) (p2 := r2) (h := h) (hF := e5)) rfl rfl rfl (Nat.le_of_ble_eq_true rfl) (by decide +kernel) ?_
      refine g_seg hK [.istore 7, .iload 7, .iload 5] 45 51 (L1 := [(7, vI r4), (0, vR 76), (1, vI x1), (2, vI x2), (4, vI x4), (5, vI x5), (6, vI x6)]) (st1 := [vI x5, vI r4]) (h1 := h) (P := True ∧ True ∧ True ∧ True) (by decide +kernel) rfl rfl ⟨trivial, trivial, trivial, trivial⟩ ?_
      obtain ⟨s6, e13, hF⟩ := jn1_elim hF
      have j7 : K 60 [(0, vR 76), (1, vI x1), (4, vI x4), (5, vI x5), (6, vI x6), (7, vI r4)] [vI s6] h := by
        refine g_seg hK [.istore_n 2, .iload 7, .iload 5] 60 65 (L1 := [(2, vI s6), (0, vR 76), (1, vI x1), (4, vI x4), (5, vI x5), (6, vI x6), (7, vI r4)]) (st1 := [vI x5, vI r4]) (h1 := h) (P := True ∧ True ∧ True ∧ True) (by decide +kernel) rfl rfl ⟨trivial, trivial, trivial, trivial⟩ ?_
        obtain ⟨s9, e12, hF⟩ := jn1_elim hF
        have j10 : K 75 [(0, vR 76), (1, vI x1), (2, vI s6), (4, vI x4), (6, vI x6)] [vI s9] h := by
          refine g_seg hK [.istore 5, .iinc 6 1] 75 80 (L1 := [(6, vI (wr (x6 + 1))), (5, vI s9), (0, vR 76), (1, vI x1), (2, vI s6), (4, vI x4)]) (st1 := []) (h1 := h) (P := True ∧ True ∧ True) (by decide +kernel) rfl rfl ⟨trivial, trivial, trivial⟩ ?_
          refine g_goto hK 80 (-53) 27 (by decide +kernel) (by decide) ?_
          refine hK.2.1 _ _ ([(0, vR 76), (1, vI x1), (2, vI s6), (4, vI x4), (5, vI s9), (6, vI (wr (x6 + 1)))]) _ _ (sub_of [2, 3, 4, 5, 1, 0] rfl) ?_
          exact ih _ _ _ _ _ _ hF hE
        clear hF
        have hF := e12
        refine g_icmp hK 65 .lt (8) 73 (t1 := 73) (t2 := 68) (by decide +kernel) (by decide) rfl rfl (fun (hc11 : r4 < x5) => ?_) (fun (hc11 : ¬ (r4 < x5)) => ?_)
        · have hF := ite_t hc11 hF
          refine g_seg hK [.iload 5] 73 75 (L1 := [(2, vI s6), (0, vR 76), (1, vI x1), (4, vI x4), (5, vI x5), (6, vI x6), (7, vI r4)]) (st1 := [vI x5]) (h1 := h) (P := True ∧ True) (by decide +kernel) rfl rfl ⟨trivial, trivial⟩ ?_
          refine hK.2.1 _ _ ([(0, vR 76), (1, vI x1), (2, vI s6), (4, vI x4), (6, vI x6)]) _ _ (sub_of [1, 2, 0, 3, 5] rfl) ?_
          cases hF
          exact j10
        · have hF := ite_f hc11 hF
          refine g_seg hK [.iload 7] 68 70 (L1 := [(2, vI s6), (0, vR 76), (1, vI x1), (4, vI x4), (5, vI x5), (6, vI x6), (7, vI r4)]) (st1 := [vI r4]) (h1 := h) (P := True ∧ True) (by decide +kernel) rfl rfl ⟨trivial, trivial⟩ ?_
          refine g_goto hK 70 (5) 75 (by decide +kernel) (by decide) ?_
          refine hK.2.1 _ _ ([(0, vR 76), (1, vI x1), (2, vI s6), (4, vI x4), (6, vI x6)]) _ _ (sub_of [1, 2, 0, 3, 5] rfl) ?_
          cases hF
          exact j10
      clear hF
      have hF := e13
      refine g_icmp hK 51 .lt (8) 59 (t1 := 59) (t2 := 54) (by decide +kernel) (by decide) rfl rfl (fun (hc8 : r4 < x5) => ?_) (fun (hc8 : ¬ (r4 < x5)) => ?_)
      · have hF := ite_t hc8 hF
        refine g_seg hK [.iload_n 2] 59 60 (L1 := [(7, vI r4), (0, vR 76), (1, vI x1), (2, vI x2), (4, vI x4), (5, vI x5), (6, vI x6)]) (st1 := [vI x2]) (h1 := h) (P := True ∧ True) (by decide +kernel) rfl rfl ⟨trivial, trivial⟩ ?_
        refine hK.2.1 _ _ ([(0, vR 76), (1, vI x1), (4, vI x4), (5, vI x5), (6, vI x6), (7, vI r4)]) _ _ (sub_of [1, 2, 4, 5, 6, 0] rfl) ?_
        cases hF
        exact j7
      · have hF := ite_f hc8 hF
        refine g_seg hK [.iload 6] 54 56 (L1 := [(7, vI r4), (0, vR 76), (1, vI x1), (2, vI x2), (4, vI x4), (5, vI x5), (6, vI x6)]) (st1 := [vI x6]) (h1 := h) (P := True ∧ True) (by decide +kernel) rfl rfl ⟨trivial, trivial⟩ ?_
        refine g_goto hK 56 (4) 60 (by decide +kernel) (by decide) ?_
        refine hK.2.1 _ _ ([(0, vR 76), (1, vI x1), (4, vI x4), (5, vI x5), (6, vI x6), (7, vI r4)]) _ _ (sub_of [1, 2, 4, 5, 6, 0] rfl) ?_
        cases hF
        exact j7
    · have hF := ite_f hc1 hF
      cases hF
      exact hE
set_option maxHeartbeats 4000000 in
set_option maxRecDepth 100000 in
theorem T_M_bestPlace {p1 : Int} {h : MH} {r : Int} (hF : F_M_bestPlace p1 h = some r) : CON 4 yX7_bestPlace cX7_bestPlace 8 (Option.some Jvm.ClassFile.FieldType.int) [vR 76, vI p1] h (some (vI r)) h := by
  refine con_of (own := RX7) (fl := flX7) (by decide +kernel) rfl flok_X7 rfl (Nat.le_of_ble_eq_true rfl) ?_
  intro K hK hR
  show K 0 [(0, vR 76), (1, vI p1)] [] h
  unfold F_M_bestPlace at hF
  refine g_seg hK [.iload_n 1, .istore_n 2, .iload_n 1, .aload_n 0, .iload_n 1, .iconst 0] 0 6 (L1 := [(2, vI p1), (0, vR 76), (1, vI p1)]) (st1 := [vI 0, vI p1, vR 76, vI p1]) (h1 := h) (P := True ∧ True ∧ True ∧ True ∧ True ∧ True ∧ True) (by decide +kernel) rfl rfl ⟨trivial, trivial, trivial, trivial, trivial, trivial, trivial⟩ ?_
  obtain ⟨r1, e2, hF⟩ := ob1_elim hF
  refine g_callV1 hK 6 100 (d1 := 3) (ci := 7) (i := 76) (vs := [vI p1, vI 0]) (rest := [vI p1]) (h1 := h) (r := vI r1) my_yX7_slides vw_X7_100 (by decide) (T_M_slides (p1 := p1) (p2 := 0) (h := h) (hF := e2)) rfl rfl rfl (Nat.le_of_ble_eq_true rfl) (by decide +kernel) ?_
  refine g_seg hK [.isub, .istore_n 3, .iload_n 1, .aload_n 0, .iload_n 1, .iconst 1] 9 15 (L1 := [(3, vI (wr (p1 - r1))), (2, vI p1), (0, vR 76), (1, vI p1)]) (st1 := [vI 1, vI p1, vR 76, vI p1]) (h1 := h) (P := True ∧ True ∧ True ∧ True ∧ True ∧ True ∧ True) (by decide +kernel) rfl rfl ⟨trivial, trivial, trivial, trivial, trivial, trivial, trivial⟩ ?_
  obtain ⟨r3, e4, hF⟩ := ob1_elim hF
  refine g_callV1 hK 15 100 (d1 := 3) (ci := 7) (i := 76) (vs := [vI p1, vI 1]) (rest := [vI p1]) (h1 := h) (r := vI r3) my_yX7_slides vw_X7_100 (by decide) (T_M_slides (p1 := p1) (p2 := 1) (h := h) (hF := e4)) rfl rfl rfl (Nat.le_of_ble_eq_true rfl) (by decide +kernel) ?_
  refine g_seg hK [.iadd, .istore 4, .iconst (-1), .istore 5, .iload_n 3, .istore 6] 18 27 (L1 := [(6, vI (wr (p1 - r1))), (5, vI (-1)), (4, vI (wr (p1 + r3))), (3, vI (wr (p1 - r1))), (2, vI p1), (0, vR 76), (1, vI p1)]) (st1 := []) (h1 := h) (P := True ∧ True ∧ True ∧ True ∧ True ∧ True ∧ True) (by decide +kernel) rfl rfl ⟨trivial, trivial, trivial, trivial, trivial, trivial, trivial⟩ ?_
  refine hK.2.1 _ _ ([(0, vR 76), (1, vI p1), (2, vI p1), (4, vI (wr (p1 + r3))), (5, vI (-1)), (6, vI (wr (p1 - r1)))]) _ _ (sub_of [5, 6, 4, 2, 1, 0] rfl) ?_
  obtain ⟨x2_5, x5_6, x6_7, e8, hF⟩ := ob3_elim hF
  refine LT_M_bestPlace_L27 hK _ _ _ _ _ _ _ e8 ?_
  refine g_seg hK [.iload_n 2] 83 84 (L1 := [(0, vR 76), (1, vI p1), (2, vI x2_5), (4, vI (wr (p1 + r3))), (5, vI x5_6), (6, vI x6_7)]) (st1 := [vI x2_5]) (h1 := h) (P := True ∧ True) (by decide +kernel) rfl rfl ⟨trivial, trivial⟩ ?_
  cases hF
  exact hR.1 84 _ _ _ (by decide +kernel) rfl ⟨rfl, rfl⟩

set_option maxHeartbeats 4000000 in
set_option maxRecDepth 100000 in
theorem T_X_isText {p1 : Int} {h : MH} {r : Int} (hF : F_X_isText p1 = r) : CON 0 yX6_isText cX6_isText 1 (Option.some Jvm.ClassFile.FieldType.boolean) [vI p1] h (some (vI r)) h := by
  refine con_of (own := RX6) (fl := flX6) (by decide +kernel) rfl flok_X6 rfl (Nat.le_of_ble_eq_true rfl) ?_
  intro K hK hR
  show K 0 [(0, vI p1)] [] h
  unfold F_X_isText at hF
  refine g_seg hK [.iload_n 0] 0 1 (L1 := [(0, vI p1)]) (st1 := [vI p1]) (h1 := h) (P := True ∧ True) (by decide +kernel) rfl rfl ⟨trivial, trivial⟩ ?_
  refine g_ifz hK 1 .lt (12) 13 (t1 := 13) (t2 := 4) (by decide +kernel) (by decide) rfl rfl (fun (hc1 : p1 < 0) => ?_) (fun (hc1 : ¬ (p1 < 0)) => ?_)
  · have hF := ite_t hc1 hF
    refine g_seg hK [.iconst 0] 13 14 (L1 := [(0, vI p1)]) (st1 := [vI 0]) (h1 := h) (P := True ∧ True) (by decide +kernel) rfl rfl ⟨trivial, trivial⟩ ?_
    cases hF
    exact hR.2.1 14 _ _ _ (by decide +kernel) rfl (by decide) ⟨rfl, rfl⟩
  · have hF := ite_f hc1 hF
    refine g_seg hK [.iload_n 0, .iconst 2] 4 6 (L1 := [(0, vI p1)]) (st1 := [vI 2, vI p1]) (h1 := h) (P := True ∧ True ∧ True) (by decide +kernel) rfl rfl ⟨trivial, trivial, trivial⟩ ?_
    refine g_icmp hK 6 .gt (7) 13 (t1 := 9) (t2 := 13) (by decide +kernel) (by decide) rfl rfl (fun (hc2 : p1 ≤ 2) => ?_) (fun (hc2 : ¬ (p1 ≤ 2)) => ?_)
    · have hF := ite_t hc2 hF
      refine g_seg hK [.iconst 1] 9 10 (L1 := [(0, vI p1)]) (st1 := [vI 1]) (h1 := h) (P := True ∧ True) (by decide +kernel) rfl rfl ⟨trivial, trivial⟩ ?_
      refine g_goto hK 10 (4) 14 (by decide +kernel) (by decide) ?_
      cases hF
      exact hR.2.1 14 _ _ _ (by decide +kernel) rfl (by decide) ⟨rfl, rfl⟩
    · have hF := ite_f hc2 hF
      refine g_seg hK [.iconst 0] 13 14 (L1 := [(0, vI p1)]) (st1 := [vI 0]) (h1 := h) (P := True ∧ True) (by decide +kernel) rfl rfl ⟨trivial, trivial⟩ ?_
      cases hF
      exact hR.2.1 14 _ _ _ (by decide +kernel) rfl (by decide) ⟨rfl, rfl⟩
set_option maxHeartbeats 4000000 in
set_option maxRecDepth 100000 in
theorem T_St_text {o : Nat} {p1 : Int} {h : MH} {r : Nat} (ks : kd o = 6) (hF : F_St_text o p1 = r) : CON 0 yX4_text cX4_text 2 (Option.some (Jvm.ClassFile.FieldType.object "HunkSlides$Row")) [vR o, vI p1] h (some (vR r)) h := by
  refine con_of (own := RX4) (fl := flX4) (by decide +kernel) rfl flok_X4 rfl (Nat.le_of_ble_eq_true rfl) ?_
  intro K hK hR
  show K 0 [(0, vR o), (1, vI p1)] [] h
  unfold F_St_text at hF
  refine g_seg hK [.iload_n 1] 0 1 (L1 := [(0, vR o), (1, vI p1)]) (st1 := [vI p1]) (h1 := h) (P := True ∧ True) (by decide +kernel) rfl rfl ⟨trivial, trivial⟩ ?_
  refine g_ifz hK 1 .ne (8) 9 (t1 := 4) (t2 := 9) (by decide +kernel) (by decide) rfl rfl (fun (hc1 : p1 = 0) => ?_) (fun (hc1 : ¬ (p1 = 0)) => ?_)
  · have hF := ite_t hc1 hF
    refine g_seg hK [.aload_n 0, .getfield 14] 4 8 (L1 := [(0, vR o), (1, vI p1)]) (st1 := [vR (rf o 0)]) (h1 := h) (P := True ∧ kd o = 6 ∧ True) (by decide +kernel) rfl rfl ⟨trivial, ks, trivial⟩ ?_
    cases hF
    exact hR.2.2.1 8 _ _ _ (by decide +kernel) ⟨_, rfl⟩ ⟨rfl, rfl⟩
  · have hF := ite_f hc1 hF
    refine g_seg hK [.iload_n 1, .iconst 1] 9 11 (L1 := [(0, vR o), (1, vI p1)]) (st1 := [vI 1, vI p1]) (h1 := h) (P := True ∧ True ∧ True) (by decide +kernel) rfl rfl ⟨trivial, trivial, trivial⟩ ?_
    refine g_icmp hK 11 .ne (10) 21 (t1 := 14) (t2 := 21) (by decide +kernel) (by decide) rfl rfl (fun (hc2 : p1 = 1) => ?_) (fun (hc2 : ¬ (p1 = 1)) => ?_)
    · have hF := ite_t hc2 hF
      refine g_seg hK [.aload_n 0, .getfield 20] 14 18 (L1 := [(0, vR o), (1, vI p1)]) (st1 := [vR (rf o 1)]) (h1 := h) (P := True ∧ kd o = 6 ∧ True) (by decide +kernel) rfl rfl ⟨trivial, ks, trivial⟩ ?_
      refine g_goto hK 18 (7) 25 (by decide +kernel) (by decide) ?_
      cases hF
      exact hR.2.2.1 25 _ _ _ (by decide +kernel) ⟨_, rfl⟩ ⟨rfl, rfl⟩
    · have hF := ite_f hc2 hF
      refine g_seg hK [.aload_n 0, .getfield 23] 21 25 (L1 := [(0, vR o), (1, vI p1)]) (st1 := [vR (rf o 2)]) (h1 := h) (P := True ∧ kd o = 6 ∧ True) (by decide +kernel) rfl rfl ⟨trivial, ks, trivial⟩ ?_
      cases hF
      exact hR.2.2.1 25 _ _ _ (by decide +kernel) ⟨_, rfl⟩ ⟨rfl, rfl⟩
set_option maxHeartbeats 4000000 in
set_option maxRecDepth 100000 in
theorem T_X_isSign {p1 : Int} {h : MH} {r : Int} (hF : F_X_isSign p1 = r) : CON 2 yX6_isSign cX6_isSign 1 (Option.some Jvm.ClassFile.FieldType.boolean) [vI p1] h (some (vI r)) h := by
  refine con_of (own := RX6) (fl := flX6) (by decide +kernel) rfl flok_X6 rfl (Nat.le_of_ble_eq_true rfl) ?_
  intro K hK hR
  show K 0 [(0, vI p1)] [] h
  unfold F_X_isSign at hF
  refine g_seg hK [.iload_n 0] 0 1 (L1 := [(0, vI p1)]) (st1 := [vI p1]) (h1 := h) (P := True ∧ True) (by decide +kernel) rfl rfl ⟨trivial, trivial⟩ ?_
  refine g_ifz hK 1 .lt (16) 17 (t1 := 17) (t2 := 4) (by decide +kernel) (by decide) rfl rfl (fun (hc1 : p1 < 0) => ?_) (fun (hc1 : ¬ (p1 < 0)) => ?_)
  · have hF := ite_t hc1 hF
    refine g_seg hK [.iconst 0] 17 18 (L1 := [(0, vI p1)]) (st1 := [vI 0]) (h1 := h) (P := True ∧ True) (by decide +kernel) rfl rfl ⟨trivial, trivial⟩ ?_
    cases hF
    exact hR.2.1 18 _ _ _ (by decide +kernel) rfl (by decide) ⟨rfl, rfl⟩
  · have hF := ite_f hc1 hF
    refine g_seg hK [.iload_n 0] 4 5 (L1 := [(0, vI p1)]) (st1 := [vI p1]) (h1 := h) (P := True ∧ True) (by decide +kernel) rfl rfl ⟨trivial, trivial⟩ ?_
    refine g_ldc hK 5 7 rfl (by decide +kernel) rfl ?_
    refine g_callG1 hK 7 225 (d1 := 1) (vs := []) (rest := [vI p1]) (r := vI (sg_length)) rfl my_yJ0_length_8abf5 (by exact vw_X6_225) (by decide) (T_S_length h) rfl (Nat.le_of_ble_eq_true rfl) (by decide +kernel) ?_
    refine g_icmp hK 10 .ge (7) 17 (t1 := 13) (t2 := 17) (by decide +kernel) (by decide) rfl rfl (fun (hc2 : p1 < sg_length) => ?_) (fun (hc2 : ¬ (p1 < sg_length)) => ?_)
    · have hF := ite_t hc2 hF
      refine g_seg hK [.iconst 1] 13 14 (L1 := [(0, vI p1)]) (st1 := [vI 1]) (h1 := h) (P := True ∧ True) (by decide +kernel) rfl rfl ⟨trivial, trivial⟩ ?_
      refine g_goto hK 14 (4) 18 (by decide +kernel) (by decide) ?_
      cases hF
      exact hR.2.1 18 _ _ _ (by decide +kernel) rfl (by decide) ⟨rfl, rfl⟩
    · have hF := ite_f hc2 hF
      refine g_seg hK [.iconst 0] 17 18 (L1 := [(0, vI p1)]) (st1 := [vI 0]) (h1 := h) (P := True ∧ True) (by decide +kernel) rfl rfl ⟨trivial, trivial⟩ ?_
      cases hF
      exact hR.2.1 18 _ _ _ (by decide +kernel) rfl (by decide) ⟨rfl, rfl⟩
set_option maxHeartbeats 4000000 in
set_option maxRecDepth 100000 in
theorem T_Ro_size {o : Nat} {h : MH} {r : Int} (ko : kd o = 5) (hF : F_Ro_size o h = r) : CON 0 yX3_size cX3_size 1 (Option.some Jvm.ClassFile.FieldType.int) [vR o] h (some (vI r)) h := by
  refine con_of (own := RX3) (fl := flX3) (by decide +kernel) rfl flok_X3 rfl (Nat.le_of_ble_eq_true rfl) ?_
  intro K hK hR
  show K 0 [(0, vR o)] [] h
  unfold F_Ro_size at hF
  refine g_seg hK [.aload_n 0, .getfield 7] 0 4 (L1 := [(0, vR o)]) (st1 := [vI (h o 1)]) (h1 := h) (P := True ∧ kd o = 5 ∧ True) (by decide +kernel) rfl rfl ⟨trivial, ko, trivial⟩ ?_
  cases hF
  exact hR.1 4 _ _ _ (by decide +kernel) rfl ⟨rfl, rfl⟩
set_option maxHeartbeats 4000000 in
set_option maxRecDepth 100000 in
theorem T_Hi_slot {p1 : Int} {h : MH} {r : Option Nat} (hF : F_Hi_slot p1 = r) : CON 0 yX1_slot cX1_slot 2 (Option.some (Jvm.ClassFile.FieldType.object "HunkSlides$State")) [vR 17, vI p1] h (some (vO r)) h := by
  refine con_of (own := RX1) (fl := flX1) (by decide +kernel) rfl flok_X1 rfl (Nat.le_of_ble_eq_true rfl) ?_
  intro K hK hR
  show K 0 [(0, vR 17), (1, vI p1)] [] h
  unfold F_Hi_slot at hF
  refine g_seg hK [.iload_n 1] 0 1 (L1 := [(0, vR 17), (1, vI p1)]) (st1 := [vI p1]) (h1 := h) (P := True ∧ True) (by decide +kernel) rfl rfl ⟨trivial, trivial⟩ ?_
  refine g_ifz hK 1 .lt (21) 22 (t1 := 22) (t2 := 4) (by decide +kernel) (by decide) rfl rfl (fun (hc1 : p1 < 0) => ?_) (fun (hc1 : ¬ (p1 < 0)) => ?_)
  · have hF := ite_t hc1 hF
    refine g_seg hK [.aconst_null] 22 23 (L1 := [(0, vR 17), (1, vI p1)]) (st1 := [vO none]) (h1 := h) (P := True ∧ True) (by decide +kernel) rfl rfl ⟨trivial, trivial⟩ ?_
    cases hF
    exact hR.2.2.1 23 _ _ _ (by decide +kernel) ⟨_, rfl⟩ ⟨rfl, rfl⟩
  · have hF := ite_f hc1 hF
    refine g_seg hK [.iload_n 1, .aload_n 0, .getfield 11, .arraylength] 4 10 (L1 := [(0, vR 17), (1, vI p1)]) (st1 := [vI 4, vI p1]) (h1 := h) (P := True ∧ True ∧ kd 17 = 3 ∧ kd 18 ≤ 1 ∧ True) (by decide +kernel) rfl rfl ⟨trivial, trivial, rfl, (by rw [show kd 18 = 1 from rfl]; decide), trivial⟩ ?_
    refine g_icmp hK 10 .ge (12) 22 (t1 := 13) (t2 := 22) (by decide +kernel) (by decide) rfl rfl (fun (hc2 : p1 < 4) => ?_) (fun (hc2 : ¬ (p1 < 4)) => ?_)
    · have hF := ite_t hc2 hF
      refine g_seg hK [.aload_n 0, .getfield 11, .iload_n 1, .aaload] 13 19 (L1 := [(0, vR 17), (1, vI p1)]) (st1 := [vR (rf 18 p1.toNat)]) (h1 := h) (P := True ∧ kd 17 = 3 ∧ True ∧ (kd 18 = 1 ∧ 0 ≤ p1 ∧ p1 < 4) ∧ True) (by decide +kernel) rfl rfl ⟨trivial, rfl, trivial, ⟨rfl, ⟨(by omega), hc2⟩⟩, trivial⟩ ?_
      refine g_goto hK 19 (4) 23 (by decide +kernel) (by decide) ?_
      cases hF
      exact hR.2.2.1 23 _ _ _ (by decide +kernel) ⟨_, rfl⟩ ⟨rfl, rfl⟩
    · have hF := ite_f hc2 hF
      refine g_seg hK [.aconst_null] 22 23 (L1 := [(0, vR 17), (1, vI p1)]) (st1 := [vO none]) (h1 := h) (P := True ∧ True) (by decide +kernel) rfl rfl ⟨trivial, trivial⟩ ?_
      cases hF
      exact hR.2.2.1 23 _ _ _ (by decide +kernel) ⟨_, rfl⟩ ⟨rfl, rfl⟩
set_option maxHeartbeats 4000000 in
set_option maxRecDepth 100000 in
theorem T_Ro_emptyOut {o : Nat} {h : MH} {h' : MH} (ko : kd o = 5) (hF : F_Ro_emptyOut o h = h') : CON 0 yX3_emptyOut cX3_emptyOut 1 none [vR o] h none h' := by
  refine con_of (own := RX3) (fl := flX3) (by decide +kernel) rfl flok_X3 rfl (Nat.le_of_ble_eq_true rfl) ?_
  intro K hK hR
  show K 0 [(0, vR o)] [] h
  unfold F_Ro_emptyOut at hF
  refine g_seg hK [.aload_n 0, .iconst 0, .putfield 7] 0 5 (L1 := [(0, vR o)]) (st1 := []) (h1 := (up h o 1 0)) (P := True ∧ True ∧ kd o = 5 ∧ True) (by decide +kernel) rfl rfl ⟨trivial, trivial, ko, trivial⟩ ?_
  cases hF
  exact hR.2.2.2.2 5 _ _ (by decide +kernel) rfl ⟨rfl, rfl⟩
set_option maxHeartbeats 4000000 in
set_option maxRecDepth 100000 in
theorem T_Ro_at {o : Nat} {p1 : Int} {h : MH} {r : Int} (ko : kd o = 5) (hF : F_Ro_at o p1 h = r) : CON 0 yX3_at cX3_at 2 (Option.some Jvm.ClassFile.FieldType.int) [vR o, vI p1] h (some (vI r)) h := by
  refine con_of (own := RX3) (fl := flX3) (by decide +kernel) rfl flok_X3 rfl (Nat.le_of_ble_eq_true rfl) ?_
  intro K hK hR
  show K 0 [(0, vR o), (1, vI p1)] [] h
  unfold F_Ro_at at hF
  refine g_seg hK [.iload_n 1] 0 1 (L1 := [(0, vR o), (1, vI p1)]) (st1 := [vI p1]) (h1 := h) (P := True ∧ True) (by decide +kernel) rfl rfl ⟨trivial, trivial⟩ ?_
  refine g_ifz hK 1 .lt (29) 30 (t1 := 30) (t2 := 4) (by decide +kernel) (by decide) rfl rfl (fun (hc1 : p1 < 0) => ?_) (fun (hc1 : ¬ (p1 < 0)) => ?_)
  · have hF := ite_t hc1 hF
    refine g_seg hK [.iconst (-1)] 30 31 (L1 := [(0, vR o), (1, vI p1)]) (st1 := [vI (-1)]) (h1 := h) (P := True ∧ True) (by decide +kernel) rfl rfl ⟨trivial, trivial⟩ ?_
    cases hF
    exact hR.1 31 _ _ _ (by decide +kernel) rfl ⟨rfl, rfl⟩
  · have hF := ite_f hc1 hF
    refine g_seg hK [.iload_n 1, .aload_n 0, .getfield 7] 4 9 (L1 := [(0, vR o), (1, vI p1)]) (st1 := [vI (h o 1), vI p1]) (h1 := h) (P := True ∧ True ∧ kd o = 5 ∧ True) (by decide +kernel) rfl rfl ⟨trivial, trivial, ko, trivial⟩ ?_
    refine g_icmp hK 9 .ge (21) 30 (t1 := 12) (t2 := 30) (by decide +kernel) (by decide) rfl rfl (fun (hc2 : p1 < h o 1) => ?_) (fun (hc2 : ¬ (p1 < h o 1)) => ?_)
    · have hF := ite_t hc2 hF
      refine g_seg hK [.iload_n 1, .aload_n 0, .getfield 13, .arraylength] 12 18 (L1 := [(0, vR o), (1, vI p1)]) (st1 := [vI (al (rf o 0) : Int), vI p1]) (h1 := h) (P := True ∧ True ∧ kd o = 5 ∧ kd (rf o 0) ≤ 1 ∧ True) (by decide +kernel) rfl rfl ⟨trivial, trivial, ko, (by rw [show kd (rf o 0) = 0 from (kt_5_0 ko)]; decide), trivial⟩ ?_
      refine g_icmp hK 18 .ge (12) 30 (t1 := 21) (t2 := 30) (by decide +kernel) (by decide) rfl rfl (fun (hc3 : p1 < (al (rf o 0) : Int)) => ?_) (fun (hc3 : ¬ (p1 < (al (rf o 0) : Int))) => ?_)
      · have hF := ite_t hc3 hF
        refine g_seg hK [.aload_n 0, .getfield 13, .iload_n 1, .iaload] 21 27 (L1 := [(0, vR o), (1, vI p1)]) (st1 := [vI (h (rf o 0) p1.toNat)]) (h1 := h) (P := True ∧ kd o = 5 ∧ True ∧ (kd (rf o 0) = 0 ∧ 0 ≤ p1 ∧ p1 < (al (rf o 0) : Int)) ∧ True) (by decide +kernel) rfl rfl ⟨trivial, ko, trivial, ⟨(kt_5_0 ko), ⟨(by omega), hc3⟩⟩, trivial⟩ ?_
        refine g_goto hK 27 (4) 31 (by decide +kernel) (by decide) ?_
        cases hF
        exact hR.1 31 _ _ _ (by decide +kernel) rfl ⟨rfl, rfl⟩
      · have hF := ite_f hc3 hF
        refine g_seg hK [.iconst (-1)] 30 31 (L1 := [(0, vR o), (1, vI p1)]) (st1 := [vI (-1)]) (h1 := h) (P := True ∧ True) (by decide +kernel) rfl rfl ⟨trivial, trivial⟩ ?_
        cases hF
        exact hR.1 31 _ _ _ (by decide +kernel) rfl ⟨rfl, rfl⟩
    · have hF := ite_f hc2 hF
      refine g_seg hK [.iconst (-1)] 30 31 (L1 := [(0, vR o), (1, vI p1)]) (st1 := [vI (-1)]) (h1 := h) (P := True ∧ True) (by decide +kernel) rfl rfl ⟨trivial, trivial⟩ ?_
      cases hF
      exact hR.1 31 _ _ _ (by decide +kernel) rfl ⟨rfl, rfl⟩
set_option maxHeartbeats 4000000 in
set_option maxRecDepth 100000 in
theorem T_Ro_add {o : Nat} {p1 : Int} {h : MH} {h' : MH} (ko : kd o = 5) (hF : F_Ro_add o p1 h = h') : CON 0 yX3_add cX3_add 2 none [vR o, vI p1] h none h' := by
  refine con_of (own := RX3) (fl := flX3) (by decide +kernel) rfl flok_X3 rfl (Nat.le_of_ble_eq_true rfl) ?_
  intro K hK hR
  show K 0 [(0, vR o), (1, vI p1)] [] h
  unfold F_Ro_add at hF
  refine g_seg hK [.aload_n 0, .getfield 7] 0 4 (L1 := [(0, vR o), (1, vI p1)]) (st1 := [vI (h o 1)]) (h1 := h) (P := True ∧ kd o = 5 ∧ True) (by decide +kernel) rfl rfl ⟨trivial, ko, trivial⟩ ?_
  refine g_ifz hK 4 .lt (35) 39 (t1 := 39) (t2 := 7) (by decide +kernel) (by decide) rfl rfl (fun (hc1 : h o 1 < 0) => ?_) (fun (hc1 : ¬ (h o 1 < 0)) => ?_)
  · have hF := ite_t hc1 hF
    cases hF
    exact hR.2.2.2.2 39 _ _ (by decide +kernel) rfl ⟨rfl, rfl⟩
  · have hF := ite_f hc1 hF
    refine g_seg hK [.aload_n 0, .getfield 7, .aload_n 0, .getfield 13, .arraylength] 7 16 (L1 := [(0, vR o), (1, vI p1)]) (st1 := [vI (al (rf o 0) : Int), vI (h o 1)]) (h1 := h) (P := True ∧ kd o = 5 ∧ True ∧ kd o = 5 ∧ kd (rf o 0) ≤ 1 ∧ True) (by decide +kernel) rfl rfl ⟨trivial, ko, trivial, ko, (by rw [show kd (rf o 0) = 0 from (kt_5_0 ko)]; decide), trivial⟩ ?_
    refine g_icmp hK 16 .ge (23) 39 (t1 := 19) (t2 := 39) (by decide +kernel) (by decide) rfl rfl (fun (hc2 : h o 1 < (al (rf o 0) : Int)) => ?_) (fun (hc2 : ¬ (h o 1 < (al (rf o 0) : Int))) => ?_)
    · have hF := ite_t hc2 hF
      refine g_seg hK [.aload_n 0, .getfield 13, .aload_n 0, .getfield 7, .iload_n 1, .iastore, .aload_n 0, .dup, .getfield 7, .iconst 1, .iadd, .putfield 7] 19 39 (L1 := [(0, vR o), (1, vI p1)]) (st1 := []) (h1 := (up (up h (rf o 0) (h o 1).toNat p1) o 1 (wr (((up h (rf o 0) (h o 1).toNat p1) o 1) + 1)))) (P := True ∧ kd o = 5 ∧ True ∧ kd o = 5 ∧ True ∧ (kd (rf o 0) = 0 ∧ 0 ≤ h o 1 ∧ h o 1 < (al (rf o 0) : Int)) ∧ True ∧ True ∧ kd o = 5 ∧ True ∧ True ∧ kd o = 5 ∧ True) (by decide +kernel) rfl rfl ⟨trivial, ko, trivial, ko, trivial, ⟨(kt_5_0 ko), ⟨(by omega), hc2⟩⟩, trivial, trivial, ko, trivial, trivial, ko, trivial⟩ ?_
      cases hF
      exact hR.2.2.2.2 39 _ _ (by decide +kernel) rfl ⟨rfl, rfl⟩
    · have hF := ite_f hc2 hF
      cases hF
      exact hR.2.2.2.2 39 _ _ (by decide +kernel) rfl ⟨rfl, rfl⟩
set_option maxHeartbeats 4000000 in
set_option maxRecDepth 100000 in
theorem LT_Ro_become_L6 {K : KT} (hK : Rules RX3 cX3_become 3 none flX3 1 K) {x0 : Nat} {x1 : Nat} (kx0 : kd x0 = 5) (kx1 : kd x1 = 5) : ∀ (n : Nat) (x2 : Int) (h : MH) (x2' : Int) (h' : MH), F_Ro_become_L6 x0 x1 n x2 h = some (x2', h') → K 29 [(0, vR x0), (1, vR x1), (2, vI x2')] [] h' → K 6 [(0, vR x0), (1, vR x1), (2, vI x2)] [] h := by
  intro n
  induction n with
  | zero =>
    intro x2 h x2' h' hF
    cases hF
  | succ n ih =>
    intro x2 h x2' h' hF hE
    unfold F_Ro_become_L6 at hF
    refine g_seg hK [.iload_n 2, .aload_n 1] 6 8 (L1 := [(0, vR x0), (1, vR x1), (2, vI x2)]) (st1 := [vR x1, vI x2]) (h1 := h) (P := True ∧ True ∧ True) (by decide +kernel) rfl rfl ⟨trivial, trivial, trivial⟩ ?_
    refine g_callV1 hK 8 28 (d1 := 0) (ci := 3) (i := x1) (vs := []) (rest := [vI x2]) (h1 := h) (r := vI (F_Ro_size x1 h)) my_yX3_size vw_X3_28 (by decide) (T_Ro_size (o := x1) (h := h) (ko := kx1) (hF := rfl)) kx1 rfl rfl (Nat.le_of_ble_eq_true rfl) (by decide +kernel) ?_
    refine g_icmp hK 11 .ge (18) 29 (t1 := 14) (t2 := 29) (by decide +kernel) (by decide) rfl rfl (fun (hc1 : x2 < F_Ro_size x1 h) => ?_) (fun (hc1 : ¬ (x2 < F_Ro_size x1 h)) => ?_)
    · have hF := ite_t hc1 hF
      refine g_seg hK [.aload_n 0, .aload_n 1, .iload_n 2] 14 17 (L1 := [(0, vR x0), (1, vR x1), (2, vI x2)]) (st1 := [vI x2, vR x1, vR x0]) (h1 := h) (P := True ∧ True ∧ True ∧ True) (by decide +kernel) rfl rfl ⟨trivial, trivial, trivial, trivial⟩ ?_
      refine g_callV1 hK 17 17 (d1 := 0) (ci := 3) (i := x1) (vs := [vI x2]) (rest := [vR x0]) (h1 := h) (r := vI (F_Ro_at x1 x2 h)) my_yX3_at vw_X3_17 (by decide) (T_Ro_at (o := x1) (p1 := x2) (h := h) (ko := kx1) (hF := rfl)) kx1 rfl rfl (Nat.le_of_ble_eq_true rfl) (by decide +kernel) ?_
      refine g_callV0 hK 20 31 (d1 := 0) (ci := 3) (i := x0) (vs := [vI (F_Ro_at x1 x2 h)]) (rest := []) (h1 := (F_Ro_add x0 (F_Ro_at x1 x2 h) h)) my_yX3_add vw_X3_31 (by decide) (T_Ro_add (o := x0) (p1 := (F_Ro_at x1 x2 h)) (h := h) (ko := kx0) (hF := rfl)) kx0 rfl rfl (Nat.le_of_ble_eq_true rfl) (by decide +kernel) ?_
      refine g_seg hK [.iinc 2 1] 23 26 (L1 := [(2, vI (wr (x2 + 1))), (0, vR x0), (1, vR x1)]) (st1 := []) (h1 := (F_Ro_add x0 (F_Ro_at x1 x2 h) h)) (P := True ∧ True) (by decide +kernel) rfl rfl ⟨trivial, trivial⟩ ?_
      refine g_goto hK 26 (-20) 6 (by decide +kernel) (by decide) ?_
      refine hK.2.1 _ _ ([(0, vR x0), (1, vR x1), (2, vI (wr (x2 + 1)))]) _ _ (sub_of [1, 2, 0] rfl) ?_
      exact ih _ _ _ _ hF hE
    · have hF := ite_f hc1 hF
      cases hF
      exact hE
set_option maxHeartbeats 4000000 in
set_option maxRecDepth 100000 in
theorem T_Ro_become {o : Nat} {p1 : Nat} {h : MH} {h' : MH} (ko : kd o = 5) (kp1 : kd p1 = 5) (hF : F_Ro_become o p1 h = some h') : CON 1 yX3_become cX3_become 3 none [vR o, vR p1] h none h' := by
  refine con_of (own := RX3) (fl := flX3) (by decide +kernel) rfl flok_X3 rfl (Nat.le_of_ble_eq_true rfl) ?_
  intro K hK hR
  show K 0 [(0, vR o), (1, vR p1)] [] h
  unfold F_Ro_become at hF
  refine g_seg hK [.aload_n 0] 0 1 (L1 := [(0, vR o), (1, vR p1)]) (st1 := [vR o]) (h1 := h) (P := True ∧ True) (by decide +kernel) rfl rfl ⟨trivial, trivial⟩ ?_
  refine g_callV0 hK 1 25 (d1 := 0) (ci := 3) (i := o) (vs := []) (rest := []) (h1 := (F_Ro_emptyOut o h)) my_yX3_emptyOut vw_X3_25 (by decide) (T_Ro_emptyOut (o := o) (h := h) (ko := ko) (hF := rfl)) ko rfl rfl (Nat.le_of_ble_eq_true rfl) (by decide +kernel) ?_
  refine g_seg hK [.iconst 0, .istore_n 2] 4 6 (L1 := [(2, vI 0), (0, vR o), (1, vR p1)]) (st1 := []) (h1 := (F_Ro_emptyOut o h)) (P := True ∧ True ∧ True) (by decide +kernel) rfl rfl ⟨trivial, trivial, trivial⟩ ?_
  refine hK.2.1 _ _ ([(0, vR o), (1, vR p1), (2, vI 0)]) _ _ (sub_of [1, 2, 0] rfl) ?_
  obtain ⟨x2_1, h2, e3, hF⟩ := ob2_elim hF
  refine LT_Ro_become_L6 hK (kx0 := ko) (kx1 := kp1) _ _ _ _ _ e3 ?_
  cases hF
  exact hR.2.2.2.2 29 _ _ (by decide +kernel) rfl ⟨rfl, rfl⟩
set_option maxHeartbeats 4000000 in
set_option maxRecDepth 100000 in
theorem T_St_become {o : Nat} {p1 : Nat} {h : MH} {h' : MH} (ks : kd o = 6) (kp1 : kd p1 = 6) (hF : F_St_become o p1 h = some h') : CON 2 yX4_become cX4_become 2 none [vR o, vR p1] h none h' := by
  refine con_of (own := RX4) (fl := flX4) (by decide +kernel) rfl flok_X4 rfl (Nat.le_of_ble_eq_true rfl) ?_
  intro K hK hR
  show K 0 [(0, vR o), (1, vR p1)] [] h
  unfold F_St_become at hF
  refine g_seg hK [.aload_n 0, .getfield 14, .aload_n 1, .getfield 14] 0 8 (L1 := [(0, vR o), (1, vR p1)]) (st1 := [vR (rf p1 0), vR (rf o 0)]) (h1 := h) (P := True ∧ kd o = 6 ∧ True ∧ kd p1 = 6 ∧ True) (by decide +kernel) rfl rfl ⟨trivial, ks, trivial, kp1, trivial⟩ ?_
  obtain ⟨h1, e2, hF⟩ := ob1_elim hF
  refine g_callV0 hK 8 39 (d1 := 1) (ci := 3) (i := rf o 0) (vs := [vR (rf p1 0)]) (rest := []) (h1 := h1) my_yX3_become vw_X4_39 (by decide) (T_Ro_become (o := (rf o 0)) (p1 := (rf p1 0)) (h := h) (ko := (kt_6_0 ks)) (kp1 := (kt_6_0 kp1)) (hF := e2)) (kt_6_0 ks) rfl rfl (Nat.le_of_ble_eq_true rfl) (by decide +kernel) ?_
  refine g_seg hK [.aload_n 0, .getfield 20, .aload_n 1, .getfield 20] 11 19 (L1 := [(0, vR o), (1, vR p1)]) (st1 := [vR (rf p1 1), vR (rf o 1)]) (h1 := h1) (P := True ∧ kd o = 6 ∧ True ∧ kd p1 = 6 ∧ True) (by decide +kernel) rfl rfl ⟨trivial, ks, trivial, kp1, trivial⟩ ?_
  obtain ⟨h3, e4, hF⟩ := ob1_elim hF
  refine g_callV0 hK 19 39 (d1 := 1) (ci := 3) (i := rf o 1) (vs := [vR (rf p1 1)]) (rest := []) (h1 := h3) my_yX3_become vw_X4_39 (by decide) (T_Ro_become (o := (rf o 1)) (p1 := (rf p1 1)) (h := h1) (ko := (kt_6_1 ks)) (kp1 := (kt_6_1 kp1)) (hF := e4)) (kt_6_1 ks) rfl rfl (Nat.le_of_ble_eq_true rfl) (by decide +kernel) ?_
  refine g_seg hK [.aload_n 0, .getfield 23, .aload_n 1, .getfield 23] 22 30 (L1 := [(0, vR o), (1, vR p1)]) (st1 := [vR (rf p1 2), vR (rf o 2)]) (h1 := h3) (P := True ∧ kd o = 6 ∧ True ∧ kd p1 = 6 ∧ True) (by decide +kernel) rfl rfl ⟨trivial, ks, trivial, kp1, trivial⟩ ?_
  obtain ⟨h5, e6, hF⟩ := ob1_elim hF
  refine g_callV0 hK 30 39 (d1 := 1) (ci := 3) (i := rf o 2) (vs := [vR (rf p1 2)]) (rest := []) (h1 := h5) my_yX3_become vw_X4_39 (by decide) (T_Ro_become (o := (rf o 2)) (p1 := (rf p1 2)) (h := h3) (ko := (kt_6_2 ks)) (kp1 := (kt_6_2 kp1)) (hF := e6)) (kt_6_2 ks) rfl rfl (Nat.le_of_ble_eq_true rfl) (by decide +kernel) ?_
  refine g_seg hK [.aload_n 0, .aload_n 1, .getfield 26, .putfield 26, .aload_n 0, .aload_n 1, .getfield 30, .putfield 30, .aload_n 0, .aload_n 1, .getfield 33, .putfield 33, .aload_n 0, .aload_n 1, .getfield 36, .putfield 36] 33 65 (L1 := [(0, vR o), (1, vR p1)]) (st1 := []) (h1 := (up (up (up (up h5 o 3 (h5 p1 3)) o 4 ((up h5 o 3 (h5 p1 3)) p1 4)) o 5 ((up (up h5 o 3 (h5 p1 3)) o 4 ((up h5 o 3 (h5 p1 3)) p1 4)) p1 5)) o 6 ((up (up (up h5 o 3 (h5 p1 3)) o 4 ((up h5 o 3 (h5 p1 3)) p1 4)) o 5 ((up (up h5 o 3 (h5 p1 3)) o 4 ((up h5 o 3 (h5 p1 3)) p1 4)) p1 5)) p1 6))) (P := True ∧ True ∧ kd p1 = 6 ∧ kd o = 6 ∧ True ∧ True ∧ kd p1 = 6 ∧ kd o = 6 ∧ True ∧ True ∧ kd p1 = 6 ∧ kd o = 6 ∧ True ∧ True ∧ kd p1 = 6 ∧ kd o = 6 ∧ True) (by decide +kernel) rfl rfl ⟨trivial, trivial, kp1, ks, trivial, trivial, kp1, ks, trivial, trivial, kp1, ks, trivial, trivial, kp1, ks, trivial⟩ ?_
  cases hF
  exact hR.2.2.2.2 65 _ _ (by decide +kernel) rfl ⟨rfl, rfl⟩
set_option maxHeartbeats 4000000 in
set_option maxRecDepth 100000 in
theorem T_Hi_copy {p1 : Option Nat} {p2 : Option Nat} {h : MH} {h' : MH} (kp1 : ∀ i, p1 = some i → kd i = 6) (kp2 : ∀ i, p2 = some i → kd i = 6) (hF : F_Hi_copy p1 p2 h = some h') : CON 3 yX1_copy cX1_copy 2 none [vO p1, vO p2] h none h' := by
  refine con_of (own := RX1) (fl := flX1) (by decide +kernel) rfl flok_X1 rfl (Nat.le_of_ble_eq_true rfl) ?_
  intro K hK hR
  show K 0 [(0, vO p1), (1, vO p2)] [] h
  unfold F_Hi_copy at hF
  refine g_seg hK [.aload_n 0] 0 1 (L1 := [(0, vO p1), (1, vO p2)]) (st1 := [vO p1]) (h1 := h) (P := True ∧ True) (by decide +kernel) rfl rfl ⟨trivial, trivial⟩ ?_
  refine g_null hK 1 12 13 (by decide +kernel) (by decide) (fun hc6 => ?_) (fun i1 hc6 => ?_)
  · have hF := om_n hc6 hF
    cases hF
    exact hR.2.2.2.2 13 _ _ (by decide +kernel) rfl ⟨rfl, rfl⟩
  · subst hc6
    have hF := om_s rfl hF
    refine g_seg hK [.aload_n 1] 4 5 (L1 := [(0, vR i1), (1, vO p2)]) (st1 := [vO p2]) (h1 := h) (P := True ∧ True) (by decide +kernel) rfl rfl ⟨trivial, trivial⟩ ?_
    refine g_null hK 5 8 13 (by decide +kernel) (by decide) (fun hc5 => ?_) (fun i2 hc5 => ?_)
    · have hF := om_n hc5 hF
      cases hF
      exact hR.2.2.2.2 13 _ _ (by decide +kernel) rfl ⟨rfl, rfl⟩
    · subst hc5
      have hF := om_s rfl hF
      refine g_seg hK [.aload_n 1, .aload_n 0] 8 10 (L1 := [(0, vR i1), (1, vR i2)]) (st1 := [vR i1, vR i2]) (h1 := h) (P := True ∧ True ∧ True) (by decide +kernel) rfl rfl ⟨trivial, trivial, trivial⟩ ?_
      obtain ⟨h3, e4, hF⟩ := ob1_elim hF
      refine g_callV0 hK 10 33 (d1 := 2) (ci := 4) (i := i2) (vs := [vR i1]) (rest := []) (h1 := h3) my_yX4_become vw_X1_33 (by decide) (T_St_become (o := i2) (p1 := i1) (h := h) (ks := (kp2 _ rfl)) (kp1 := (kp1 _ rfl)) (hF := e4)) (kp2 _ rfl) rfl rfl (Nat.le_of_ble_eq_true rfl) (by decide +kernel) ?_
      cases hF
      exact hR.2.2.2.2 13 _ _ (by decide +kernel) rfl ⟨rfl, rfl⟩
set_option maxHeartbeats 4000000 in
set_option maxRecDepth 100000 in
theorem LT_Hi_dropOldest_L2 {K : KT} (hK : Rules RX1 cX1_dropOldest 2 none flX1 4 K) : ∀ (n : Nat) (x1 : Int) (h : MH) (x1' : Int) (h' : MH), F_Hi_dropOldest_L2 n x1 h = some (x1', h') → K 31 [(0, vR 17), (1, vI x1')] [] h' → K 2 [(0, vR 17), (1, vI x1)] [] h := by
  intro n
  induction n with
  | zero =>
    intro x1 h x1' h' hF
    cases hF
  | succ n ih =>
    intro x1 h x1' h' hF hE
    unfold F_Hi_dropOldest_L2 at hF
    refine g_seg hK [.iload_n 1, .aload_n 0, .getfield 17] 2 7 (L1 := [(0, vR 17), (1, vI x1)]) (st1 := [vI (h 17 1), vI x1]) (h1 := h) (P := True ∧ True ∧ kd 17 = 3 ∧ True) (by decide +kernel) rfl rfl ⟨trivial, trivial, rfl, trivial⟩ ?_
    refine g_icmp hK 7 .ge (24) 31 (t1 := 10) (t2 := 31) (by decide +kernel) (by decide) rfl rfl (fun (hc1 : x1 < h 17 1) => ?_) (fun (hc1 : ¬ (x1 < h 17 1)) => ?_)
    · have hF := ite_t hc1 hF
      refine g_seg hK [.aload_n 0, .iload_n 1] 10 12 (L1 := [(0, vR 17), (1, vI x1)]) (st1 := [vI x1, vR 17]) (h1 := h) (P := True ∧ True ∧ True) (by decide +kernel) rfl rfl ⟨trivial, trivial, trivial⟩ ?_
      refine g_callV1 hK 12 25 (d1 := 0) (ci := 1) (i := 17) (vs := [vI x1]) (rest := []) (h1 := h) (r := vO (F_Hi_slot x1)) my_yX1_slot vw_X1_25 (by decide) (T_Hi_slot (p1 := x1) (h := h) (hF := rfl)) rfl rfl rfl (Nat.le_of_ble_eq_true rfl) (by decide +kernel) ?_
      refine g_seg hK [.aload_n 0, .iload_n 1, .iconst 1, .isub] 15 19 (L1 := [(0, vR 17), (1, vI x1)]) (st1 := [vI (wr (x1 - 1)), vR 17, vO (F_Hi_slot x1)]) (h1 := h) (P := True ∧ True ∧ True ∧ True ∧ True) (by decide +kernel) rfl rfl ⟨trivial, trivial, trivial, trivial, trivial⟩ ?_
      refine g_callV1 hK 19 25 (d1 := 0) (ci := 1) (i := 17) (vs := [vI (wr (x1 - 1))]) (rest := [vO (F_Hi_slot x1)]) (h1 := h) (r := vO (F_Hi_slot (wr (x1 - 1)))) my_yX1_slot vw_X1_25 (by decide) (T_Hi_slot (p1 := (wr (x1 - 1))) (h := h) (hF := rfl)) rfl rfl rfl (Nat.le_of_ble_eq_true rfl) (by decide +kernel) ?_
      obtain ⟨h2, e3, hF⟩ := ob1_elim hF
      refine g_callS0 hK 22 29 (d1 := 3) (vs := [vO (F_Hi_slot x1), vO (F_Hi_slot (wr (x1 - 1)))]) (rest := []) (h1 := h2) my_yX1_copy sw_X1_29 (by decide) (T_Hi_copy (p1 := (F_Hi_slot x1)) (p2 := (F_Hi_slot (wr (x1 - 1)))) (h := h) (kp1 := (kd_Hi_slot _)) (kp2 := (kd_Hi_slot _)) (hF := e3)) rfl (Nat.le_of_ble_eq_true rfl) (by decide +kernel) ?_
      refine g_seg hK [.iinc 1 1] 25 28 (L1 := [(1, vI (wr (x1 + 1))), (0, vR 17)]) (st1 := []) (h1 := h2) (P := True ∧ True) (by decide +kernel) rfl rfl ⟨trivial, trivial⟩ ?_
      refine g_goto hK 28 (-26) 2 (by decide +kernel) (by decide) ?_
      refine hK.2.1 _ _ ([(0, vR 17), (1, vI (wr (x1 + 1)))]) _ _ (sub_of [1, 0] rfl) ?_
      exact ih _ _ _ _ hF hE
    · have hF := ite_f hc1 hF
      cases hF
      exact hE
set_option maxHeartbeats 4000000 in
set_option maxRecDepth 100000 in
theorem T_Hi_dropOldest {h : MH} {h' : MH} (hF : F_Hi_dropOldest h = some h') : CON 4 yX1_dropOldest cX1_dropOldest 2 none [vR 17] h none h' := by
  refine con_of (own := RX1) (fl := flX1) (by decide +kernel) rfl flok_X1 rfl (Nat.le_of_ble_eq_true rfl) ?_
  intro K hK hR
  show K 0 [(0, vR 17)] [] h
  unfold F_Hi_dropOldest at hF
  refine g_seg hK [.iconst 1, .istore_n 1] 0 2 (L1 := [(1, vI 1), (0, vR 17)]) (st1 := []) (h1 := h) (P := True ∧ True ∧ True) (by decide +kernel) rfl rfl ⟨trivial, trivial, trivial⟩ ?_
  refine hK.2.1 _ _ ([(0, vR 17), (1, vI 1)]) _ _ (sub_of [1, 0] rfl) ?_
  obtain ⟨x1_1, h2, e3, hF⟩ := ob2_elim hF
  refine LT_Hi_dropOldest_L2 hK _ _ _ _ _ e3 ?_
  refine g_seg hK [.aload_n 0, .dup, .getfield 17, .iconst 1, .isub, .putfield 17] 31 41 (L1 := [(0, vR 17), (1, vI x1_1)]) (st1 := []) (h1 := (up h2 17 1 (wr ((h2 17 1) - 1)))) (P := True ∧ True ∧ kd 17 = 3 ∧ True ∧ True ∧ kd 17 = 3 ∧ True) (by decide +kernel) rfl rfl ⟨trivial, trivial, rfl, trivial, trivial, rfl, trivial⟩ ?_
  cases hF
  exact hR.2.2.2.2 41 _ _ (by decide +kernel) rfl ⟨rfl, rfl⟩
set_option maxHeartbeats 4000000 in
set_option maxRecDepth 100000 in
theorem T_Hi_record {p1 : Nat} {h : MH} {h' : MH} (kp1 : kd p1 = 6) (hF : F_Hi_record p1 h = some h') : CON 5 yX1_record cX1_record 2 none [vR 17, vR p1] h none h' := by
  refine con_of (own := RX1) (fl := flX1) (by decide +kernel) rfl flok_X1 rfl (Nat.le_of_ble_eq_true rfl) ?_
  intro K hK hR
  show K 0 [(0, vR 17), (1, vR p1)] [] h
  unfold F_Hi_record at hF
  refine g_seg hK [.aload_n 0, .getfield 17, .aload_n 0, .getfield 11, .arraylength] 0 9 (L1 := [(0, vR 17), (1, vR p1)]) (st1 := [vI 4, vI (h 17 1)]) (h1 := h) (P := True ∧ kd 17 = 3 ∧ True ∧ kd 17 = 3 ∧ kd 18 ≤ 1 ∧ True) (by decide +kernel) rfl rfl ⟨trivial, rfl, trivial, rfl, (by rw [show kd 18 = 1 from rfl]; decide), trivial⟩ ?_
  obtain ⟨kj2, e5, hF⟩ := jk1_elim hF
  have j2 : ∀ (h1 : MH), kj2 h1 = some h' → K 16 [(0, vR 17), (1, vR p1)] [] h1 := by
    intro h1 hF
    have hF := (e5 h1).symm.trans hF
    refine g_seg hK [.aload_n 1, .aload_n 0, .aload_n 0, .getfield 17] 16 22 (L1 := [(0, vR 17), (1, vR p1)]) (st1 := [vI (h1 17 1), vR 17, vR p1]) (h1 := h1) (P := True ∧ True ∧ True ∧ kd 17 = 3 ∧ True) (by decide +kernel) rfl rfl ⟨trivial, trivial, trivial, rfl, trivial⟩ ?_
    refine g_callV1 hK 22 25 (d1 := 0) (ci := 1) (i := 17) (vs := [vI (h1 17 1)]) (rest := [vR p1]) (h1 := h1) (r := vO (F_Hi_slot (h1 17 1))) my_yX1_slot vw_X1_25 (by decide) (T_Hi_slot (p1 := (h1 17 1)) (h := h1) (hF := rfl)) rfl rfl rfl (Nat.le_of_ble_eq_true rfl) (by decide +kernel) ?_
    obtain ⟨h3, e4, hF⟩ := ob1_elim hF
    refine g_callS0 hK 25 29 (d1 := 3) (vs := [vR p1, vO (F_Hi_slot (h1 17 1))]) (rest := []) (h1 := h3) my_yX1_copy sw_X1_29 (by decide) (T_Hi_copy (p1 := (some p1)) (p2 := (F_Hi_slot (h1 17 1))) (h := h1) (kp1 := (fun i e => by cases e; exact kp1)) (kp2 := (kd_Hi_slot _)) (hF := e4)) rfl (Nat.le_of_ble_eq_true rfl) (by decide +kernel) ?_
    refine g_seg hK [.aload_n 0, .dup, .getfield 17, .iconst 1, .iadd, .putfield 17] 28 38 (L1 := [(0, vR 17), (1, vR p1)]) (st1 := []) (h1 := (up h3 17 1 (wr ((h3 17 1) + 1)))) (P := True ∧ True ∧ kd 17 = 3 ∧ True ∧ True ∧ kd 17 = 3 ∧ True) (by decide +kernel) rfl rfl ⟨trivial, trivial, rfl, trivial, trivial, rfl, trivial⟩ ?_
    cases hF
    exact hR.2.2.2.2 38 _ _ (by decide +kernel) rfl ⟨rfl, rfl⟩
  refine g_icmp hK 9 .lt (7) 16 (t1 := 16) (t2 := 12) (by decide +kernel) (by decide) rfl rfl (fun (hc6 : h 17 1 < 4) => ?_) (fun (hc6 : ¬ (h 17 1 < 4)) => ?_)
  · have hF := ite_t hc6 hF
    exact j2 _ hF
  · have hF := ite_f hc6 hF
    refine g_seg hK [.aload_n 0] 12 13 (L1 := [(0, vR 17), (1, vR p1)]) (st1 := [vR 17]) (h1 := h) (P := True ∧ True) (by decide +kernel) rfl rfl ⟨trivial, trivial⟩ ?_
    obtain ⟨h7, e8, hF⟩ := ob1_elim hF
    refine g_callV0 hK 13 22 (d1 := 4) (ci := 1) (i := 17) (vs := []) (rest := []) (h1 := h7) my_yX1_dropOldest vw_X1_22 (by decide) (T_Hi_dropOldest (h := h) (hF := e8)) rfl rfl rfl (Nat.le_of_ble_eq_true rfl) (by decide +kernel) ?_
    exact j2 _ hF
set_option maxHeartbeats 4000000 in
set_option maxRecDepth 100000 in
theorem T_Ro_change {o : Nat} {p1 : Int} {p2 : Int} {h : MH} {h' : MH} (ko : kd o = 5) (hF : F_Ro_change o p1 p2 h = h') : CON 0 yX3_change cX3_change 3 none [vR o, vI p1, vI p2] h none h' := by
  refine con_of (own := RX3) (fl := flX3) (by decide +kernel) rfl flok_X3 rfl (Nat.le_of_ble_eq_true rfl) ?_
  intro K hK hR
  show K 0 [(0, vR o), (1, vI p1), (2, vI p2)] [] h
  unfold F_Ro_change at hF
  refine g_seg hK [.iload_n 1] 0 1 (L1 := [(0, vR o), (1, vI p1), (2, vI p2)]) (st1 := [vI p1]) (h1 := h) (P := True ∧ True) (by decide +kernel) rfl rfl ⟨trivial, trivial⟩ ?_
  refine g_ifz hK 1 .lt (27) 28 (t1 := 28) (t2 := 4) (by decide +kernel) (by decide) rfl rfl (fun (hc1 : p1 < 0) => ?_) (fun (hc1 : ¬ (p1 < 0)) => ?_)
  · have hF := ite_t hc1 hF
    cases hF
    exact hR.2.2.2.2 28 _ _ (by decide +kernel) rfl ⟨rfl, rfl⟩
  · have hF := ite_f hc1 hF
    refine g_seg hK [.iload_n 1, .aload_n 0, .getfield 7] 4 9 (L1 := [(0, vR o), (1, vI p1), (2, vI p2)]) (st1 := [vI (h o 1), vI p1]) (h1 := h) (P := True ∧ True ∧ kd o = 5 ∧ True) (by decide +kernel) rfl rfl ⟨trivial, trivial, ko, trivial⟩ ?_
    refine g_icmp hK 9 .ge (19) 28 (t1 := 12) (t2 := 28) (by decide +kernel) (by decide) rfl rfl (fun (hc2 : p1 < h o 1) => ?_) (fun (hc2 : ¬ (p1 < h o 1)) => ?_)
    · have hF := ite_t hc2 hF
      refine g_seg hK [.iload_n 1, .aload_n 0, .getfield 13, .arraylength] 12 18 (L1 := [(0, vR o), (1, vI p1), (2, vI p2)]) (st1 := [vI (al (rf o 0) : Int), vI p1]) (h1 := h) (P := True ∧ True ∧ kd o = 5 ∧ kd (rf o 0) ≤ 1 ∧ True) (by decide +kernel) rfl rfl ⟨trivial, trivial, ko, (by rw [show kd (rf o 0) = 0 from (kt_5_0 ko)]; decide), trivial⟩ ?_
      refine g_icmp hK 18 .ge (10) 28 (t1 := 21) (t2 := 28) (by decide +kernel) (by decide) rfl rfl (fun (hc3 : p1 < (al (rf o 0) : Int)) => ?_) (fun (hc3 : ¬ (p1 < (al (rf o 0) : Int))) => ?_)
      · have hF := ite_t hc3 hF
        refine g_seg hK [.aload_n 0, .getfield 13, .iload_n 1, .iload_n 2, .iastore] 21 28 (L1 := [(0, vR o), (1, vI p1), (2, vI p2)]) (st1 := []) (h1 := (up h (rf o 0) p1.toNat p2)) (P := True ∧ kd o = 5 ∧ True ∧ True ∧ (kd (rf o 0) = 0 ∧ 0 ≤ p1 ∧ p1 < (al (rf o 0) : Int)) ∧ True) (by decide +kernel) rfl rfl ⟨trivial, ko, trivial, trivial, ⟨(kt_5_0 ko), ⟨(by omega), hc3⟩⟩, trivial⟩ ?_
        cases hF
        exact hR.2.2.2.2 28 _ _ (by decide +kernel) rfl ⟨rfl, rfl⟩
      · have hF := ite_f hc3 hF
        cases hF
        exact hR.2.2.2.2 28 _ _ (by decide +kernel) rfl ⟨rfl, rfl⟩
    · have hF := ite_f hc2 hF
      cases hF
      exact hR.2.2.2.2 28 _ _ (by decide +kernel) rfl ⟨rfl, rfl⟩
set_option maxHeartbeats 4000000 in
set_option maxRecDepth 100000 in
theorem LT_Ro_putIn_L42 {K : KT} (hK : Rules RX3 cX3_putIn 4 none flX3 1 K) {x0 : Nat} {x1 : Int} {x2 : Int} (kx0 : kd x0 = 5) : ∀ (n : Nat) (x3 : Int) (h : MH) (x3' : Int) (h' : MH), F_Ro_putIn_L42 x0 x1 x2 n x3 h = some (x3', h') → K 65 [(0, vR x0), (1, vI x1), (2, vI x2), (3, vI x3')] [] h' → K 42 [(0, vR x0), (1, vI x1), (2, vI x2), (3, vI x3)] [] h := by
  intro n
  induction n with
  | zero =>
    intro x3 h x3' h' hF
    cases hF
  | succ n ih =>
    intro x3 h x3' h' hF hE
    unfold F_Ro_putIn_L42 at hF
    refine g_seg hK [.iload_n 3, .iload_n 1] 42 44 (L1 := [(0, vR x0), (1, vI x1), (2, vI x2), (3, vI x3)]) (st1 := [vI x1, vI x3]) (h1 := h) (P := True ∧ True ∧ True) (by decide +kernel) rfl rfl ⟨trivial, trivial, trivial⟩ ?_
    refine g_icmp hK 44 .le (21) 65 (t1 := 65) (t2 := 47) (by decide +kernel) (by decide) rfl rfl (fun (hc1 : x3 ≤ x1) => ?_) (fun (hc1 : ¬ (x3 ≤ x1)) => ?_)
    · have hF := ite_t hc1 hF
      cases hF
      exact hE
    · have hF := ite_f hc1 hF
      refine g_seg hK [.aload_n 0, .iload_n 3, .aload_n 0, .iload_n 3, .iconst 1, .isub] 47 53 (L1 := [(0, vR x0), (1, vI x1), (2, vI x2), (3, vI x3)]) (st1 := [vI (wr (x3 - 1)), vR x0, vI x3, vR x0]) (h1 := h) (P := True ∧ True ∧ True ∧ True ∧ True ∧ True ∧ True) (by decide +kernel) rfl rfl ⟨trivial, trivial, trivial, trivial, trivial, trivial, trivial⟩ ?_
      refine g_callV1 hK 53 17 (d1 := 0) (ci := 3) (i := x0) (vs := [vI (wr (x3 - 1))]) (rest := [vI x3, vR x0]) (h1 := h) (r := vI (F_Ro_at x0 (wr (x3 - 1)) h)) my_yX3_at vw_X3_17 (by decide) (T_Ro_at (o := x0) (p1 := (wr (x3 - 1))) (h := h) (ko := kx0) (hF := rfl)) kx0 rfl rfl (Nat.le_of_ble_eq_true rfl) (by decide +kernel) ?_
      refine g_callV0 hK 56 21 (d1 := 0) (ci := 3) (i := x0) (vs := [vI x3, vI (F_Ro_at x0 (wr (x3 - 1)) h)]) (rest := []) (h1 := (F_Ro_change x0 x3 (F_Ro_at x0 (wr (x3 - 1)) h) h)) my_yX3_change vw_X3_21 (by decide) (T_Ro_change (o := x0) (p1 := x3) (p2 := (F_Ro_at x0 (wr (x3 - 1)) h)) (h := h) (ko := kx0) (hF := rfl)) kx0 rfl rfl (Nat.le_of_ble_eq_true rfl) (by decide +kernel) ?_
      refine g_seg hK [.iinc 3 (-1)] 59 62 (L1 := [(3, vI (wr (x3 + (-1)))), (0, vR x0), (1, vI x1), (2, vI x2)]) (st1 := []) (h1 := (F_Ro_change x0 x3 (F_Ro_at x0 (wr (x3 - 1)) h) h)) (P := True ∧ True) (by decide +kernel) rfl rfl ⟨trivial, trivial⟩ ?_
      refine g_goto hK 62 (-20) 42 (by decide +kernel) (by decide) ?_
      refine hK.2.1 _ _ ([(0, vR x0), (1, vI x1), (2, vI x2), (3, vI (wr (x3 + (-1))))]) _ _ (sub_of [1, 2, 3, 0] rfl) ?_
      exact ih _ _ _ _ hF hE
set_option maxHeartbeats 4000000 in
set_option maxRecDepth 100000 in
theorem T_Ro_putIn {o : Nat} {p1 : Int} {p2 : Int} {h : MH} {h' : MH} (ko : kd o = 5) (hF : F_Ro_putIn o p1 p2 h = some h') : CON 1 yX3_putIn cX3_putIn 4 none [vR o, vI p1, vI p2] h none h' := by
  refine con_of (own := RX3) (fl := flX3) (by decide +kernel) rfl flok_X3 rfl (Nat.le_of_ble_eq_true rfl) ?_
  intro K hK hR
  show K 0 [(0, vR o), (1, vI p1), (2, vI p2)] [] h
  unfold F_Ro_putIn at hF
  refine g_seg hK [.iload_n 1] 0 1 (L1 := [(0, vR o), (1, vI p1), (2, vI p2)]) (st1 := [vI p1]) (h1 := h) (P := True ∧ True) (by decide +kernel) rfl rfl ⟨trivial, trivial⟩ ?_
  refine g_ifz hK 1 .lt (23) 24 (t1 := 24) (t2 := 4) (by decide +kernel) (by decide) rfl rfl (fun (hc1 : p1 < 0) => ?_) (fun (hc1 : ¬ (p1 < 0)) => ?_)
  · have hF := ite_t hc1 hF
    cases hF
    exact hR.2.2.2.2 24 _ _ (by decide +kernel) rfl ⟨rfl, rfl⟩
  · have hF := ite_f hc1 hF
    refine g_seg hK [.iload_n 1, .aload_n 0, .getfield 7] 4 9 (L1 := [(0, vR o), (1, vI p1), (2, vI p2)]) (st1 := [vI (h o 1), vI p1]) (h1 := h) (P := True ∧ True ∧ kd o = 5 ∧ True) (by decide +kernel) rfl rfl ⟨trivial, trivial, ko, trivial⟩ ?_
    refine g_icmp hK 9 .gt (15) 24 (t1 := 12) (t2 := 24) (by decide +kernel) (by decide) rfl rfl (fun (hc2 : p1 ≤ h o 1) => ?_) (fun (hc2 : ¬ (p1 ≤ h o 1)) => ?_)
    · have hF := ite_t hc2 hF
      refine g_seg hK [.aload_n 0, .getfield 7, .aload_n 0, .getfield 13, .arraylength] 12 21 (L1 := [(0, vR o), (1, vI p1), (2, vI p2)]) (st1 := [vI (al (rf o 0) : Int), vI (h o 1)]) (h1 := h) (P := True ∧ kd o = 5 ∧ True ∧ kd o = 5 ∧ kd (rf o 0) ≤ 1 ∧ True) (by decide +kernel) rfl rfl ⟨trivial, ko, trivial, ko, (by rw [show kd (rf o 0) = 0 from (kt_5_0 ko)]; decide), trivial⟩ ?_
      refine g_icmp hK 21 .lt (4) 25 (t1 := 25) (t2 := 24) (by decide +kernel) (by decide) rfl rfl (fun (hc3 : h o 1 < (al (rf o 0) : Int)) => ?_) (fun (hc3 : ¬ (h o 1 < (al (rf o 0) : Int))) => ?_)
      · have hF := ite_t hc3 hF
        refine g_seg hK [.aload_n 0, .dup, .getfield 7, .iconst 1, .iadd, .putfield 7, .aload_n 0, .getfield 7, .iconst 1, .isub, .istore_n 3] 25 42 (L1 := [(3, vI (wr (((up h o 1 (wr ((h o 1) + 1))) o 1) - 1))), (0, vR o), (1, vI p1), (2, vI p2)]) (st1 := []) (h1 := (up h o 1 (wr ((h o 1) + 1)))) (P := True ∧ True ∧ kd o = 5 ∧ True ∧ True ∧ kd o = 5 ∧ True ∧ kd o = 5 ∧ True ∧ True ∧ True ∧ True) (by decide +kernel) rfl rfl ⟨trivial, trivial, ko, trivial, trivial, ko, trivial, ko, trivial, trivial, trivial, trivial⟩ ?_
        refine hK.2.1 _ _ ([(0, vR o), (1, vI p1), (2, vI p2), (3, vI (wr (((up h o 1 (wr ((h o 1) + 1))) o 1) - 1)))]) _ _ (sub_of [1, 2, 3, 0] rfl) ?_
        obtain ⟨x3_4, h5, e6, hF⟩ := ob2_elim hF
        refine LT_Ro_putIn_L42 hK (kx0 := ko) _ _ _ _ _ e6 ?_
        refine g_seg hK [.aload_n 0, .iload_n 1, .iload_n 2] 65 68 (L1 := [(0, vR o), (1, vI p1), (2, vI p2), (3, vI x3_4)]) (st1 := [vI p2, vI p1, vR o]) (h1 := h5) (P := True ∧ True ∧ True ∧ True) (by decide +kernel) rfl rfl ⟨trivial, trivial, trivial, trivial⟩ ?_
        refine g_callV0 hK 68 21 (d1 := 0) (ci := 3) (i := o) (vs := [vI p1, vI p2]) (rest := []) (h1 := (F_Ro_change o p1 p2 h5)) my_yX3_change vw_X3_21 (by decide) (T_Ro_change (o := o) (p1 := p1) (p2 := p2) (h := h5) (ko := ko) (hF := rfl)) ko rfl rfl (Nat.le_of_ble_eq_true rfl) (by decide +kernel) ?_
        cases hF
        exact hR.2.2.2.2 71 _ _ (by decide +kernel) rfl ⟨rfl, rfl⟩
      · have hF := ite_f hc3 hF
        cases hF
        exact hR.2.2.2.2 24 _ _ (by decide +kernel) rfl ⟨rfl, rfl⟩
    · have hF := ite_f hc2 hF
      cases hF
      exact hR.2.2.2.2 24 _ _ (by decide +kernel) rfl ⟨rfl, rfl⟩
set_option maxHeartbeats 4000000 in
set_option maxRecDepth 100000 in
theorem LT_Ro_putOut_L15 {K : KT} (hK : Rules RX3 cX3_putOut 3 none flX3 1 K) {x0 : Nat} (kx0 : kd x0 = 5) : ∀ (n : Nat) (x2 : Int) (h : MH) (x2' : Int) (h' : MH), F_Ro_putOut_L15 x0 n x2 h = some (x2', h') → K 43 [(0, vR x0), (2, vI x2')] [] h' → K 15 [(0, vR x0), (2, vI x2)] [] h := by
  intro n
  induction n with
  | zero =>
    intro x2 h x2' h' hF
    cases hF
  | succ n ih =>
    intro x2 h x2' h' hF hE
    unfold F_Ro_putOut_L15 at hF
    refine g_seg hK [.iload_n 2, .aload_n 0, .getfield 7, .iconst 1, .isub] 15 22 (L1 := [(0, vR x0), (2, vI x2)]) (st1 := [vI (wr ((h x0 1) - 1)), vI x2]) (h1 := h) (P := True ∧ True ∧ kd x0 = 5 ∧ True ∧ True ∧ True) (by decide +kernel) rfl rfl ⟨trivial, trivial, kx0, trivial, trivial, trivial⟩ ?_
    refine g_icmp hK 22 .ge (21) 43 (t1 := 25) (t2 := 43) (by decide +kernel) (by decide) rfl rfl (fun (hc1 : x2 < wr ((h x0 1) - 1)) => ?_) (fun (hc1 : ¬ (x2 < wr ((h x0 1) - 1))) => ?_)
    · have hF := ite_t hc1 hF
      refine g_seg hK [.aload_n 0, .iload_n 2, .aload_n 0, .iload_n 2, .iconst 1, .iadd] 25 31 (L1 := [(0, vR x0), (2, vI x2)]) (st1 := [vI (wr (x2 + 1)), vR x0, vI x2, vR x0]) (h1 := h) (P := True ∧ True ∧ True ∧ True ∧ True ∧ True ∧ True) (by decide +kernel) rfl rfl ⟨trivial, trivial, trivial, trivial, trivial, trivial, trivial⟩ ?_
      refine g_callV1 hK 31 17 (d1 := 0) (ci := 3) (i := x0) (vs := [vI (wr (x2 + 1))]) (rest := [vI x2, vR x0]) (h1 := h) (r := vI (F_Ro_at x0 (wr (x2 + 1)) h)) my_yX3_at vw_X3_17 (by decide) (T_Ro_at (o := x0) (p1 := (wr (x2 + 1))) (h := h) (ko := kx0) (hF := rfl)) kx0 rfl rfl (Nat.le_of_ble_eq_true rfl) (by decide +kernel) ?_
      refine g_callV0 hK 34 21 (d1 := 0) (ci := 3) (i := x0) (vs := [vI x2, vI (F_Ro_at x0 (wr (x2 + 1)) h)]) (rest := []) (h1 := (F_Ro_change x0 x2 (F_Ro_at x0 (wr (x2 + 1)) h) h)) my_yX3_change vw_X3_21 (by decide) (T_Ro_change (o := x0) (p1 := x2) (p2 := (F_Ro_at x0 (wr (x2 + 1)) h)) (h := h) (ko := kx0) (hF := rfl)) kx0 rfl rfl (Nat.le_of_ble_eq_true rfl) (by decide +kernel) ?_
      refine g_seg hK [.iinc 2 1] 37 40 (L1 := [(2, vI (wr (x2 + 1))), (0, vR x0)]) (st1 := []) (h1 := (F_Ro_change x0 x2 (F_Ro_at x0 (wr (x2 + 1)) h) h)) (P := True ∧ True) (by decide +kernel) rfl rfl ⟨trivial, trivial⟩ ?_
      refine g_goto hK 40 (-25) 15 (by decide +kernel) (by decide) ?_
      refine hK.2.1 _ _ ([(0, vR x0), (2, vI (wr (x2 + 1)))]) _ _ (sub_of [1, 0] rfl) ?_
      exact ih _ _ _ _ hF hE
    · have hF := ite_f hc1 hF
      cases hF
      exact hE
set_option maxHeartbeats 4000000 in
set_option maxRecDepth 100000 in
theorem T_Ro_putOut {o : Nat} {p1 : Int} {h : MH} {h' : MH} (ko : kd o = 5) (hF : F_Ro_putOut o p1 h = some h') : CON 1 yX3_putOut cX3_putOut 3 none [vR o, vI p1] h none h' := by
  refine con_of (own := RX3) (fl := flX3) (by decide +kernel) rfl flok_X3 rfl (Nat.le_of_ble_eq_true rfl) ?_
  intro K hK hR
  show K 0 [(0, vR o), (1, vI p1)] [] h
  unfold F_Ro_putOut at hF
  refine g_seg hK [.iload_n 1] 0 1 (L1 := [(0, vR o), (1, vI p1)]) (st1 := [vI p1]) (h1 := h) (P := True ∧ True) (by decide +kernel) rfl rfl ⟨trivial, trivial⟩ ?_
  refine g_ifz hK 1 .lt (11) 12 (t1 := 12) (t2 := 4) (by decide +kernel) (by decide) rfl rfl (fun (hc1 : p1 < 0) => ?_) (fun (hc1 : ¬ (p1 < 0)) => ?_)
  · have hF := ite_t hc1 hF
    cases hF
    exact hR.2.2.2.2 12 _ _ (by decide +kernel) rfl ⟨rfl, rfl⟩
  · have hF := ite_f hc1 hF
    refine g_seg hK [.iload_n 1, .aload_n 0, .getfield 7] 4 9 (L1 := [(0, vR o), (1, vI p1)]) (st1 := [vI (h o 1), vI p1]) (h1 := h) (P := True ∧ True ∧ kd o = 5 ∧ True) (by decide +kernel) rfl rfl ⟨trivial, trivial, ko, trivial⟩ ?_
    refine g_icmp hK 9 .lt (4) 13 (t1 := 13) (t2 := 12) (by decide +kernel) (by decide) rfl rfl (fun (hc2 : p1 < h o 1) => ?_) (fun (hc2 : ¬ (p1 < h o 1)) => ?_)
    · have hF := ite_t hc2 hF
      refine g_seg hK [.iload_n 1, .istore_n 2] 13 15 (L1 := [(2, vI p1), (0, vR o), (1, vI p1)]) (st1 := []) (h1 := h) (P := True ∧ True ∧ True) (by decide +kernel) rfl rfl ⟨trivial, trivial, trivial⟩ ?_
      refine hK.2.1 _ _ ([(0, vR o), (2, vI p1)]) _ _ (sub_of [1, 0] rfl) ?_
      obtain ⟨x2_3, h4, e5, hF⟩ := ob2_elim hF
      refine LT_Ro_putOut_L15 hK (kx0 := ko) _ _ _ _ _ e5 ?_
      refine g_seg hK [.aload_n 0, .dup, .getfield 7, .iconst 1, .isub, .putfield 7] 43 53 (L1 := [(0, vR o), (2, vI x2_3)]) (st1 := []) (h1 := (up h4 o 1 (wr ((h4 o 1) - 1)))) (P := True ∧ True ∧ kd o = 5 ∧ True ∧ True ∧ kd o = 5 ∧ True) (by decide +kernel) rfl rfl ⟨trivial, trivial, ko, trivial, trivial, ko, trivial⟩ ?_
      cases hF
      exact hR.2.2.2.2 53 _ _ (by decide +kernel) rfl ⟨rfl, rfl⟩
    · have hF := ite_f hc2 hF
      cases hF
      exact hR.2.2.2.2 12 _ _ (by decide +kernel) rfl ⟨rfl, rfl⟩
set_option maxHeartbeats 4000000 in
set_option maxRecDepth 100000 in
theorem T_X_edit {p1 : Int} {p2 : Int} {p3 : Int} {h : MH} {r : Int} {h' : MH} (hF : F_X_edit p1 p2 p3 h = some (r, h')) : CON 6 yX6_edit cX6_edit 7 (Option.some Jvm.ClassFile.FieldType.int) [vR 0, vI p1, vI p2, vI p3] h (some (vI r)) h' := by
  refine con_of (own := RX6) (fl := flX6) (by decide +kernel) rfl flok_X6 rfl (Nat.le_of_ble_eq_true rfl) ?_
  intro K hK hR
  show K 0 [(0, vR 0), (1, vI p1), (2, vI p2), (3, vI p3)] [] h
  unfold F_X_edit at hF
  refine g_seg hK [.iload_n 1] 0 1 (L1 := [(0, vR 0), (1, vI p1), (2, vI p2), (3, vI p3)]) (st1 := [vI p1]) (h1 := h) (P := True ∧ True) (by decide +kernel) rfl rfl ⟨trivial, trivial⟩ ?_
  refine g_callS1 hK 1 77 (d1 := 0) (vs := [vI p1]) (rest := []) (h1 := h) (r := vI (F_X_isText p1)) my_yX6_isText sw_X6_77 (by decide) (T_X_isText (p1 := p1) (h := h) (hF := rfl)) rfl (Nat.le_of_ble_eq_true rfl) (by decide +kernel) ?_
  refine g_ifz hK 4 .ne (5) 9 (t1 := 7) (t2 := 9) (by decide +kernel) (by decide) rfl rfl (fun (hc1 : F_X_isText p1 = 0) => ?_) (fun (hc1 : ¬ (F_X_isText p1 = 0)) => ?_)
  · have hF := ite_t hc1 hF
    refine g_seg hK [.iconst (-1)] 7 8 (L1 := [(0, vR 0), (1, vI p1), (2, vI p2), (3, vI p3)]) (st1 := [vI (-1)]) (h1 := h) (P := True ∧ True) (by decide +kernel) rfl rfl ⟨trivial, trivial⟩ ?_
    cases hF
    exact hR.1 8 _ _ _ (by decide +kernel) rfl ⟨rfl, rfl⟩
  · have hF := ite_f hc1 hF
    refine g_seg hK [.aload_n 0, .getfield 21, .iload_n 1] 9 14 (L1 := [(0, vR 0), (1, vI p1), (2, vI p2), (3, vI p3)]) (st1 := [vI p1, vR 3]) (h1 := h) (P := True ∧ kd 0 = 8 ∧ True ∧ True) (by decide +kernel) rfl rfl ⟨trivial, rfl, trivial, trivial⟩ ?_
    refine g_callV1 hK 14 88 (d1 := 0) (ci := 4) (i := 3) (vs := [vI p1]) (rest := []) (h1 := h) (r := vR (F_St_text 3 p1)) my_yX4_text vw_X6_88 (by decide) (T_St_text (o := 3) (p1 := p1) (h := h) (ks := rfl) (hF := rfl)) rfl rfl rfl (Nat.le_of_ble_eq_true rfl) (by decide +kernel) ?_
    refine g_seg hK [.astore 4, .iload_n 3] 17 20 (L1 := [(4, vR (F_St_text 3 p1)), (0, vR 0), (1, vI p1), (2, vI p2), (3, vI p3)]) (st1 := [vI p3]) (h1 := h) (P := True ∧ True ∧ True) (by decide +kernel) rfl rfl ⟨trivial, trivial, trivial⟩ ?_
    refine g_callS1 hK 20 92 (d1 := 2) (vs := [vI p3]) (rest := []) (h1 := h) (r := vI (F_X_isSign p3)) my_yX6_isSign sw_X6_92 (by decide) (T_X_isSign (p1 := p3) (h := h) (hF := rfl)) rfl (Nat.le_of_ble_eq_true rfl) (by decide +kernel) ?_
    refine g_seg hK [.istore 5, .iload_n 3, .bipush 10, .isub] 23 29 (L1 := [(5, vI (F_X_isSign p3)), (4, vR (F_St_text 3 p1)), (0, vR 0), (1, vI p1), (2, vI p2), (3, vI p3)]) (st1 := [vI (wr (p3 - 10))]) (h1 := h) (P := True ∧ True ∧ True ∧ True ∧ True) (by decide +kernel) rfl rfl ⟨trivial, trivial, trivial, trivial, trivial⟩ ?_
    refine g_callS1 hK 29 92 (d1 := 2) (vs := [vI (wr (p3 - 10))]) (rest := []) (h1 := h) (r := vI (F_X_isSign (wr (p3 - 10)))) my_yX6_isSign sw_X6_92 (by decide) (T_X_isSign (p1 := (wr (p3 - 10))) (h := h) (hF := rfl)) rfl (Nat.le_of_ble_eq_true rfl) (by decide +kernel) ?_
    refine g_seg hK [.istore 6, .iload 5] 32 36 (L1 := [(6, vI (F_X_isSign (wr (p3 - 10)))), (5, vI (F_X_isSign p3)), (4, vR (F_St_text 3 p1)), (0, vR 0), (1, vI p1), (2, vI p2), (3, vI p3)]) (st1 := [vI (F_X_isSign p3)]) (h1 := h) (P := True ∧ True ∧ True) (by decide +kernel) rfl rfl ⟨trivial, trivial, trivial⟩ ?_
    obtain ⟨kj3, e27, hF⟩ := jk1_elim hF
    have j3 : ∀ (u2 : Unit), kj3 u2 = some (r, h') → K 52 [(0, vR 0), (2, vI p2), (3, vI p3), (4, vR (F_St_text 3 p1)), (5, vI (F_X_isSign p3)), (6, vI (F_X_isSign (wr (p3 - 10))))] [] h := by
      intro u2 hF
      have hF := (e27 u2).symm.trans hF
      refine g_seg hK [.iload_n 2] 52 53 (L1 := [(0, vR 0), (2, vI p2), (3, vI p3), (4, vR (F_St_text 3 p1)), (5, vI (F_X_isSign p3)), (6, vI (F_X_isSign (wr (p3 - 10))))]) (st1 := [vI p2]) (h1 := h) (P := True ∧ True) (by decide +kernel) rfl rfl ⟨trivial, trivial⟩ ?_
      refine g_ifz hK 53 .lt (26) 79 (t1 := 79) (t2 := 56) (by decide +kernel) (by decide) rfl rfl (fun (hc4 : p2 < 0) => ?_) (fun (hc4 : ¬ (p2 < 0)) => ?_)
      · have hF := ite_t hc4 hF
        refine g_seg hK [.iconst (-1)] 79 80 (L1 := [(0, vR 0), (2, vI p2), (3, vI p3), (4, vR (F_St_text 3 p1)), (5, vI (F_X_isSign p3)), (6, vI (F_X_isSign (wr (p3 - 10))))]) (st1 := [vI (-1)]) (h1 := h) (P := True ∧ True) (by decide +kernel) rfl rfl ⟨trivial, trivial⟩ ?_
        cases hF
        exact hR.1 80 _ _ _ (by decide +kernel) rfl ⟨rfl, rfl⟩
      · have hF := ite_f hc4 hF
        refine g_seg hK [.iload_n 2, .aload 4] 56 59 (L1 := [(0, vR 0), (2, vI p2), (3, vI p3), (4, vR (F_St_text 3 p1)), (5, vI (F_X_isSign p3)), (6, vI (F_X_isSign (wr (p3 - 10))))]) (st1 := [vR (F_St_text 3 p1), vI p2]) (h1 := h) (P := True ∧ True ∧ True) (by decide +kernel) rfl rfl ⟨trivial, trivial, trivial⟩ ?_
        refine g_callV1 hK 59 63 (d1 := 0) (ci := 3) (i := F_St_text 3 p1) (vs := []) (rest := [vI p2]) (h1 := h) (r := vI (F_Ro_size (F_St_text 3 p1) h)) my_yX3_size vw_X6_63 (by decide) (T_Ro_size (o := (F_St_text 3 p1)) (h := h) (ko := (kd_St_text rfl)) (hF := rfl)) (kd_St_text rfl) rfl rfl (Nat.le_of_ble_eq_true rfl) (by decide +kernel) ?_
        refine g_icmp hK 62 .gt (17) 79 (t1 := 65) (t2 := 79) (by decide +kernel) (by decide) rfl rfl (fun (hc5 : p2 ≤ F_Ro_size (F_St_text 3 p1) h) => ?_) (fun (hc5 : ¬ (p2 ≤ F_Ro_size (F_St_text 3 p1) h)) => ?_)
        · have hF := ite_t hc5 hF
          refine g_seg hK [.iload_n 2, .aload 4] 65 68 (L1 := [(0, vR 0), (2, vI p2), (3, vI p3), (4, vR (F_St_text 3 p1)), (5, vI (F_X_isSign p3)), (6, vI (F_X_isSign (wr (p3 - 10))))]) (st1 := [vR (F_St_text 3 p1), vI p2]) (h1 := h) (P := True ∧ True ∧ True) (by decide +kernel) rfl rfl ⟨trivial, trivial, trivial⟩ ?_
          refine g_callV1 hK 68 63 (d1 := 0) (ci := 3) (i := F_St_text 3 p1) (vs := []) (rest := [vI p2]) (h1 := h) (r := vI (F_Ro_size (F_St_text 3 p1) h)) my_yX3_size vw_X6_63 (by decide) (T_Ro_size (o := (F_St_text 3 p1)) (h := h) (ko := (kd_St_text rfl)) (hF := rfl)) (kd_St_text rfl) rfl rfl (Nat.le_of_ble_eq_true rfl) (by decide +kernel) ?_
          obtain ⟨kj7, e24, hF⟩ := jk1_elim hF
          have j7 : ∀ (u6 : Unit), kj7 u6 = some (r, h') → K 81 [(0, vR 0), (2, vI p2), (3, vI p3), (4, vR (F_St_text 3 p1)), (5, vI (F_X_isSign p3)), (6, vI (F_X_isSign (wr (p3 - 10))))] [] h := by
            intro u6 hF
            have hF := (e24 u6).symm.trans hF
            refine g_seg hK [.iload 5] 81 83 (L1 := [(0, vR 0), (2, vI p2), (3, vI p3), (4, vR (F_St_text 3 p1)), (5, vI (F_X_isSign p3)), (6, vI (F_X_isSign (wr (p3 - 10))))]) (st1 := [vI (F_X_isSign p3)]) (h1 := h) (P := True ∧ True) (by decide +kernel) rfl rfl ⟨trivial, trivial⟩ ?_
            obtain ⟨kj9, e21, hF⟩ := jk1_elim hF
            have j9 : ∀ (u8 : Unit), kj9 u8 = some (r, h') → K 99 [(0, vR 0), (2, vI p2), (3, vI p3), (4, vR (F_St_text 3 p1)), (5, vI (F_X_isSign p3)), (6, vI (F_X_isSign (wr (p3 - 10))))] [] h := by
              intro u8 hF
              have hF := (e21 u8).symm.trans hF
              refine g_seg hK [.aload_n 0, .getfield 35, .aload_n 0, .getfield 21] 99 107 (L1 := [(0, vR 0), (2, vI p2), (3, vI p3), (4, vR (F_St_text 3 p1)), (5, vI (F_X_isSign p3)), (6, vI (F_X_isSign (wr (p3 - 10))))]) (st1 := [vR 3, vR 17]) (h1 := h) (P := True ∧ kd 0 = 8 ∧ True ∧ kd 0 = 8 ∧ True) (by decide +kernel) rfl rfl ⟨trivial, rfl, trivial, rfl, trivial⟩ ?_
              obtain ⟨h10, e11, hF⟩ := ob1_elim hF
              refine g_callV0 hK 107 84 (d1 := 5) (ci := 1) (i := 17) (vs := [vR 3]) (rest := []) (h1 := h10) my_yX1_record vw_X6_84 (by decide) (T_Hi_record (p1 := 3) (h := h) (kp1 := rfl) (hF := e11)) rfl rfl rfl (Nat.le_of_ble_eq_true rfl) (by decide +kernel) ?_
              refine g_seg hK [.iload 5] 110 112 (L1 := [(0, vR 0), (2, vI p2), (3, vI p3), (4, vR (F_St_text 3 p1)), (5, vI (F_X_isSign p3)), (6, vI (F_X_isSign (wr (p3 - 10))))]) (st1 := [vI (F_X_isSign p3)]) (h1 := h10) (P := True ∧ True) (by decide +kernel) rfl rfl ⟨trivial, trivial⟩ ?_
              obtain ⟨kj13, e14, hF⟩ := jk1_elim hF
              have j13 : ∀ (h12 : MH), kj13 h12 = some (r, h') → K 149 [(4, vR (F_St_text 3 p1))] [] h12 := by
                intro h12 hF
                have hF := (e14 h12).symm.trans hF
                refine g_seg hK [.aload 4] 149 151 (L1 := [(4, vR (F_St_text 3 p1))]) (st1 := [vR (F_St_text 3 p1)]) (h1 := h12) (P := True ∧ True) (by decide +kernel) rfl rfl ⟨trivial, trivial⟩ ?_
                refine g_callV1 hK 151 63 (d1 := 0) (ci := 3) (i := F_St_text 3 p1) (vs := []) (rest := []) (h1 := h12) (r := vI (F_Ro_size (F_St_text 3 p1) h12)) my_yX3_size vw_X6_63 (by decide) (T_Ro_size (o := (F_St_text 3 p1)) (h := h12) (ko := (kd_St_text rfl)) (hF := rfl)) (kd_St_text rfl) rfl rfl (Nat.le_of_ble_eq_true rfl) (by decide +kernel) ?_
                cases hF
                exact hR.1 154 _ _ _ (by decide +kernel) rfl ⟨rfl, rfl⟩
              refine g_ifz hK 112 .eq (13) 125 (t1 := 125) (t2 := 115) (by decide +kernel) (by decide) rfl rfl (fun (hc15 : F_X_isSign p3 = 0) => ?_) (fun (hc15 : ¬ (F_X_isSign p3 = 0)) => ?_)
              · have hF := ite_t hc15 hF
                refine g_seg hK [.iload 6] 125 127 (L1 := [(0, vR 0), (2, vI p2), (3, vI p3), (4, vR (F_St_text 3 p1)), (5, vI (F_X_isSign p3)), (6, vI (F_X_isSign (wr (p3 - 10))))]) (st1 := [vI (F_X_isSign (wr (p3 - 10)))]) (h1 := h10) (P := True ∧ True) (by decide +kernel) rfl rfl ⟨trivial, trivial⟩ ?_
                refine g_ifz hK 127 .eq (16) 143 (t1 := 143) (t2 := 130) (by decide +kernel) (by decide) rfl rfl (fun (hc16 : F_X_isSign (wr (p3 - 10)) = 0) => ?_) (fun (hc16 : ¬ (F_X_isSign (wr (p3 - 10)) = 0)) => ?_)
                · have hF := ite_t hc16 hF
                  refine g_seg hK [.aload 4, .iload_n 2] 143 146 (L1 := [(0, vR 0), (2, vI p2), (3, vI p3), (4, vR (F_St_text 3 p1)), (5, vI (F_X_isSign p3)), (6, vI (F_X_isSign (wr (p3 - 10))))]) (st1 := [vI p2, vR (F_St_text 3 p1)]) (h1 := h10) (P := True ∧ True ∧ True) (by decide +kernel) rfl rfl ⟨trivial, trivial, trivial⟩ ?_
                  obtain ⟨h17, e18, hF⟩ := ob1_elim hF
                  refine g_callV0 hK 146 102 (d1 := 1) (ci := 3) (i := F_St_text 3 p1) (vs := [vI p2]) (rest := []) (h1 := h17) my_yX3_putOut vw_X6_102 (by decide) (T_Ro_putOut (o := (F_St_text 3 p1)) (p1 := p2) (h := h10) (ko := (kd_St_text rfl)) (hF := e18)) (kd_St_text rfl) rfl rfl (Nat.le_of_ble_eq_true rfl) (by decide +kernel) ?_
                  refine hK.2.1 _ _ ([(4, vR (F_St_text 3 p1))]) _ _ (sub_of [3] rfl) ?_
                  exact j13 _ hF
                · have hF := ite_f hc16 hF
                  refine g_seg hK [.aload 4, .iload_n 2, .iload_n 3, .bipush 10, .isub] 130 137 (L1 := [(0, vR 0), (2, vI p2), (3, vI p3), (4, vR (F_St_text 3 p1)), (5, vI (F_X_isSign p3)), (6, vI (F_X_isSign (wr (p3 - 10))))]) (st1 := [vI (wr (p3 - 10)), vI p2, vR (F_St_text 3 p1)]) (h1 := h10) (P := True ∧ True ∧ True ∧ True ∧ True ∧ True) (by decide +kernel) rfl rfl ⟨trivial, trivial, trivial, trivial, trivial, trivial⟩ ?_
                  refine g_callV0 hK 137 99 (d1 := 0) (ci := 3) (i := F_St_text 3 p1) (vs := [vI p2, vI (wr (p3 - 10))]) (rest := []) (h1 := (F_Ro_change (F_St_text 3 p1) p2 (wr (p3 - 10)) h10)) my_yX3_change vw_X6_99 (by decide) (T_Ro_change (o := (F_St_text 3 p1)) (p1 := p2) (p2 := (wr (p3 - 10))) (h := h10) (ko := (kd_St_text rfl)) (hF := rfl)) (kd_St_text rfl) rfl rfl (Nat.le_of_ble_eq_true rfl) (by decide +kernel) ?_
                  refine g_goto hK 140 (9) 149 (by decide +kernel) (by decide) ?_
                  refine hK.2.1 _ _ ([(4, vR (F_St_text 3 p1))]) _ _ (sub_of [3] rfl) ?_
                  exact j13 _ hF
              · have hF := ite_f hc15 hF
                refine g_seg hK [.aload 4, .iload_n 2, .iload_n 3] 115 119 (L1 := [(0, vR 0), (2, vI p2), (3, vI p3), (4, vR (F_St_text 3 p1)), (5, vI (F_X_isSign p3)), (6, vI (F_X_isSign (wr (p3 - 10))))]) (st1 := [vI p3, vI p2, vR (F_St_text 3 p1)]) (h1 := h10) (P := True ∧ True ∧ True ∧ True) (by decide +kernel) rfl rfl ⟨trivial, trivial, trivial, trivial⟩ ?_
                obtain ⟨h19, e20, hF⟩ := ob1_elim hF
                refine g_callV0 hK 119 95 (d1 := 1) (ci := 3) (i := F_St_text 3 p1) (vs := [vI p2, vI p3]) (rest := []) (h1 := h19) my_yX3_putIn vw_X6_95 (by decide) (T_Ro_putIn (o := (F_St_text 3 p1)) (p1 := p2) (p2 := p3) (h := h10) (ko := (kd_St_text rfl)) (hF := e20)) (kd_St_text rfl) rfl rfl (Nat.le_of_ble_eq_true rfl) (by decide +kernel) ?_
                refine g_goto hK 122 (27) 149 (by decide +kernel) (by decide) ?_
                refine hK.2.1 _ _ ([(4, vR (F_St_text 3 p1))]) _ _ (sub_of [3] rfl) ?_
                exact j13 _ hF
            refine g_ifz hK 83 .eq (16) 99 (t1 := 99) (t2 := 86) (by decide +kernel) (by decide) rfl rfl (fun (hc22 : F_X_isSign p3 = 0) => ?_) (fun (hc22 : ¬ (F_X_isSign p3 = 0)) => ?_)
            · have hF := ite_t hc22 hF
              exact j9 _ hF
            · have hF := ite_f hc22 hF
              refine g_seg hK [.aload 4] 86 88 (L1 := [(0, vR 0), (2, vI p2), (3, vI p3), (4, vR (F_St_text 3 p1)), (5, vI (F_X_isSign p3)), (6, vI (F_X_isSign (wr (p3 - 10))))]) (st1 := [vR (F_St_text 3 p1)]) (h1 := h) (P := True ∧ True) (by decide +kernel) rfl rfl ⟨trivial, trivial⟩ ?_
              refine g_callV1 hK 88 63 (d1 := 0) (ci := 3) (i := F_St_text 3 p1) (vs := []) (rest := []) (h1 := h) (r := vI (F_Ro_size (F_St_text 3 p1) h)) my_yX3_size vw_X6_63 (by decide) (T_Ro_size (o := (F_St_text 3 p1)) (h := h) (ko := (kd_St_text rfl)) (hF := rfl)) (kd_St_text rfl) rfl rfl (Nat.le_of_ble_eq_true rfl) (by decide +kernel) ?_
              refine g_seg hK [.bipush 14] 91 93 (L1 := [(0, vR 0), (2, vI p2), (3, vI p3), (4, vR (F_St_text 3 p1)), (5, vI (F_X_isSign p3)), (6, vI (F_X_isSign (wr (p3 - 10))))]) (st1 := [vI 14, vI (F_Ro_size (F_St_text 3 p1) h)]) (h1 := h) (P := True ∧ True) (by decide +kernel) rfl rfl ⟨trivial, trivial⟩ ?_
              refine g_icmp hK 93 .lt (6) 99 (t1 := 99) (t2 := 96) (by decide +kernel) (by decide) rfl rfl (fun (hc23 : F_Ro_size (F_St_text 3 p1) h < 14) => ?_) (fun (hc23 : ¬ (F_Ro_size (F_St_text 3 p1) h < 14)) => ?_)
              · have hF := ite_t hc23 hF
                exact j9 _ hF
              · have hF := ite_f hc23 hF
                refine g_seg hK [.bipush (-3)] 96 98 (L1 := [(0, vR 0), (2, vI p2), (3, vI p3), (4, vR (F_St_text 3 p1)), (5, vI (F_X_isSign p3)), (6, vI (F_X_isSign (wr (p3 - 10))))]) (st1 := [vI (-3)]) (h1 := h) (P := True ∧ True) (by decide +kernel) rfl rfl ⟨trivial, trivial⟩ ?_
                cases hF
                exact hR.1 98 _ _ _ (by decide +kernel) rfl ⟨rfl, rfl⟩
          refine g_icmp hK 71 .ne (10) 81 (t1 := 74) (t2 := 81) (by decide +kernel) (by decide) rfl rfl (fun (hc25 : p2 = F_Ro_size (F_St_text 3 p1) h) => ?_) (fun (hc25 : ¬ (p2 = F_Ro_size (F_St_text 3 p1) h)) => ?_)
          · have hF := ite_t hc25 hF
            refine g_seg hK [.iload 5] 74 76 (L1 := [(0, vR 0), (2, vI p2), (3, vI p3), (4, vR (F_St_text 3 p1)), (5, vI (F_X_isSign p3)), (6, vI (F_X_isSign (wr (p3 - 10))))]) (st1 := [vI (F_X_isSign p3)]) (h1 := h) (P := True ∧ True) (by decide +kernel) rfl rfl ⟨trivial, trivial⟩ ?_
            refine g_ifz hK 76 .ne (5) 81 (t1 := 79) (t2 := 81) (by decide +kernel) (by decide) rfl rfl (fun (hc26 : F_X_isSign p3 = 0) => ?_) (fun (hc26 : ¬ (F_X_isSign p3 = 0)) => ?_)
            · have hF := ite_t hc26 hF
              refine g_seg hK [.iconst (-1)] 79 80 (L1 := [(0, vR 0), (2, vI p2), (3, vI p3), (4, vR (F_St_text 3 p1)), (5, vI (F_X_isSign p3)), (6, vI (F_X_isSign (wr (p3 - 10))))]) (st1 := [vI (-1)]) (h1 := h) (P := True ∧ True) (by decide +kernel) rfl rfl ⟨trivial, trivial⟩ ?_
              cases hF
              exact hR.1 80 _ _ _ (by decide +kernel) rfl ⟨rfl, rfl⟩
            · have hF := ite_f hc26 hF
              exact j7 _ hF
          · have hF := ite_f hc25 hF
            exact j7 _ hF
        · have hF := ite_f hc5 hF
          refine g_seg hK [.iconst (-1)] 79 80 (L1 := [(0, vR 0), (2, vI p2), (3, vI p3), (4, vR (F_St_text 3 p1)), (5, vI (F_X_isSign p3)), (6, vI (F_X_isSign (wr (p3 - 10))))]) (st1 := [vI (-1)]) (h1 := h) (P := True ∧ True) (by decide +kernel) rfl rfl ⟨trivial, trivial⟩ ?_
          cases hF
          exact hR.1 80 _ _ _ (by decide +kernel) rfl ⟨rfl, rfl⟩
    refine g_ifz hK 36 .ne (16) 52 (t1 := 39) (t2 := 52) (by decide +kernel) (by decide) rfl rfl (fun (hc28 : F_X_isSign p3 = 0) => ?_) (fun (hc28 : ¬ (F_X_isSign p3 = 0)) => ?_)
    · have hF := ite_t hc28 hF
      refine g_seg hK [.iload 6] 39 41 (L1 := [(6, vI (F_X_isSign (wr (p3 - 10)))), (5, vI (F_X_isSign p3)), (4, vR (F_St_text 3 p1)), (0, vR 0), (1, vI p1), (2, vI p2), (3, vI p3)]) (st1 := [vI (F_X_isSign (wr (p3 - 10)))]) (h1 := h) (P := True ∧ True) (by decide +kernel) rfl rfl ⟨trivial, trivial⟩ ?_
      refine g_ifz hK 41 .ne (11) 52 (t1 := 44) (t2 := 52) (by decide +kernel) (by decide) rfl rfl (fun (hc29 : F_X_isSign (wr (p3 - 10)) = 0) => ?_) (fun (hc29 : ¬ (F_X_isSign (wr (p3 - 10)) = 0)) => ?_)
      · have hF := ite_t hc29 hF
        refine g_seg hK [.iload_n 3, .bipush 20] 44 47 (L1 := [(6, vI (F_X_isSign (wr (p3 - 10)))), (5, vI (F_X_isSign p3)), (4, vR (F_St_text 3 p1)), (0, vR 0), (1, vI p1), (2, vI p2), (3, vI p3)]) (st1 := [vI 20, vI p3]) (h1 := h) (P := True ∧ True ∧ True) (by decide +kernel) rfl rfl ⟨trivial, trivial, trivial⟩ ?_
        refine g_icmp hK 47 .eq (5) 52 (t1 := 52) (t2 := 50) (by decide +kernel) (by decide) rfl rfl (fun (hc30 : p3 = 20) => ?_) (fun (hc30 : ¬ (p3 = 20)) => ?_)
        · have hF := ite_t hc30 hF
          refine hK.2.1 _ _ ([(0, vR 0), (2, vI p2), (3, vI p3), (4, vR (F_St_text 3 p1)), (5, vI (F_X_isSign p3)), (6, vI (F_X_isSign (wr (p3 - 10))))]) _ _ (sub_of [3, 5, 6, 2, 1, 0] rfl) ?_
          exact j3 _ hF
        · have hF := ite_f hc30 hF
          refine g_seg hK [.iconst (-1)] 50 51 (L1 := [(6, vI (F_X_isSign (wr (p3 - 10)))), (5, vI (F_X_isSign p3)), (4, vR (F_St_text 3 p1)), (0, vR 0), (1, vI p1), (2, vI p2), (3, vI p3)]) (st1 := [vI (-1)]) (h1 := h) (P := True ∧ True) (by decide +kernel) rfl rfl ⟨trivial, trivial⟩ ?_
          cases hF
          exact hR.1 51 _ _ _ (by decide +kernel) rfl ⟨rfl, rfl⟩
      · have hF := ite_f hc29 hF
        refine hK.2.1 _ _ ([(0, vR 0), (2, vI p2), (3, vI p3), (4, vR (F_St_text 3 p1)), (5, vI (F_X_isSign p3)), (6, vI (F_X_isSign (wr (p3 - 10))))]) _ _ (sub_of [3, 5, 6, 2, 1, 0] rfl) ?_
        exact j3 _ hF
    · have hF := ite_f hc28 hF
      refine hK.2.1 _ _ ([(0, vR 0), (2, vI p2), (3, vI p3), (4, vR (F_St_text 3 p1)), (5, vI (F_X_isSign p3)), (6, vI (F_X_isSign (wr (p3 - 10))))]) _ _ (sub_of [3, 5, 6, 2, 1, 0] rfl) ?_
      exact j3 _ hF
set_option maxHeartbeats 4000000 in
set_option maxRecDepth 100000 in
theorem LT_Ro_becomeZeros_L6 {K : KT} (hK : Rules RX3 cX3_becomeZeros 3 none flX3 1 K) {x0 : Nat} {x1 : Int} (kx0 : kd x0 = 5) : ∀ (n : Nat) (x2 : Int) (h : MH) (x2' : Int) (h' : MH), F_Ro_becomeZeros_L6 x0 x1 n x2 h = some (x2', h') → K 22 [(0, vR x0), (1, vI x1), (2, vI x2')] [] h' → K 6 [(0, vR x0), (1, vI x1), (2, vI x2)] [] h := by
  intro n
  induction n with
  | zero =>
    intro x2 h x2' h' hF
    cases hF
  | succ n ih =>
    intro x2 h x2' h' hF hE
    unfold F_Ro_becomeZeros_L6 at hF
    refine g_seg hK [.iload_n 2, .iload_n 1] 6 8 (L1 := [(0, vR x0), (1, vI x1), (2, vI x2)]) (st1 := [vI x1, vI x2]) (h1 := h) (P := True ∧ True ∧ True) (by decide +kernel) rfl rfl ⟨trivial, trivial, trivial⟩ ?_
    refine g_icmp hK 8 .ge (14) 22 (t1 := 11) (t2 := 22) (by decide +kernel) (by decide) rfl rfl (fun (hc1 : x2 < x1) => ?_) (fun (hc1 : ¬ (x2 < x1)) => ?_)
    · have hF := ite_t hc1 hF
      refine g_seg hK [.aload_n 0, .iconst 0] 11 13 (L1 := [(0, vR x0), (1, vI x1), (2, vI x2)]) (st1 := [vI 0, vR x0]) (h1 := h) (P := True ∧ True ∧ True) (by decide +kernel) rfl rfl ⟨trivial, trivial, trivial⟩ ?_
      refine g_callV0 hK 13 31 (d1 := 0) (ci := 3) (i := x0) (vs := [vI 0]) (rest := []) (h1 := (F_Ro_add x0 0 h)) my_yX3_add vw_X3_31 (by decide) (T_Ro_add (o := x0) (p1 := 0) (h := h) (ko := kx0) (hF := rfl)) kx0 rfl rfl (Nat.le_of_ble_eq_true rfl) (by decide +kernel) ?_
      refine g_seg hK [.iinc 2 1] 16 19 (L1 := [(2, vI (wr (x2 + 1))), (0, vR x0), (1, vI x1)]) (st1 := []) (h1 := (F_Ro_add x0 0 h)) (P := True ∧ True) (by decide +kernel) rfl rfl ⟨trivial, trivial⟩ ?_
      refine g_goto hK 19 (-13) 6 (by decide +kernel) (by decide) ?_
      refine hK.2.1 _ _ ([(0, vR x0), (1, vI x1), (2, vI (wr (x2 + 1)))]) _ _ (sub_of [1, 2, 0] rfl) ?_
      exact ih _ _ _ _ hF hE
    · have hF := ite_f hc1 hF
      cases hF
      exact hE
set_option maxHeartbeats 4000000 in
set_option maxRecDepth 100000 in
theorem T_Ro_becomeZeros {o : Nat} {p1 : Int} {h : MH} {h' : MH} (ko : kd o = 5) (hF : F_Ro_becomeZeros o p1 h = some h') : CON 1 yX3_becomeZeros cX3_becomeZeros 3 none [vR o, vI p1] h none h' := by
  refine con_of (own := RX3) (fl := flX3) (by decide +kernel) rfl flok_X3 rfl (Nat.le_of_ble_eq_true rfl) ?_
  intro K hK hR
  show K 0 [(0, vR o), (1, vI p1)] [] h
  unfold F_Ro_becomeZeros at hF
  refine g_seg hK [.aload_n 0] 0 1 (L1 := [(0, vR o), (1, vI p1)]) (st1 := [vR o]) (h1 := h) (P := True ∧ True) (by decide +kernel) rfl rfl ⟨trivial, trivial⟩ ?_
  refine g_callV0 hK 1 25 (d1 := 0) (ci := 3) (i := o) (vs := []) (rest := []) (h1 := (F_Ro_emptyOut o h)) my_yX3_emptyOut vw_X3_25 (by decide) (T_Ro_emptyOut (o := o) (h := h) (ko := ko) (hF := rfl)) ko rfl rfl (Nat.le_of_ble_eq_true rfl) (by decide +kernel) ?_
  refine g_seg hK [.iconst 0, .istore_n 2] 4 6 (L1 := [(2, vI 0), (0, vR o), (1, vI p1)]) (st1 := []) (h1 := (F_Ro_emptyOut o h)) (P := True ∧ True ∧ True) (by decide +kernel) rfl rfl ⟨trivial, trivial, trivial⟩ ?_
  refine hK.2.1 _ _ ([(0, vR o), (1, vI p1), (2, vI 0)]) _ _ (sub_of [1, 2, 0] rfl) ?_
  obtain ⟨x2_1, h2, e3, hF⟩ := ob2_elim hF
  refine LT_Ro_becomeZeros_L6 hK (kx0 := ko) _ _ _ _ _ e3 ?_
  cases hF
  exact hR.2.2.2.2 22 _ _ (by decide +kernel) rfl ⟨rfl, rfl⟩
set_option maxHeartbeats 4000000 in
set_option maxRecDepth 100000 in
theorem T_C_keptFrom {p1 : Int} {p2 : Int} {h : MH} {r : Int} (hF : F_C_keptFrom p1 p2 h = r) : CON 1 yX0_keptFrom cX0_keptFrom 3 (Option.some Jvm.ClassFile.FieldType.int) [vR 49, vI p1, vI p2] h (some (vI r)) h := by
  refine con_of (own := RX0) (fl := flX0) (by decide +kernel) rfl flok_X0 rfl (Nat.le_of_ble_eq_true rfl) ?_
  intro K hK hR
  show K 0 [(0, vR 49), (1, vI p1), (2, vI p2)] [] h
  unfold F_C_keptFrom at hF
  refine g_seg hK [.aload_n 0, .getfield 16, .iload_n 1, .bipush 15, .imul, .iload_n 2, .iadd] 0 10 (L1 := [(0, vR 49), (1, vI p1), (2, vI p2)]) (st1 := [vI (wr ((wr (p1 * 15)) + p2)), vR 50]) (h1 := h) (P := True ∧ kd 49 = 2 ∧ True ∧ True ∧ True ∧ True ∧ True ∧ True) (by decide +kernel) rfl rfl ⟨trivial, rfl, trivial, trivial, trivial, trivial, trivial, trivial⟩ ?_
  refine g_callV1 hK 10 30 (d1 := 0) (ci := 3) (i := 50) (vs := [vI (wr ((wr (p1 * 15)) + p2))]) (rest := []) (h1 := h) (r := vI (F_Ro_at 50 (wr ((wr (p1 * 15)) + p2)) h)) my_yX3_at vw_X0_30 (by decide) (T_Ro_at (o := 50) (p1 := (wr ((wr (p1 * 15)) + p2))) (h := h) (ko := rfl) (hF := rfl)) rfl rfl rfl (Nat.le_of_ble_eq_true rfl) (by decide +kernel) ?_
  cases hF
  exact hR.1 13 _ _ _ (by decide +kernel) rfl ⟨rfl, rfl⟩
set_option maxHeartbeats 4000000 in
set_option maxRecDepth 100000 in
theorem LT_C_compare_L29 {K : KT} (hK : Rules RX0 cX0_compare 6 none flX0 2 K) {x1 : Nat} {x2 : Nat} {x3 : Int} (kx1 : kd x1 = 5) (kx2 : kd x2 = 5) : ∀ (n : Nat) (x4 : Int) (h : MH) (x4' : Int) (h' : MH), F_C_compare_L29 x1 x2 x3 n x4 h = some (x4', h') → K 109 [(0, vR 49), (1, vR x1), (2, vR x2), (3, vI x3), (4, vI x4')] [] h' → K 29 [(0, vR 49), (1, vR x1), (2, vR x2), (3, vI x3), (4, vI x4)] [] h := by
  intro n
  induction n with
  | zero =>
    intro x4 h x4' h' hF
    cases hF
  | succ n ih =>
    intro x4 h x4' h' hF hE
    unfold F_C_compare_L29 at hF
    refine g_seg hK [.iload 4] 29 31 (L1 := [(0, vR 49), (1, vR x1), (2, vR x2), (3, vI x3), (4, vI x4)]) (st1 := [vI x4]) (h1 := h) (P := True ∧ True) (by decide +kernel) rfl rfl ⟨trivial, trivial⟩ ?_
    refine g_ifz hK 31 .lt (78) 109 (t1 := 109) (t2 := 34) (by decide +kernel) (by decide) rfl rfl (fun (hc1 : x4 < 0) => ?_) (fun (hc1 : ¬ (x4 < 0)) => ?_)
    · have hF := ite_t hc1 hF
      cases hF
      exact hE
    · have hF := ite_f hc1 hF
      refine g_seg hK [.aload_n 1, .iload_n 3] 34 36 (L1 := [(0, vR 49), (1, vR x1), (2, vR x2), (3, vI x3), (4, vI x4)]) (st1 := [vI x3, vR x1]) (h1 := h) (P := True ∧ True ∧ True) (by decide +kernel) rfl rfl ⟨trivial, trivial, trivial⟩ ?_
      refine g_callV1 hK 36 30 (d1 := 0) (ci := 3) (i := x1) (vs := [vI x3]) (rest := []) (h1 := h) (r := vI (F_Ro_at x1 x3 h)) my_yX3_at vw_X0_30 (by decide) (T_Ro_at (o := x1) (p1 := x3) (h := h) (ko := kx1) (hF := rfl)) kx1 rfl rfl (Nat.le_of_ble_eq_true rfl) (by decide +kernel) ?_
      refine g_seg hK [.aload_n 2, .iload 4] 39 42 (L1 := [(0, vR 49), (1, vR x1), (2, vR x2), (3, vI x3), (4, vI x4)]) (st1 := [vI x4, vR x2, vI (F_Ro_at x1 x3 h)]) (h1 := h) (P := True ∧ True ∧ True) (by decide +kernel) rfl rfl ⟨trivial, trivial, trivial⟩ ?_
      refine g_callV1 hK 42 30 (d1 := 0) (ci := 3) (i := x2) (vs := [vI x4]) (rest := [vI (F_Ro_at x1 x3 h)]) (h1 := h) (r := vI (F_Ro_at x2 x4 h)) my_yX3_at vw_X0_30 (by decide) (T_Ro_at (o := x2) (p1 := x4) (h := h) (ko := kx2) (hF := rfl)) kx2 rfl rfl (Nat.le_of_ble_eq_true rfl) (by decide +kernel) ?_
      obtain ⟨s2, e5, hF⟩ := jn1_elim hF
      have j3 : K 85 [(0, vR 49), (1, vR x1), (2, vR x2), (3, vI x3), (4, vI x4)] [vI s2] h := by
        refine g_seg hK [.istore 5, .aload_n 0, .getfield 16, .iload_n 3, .bipush 15, .imul, .iload 4, .iadd, .iload 5] 85 100 (L1 := [(5, vI s2), (0, vR 49), (1, vR x1), (2, vR x2), (3, vI x3), (4, vI x4)]) (st1 := [vI s2, vI (wr ((wr (x3 * 15)) + x4)), vR 50]) (h1 := h) (P := True ∧ True ∧ kd 49 = 2 ∧ True ∧ True ∧ True ∧ True ∧ True ∧ True ∧ True) (by decide +kernel) rfl rfl ⟨trivial, trivial, rfl, trivial, trivial, trivial, trivial, trivial, trivial, trivial⟩ ?_
        refine g_callV0 hK 100 43 (d1 := 0) (ci := 3) (i := 50) (vs := [vI (wr ((wr (x3 * 15)) + x4)), vI s2]) (rest := []) (h1 := (F_Ro_change 50 (wr ((wr (x3 * 15)) + x4)) s2 h)) my_yX3_change vw_X0_43 (by decide) (T_Ro_change (o := 50) (p1 := (wr ((wr (x3 * 15)) + x4))) (p2 := s2) (h := h) (ko := rfl) (hF := rfl)) rfl rfl rfl (Nat.le_of_ble_eq_true rfl) (by decide +kernel) ?_
        refine g_seg hK [.iinc 4 (-1)] 103 106 (L1 := [(4, vI (wr (x4 + (-1)))), (5, vI s2), (0, vR 49), (1, vR x1), (2, vR x2), (3, vI x3)]) (st1 := []) (h1 := (F_Ro_change 50 (wr ((wr (x3 * 15)) + x4)) s2 h)) (P := True ∧ True) (by decide +kernel) rfl rfl ⟨trivial, trivial⟩ ?_
        refine g_goto hK 106 (-77) 29 (by decide +kernel) (by decide) ?_
        refine hK.2.1 _ _ ([(0, vR 49), (1, vR x1), (2, vR x2), (3, vI x3), (4, vI (wr (x4 + (-1))))]) _ _ (sub_of [2, 3, 4, 5, 0] rfl) ?_
        exact ih _ _ _ _ hF hE
      clear hF
      have hF := e5
      refine g_icmp hK 45 .ne (19) 64 (t1 := 48) (t2 := 64) (by decide +kernel) (by decide) rfl rfl (fun (hc4 : F_Ro_at x1 x3 h = F_Ro_at x2 x4 h) => ?_) (fun (hc4 : ¬ (F_Ro_at x1 x3 h = F_Ro_at x2 x4 h)) => ?_)
      · have hF := ite_t hc4 hF
        refine g_seg hK [.aload_n 0, .iload_n 3, .iconst 1, .iadd, .iload 4, .iconst 1, .iadd] 48 56 (L1 := [(0, vR 49), (1, vR x1), (2, vR x2), (3, vI x3), (4, vI x4)]) (st1 := [vI (wr (x4 + 1)), vI (wr (x3 + 1)), vR 49]) (h1 := h) (P := True ∧ True ∧ True ∧ True ∧ True ∧ True ∧ True ∧ True) (by decide +kernel) rfl rfl ⟨trivial, trivial, trivial, trivial, trivial, trivial, trivial, trivial⟩ ?_
        refine g_callV1 hK 56 34 (d1 := 1) (ci := 0) (i := 49) (vs := [vI (wr (x3 + 1)), vI (wr (x4 + 1))]) (rest := []) (h1 := h) (r := vI (F_C_keptFrom (wr (x3 + 1)) (wr (x4 + 1)) h)) my_yX0_keptFrom vw_X0_34 (by decide) (T_C_keptFrom (p1 := (wr (x3 + 1))) (p2 := (wr (x4 + 1))) (h := h) (hF := rfl)) rfl rfl rfl (Nat.le_of_ble_eq_true rfl) (by decide +kernel) ?_
        refine g_seg hK [.iconst 1, .iadd] 59 61 (L1 := [(0, vR 49), (1, vR x1), (2, vR x2), (3, vI x3), (4, vI x4)]) (st1 := [vI (wr ((F_C_keptFrom (wr (x3 + 1)) (wr (x4 + 1)) h) + 1))]) (h1 := h) (P := True ∧ True ∧ True) (by decide +kernel) rfl rfl ⟨trivial, trivial, trivial⟩ ?_
        refine g_goto hK 61 (24) 85 (by decide +kernel) (by decide) ?_
        cases hF
        exact j3
      · have hF := ite_f hc4 hF
        refine g_seg hK [.aload_n 0, .iload_n 3, .iconst 1, .iadd, .iload 4] 64 70 (L1 := [(0, vR 49), (1, vR x1), (2, vR x2), (3, vI x3), (4, vI x4)]) (st1 := [vI x4, vI (wr (x3 + 1)), vR 49]) (h1 := h) (P := True ∧ True ∧ True ∧ True ∧ True ∧ True) (by decide +kernel) rfl rfl ⟨trivial, trivial, trivial, trivial, trivial, trivial⟩ ?_
        refine g_callV1 hK 70 34 (d1 := 1) (ci := 0) (i := 49) (vs := [vI (wr (x3 + 1)), vI x4]) (rest := []) (h1 := h) (r := vI (F_C_keptFrom (wr (x3 + 1)) x4 h)) my_yX0_keptFrom vw_X0_34 (by decide) (T_C_keptFrom (p1 := (wr (x3 + 1))) (p2 := x4) (h := h) (hF := rfl)) rfl rfl rfl (Nat.le_of_ble_eq_true rfl) (by decide +kernel) ?_
        refine g_seg hK [.aload_n 0, .iload_n 3, .iload 4, .iconst 1, .iadd] 73 79 (L1 := [(0, vR 49), (1, vR x1), (2, vR x2), (3, vI x3), (4, vI x4)]) (st1 := [vI (wr (x4 + 1)), vI x3, vR 49, vI (F_C_keptFrom (wr (x3 + 1)) x4 h)]) (h1 := h) (P := True ∧ True ∧ True ∧ True ∧ True ∧ True) (by decide +kernel) rfl rfl ⟨trivial, trivial, trivial, trivial, trivial, trivial⟩ ?_
        refine g_callV1 hK 79 34 (d1 := 1) (ci := 0) (i := 49) (vs := [vI x3, vI (wr (x4 + 1))]) (rest := [vI (F_C_keptFrom (wr (x3 + 1)) x4 h)]) (h1 := h) (r := vI (F_C_keptFrom x3 (wr (x4 + 1)) h)) my_yX0_keptFrom vw_X0_34 (by decide) (T_C_keptFrom (p1 := x3) (p2 := (wr (x4 + 1))) (h := h) (hF := rfl)) rfl rfl rfl (Nat.le_of_ble_eq_true rfl) (by decide +kernel) ?_
        refine g_mmax hK 82 38 (by decide) mw_X0_38 (Nat.le_of_ble_eq_true rfl) (by decide +kernel) ?_
        cases hF
        exact j3
set_option maxHeartbeats 4000000 in
set_option maxRecDepth 100000 in
theorem LT_C_compare_L17 {K : KT} (hK : Rules RX0 cX0_compare 6 none flX0 2 K) {x1 : Nat} {x2 : Nat} (kx1 : kd x1 = 5) (kx2 : kd x2 = 5) : ∀ (n : Nat) (x3 : Int) (h : MH) (x3' : Int) (h' : MH), F_C_compare_L17 x1 x2 n x3 h = some (x3', h') → K 115 [(0, vR 49), (1, vR x1), (2, vR x2), (3, vI x3')] [] h' → K 17 [(0, vR 49), (1, vR x1), (2, vR x2), (3, vI x3)] [] h := by
  intro n
  induction n with
  | zero =>
    intro x3 h x3' h' hF
    cases hF
  | succ n ih =>
    intro x3 h x3' h' hF hE
    unfold F_C_compare_L17 at hF
    refine g_seg hK [.iload_n 3] 17 18 (L1 := [(0, vR 49), (1, vR x1), (2, vR x2), (3, vI x3)]) (st1 := [vI x3]) (h1 := h) (P := True ∧ True) (by decide +kernel) rfl rfl ⟨trivial, trivial⟩ ?_
    refine g_ifz hK 18 .lt (97) 115 (t1 := 115) (t2 := 21) (by decide +kernel) (by decide) rfl rfl (fun (hc1 : x3 < 0) => ?_) (fun (hc1 : ¬ (x3 < 0)) => ?_)
    · have hF := ite_t hc1 hF
      cases hF
      exact hE
    · have hF := ite_f hc1 hF
      refine g_seg hK [.aload_n 2] 21 22 (L1 := [(0, vR 49), (1, vR x1), (2, vR x2), (3, vI x3)]) (st1 := [vR x2]) (h1 := h) (P := True ∧ True) (by decide +kernel) rfl rfl ⟨trivial, trivial⟩ ?_
      refine g_callV1 hK 22 26 (d1 := 0) (ci := 3) (i := x2) (vs := []) (rest := []) (h1 := h) (r := vI (F_Ro_size x2 h)) my_yX3_size vw_X0_26 (by decide) (T_Ro_size (o := x2) (h := h) (ko := kx2) (hF := rfl)) kx2 rfl rfl (Nat.le_of_ble_eq_true rfl) (by decide +kernel) ?_
      refine g_seg hK [.iconst 1, .isub, .istore 4] 25 29 (L1 := [(4, vI (wr ((F_Ro_size x2 h) - 1))), (0, vR 49), (1, vR x1), (2, vR x2), (3, vI x3)]) (st1 := []) (h1 := h) (P := True ∧ True ∧ True ∧ True) (by decide +kernel) rfl rfl ⟨trivial, trivial, trivial, trivial⟩ ?_
      refine hK.2.1 _ _ ([(0, vR 49), (1, vR x1), (2, vR x2), (3, vI x3), (4, vI (wr ((F_Ro_size x2 h) - 1)))]) _ _ (sub_of [1, 2, 3, 4, 0] rfl) ?_
      obtain ⟨x4_2, h3, e4, hF⟩ := ob2_elim hF
      refine LT_C_compare_L29 hK (kx1 := kx1) (kx2 := kx2) _ _ _ _ _ e4 ?_
      refine g_seg hK [.iinc 3 (-1)] 109 112 (L1 := [(3, vI (wr (x3 + (-1)))), (0, vR 49), (1, vR x1), (2, vR x2), (4, vI x4_2)]) (st1 := []) (h1 := h3) (P := True ∧ True) (by decide +kernel) rfl rfl ⟨trivial, trivial⟩ ?_
      refine g_goto hK 112 (-95) 17 (by decide +kernel) (by decide) ?_
      refine hK.2.1 _ _ ([(0, vR 49), (1, vR x1), (2, vR x2), (3, vI (wr (x3 + (-1))))]) _ _ (sub_of [1, 2, 3, 0] rfl) ?_
      exact ih _ _ _ _ hF hE
set_option maxHeartbeats 4000000 in
set_option maxRecDepth 100000 in
theorem T_C_compare {p1 : Nat} {p2 : Nat} {h : MH} {h' : MH} (kp1 : kd p1 = 5) (kp2 : kd p2 = 5) (hF : F_C_compare p1 p2 h = some h') : CON 2 yX0_compare cX0_compare 6 none [vR 49, vR p1, vR p2] h none h' := by
  refine con_of (own := RX0) (fl := flX0) (by decide +kernel) rfl flok_X0 rfl (Nat.le_of_ble_eq_true rfl) ?_
  intro K hK hR
  show K 0 [(0, vR 49), (1, vR p1), (2, vR p2)] [] h
  unfold F_C_compare at hF
  refine g_seg hK [.aload_n 0, .getfield 16, .sipush 225] 0 7 (L1 := [(0, vR 49), (1, vR p1), (2, vR p2)]) (st1 := [vI 225, vR 50]) (h1 := h) (P := True ∧ kd 49 = 2 ∧ True ∧ True) (by decide +kernel) rfl rfl ⟨trivial, rfl, trivial, trivial⟩ ?_
  obtain ⟨h1, e2, hF⟩ := ob1_elim hF
  refine g_callV0 hK 7 23 (d1 := 1) (ci := 3) (i := 50) (vs := [vI 225]) (rest := []) (h1 := h1) my_yX3_becomeZeros vw_X0_23 (by decide) (T_Ro_becomeZeros (o := 50) (p1 := 225) (h := h) (ko := rfl) (hF := e2)) rfl rfl rfl (Nat.le_of_ble_eq_true rfl) (by decide +kernel) ?_
  refine g_seg hK [.aload_n 1] 10 11 (L1 := [(0, vR 49), (1, vR p1), (2, vR p2)]) (st1 := [vR p1]) (h1 := h1) (P := True ∧ True) (by decide +kernel) rfl rfl ⟨trivial, trivial⟩ ?_
  refine g_callV1 hK 11 26 (d1 := 0) (ci := 3) (i := p1) (vs := []) (rest := []) (h1 := h1) (r := vI (F_Ro_size p1 h1)) my_yX3_size vw_X0_26 (by decide) (T_Ro_size (o := p1) (h := h1) (ko := kp1) (hF := rfl)) kp1 rfl rfl (Nat.le_of_ble_eq_true rfl) (by decide +kernel) ?_
  refine g_seg hK [.iconst 1, .isub, .istore_n 3] 14 17 (L1 := [(3, vI (wr ((F_Ro_size p1 h1) - 1))), (0, vR 49), (1, vR p1), (2, vR p2)]) (st1 := []) (h1 := h1) (P := True ∧ True ∧ True ∧ True) (by decide +kernel) rfl rfl ⟨trivial, trivial, trivial, trivial⟩ ?_
  refine hK.2.1 _ _ ([(0, vR 49), (1, vR p1), (2, vR p2), (3, vI (wr ((F_Ro_size p1 h1) - 1)))]) _ _ (sub_of [1, 2, 3, 0] rfl) ?_
  obtain ⟨x3_3, h4, e5, hF⟩ := ob2_elim hF
  refine LT_C_compare_L17 hK (kx1 := kp1) (kx2 := kp2) _ _ _ _ _ e5 ?_
  cases hF
  exact hR.2.2.2.2 115 _ _ (by decide +kernel) rfl ⟨rfl, rfl⟩
set_option maxHeartbeats 4000000 in
set_option maxRecDepth 100000 in
theorem T_C_keptOf {p1 : Nat} {p2 : Nat} {h : MH} {r : Int} {h' : MH} (kp1 : kd p1 = 5) (kp2 : kd p2 = 5) (hF : F_C_keptOf p1 p2 h = some (r, h')) : CON 3 yX0_keptOf cX0_keptOf 3 (Option.some Jvm.ClassFile.FieldType.int) [vR 49, vR p1, vR p2] h (some (vI r)) h' := by
  refine con_of (own := RX0) (fl := flX0) (by decide +kernel) rfl flok_X0 rfl (Nat.le_of_ble_eq_true rfl) ?_
  intro K hK hR
  show K 0 [(0, vR 49), (1, vR p1), (2, vR p2)] [] h
  unfold F_C_keptOf at hF
  refine g_seg hK [.aload_n 0, .aload_n 1, .aload_n 2] 0 3 (L1 := [(0, vR 49), (1, vR p1), (2, vR p2)]) (st1 := [vR p2, vR p1, vR 49]) (h1 := h) (P := True ∧ True ∧ True ∧ True) (by decide +kernel) rfl rfl ⟨trivial, trivial, trivial, trivial⟩ ?_
  obtain ⟨h1, e2, hF⟩ := ob1_elim hF
  refine g_callV0 hK 3 49 (d1 := 2) (ci := 0) (i := 49) (vs := [vR p1, vR p2]) (rest := []) (h1 := h1) my_yX0_compare vw_X0_49 (by decide) (T_C_compare (p1 := p1) (p2 := p2) (h := h) (kp1 := kp1) (kp2 := kp2) (hF := e2)) rfl rfl rfl (Nat.le_of_ble_eq_true rfl) (by decide +kernel) ?_
  refine g_seg hK [.aload_n 0, .iconst 0, .iconst 0] 6 9 (L1 := [(0, vR 49), (1, vR p1), (2, vR p2)]) (st1 := [vI 0, vI 0, vR 49]) (h1 := h1) (P := True ∧ True ∧ True ∧ True) (by decide +kernel) rfl rfl ⟨trivial, trivial, trivial, trivial⟩ ?_
  refine g_callV1 hK 9 34 (d1 := 1) (ci := 0) (i := 49) (vs := [vI 0, vI 0]) (rest := []) (h1 := h1) (r := vI (F_C_keptFrom 0 0 h1)) my_yX0_keptFrom vw_X0_34 (by decide) (T_C_keptFrom (p1 := 0) (p2 := 0) (h := h1) (hF := rfl)) rfl rfl rfl (Nat.le_of_ble_eq_true rfl) (by decide +kernel) ?_
  cases hF
  exact hR.1 12 _ _ _ (by decide +kernel) rfl ⟨rfl, rfl⟩
set_option maxHeartbeats 4000000 in
set_option maxRecDepth 100000 in
theorem T_C_apart {p1 : Nat} {p2 : Nat} {h : MH} {r : Int} {h' : MH} (kp1 : kd p1 = 5) (kp2 : kd p2 = 5) (hF : F_C_apart p1 p2 h = some (r, h')) : CON 4 yX0_apart cX0_apart 3 (Option.some Jvm.ClassFile.FieldType.int) [vR 49, vR p1, vR p2] h (some (vI r)) h' := by
  refine con_of (own := RX0) (fl := flX0) (by decide +kernel) rfl flok_X0 rfl (Nat.le_of_ble_eq_true rfl) ?_
  intro K hK hR
  show K 0 [(0, vR 49), (1, vR p1), (2, vR p2)] [] h
  unfold F_C_apart at hF
  refine g_seg hK [.aload_n 1] 0 1 (L1 := [(0, vR 49), (1, vR p1), (2, vR p2)]) (st1 := [vR p1]) (h1 := h) (P := True ∧ True) (by decide +kernel) rfl rfl ⟨trivial, trivial⟩ ?_
  refine g_callV1 hK 1 26 (d1 := 0) (ci := 3) (i := p1) (vs := []) (rest := []) (h1 := h) (r := vI (F_Ro_size p1 h)) my_yX3_size vw_X0_26 (by decide) (T_Ro_size (o := p1) (h := h) (ko := kp1) (hF := rfl)) kp1 rfl rfl (Nat.le_of_ble_eq_true rfl) (by decide +kernel) ?_
  refine g_seg hK [.aload_n 2] 4 5 (L1 := [(0, vR 49), (1, vR p1), (2, vR p2)]) (st1 := [vR p2, vI (F_Ro_size p1 h)]) (h1 := h) (P := True ∧ True) (by decide +kernel) rfl rfl ⟨trivial, trivial⟩ ?_
  refine g_callV1 hK 5 26 (d1 := 0) (ci := 3) (i := p2) (vs := []) (rest := [vI (F_Ro_size p1 h)]) (h1 := h) (r := vI (F_Ro_size p2 h)) my_yX3_size vw_X0_26 (by decide) (T_Ro_size (o := p2) (h := h) (ko := kp2) (hF := rfl)) kp2 rfl rfl (Nat.le_of_ble_eq_true rfl) (by decide +kernel) ?_
  refine g_seg hK [.iadd, .iconst 2, .aload_n 0, .aload_n 1, .aload_n 2] 8 13 (L1 := [(0, vR 49), (1, vR p1), (2, vR p2)]) (st1 := [vR p2, vR p1, vR 49, vI 2, vI (wr ((F_Ro_size p1 h) + (F_Ro_size p2 h)))]) (h1 := h) (P := True ∧ True ∧ True ∧ True ∧ True ∧ True) (by decide +kernel) rfl rfl ⟨trivial, trivial, trivial, trivial, trivial, trivial⟩ ?_
  obtain ⟨r1, h2, e3, hF⟩ := ob2_elim hF
  refine g_callV1 hK 13 53 (d1 := 3) (ci := 0) (i := 49) (vs := [vR p1, vR p2]) (rest := [vI 2, vI (wr ((F_Ro_size p1 h) + (F_Ro_size p2 h)))]) (h1 := h2) (r := vI r1) my_yX0_keptOf vw_X0_53 (by decide) (T_C_keptOf (p1 := p1) (p2 := p2) (h := h) (kp1 := kp1) (kp2 := kp2) (hF := e3)) rfl rfl rfl (Nat.le_of_ble_eq_true rfl) (by decide +kernel) ?_
  refine g_seg hK [.imul, .isub] 16 18 (L1 := [(0, vR 49), (1, vR p1), (2, vR p2)]) (st1 := [vI (wr ((wr ((F_Ro_size p1 h) + (F_Ro_size p2 h))) - (wr (2 * r1))))]) (h1 := h2) (P := True ∧ True ∧ True) (by decide +kernel) rfl rfl ⟨trivial, trivial, trivial⟩ ?_
  cases hF
  exact hR.1 18 _ _ _ (by decide +kernel) rfl ⟨rfl, rfl⟩
set_option maxHeartbeats 4000000 in
set_option maxRecDepth 100000 in
theorem T_X_distanceNow {h : MH} {r : Int} {h' : MH} (hF : F_X_distanceNow h = some (r, h')) : CON 5 yX6_distanceNow cX6_distanceNow 1 (Option.some Jvm.ClassFile.FieldType.int) [vR 0] h (some (vI r)) h' := by
  refine con_of (own := RX6) (fl := flX6) (by decide +kernel) rfl flok_X6 rfl (Nat.le_of_ble_eq_true rfl) ?_
  intro K hK hR
  show K 0 [(0, vR 0)] [] h
  unfold F_X_distanceNow at hF
  refine g_seg hK [.aload_n 0, .getfield 45, .aload_n 0, .getfield 21, .iconst 0] 0 9 (L1 := [(0, vR 0)]) (st1 := [vI 0, vR 3, vR 49]) (h1 := h) (P := True ∧ kd 0 = 8 ∧ True ∧ kd 0 = 8 ∧ True ∧ True) (by decide +kernel) rfl rfl ⟨trivial, rfl, trivial, rfl, trivial, trivial⟩ ?_
  refine g_callV1 hK 9 88 (d1 := 0) (ci := 4) (i := 3) (vs := [vI 0]) (rest := [vR 49]) (h1 := h) (r := vR (F_St_text 3 0)) my_yX4_text vw_X6_88 (by decide) (T_St_text (o := 3) (p1 := 0) (h := h) (ks := rfl) (hF := rfl)) rfl rfl rfl (Nat.le_of_ble_eq_true rfl) (by decide +kernel) ?_
  refine g_seg hK [.aload_n 0, .getfield 21, .iconst 1] 12 17 (L1 := [(0, vR 0)]) (st1 := [vI 1, vR 3, vR (F_St_text 3 0), vR 49]) (h1 := h) (P := True ∧ kd 0 = 8 ∧ True ∧ True) (by decide +kernel) rfl rfl ⟨trivial, rfl, trivial, trivial⟩ ?_
  refine g_callV1 hK 17 88 (d1 := 0) (ci := 4) (i := 3) (vs := [vI 1]) (rest := [vR (F_St_text 3 0), vR 49]) (h1 := h) (r := vR (F_St_text 3 1)) my_yX4_text vw_X6_88 (by decide) (T_St_text (o := 3) (p1 := 1) (h := h) (ks := rfl) (hF := rfl)) rfl rfl rfl (Nat.le_of_ble_eq_true rfl) (by decide +kernel) ?_
  obtain ⟨r1, h2, e3, hF⟩ := ob2_elim hF
  refine g_callV1 hK 20 213 (d1 := 4) (ci := 0) (i := 49) (vs := [vR (F_St_text 3 0), vR (F_St_text 3 1)]) (rest := []) (h1 := h2) (r := vI r1) my_yX0_apart vw_X6_213 (by decide) (T_C_apart (p1 := (F_St_text 3 0)) (p2 := (F_St_text 3 1)) (h := h) (kp1 := (kd_St_text rfl)) (kp2 := (kd_St_text rfl)) (hF := e3)) rfl rfl rfl (Nat.le_of_ble_eq_true rfl) (by decide +kernel) ?_
  cases hF
  exact hR.1 23 _ _ _ (by decide +kernel) rfl ⟨rfl, rfl⟩
set_option maxHeartbeats 4000000 in
set_option maxRecDepth 100000 in
theorem T_X_swap {p1 : Int} {p2 : Int} {h : MH} {r : Int} {h' : MH} (hF : F_X_swap p1 p2 h = some (r, h')) : CON 6 yX6_swap cX6_swap 3 (Option.some Jvm.ClassFile.FieldType.int) [vR 0, vI p1, vI p2] h (some (vI r)) h' := by
  refine con_of (own := RX6) (fl := flX6) (by decide +kernel) rfl flok_X6 rfl (Nat.le_of_ble_eq_true rfl) ?_
  intro K hK hR
  show K 0 [(0, vR 0), (1, vI p1), (2, vI p2)] [] h
  unfold F_X_swap at hF
  refine g_seg hK [.iload_n 1] 0 1 (L1 := [(0, vR 0), (1, vI p1), (2, vI p2)]) (st1 := [vI p1]) (h1 := h) (P := True ∧ True) (by decide +kernel) rfl rfl ⟨trivial, trivial⟩ ?_
  refine g_callS1 hK 1 77 (d1 := 0) (vs := [vI p1]) (rest := []) (h1 := h) (r := vI (F_X_isText p1)) my_yX6_isText sw_X6_77 (by decide) (T_X_isText (p1 := p1) (h := h) (hF := rfl)) rfl (Nat.le_of_ble_eq_true rfl) (by decide +kernel) ?_
  refine g_ifz hK 4 .eq (15) 19 (t1 := 19) (t2 := 7) (by decide +kernel) (by decide) rfl rfl (fun (hc1 : F_X_isText p1 = 0) => ?_) (fun (hc1 : ¬ (F_X_isText p1 = 0)) => ?_)
  · have hF := ite_t hc1 hF
    refine g_seg hK [.iconst (-1)] 19 20 (L1 := [(0, vR 0), (1, vI p1), (2, vI p2)]) (st1 := [vI (-1)]) (h1 := h) (P := True ∧ True) (by decide +kernel) rfl rfl ⟨trivial, trivial⟩ ?_
    cases hF
    exact hR.1 20 _ _ _ (by decide +kernel) rfl ⟨rfl, rfl⟩
  · have hF := ite_f hc1 hF
    refine g_seg hK [.iload_n 2] 7 8 (L1 := [(0, vR 0), (1, vI p1), (2, vI p2)]) (st1 := [vI p2]) (h1 := h) (P := True ∧ True) (by decide +kernel) rfl rfl ⟨trivial, trivial⟩ ?_
    refine g_callS1 hK 8 77 (d1 := 0) (vs := [vI p2]) (rest := []) (h1 := h) (r := vI (F_X_isText p2)) my_yX6_isText sw_X6_77 (by decide) (T_X_isText (p1 := p2) (h := h) (hF := rfl)) rfl (Nat.le_of_ble_eq_true rfl) (by decide +kernel) ?_
    refine g_ifz hK 11 .eq (8) 19 (t1 := 19) (t2 := 14) (by decide +kernel) (by decide) rfl rfl (fun (hc2 : F_X_isText p2 = 0) => ?_) (fun (hc2 : ¬ (F_X_isText p2 = 0)) => ?_)
    · have hF := ite_t hc2 hF
      refine g_seg hK [.iconst (-1)] 19 20 (L1 := [(0, vR 0), (1, vI p1), (2, vI p2)]) (st1 := [vI (-1)]) (h1 := h) (P := True ∧ True) (by decide +kernel) rfl rfl ⟨trivial, trivial⟩ ?_
      cases hF
      exact hR.1 20 _ _ _ (by decide +kernel) rfl ⟨rfl, rfl⟩
    · have hF := ite_f hc2 hF
      refine g_seg hK [.iload_n 1, .iload_n 2] 14 16 (L1 := [(0, vR 0), (1, vI p1), (2, vI p2)]) (st1 := [vI p2, vI p1]) (h1 := h) (P := True ∧ True ∧ True) (by decide +kernel) rfl rfl ⟨trivial, trivial, trivial⟩ ?_
      refine g_icmp hK 16 .ne (5) 21 (t1 := 19) (t2 := 21) (by decide +kernel) (by decide) rfl rfl (fun (hc3 : p1 = p2) => ?_) (fun (hc3 : ¬ (p1 = p2)) => ?_)
      · have hF := ite_t hc3 hF
        refine g_seg hK [.iconst (-1)] 19 20 (L1 := [(0, vR 0), (1, vI p1), (2, vI p2)]) (st1 := [vI (-1)]) (h1 := h) (P := True ∧ True) (by decide +kernel) rfl rfl ⟨trivial, trivial⟩ ?_
        cases hF
        exact hR.1 20 _ _ _ (by decide +kernel) rfl ⟨rfl, rfl⟩
      · have hF := ite_f hc3 hF
        refine g_seg hK [.aload_n 0, .getfield 35, .aload_n 0, .getfield 21] 21 29 (L1 := [(0, vR 0), (1, vI p1), (2, vI p2)]) (st1 := [vR 3, vR 17]) (h1 := h) (P := True ∧ kd 0 = 8 ∧ True ∧ kd 0 = 8 ∧ True) (by decide +kernel) rfl rfl ⟨trivial, rfl, trivial, rfl, trivial⟩ ?_
        obtain ⟨h4, e5, hF⟩ := ob1_elim hF
        refine g_callV0 hK 29 84 (d1 := 5) (ci := 1) (i := 17) (vs := [vR 3]) (rest := []) (h1 := h4) my_yX1_record vw_X6_84 (by decide) (T_Hi_record (p1 := 3) (h := h) (kp1 := rfl) (hF := e5)) rfl rfl rfl (Nat.le_of_ble_eq_true rfl) (by decide +kernel) ?_
        refine g_seg hK [.aload_n 0, .getfield 39, .aload_n 0, .getfield 21, .iload_n 1] 32 41 (L1 := [(0, vR 0), (1, vI p1), (2, vI p2)]) (st1 := [vI p1, vR 3, vR 47]) (h1 := h4) (P := True ∧ kd 0 = 8 ∧ True ∧ kd 0 = 8 ∧ True ∧ True) (by decide +kernel) rfl rfl ⟨trivial, rfl, trivial, rfl, trivial, trivial⟩ ?_
        refine g_callV1 hK 41 88 (d1 := 0) (ci := 4) (i := 3) (vs := [vI p1]) (rest := [vR 47]) (h1 := h4) (r := vR (F_St_text 3 p1)) my_yX4_text vw_X6_88 (by decide) (T_St_text (o := 3) (p1 := p1) (h := h4) (ks := rfl) (hF := rfl)) rfl rfl rfl (Nat.le_of_ble_eq_true rfl) (by decide +kernel) ?_
        obtain ⟨h6, e7, hF⟩ := ob1_elim hF
        refine g_callV0 hK 44 105 (d1 := 1) (ci := 3) (i := 47) (vs := [vR (F_St_text 3 p1)]) (rest := []) (h1 := h6) my_yX3_become vw_X6_105 (by decide) (T_Ro_become (o := 47) (p1 := (F_St_text 3 p1)) (h := h4) (ko := rfl) (kp1 := (kd_St_text rfl)) (hF := e7)) rfl rfl rfl (Nat.le_of_ble_eq_true rfl) (by decide +kernel) ?_
        refine g_seg hK [.aload_n 0, .getfield 21, .iload_n 1] 47 52 (L1 := [(0, vR 0), (1, vI p1), (2, vI p2)]) (st1 := [vI p1, vR 3]) (h1 := h6) (P := True ∧ kd 0 = 8 ∧ True ∧ True) (by decide +kernel) rfl rfl ⟨trivial, rfl, trivial, trivial⟩ ?_
        refine g_callV1 hK 52 88 (d1 := 0) (ci := 4) (i := 3) (vs := [vI p1]) (rest := []) (h1 := h6) (r := vR (F_St_text 3 p1)) my_yX4_text vw_X6_88 (by decide) (T_St_text (o := 3) (p1 := p1) (h := h6) (ks := rfl) (hF := rfl)) rfl rfl rfl (Nat.le_of_ble_eq_true rfl) (by decide +kernel) ?_
        refine g_seg hK [.aload_n 0, .getfield 21, .iload_n 2] 55 60 (L1 := [(0, vR 0), (1, vI p1), (2, vI p2)]) (st1 := [vI p2, vR 3, vR (F_St_text 3 p1)]) (h1 := h6) (P := True ∧ kd 0 = 8 ∧ True ∧ True) (by decide +kernel) rfl rfl ⟨trivial, rfl, trivial, trivial⟩ ?_
        refine g_callV1 hK 60 88 (d1 := 0) (ci := 4) (i := 3) (vs := [vI p2]) (rest := [vR (F_St_text 3 p1)]) (h1 := h6) (r := vR (F_St_text 3 p2)) my_yX4_text vw_X6_88 (by decide) (T_St_text (o := 3) (p1 := p2) (h := h6) (ks := rfl) (hF := rfl)) rfl rfl rfl (Nat.le_of_ble_eq_true rfl) (by decide +kernel) ?_
        obtain ⟨h8, e9, hF⟩ := ob1_elim hF
        refine g_callV0 hK 63 105 (d1 := 1) (ci := 3) (i := F_St_text 3 p1) (vs := [vR (F_St_text 3 p2)]) (rest := []) (h1 := h8) my_yX3_become vw_X6_105 (by decide) (T_Ro_become (o := (F_St_text 3 p1)) (p1 := (F_St_text 3 p2)) (h := h6) (ko := (kd_St_text rfl)) (kp1 := (kd_St_text rfl)) (hF := e9)) (kd_St_text rfl) rfl rfl (Nat.le_of_ble_eq_true rfl) (by decide +kernel) ?_
        refine g_seg hK [.aload_n 0, .getfield 21, .iload_n 2] 66 71 (L1 := [(0, vR 0), (1, vI p1), (2, vI p2)]) (st1 := [vI p2, vR 3]) (h1 := h8) (P := True ∧ kd 0 = 8 ∧ True ∧ True) (by decide +kernel) rfl rfl ⟨trivial, rfl, trivial, trivial⟩ ?_
        refine g_callV1 hK 71 88 (d1 := 0) (ci := 4) (i := 3) (vs := [vI p2]) (rest := []) (h1 := h8) (r := vR (F_St_text 3 p2)) my_yX4_text vw_X6_88 (by decide) (T_St_text (o := 3) (p1 := p2) (h := h8) (ks := rfl) (hF := rfl)) rfl rfl rfl (Nat.le_of_ble_eq_true rfl) (by decide +kernel) ?_
        refine g_seg hK [.aload_n 0, .getfield 39] 74 78 (L1 := [(0, vR 0), (1, vI p1), (2, vI p2)]) (st1 := [vR 47, vR (F_St_text 3 p2)]) (h1 := h8) (P := True ∧ kd 0 = 8 ∧ True) (by decide +kernel) rfl rfl ⟨trivial, rfl, trivial⟩ ?_
        obtain ⟨h10, e11, hF⟩ := ob1_elim hF
        refine g_callV0 hK 78 105 (d1 := 1) (ci := 3) (i := F_St_text 3 p2) (vs := [vR 47]) (rest := []) (h1 := h10) my_yX3_become vw_X6_105 (by decide) (T_Ro_become (o := (F_St_text 3 p2)) (p1 := 47) (h := h8) (ko := (kd_St_text rfl)) (kp1 := rfl) (hF := e11)) (kd_St_text rfl) rfl rfl (Nat.le_of_ble_eq_true rfl) (by decide +kernel) ?_
        refine g_seg hK [.aload_n 0] 81 82 (L1 := [(0, vR 0), (1, vI p1), (2, vI p2)]) (st1 := [vR 0]) (h1 := h10) (P := True ∧ True) (by decide +kernel) rfl rfl ⟨trivial, trivial⟩ ?_
        obtain ⟨r12, h13, e14, hF⟩ := ob2_elim hF
        refine g_callV1 hK 82 109 (d1 := 5) (ci := 6) (i := 0) (vs := []) (rest := []) (h1 := h13) (r := vI r12) my_yX6_distanceNow vw_X6_109 (by decide) (T_X_distanceNow (h := h10) (hF := e14)) rfl rfl rfl (Nat.le_of_ble_eq_true rfl) (by decide +kernel) ?_
        cases hF
        exact hR.1 85 _ _ _ (by decide +kernel) rfl ⟨rfl, rfl⟩
set_option maxHeartbeats 4000000 in
set_option maxRecDepth 100000 in
theorem T_St_setting {o : Nat} {p1 : Int} {h : MH} {r : Int} (ks : kd o = 6) (hF : F_St_setting o p1 h = r) : CON 0 yX4_setting cX4_setting 2 (Option.some Jvm.ClassFile.FieldType.int) [vR o, vI p1] h (some (vI r)) h := by
  refine con_of (own := RX4) (fl := flX4) (by decide +kernel) rfl flok_X4 rfl (Nat.le_of_ble_eq_true rfl) ?_
  intro K hK hR
  show K 0 [(0, vR o), (1, vI p1)] [] h
  unfold F_St_setting at hF
  refine g_seg hK [.iload_n 1] 0 1 (L1 := [(0, vR o), (1, vI p1)]) (st1 := [vI p1]) (h1 := h) (P := True ∧ True) (by decide +kernel) rfl rfl ⟨trivial, trivial⟩ ?_
  refine g_ifz hK 1 .ne (10) 11 (t1 := 4) (t2 := 11) (by decide +kernel) (by decide) rfl rfl (fun (hc1 : p1 = 0) => ?_) (fun (hc1 : ¬ (p1 = 0)) => ?_)
  · have hF := ite_t hc1 hF
    refine g_seg hK [.aload_n 0, .getfield 26] 4 8 (L1 := [(0, vR o), (1, vI p1)]) (st1 := [vI (h o 3)]) (h1 := h) (P := True ∧ kd o = 6 ∧ True) (by decide +kernel) rfl rfl ⟨trivial, ks, trivial⟩ ?_
    refine g_goto hK 8 (7) 15 (by decide +kernel) (by decide) ?_
    cases hF
    exact hR.1 15 _ _ _ (by decide +kernel) rfl ⟨rfl, rfl⟩
  · have hF := ite_f hc1 hF
    refine g_seg hK [.aload_n 0, .getfield 30] 11 15 (L1 := [(0, vR o), (1, vI p1)]) (st1 := [vI (h o 4)]) (h1 := h) (P := True ∧ kd o = 6 ∧ True) (by decide +kernel) rfl rfl ⟨trivial, ks, trivial⟩ ?_
    cases hF
    exact hR.1 15 _ _ _ (by decide +kernel) rfl ⟨rfl, rfl⟩
set_option maxHeartbeats 4000000 in
set_option maxRecDepth 100000 in
theorem T_St_changeSetting {o : Nat} {p1 : Int} {p2 : Int} {h : MH} {h' : MH} (ks : kd o = 6) (hF : F_St_changeSetting o p1 p2 h = h') : CON 0 yX4_changeSetting cX4_changeSetting 3 none [vR o, vI p1, vI p2] h none h' := by
  refine con_of (own := RX4) (fl := flX4) (by decide +kernel) rfl flok_X4 rfl (Nat.le_of_ble_eq_true rfl) ?_
  intro K hK hR
  show K 0 [(0, vR o), (1, vI p1), (2, vI p2)] [] h
  unfold F_St_changeSetting at hF
  refine g_seg hK [.iload_n 1] 0 1 (L1 := [(0, vR o), (1, vI p1), (2, vI p2)]) (st1 := [vI p1]) (h1 := h) (P := True ∧ True) (by decide +kernel) rfl rfl ⟨trivial, trivial⟩ ?_
  refine g_ifz hK 1 .ne (11) 12 (t1 := 4) (t2 := 12) (by decide +kernel) (by decide) rfl rfl (fun (hc1 : p1 = 0) => ?_) (fun (hc1 : ¬ (p1 = 0)) => ?_)
  · have hF := ite_t hc1 hF
    refine g_seg hK [.aload_n 0, .iload_n 2, .putfield 26] 4 9 (L1 := [(0, vR o), (1, vI p1), (2, vI p2)]) (st1 := []) (h1 := (up h o 3 p2)) (P := True ∧ True ∧ kd o = 6 ∧ True) (by decide +kernel) rfl rfl ⟨trivial, trivial, ks, trivial⟩ ?_
    refine g_goto hK 9 (8) 17 (by decide +kernel) (by decide) ?_
    cases hF
    exact hR.2.2.2.2 17 _ _ (by decide +kernel) rfl ⟨rfl, rfl⟩
  · have hF := ite_f hc1 hF
    refine g_seg hK [.aload_n 0, .iload_n 2, .putfield 30] 12 17 (L1 := [(0, vR o), (1, vI p1), (2, vI p2)]) (st1 := []) (h1 := (up h o 4 p2)) (P := True ∧ True ∧ kd o = 6 ∧ True) (by decide +kernel) rfl rfl ⟨trivial, trivial, ks, trivial⟩ ?_
    cases hF
    exact hR.2.2.2.2 17 _ _ (by decide +kernel) rfl ⟨rfl, rfl⟩
set_option maxHeartbeats 4000000 in
set_option maxRecDepth 100000 in
theorem T_X_set {p1 : Int} {p2 : Int} {h : MH} {r : Int} {h' : MH} (hF : F_X_set p1 p2 h = some (r, h')) : CON 6 yX6_set cX6_set 4 (Option.some Jvm.ClassFile.FieldType.int) [vR 0, vI p1, vI p2] h (some (vI r)) h' := by
  refine con_of (own := RX6) (fl := flX6) (by decide +kernel) rfl flok_X6 rfl (Nat.le_of_ble_eq_true rfl) ?_
  intro K hK hR
  show K 0 [(0, vR 0), (1, vI p1), (2, vI p2)] [] h
  unfold F_X_set at hF
  refine g_seg hK [.iload_n 1] 0 1 (L1 := [(0, vR 0), (1, vI p1), (2, vI p2)]) (st1 := [vI p1]) (h1 := h) (P := True ∧ True) (by decide +kernel) rfl rfl ⟨trivial, trivial⟩ ?_
  obtain ⟨kj2, e11, hF⟩ := jk1_elim hF
  have j2 : ∀ (u1 : Unit), kj2 u1 = some (r, h') → K 11 [(0, vR 0), (1, vI p1), (2, vI p2)] [] h := by
    intro u1 hF
    have hF := (e11 u1).symm.trans hF
    refine g_seg hK [.iload_n 2] 11 12 (L1 := [(0, vR 0), (1, vI p1), (2, vI p2)]) (st1 := [vI p2]) (h1 := h) (P := True ∧ True) (by decide +kernel) rfl rfl ⟨trivial, trivial⟩ ?_
    refine g_ifz hK 12 .lt (16) 28 (t1 := 28) (t2 := 15) (by decide +kernel) (by decide) rfl rfl (fun (hc3 : p2 < 0) => ?_) (fun (hc3 : ¬ (p2 < 0)) => ?_)
    · have hF := ite_t hc3 hF
      refine g_seg hK [.iconst (-1)] 28 29 (L1 := [(0, vR 0), (1, vI p1), (2, vI p2)]) (st1 := [vI (-1)]) (h1 := h) (P := True ∧ True) (by decide +kernel) rfl rfl ⟨trivial, trivial⟩ ?_
      cases hF
      exact hR.1 29 _ _ _ (by decide +kernel) rfl ⟨rfl, rfl⟩
    · have hF := ite_f hc3 hF
      refine g_seg hK [.iload_n 2, .iload_n 1] 15 17 (L1 := [(0, vR 0), (1, vI p1), (2, vI p2)]) (st1 := [vI p1, vI p2]) (h1 := h) (P := True ∧ True ∧ True) (by decide +kernel) rfl rfl ⟨trivial, trivial, trivial⟩ ?_
      obtain ⟨s4, e10, hF⟩ := jn1_elim hF
      have j5 : K 25 [(0, vR 0), (1, vI p1), (2, vI p2)] [vI s4, vI p2] h := by
        refine g_icmp hK 25 .le (5) 30 (t1 := 30) (t2 := 28) (by decide +kernel) (by decide) rfl rfl (fun (hc7 : p2 ≤ s4) => ?_) (fun (hc7 : ¬ (p2 ≤ s4)) => ?_)
        · have hF := ite_t hc7 hF
          refine g_seg hK [.aload_n 0, .getfield 35, .aload_n 0, .getfield 21] 30 38 (L1 := [(0, vR 0), (1, vI p1), (2, vI p2)]) (st1 := [vR 3, vR 17]) (h1 := h) (P := True ∧ kd 0 = 8 ∧ True ∧ kd 0 = 8 ∧ True) (by decide +kernel) rfl rfl ⟨trivial, rfl, trivial, rfl, trivial⟩ ?_
          obtain ⟨h8, e9, hF⟩ := ob1_elim hF
          refine g_callV0 hK 38 84 (d1 := 5) (ci := 1) (i := 17) (vs := [vR 3]) (rest := []) (h1 := h8) my_yX1_record vw_X6_84 (by decide) (T_Hi_record (p1 := 3) (h := h) (kp1 := rfl) (hF := e9)) rfl rfl rfl (Nat.le_of_ble_eq_true rfl) (by decide +kernel) ?_
          refine g_seg hK [.aload_n 0, .getfield 21, .iload_n 1] 41 46 (L1 := [(0, vR 0), (1, vI p1), (2, vI p2)]) (st1 := [vI p1, vR 3]) (h1 := h8) (P := True ∧ kd 0 = 8 ∧ True ∧ True) (by decide +kernel) rfl rfl ⟨trivial, rfl, trivial, trivial⟩ ?_
          refine g_callV1 hK 46 112 (d1 := 0) (ci := 4) (i := 3) (vs := [vI p1]) (rest := []) (h1 := h8) (r := vI (F_St_setting 3 p1 h8)) my_yX4_setting vw_X6_112 (by decide) (T_St_setting (o := 3) (p1 := p1) (h := h8) (ks := rfl) (hF := rfl)) rfl rfl rfl (Nat.le_of_ble_eq_true rfl) (by decide +kernel) ?_
          refine g_seg hK [.istore_n 3, .aload_n 0, .getfield 21, .iload_n 1, .iload_n 2] 49 56 (L1 := [(3, vI (F_St_setting 3 p1 h8)), (0, vR 0), (1, vI p1), (2, vI p2)]) (st1 := [vI p2, vI p1, vR 3]) (h1 := h8) (P := True ∧ True ∧ kd 0 = 8 ∧ True ∧ True ∧ True) (by decide +kernel) rfl rfl ⟨trivial, trivial, rfl, trivial, trivial, trivial⟩ ?_
          refine g_callV0 hK 56 115 (d1 := 0) (ci := 4) (i := 3) (vs := [vI p1, vI p2]) (rest := []) (h1 := (F_St_changeSetting 3 p1 p2 h8)) my_yX4_changeSetting vw_X6_115 (by decide) (T_St_changeSetting (o := 3) (p1 := p1) (p2 := p2) (h := h8) (ks := rfl) (hF := rfl)) rfl rfl rfl (Nat.le_of_ble_eq_true rfl) (by decide +kernel) ?_
          refine g_seg hK [.iload_n 3] 59 60 (L1 := [(3, vI (F_St_setting 3 p1 h8)), (0, vR 0), (1, vI p1), (2, vI p2)]) (st1 := [vI (F_St_setting 3 p1 h8)]) (h1 := (F_St_changeSetting 3 p1 p2 h8)) (P := True ∧ True) (by decide +kernel) rfl rfl ⟨trivial, trivial⟩ ?_
          cases hF
          exact hR.1 60 _ _ _ (by decide +kernel) rfl ⟨rfl, rfl⟩
        · have hF := ite_f hc7 hF
          refine g_seg hK [.iconst (-1)] 28 29 (L1 := [(0, vR 0), (1, vI p1), (2, vI p2)]) (st1 := [vI (-1)]) (h1 := h) (P := True ∧ True) (by decide +kernel) rfl rfl ⟨trivial, trivial⟩ ?_
          cases hF
          exact hR.1 29 _ _ _ (by decide +kernel) rfl ⟨rfl, rfl⟩
      clear hF
      have hF := e10
      refine g_ifz hK 17 .ne (7) 24 (t1 := 20) (t2 := 24) (by decide +kernel) (by decide) rfl rfl (fun (hc6 : p1 = 0) => ?_) (fun (hc6 : ¬ (p1 = 0)) => ?_)
      · have hF := ite_t hc6 hF
        refine g_seg hK [.iconst 3] 20 21 (L1 := [(0, vR 0), (1, vI p1), (2, vI p2)]) (st1 := [vI 3, vI p2]) (h1 := h) (P := True ∧ True) (by decide +kernel) rfl rfl ⟨trivial, trivial⟩ ?_
        refine g_goto hK 21 (4) 25 (by decide +kernel) (by decide) ?_
        cases hF
        exact j5
      · have hF := ite_f hc6 hF
        refine g_seg hK [.iconst 1] 24 25 (L1 := [(0, vR 0), (1, vI p1), (2, vI p2)]) (st1 := [vI 1, vI p2]) (h1 := h) (P := True ∧ True) (by decide +kernel) rfl rfl ⟨trivial, trivial⟩ ?_
        cases hF
        exact j5
  refine g_ifz hK 1 .eq (10) 11 (t1 := 11) (t2 := 4) (by decide +kernel) (by decide) rfl rfl (fun (hc12 : p1 = 0) => ?_) (fun (hc12 : ¬ (p1 = 0)) => ?_)
  · have hF := ite_t hc12 hF
    exact j2 _ hF
  · have hF := ite_f hc12 hF
    refine g_seg hK [.iload_n 1, .iconst 1] 4 6 (L1 := [(0, vR 0), (1, vI p1), (2, vI p2)]) (st1 := [vI 1, vI p1]) (h1 := h) (P := True ∧ True ∧ True) (by decide +kernel) rfl rfl ⟨trivial, trivial, trivial⟩ ?_
    refine g_icmp hK 6 .eq (5) 11 (t1 := 11) (t2 := 9) (by decide +kernel) (by decide) rfl rfl (fun (hc13 : p1 = 1) => ?_) (fun (hc13 : ¬ (p1 = 1)) => ?_)
    · have hF := ite_t hc13 hF
      exact j2 _ hF
    · have hF := ite_f hc13 hF
      refine g_seg hK [.iconst (-1)] 9 10 (L1 := [(0, vR 0), (1, vI p1), (2, vI p2)]) (st1 := [vI (-1)]) (h1 := h) (P := True ∧ True) (by decide +kernel) rfl rfl ⟨trivial, trivial⟩ ?_
      cases hF
      exact hR.1 10 _ _ _ (by decide +kernel) rfl ⟨rfl, rfl⟩
set_option maxHeartbeats 4000000 in
set_option maxRecDepth 100000 in
theorem T_C_step {p1 : Nat} {p2 : Nat} {p3 : Int} {p4 : Int} {h : MH} {r : Int} (kp1 : kd p1 = 5) (kp2 : kd p2 = 5) (hF : F_C_step p1 p2 p3 p4 h = r) : CON 2 yX0_step cX0_step 7 (Option.some Jvm.ClassFile.FieldType.int) [vR 49, vR p1, vR p2, vI p3, vI p4] h (some (vI r)) h := by
  refine con_of (own := RX0) (fl := flX0) (by decide +kernel) rfl flok_X0 rfl (Nat.le_of_ble_eq_true rfl) ?_
  intro K hK hR
  show K 0 [(0, vR 49), (1, vR p1), (2, vR p2), (3, vI p3), (4, vI p4)] [] h
  unfold F_C_step at hF
  refine g_seg hK [.iload_n 3, .aload_n 1] 0 2 (L1 := [(0, vR 49), (1, vR p1), (2, vR p2), (3, vI p3), (4, vI p4)]) (st1 := [vR p1, vI p3]) (h1 := h) (P := True ∧ True ∧ True) (by decide +kernel) rfl rfl ⟨trivial, trivial, trivial⟩ ?_
  refine g_callV1 hK 2 26 (d1 := 0) (ci := 3) (i := p1) (vs := []) (rest := [vI p3]) (h1 := h) (r := vI (F_Ro_size p1 h)) my_yX3_size vw_X0_26 (by decide) (T_Ro_size (o := p1) (h := h) (ko := kp1) (hF := rfl)) kp1 rfl rfl (Nat.le_of_ble_eq_true rfl) (by decide +kernel) ?_
  obtain ⟨s1, e17, hF⟩ := jn1_elim hF
  have j2 : K 13 [(0, vR 49), (1, vR p1), (2, vR p2), (3, vI p3), (4, vI p4)] [vI s1] h := by
    refine g_seg hK [.istore 5, .iload 4, .aload_n 2] 13 18 (L1 := [(5, vI s1), (0, vR 49), (1, vR p1), (2, vR p2), (3, vI p3), (4, vI p4)]) (st1 := [vR p2, vI p4]) (h1 := h) (P := True ∧ True ∧ True ∧ True) (by decide +kernel) rfl rfl ⟨trivial, trivial, trivial, trivial⟩ ?_
    refine g_callV1 hK 18 26 (d1 := 0) (ci := 3) (i := p2) (vs := []) (rest := [vI p4]) (h1 := h) (r := vI (F_Ro_size p2 h)) my_yX3_size vw_X0_26 (by decide) (T_Ro_size (o := p2) (h := h) (ko := kp2) (hF := rfl)) kp2 rfl rfl (Nat.le_of_ble_eq_true rfl) (by decide +kernel) ?_
    obtain ⟨s4, e16, hF⟩ := jn1_elim hF
    have j5 : K 29 [(0, vR 49), (1, vR p1), (2, vR p2), (3, vI p3), (4, vI p4), (5, vI s1)] [vI s4] h := by
      refine g_seg hK [.istore 6, .iload 5] 29 33 (L1 := [(6, vI s4), (0, vR 49), (1, vR p1), (2, vR p2), (3, vI p3), (4, vI p4), (5, vI s1)]) (st1 := [vI s1]) (h1 := h) (P := True ∧ True ∧ True) (by decide +kernel) rfl rfl ⟨trivial, trivial, trivial⟩ ?_
      obtain ⟨kj8, e12, hF⟩ := jk1_elim hF
      have j8 : ∀ (u7 : Unit), kj8 u7 = r → K 57 [(0, vR 49), (3, vI p3), (4, vI p4), (5, vI s1), (6, vI s4)] [] h := by
        intro u7 hF
        have hF := (e12 u7).symm.trans hF
        refine g_seg hK [.iload 5] 57 59 (L1 := [(0, vR 49), (3, vI p3), (4, vI p4), (5, vI s1), (6, vI s4)]) (st1 := [vI s1]) (h1 := h) (P := True ∧ True) (by decide +kernel) rfl rfl ⟨trivial, trivial⟩ ?_
        refine g_ifz hK 59 .eq (31) 90 (t1 := 90) (t2 := 62) (by decide +kernel) (by decide) rfl rfl (fun (hc9 : s1 = 0) => ?_) (fun (hc9 : ¬ (s1 = 0)) => ?_)
        · have hF := ite_t hc9 hF
          refine g_seg hK [.iconst 2] 90 91 (L1 := [(0, vR 49), (3, vI p3), (4, vI p4), (5, vI s1), (6, vI s4)]) (st1 := [vI 2]) (h1 := h) (P := True ∧ True) (by decide +kernel) rfl rfl ⟨trivial, trivial⟩ ?_
          cases hF
          exact hR.1 91 _ _ _ (by decide +kernel) rfl ⟨rfl, rfl⟩
        · have hF := ite_f hc9 hF
          refine g_seg hK [.iload 6] 62 64 (L1 := [(0, vR 49), (3, vI p3), (4, vI p4), (5, vI s1), (6, vI s4)]) (st1 := [vI s4]) (h1 := h) (P := True ∧ True) (by decide +kernel) rfl rfl ⟨trivial, trivial⟩ ?_
          refine g_ifz hK 64 .eq (24) 88 (t1 := 88) (t2 := 67) (by decide +kernel) (by decide) rfl rfl (fun (hc10 : s4 = 0) => ?_) (fun (hc10 : ¬ (s4 = 0)) => ?_)
          · have hF := ite_t hc10 hF
            refine g_seg hK [.iconst 1] 88 89 (L1 := [(0, vR 49), (3, vI p3), (4, vI p4), (5, vI s1), (6, vI s4)]) (st1 := [vI 1]) (h1 := h) (P := True ∧ True) (by decide +kernel) rfl rfl ⟨trivial, trivial⟩ ?_
            cases hF
            exact hR.1 89 _ _ _ (by decide +kernel) rfl ⟨rfl, rfl⟩
          · have hF := ite_f hc10 hF
            refine g_seg hK [.aload_n 0, .iload_n 3, .iconst 1, .iadd, .iload 4] 67 73 (L1 := [(0, vR 49), (3, vI p3), (4, vI p4), (5, vI s1), (6, vI s4)]) (st1 := [vI p4, vI (wr (p3 + 1)), vR 49]) (h1 := h) (P := True ∧ True ∧ True ∧ True ∧ True ∧ True) (by decide +kernel) rfl rfl ⟨trivial, trivial, trivial, trivial, trivial, trivial⟩ ?_
            refine g_callV1 hK 73 34 (d1 := 1) (ci := 0) (i := 49) (vs := [vI (wr (p3 + 1)), vI p4]) (rest := []) (h1 := h) (r := vI (F_C_keptFrom (wr (p3 + 1)) p4 h)) my_yX0_keptFrom vw_X0_34 (by decide) (T_C_keptFrom (p1 := (wr (p3 + 1))) (p2 := p4) (h := h) (hF := rfl)) rfl rfl rfl (Nat.le_of_ble_eq_true rfl) (by decide +kernel) ?_
            refine g_seg hK [.aload_n 0, .iload_n 3, .iload 4, .iconst 1, .iadd] 76 82 (L1 := [(0, vR 49), (3, vI p3), (4, vI p4), (5, vI s1), (6, vI s4)]) (st1 := [vI (wr (p4 + 1)), vI p3, vR 49, vI (F_C_keptFrom (wr (p3 + 1)) p4 h)]) (h1 := h) (P := True ∧ True ∧ True ∧ True ∧ True ∧ True) (by decide +kernel) rfl rfl ⟨trivial, trivial, trivial, trivial, trivial, trivial⟩ ?_
            refine g_callV1 hK 82 34 (d1 := 1) (ci := 0) (i := 49) (vs := [vI p3, vI (wr (p4 + 1))]) (rest := [vI (F_C_keptFrom (wr (p3 + 1)) p4 h)]) (h1 := h) (r := vI (F_C_keptFrom p3 (wr (p4 + 1)) h)) my_yX0_keptFrom vw_X0_34 (by decide) (T_C_keptFrom (p1 := p3) (p2 := (wr (p4 + 1))) (h := h) (hF := rfl)) rfl rfl rfl (Nat.le_of_ble_eq_true rfl) (by decide +kernel) ?_
            refine g_icmp hK 85 .lt (5) 90 (t1 := 90) (t2 := 88) (by decide +kernel) (by decide) rfl rfl (fun (hc11 : F_C_keptFrom (wr (p3 + 1)) p4 h < F_C_keptFrom p3 (wr (p4 + 1)) h) => ?_) (fun (hc11 : ¬ (F_C_keptFrom (wr (p3 + 1)) p4 h < F_C_keptFrom p3 (wr (p4 + 1)) h)) => ?_)
            · have hF := ite_t hc11 hF
              refine g_seg hK [.iconst 2] 90 91 (L1 := [(0, vR 49), (3, vI p3), (4, vI p4), (5, vI s1), (6, vI s4)]) (st1 := [vI 2]) (h1 := h) (P := True ∧ True) (by decide +kernel) rfl rfl ⟨trivial, trivial⟩ ?_
              cases hF
              exact hR.1 91 _ _ _ (by decide +kernel) rfl ⟨rfl, rfl⟩
            · have hF := ite_f hc11 hF
              refine g_seg hK [.iconst 1] 88 89 (L1 := [(0, vR 49), (3, vI p3), (4, vI p4), (5, vI s1), (6, vI s4)]) (st1 := [vI 1]) (h1 := h) (P := True ∧ True) (by decide +kernel) rfl rfl ⟨trivial, trivial⟩ ?_
              cases hF
              exact hR.1 89 _ _ _ (by decide +kernel) rfl ⟨rfl, rfl⟩
      refine g_ifz hK 33 .eq (24) 57 (t1 := 57) (t2 := 36) (by decide +kernel) (by decide) rfl rfl (fun (hc13 : s1 = 0) => ?_) (fun (hc13 : ¬ (s1 = 0)) => ?_)
      · have hF := ite_t hc13 hF
        refine hK.2.1 _ _ ([(0, vR 49), (3, vI p3), (4, vI p4), (5, vI s1), (6, vI s4)]) _ _ (sub_of [1, 4, 5, 6, 0] rfl) ?_
        exact j8 _ hF
      · have hF := ite_f hc13 hF
        refine g_seg hK [.iload 6] 36 38 (L1 := [(6, vI s4), (0, vR 49), (1, vR p1), (2, vR p2), (3, vI p3), (4, vI p4), (5, vI s1)]) (st1 := [vI s4]) (h1 := h) (P := True ∧ True) (by decide +kernel) rfl rfl ⟨trivial, trivial⟩ ?_
        refine g_ifz hK 38 .eq (19) 57 (t1 := 57) (t2 := 41) (by decide +kernel) (by decide) rfl rfl (fun (hc14 : s4 = 0) => ?_) (fun (hc14 : ¬ (s4 = 0)) => ?_)
        · have hF := ite_t hc14 hF
          refine hK.2.1 _ _ ([(0, vR 49), (3, vI p3), (4, vI p4), (5, vI s1), (6, vI s4)]) _ _ (sub_of [1, 4, 5, 6, 0] rfl) ?_
          exact j8 _ hF
        · have hF := ite_f hc14 hF
          refine g_seg hK [.aload_n 1, .iload_n 3] 41 43 (L1 := [(6, vI s4), (0, vR 49), (1, vR p1), (2, vR p2), (3, vI p3), (4, vI p4), (5, vI s1)]) (st1 := [vI p3, vR p1]) (h1 := h) (P := True ∧ True ∧ True) (by decide +kernel) rfl rfl ⟨trivial, trivial, trivial⟩ ?_
          refine g_callV1 hK 43 30 (d1 := 0) (ci := 3) (i := p1) (vs := [vI p3]) (rest := []) (h1 := h) (r := vI (F_Ro_at p1 p3 h)) my_yX3_at vw_X0_30 (by decide) (T_Ro_at (o := p1) (p1 := p3) (h := h) (ko := kp1) (hF := rfl)) kp1 rfl rfl (Nat.le_of_ble_eq_true rfl) (by decide +kernel) ?_
          refine g_seg hK [.aload_n 2, .iload 4] 46 49 (L1 := [(6, vI s4), (0, vR 49), (1, vR p1), (2, vR p2), (3, vI p3), (4, vI p4), (5, vI s1)]) (st1 := [vI p4, vR p2, vI (F_Ro_at p1 p3 h)]) (h1 := h) (P := True ∧ True ∧ True) (by decide +kernel) rfl rfl ⟨trivial, trivial, trivial⟩ ?_
          refine g_callV1 hK 49 30 (d1 := 0) (ci := 3) (i := p2) (vs := [vI p4]) (rest := [vI (F_Ro_at p1 p3 h)]) (h1 := h) (r := vI (F_Ro_at p2 p4 h)) my_yX3_at vw_X0_30 (by decide) (T_Ro_at (o := p2) (p1 := p4) (h := h) (ko := kp2) (hF := rfl)) kp2 rfl rfl (Nat.le_of_ble_eq_true rfl) (by decide +kernel) ?_
          refine g_icmp hK 52 .ne (5) 57 (t1 := 55) (t2 := 57) (by decide +kernel) (by decide) rfl rfl (fun (hc15 : F_Ro_at p1 p3 h = F_Ro_at p2 p4 h) => ?_) (fun (hc15 : ¬ (F_Ro_at p1 p3 h = F_Ro_at p2 p4 h)) => ?_)
          · have hF := ite_t hc15 hF
            refine g_seg hK [.iconst 0] 55 56 (L1 := [(6, vI s4), (0, vR 49), (1, vR p1), (2, vR p2), (3, vI p3), (4, vI p4), (5, vI s1)]) (st1 := [vI 0]) (h1 := h) (P := True ∧ True) (by decide +kernel) rfl rfl ⟨trivial, trivial⟩ ?_
            cases hF
            exact hR.1 56 _ _ _ (by decide +kernel) rfl ⟨rfl, rfl⟩
          · have hF := ite_f hc15 hF
            refine hK.2.1 _ _ ([(0, vR 49), (3, vI p3), (4, vI p4), (5, vI s1), (6, vI s4)]) _ _ (sub_of [1, 4, 5, 6, 0] rfl) ?_
            exact j8 _ hF
    clear hF
    have hF := e16
    refine g_icmp hK 21 .ge (7) 28 (t1 := 24) (t2 := 28) (by decide +kernel) (by decide) rfl rfl (fun (hc6 : p4 < F_Ro_size p2 h) => ?_) (fun (hc6 : ¬ (p4 < F_Ro_size p2 h)) => ?_)
    · have hF := ite_t hc6 hF
      refine g_seg hK [.iconst 1] 24 25 (L1 := [(5, vI s1), (0, vR 49), (1, vR p1), (2, vR p2), (3, vI p3), (4, vI p4)]) (st1 := [vI 1]) (h1 := h) (P := True ∧ True) (by decide +kernel) rfl rfl ⟨trivial, trivial⟩ ?_
      refine g_goto hK 25 (4) 29 (by decide +kernel) (by decide) ?_
      refine hK.2.1 _ _ ([(0, vR 49), (1, vR p1), (2, vR p2), (3, vI p3), (4, vI p4), (5, vI s1)]) _ _ (sub_of [1, 2, 3, 4, 5, 0] rfl) ?_
      cases hF
      exact j5
    · have hF := ite_f hc6 hF
      refine g_seg hK [.iconst 0] 28 29 (L1 := [(5, vI s1), (0, vR 49), (1, vR p1), (2, vR p2), (3, vI p3), (4, vI p4)]) (st1 := [vI 0]) (h1 := h) (P := True ∧ True) (by decide +kernel) rfl rfl ⟨trivial, trivial⟩ ?_
      refine hK.2.1 _ _ ([(0, vR 49), (1, vR p1), (2, vR p2), (3, vI p3), (4, vI p4), (5, vI s1)]) _ _ (sub_of [1, 2, 3, 4, 5, 0] rfl) ?_
      cases hF
      exact j5
  clear hF
  have hF := e17
  refine g_icmp hK 5 .ge (7) 12 (t1 := 8) (t2 := 12) (by decide +kernel) (by decide) rfl rfl (fun (hc3 : p3 < F_Ro_size p1 h) => ?_) (fun (hc3 : ¬ (p3 < F_Ro_size p1 h)) => ?_)
  · have hF := ite_t hc3 hF
    refine g_seg hK [.iconst 1] 8 9 (L1 := [(0, vR 49), (1, vR p1), (2, vR p2), (3, vI p3), (4, vI p4)]) (st1 := [vI 1]) (h1 := h) (P := True ∧ True) (by decide +kernel) rfl rfl ⟨trivial, trivial⟩ ?_
    refine g_goto hK 9 (4) 13 (by decide +kernel) (by decide) ?_
    cases hF
    exact j2
  · have hF := ite_f hc3 hF
    refine g_seg hK [.iconst 0] 12 13 (L1 := [(0, vR 49), (1, vR p1), (2, vR p2), (3, vI p3), (4, vI p4)]) (st1 := [vI 0]) (h1 := h) (P := True ∧ True) (by decide +kernel) rfl rfl ⟨trivial, trivial⟩ ?_
    cases hF
    exact j2

set_option maxHeartbeats 4000000 in
set_option maxRecDepth 100000 in
theorem T_M_clear {h : MH} {r : Int} {h' : MH} (hF : F_M_clear h = (r, h')) : CON 0 yX7_clear cX7_clear 2 (Option.some Jvm.ClassFile.FieldType.int) [vR 76] h (some (vI r)) h' := by
  refine con_of (own := RX7) (fl := flX7) (by decide +kernel) rfl flok_X7 rfl (Nat.le_of_ble_eq_true rfl) ?_
  intro K hK hR
  show K 0 [(0, vR 76)] [] h
  unfold F_M_clear at hF
  refine g_seg hK [.aload_n 0, .getfield 140, .istore_n 1, .aload_n 0, .iconst 0, .putfield 140, .iload_n 1] 0 11 (L1 := [(1, vI (h 76 6)), (0, vR 76)]) (st1 := [vI (h 76 6)]) (h1 := (up h 76 6 0)) (P := True ∧ kd 76 = 9 ∧ True ∧ True ∧ True ∧ kd 76 = 9 ∧ True ∧ True) (by decide +kernel) rfl rfl ⟨trivial, rfl, trivial, trivial, trivial, rfl, trivial, trivial⟩ ?_
  cases hF
  exact hR.1 11 _ _ _ (by decide +kernel) rfl ⟨rfl, rfl⟩
set_option maxHeartbeats 4000000 in
set_option maxRecDepth 100000 in
theorem T_M_signOf {p1 : Int} {h : MH} {r : Int} (hF : F_M_signOf p1 = r) : CON 1 yX7_signOf cX7_signOf 1 (Option.some Jvm.ClassFile.FieldType.int) [vI p1] h (some (vI r)) h := by
  refine con_of (own := RX7) (fl := flX7) (by decide +kernel) rfl flok_X7 rfl (Nat.le_of_ble_eq_true rfl) ?_
  intro K hK hR
  show K 0 [(0, vI p1)] [] h
  unfold F_M_signOf at hF
  refine g_seg hK [.iload_n 0, .bipush 97, .bipush 102] 0 5 (L1 := [(0, vI p1)]) (st1 := [vI 102, vI 97, vI p1]) (h1 := h) (P := True ∧ True ∧ True ∧ True) (by decide +kernel) rfl rfl ⟨trivial, trivial, trivial, trivial⟩ ?_
  refine g_callS1 hK 5 89 (d1 := 0) (vs := [vI p1, vI 97, vI 102]) (rest := []) (h1 := h) (r := vI (F_M_in p1 97 102)) my_yX7_in sw_X7_89 (by decide) (T_M_in (p1 := p1) (p2 := 97) (p3 := 102) (h := h) (hF := rfl)) rfl (Nat.le_of_ble_eq_true rfl) (by decide +kernel) ?_
  refine g_ifz hK 8 .eq (10) 18 (t1 := 18) (t2 := 11) (by decide +kernel) (by decide) rfl rfl (fun (hc1 : F_M_in p1 97 102 = 0) => ?_) (fun (hc1 : ¬ (F_M_in p1 97 102 = 0)) => ?_)
  · have hF := ite_t hc1 hF
    refine g_seg hK [.iload_n 0, .bipush 46] 18 21 (L1 := [(0, vI p1)]) (st1 := [vI 46, vI p1]) (h1 := h) (P := True ∧ True ∧ True) (by decide +kernel) rfl rfl ⟨trivial, trivial, trivial⟩ ?_
    refine g_icmp hK 21 .ne (8) 29 (t1 := 24) (t2 := 29) (by decide +kernel) (by decide) rfl rfl (fun (hc2 : p1 = 46) => ?_) (fun (hc2 : ¬ (p1 = 46)) => ?_)
    · have hF := ite_t hc2 hF
      refine g_seg hK [.bipush 6] 24 26 (L1 := [(0, vI p1)]) (st1 := [vI 6]) (h1 := h) (P := True ∧ True) (by decide +kernel) rfl rfl ⟨trivial, trivial⟩ ?_
      refine g_goto hK 26 (27) 53 (by decide +kernel) (by decide) ?_
      cases hF
      exact hR.1 53 _ _ _ (by decide +kernel) rfl ⟨rfl, rfl⟩
    · have hF := ite_f hc2 hF
      refine g_seg hK [.iload_n 0, .bipush 123] 29 32 (L1 := [(0, vI p1)]) (st1 := [vI 123, vI p1]) (h1 := h) (P := True ∧ True ∧ True) (by decide +kernel) rfl rfl ⟨trivial, trivial, trivial⟩ ?_
      refine g_icmp hK 32 .ne (8) 40 (t1 := 35) (t2 := 40) (by decide +kernel) (by decide) rfl rfl (fun (hc3 : p1 = 123) => ?_) (fun (hc3 : ¬ (p1 = 123)) => ?_)
      · have hF := ite_t hc3 hF
        refine g_seg hK [.bipush 7] 35 37 (L1 := [(0, vI p1)]) (st1 := [vI 7]) (h1 := h) (P := True ∧ True) (by decide +kernel) rfl rfl ⟨trivial, trivial⟩ ?_
        refine g_goto hK 37 (16) 53 (by decide +kernel) (by decide) ?_
        cases hF
        exact hR.1 53 _ _ _ (by decide +kernel) rfl ⟨rfl, rfl⟩
      · have hF := ite_f hc3 hF
        refine g_seg hK [.iload_n 0, .bipush 125] 40 43 (L1 := [(0, vI p1)]) (st1 := [vI 125, vI p1]) (h1 := h) (P := True ∧ True ∧ True) (by decide +kernel) rfl rfl ⟨trivial, trivial, trivial⟩ ?_
        refine g_icmp hK 43 .ne (8) 51 (t1 := 46) (t2 := 51) (by decide +kernel) (by decide) rfl rfl (fun (hc4 : p1 = 125) => ?_) (fun (hc4 : ¬ (p1 = 125)) => ?_)
        · have hF := ite_t hc4 hF
          refine g_seg hK [.bipush 8] 46 48 (L1 := [(0, vI p1)]) (st1 := [vI 8]) (h1 := h) (P := True ∧ True) (by decide +kernel) rfl rfl ⟨trivial, trivial⟩ ?_
          refine g_goto hK 48 (5) 53 (by decide +kernel) (by decide) ?_
          cases hF
          exact hR.1 53 _ _ _ (by decide +kernel) rfl ⟨rfl, rfl⟩
        · have hF := ite_f hc4 hF
          refine g_seg hK [.bipush (-4)] 51 53 (L1 := [(0, vI p1)]) (st1 := [vI (-4)]) (h1 := h) (P := True ∧ True) (by decide +kernel) rfl rfl ⟨trivial, trivial⟩ ?_
          cases hF
          exact hR.1 53 _ _ _ (by decide +kernel) rfl ⟨rfl, rfl⟩
  · have hF := ite_f hc1 hF
    refine g_seg hK [.iload_n 0, .bipush 97, .isub] 11 15 (L1 := [(0, vI p1)]) (st1 := [vI (wr (p1 - 97))]) (h1 := h) (P := True ∧ True ∧ True ∧ True) (by decide +kernel) rfl rfl ⟨trivial, trivial, trivial, trivial⟩ ?_
    refine g_goto hK 15 (38) 53 (by decide +kernel) (by decide) ?_
    cases hF
    exact hR.1 53 _ _ _ (by decide +kernel) rfl ⟨rfl, rfl⟩
set_option maxHeartbeats 4000000 in
set_option maxRecDepth 100000 in
theorem LT_M_fault_L2 {K : KT} (hK : Rules RX7 cX7_fault 2 (Option.some Jvm.ClassFile.FieldType.int) flX7 2 K) {Post : Option MV → MH → Prop} (hR : R_ret cX7_fault (Option.some Jvm.ClassFile.FieldType.int) Post K) {h : MH} : ∀ (n : Nat) (x1 : Int) (out : Sum (Int) (Int)), F_M_fault_L2 h n x1 = some out → (∀ a : Int, out = Sum.inl a → Post (some (vI a)) h) → (∀ q : Int, out = Sum.inr q → K 38 [(0, vR 76), (1, vI q)] [] h) → K 2 [(0, vR 76), (1, vI x1)] [] h := by
  intro n
  induction n with
  | zero =>
    intro x1 out hF
    cases hF
  | succ n ih =>
    intro x1 out hF hRet hE
    unfold F_M_fault_L2 at hF
    refine g_seg hK [.iload_n 1, .aload_n 0, .getfield 140] 2 7 (L1 := [(0, vR 76), (1, vI x1)]) (st1 := [vI (h 76 6), vI x1]) (h1 := h) (P := True ∧ True ∧ kd 76 = 9 ∧ True) (by decide +kernel) rfl rfl ⟨trivial, trivial, rfl, trivial⟩ ?_
    refine g_icmp hK 7 .ge (31) 38 (t1 := 10) (t2 := 38) (by decide +kernel) (by decide) rfl rfl (fun (hc1 : x1 < h 76 6) => ?_) (fun (hc1 : ¬ (x1 < h 76 6)) => ?_)
    · have hF := ite_t hc1 hF
      refine g_seg hK [.iload_n 1, .bipush 14] 10 13 (L1 := [(0, vR 76), (1, vI x1)]) (st1 := [vI 14, vI x1]) (h1 := h) (P := True ∧ True ∧ True) (by decide +kernel) rfl rfl ⟨trivial, trivial, trivial⟩ ?_
      refine g_icmp hK 13 .eq (17) 30 (t1 := 30) (t2 := 16) (by decide +kernel) (by decide) rfl rfl (fun (hc2 : x1 = 14) => ?_) (fun (hc2 : ¬ (x1 = 14)) => ?_)
      · have hF := ite_t hc2 hF
        refine g_seg hK [.iload_n 1] 30 31 (L1 := [(0, vR 76), (1, vI x1)]) (st1 := [vI x1]) (h1 := h) (P := True ∧ True) (by decide +kernel) rfl rfl ⟨trivial, trivial⟩ ?_
        cases hF
        exact hR.1 31 _ _ _ (by decide +kernel) rfl (hRet _ rfl)
      · have hF := ite_f hc2 hF
        refine g_seg hK [.aload_n 0, .getfield 19, .iload_n 1] 16 21 (L1 := [(0, vR 76), (1, vI x1)]) (st1 := [vI x1, vR 80]) (h1 := h) (P := True ∧ kd 76 = 9 ∧ True ∧ True) (by decide +kernel) rfl rfl ⟨trivial, rfl, trivial, trivial⟩ ?_
        obtain ⟨hg3, hF⟩ := gd_elim hF
        refine g_seg hK [.iaload] 21 22 (L1 := [(0, vR 76), (1, vI x1)]) (st1 := [vI (h 80 x1.toNat)]) (h1 := h) (P := (kd 80 = 0 ∧ 0 ≤ x1 ∧ x1 < 40) ∧ True) (by decide +kernel) rfl rfl ⟨⟨rfl, hg3⟩, trivial⟩ ?_
        refine g_callS1 hK 22 143 (d1 := 1) (vs := [vI (h 80 x1.toNat)]) (rest := []) (h1 := h) (r := vI (F_M_signOf (h 80 x1.toNat))) my_yX7_signOf sw_X7_143 (by decide) (T_M_signOf (p1 := (h 80 x1.toNat)) (h := h) (hF := rfl)) rfl (Nat.le_of_ble_eq_true rfl) (by decide +kernel) ?_
        refine g_seg hK [.bipush (-4)] 25 27 (L1 := [(0, vR 76), (1, vI x1)]) (st1 := [vI (-4), vI (F_M_signOf (h 80 x1.toNat))]) (h1 := h) (P := True ∧ True) (by decide +kernel) rfl rfl ⟨trivial, trivial⟩ ?_
        refine g_icmp hK 27 .ne (5) 32 (t1 := 30) (t2 := 32) (by decide +kernel) (by decide) rfl rfl (fun (hc4 : F_M_signOf (h 80 x1.toNat) = (-4)) => ?_) (fun (hc4 : ¬ (F_M_signOf (h 80 x1.toNat) = (-4))) => ?_)
        · have hF := ite_t hc4 hF
          refine g_seg hK [.iload_n 1] 30 31 (L1 := [(0, vR 76), (1, vI x1)]) (st1 := [vI x1]) (h1 := h) (P := True ∧ True) (by decide +kernel) rfl rfl ⟨trivial, trivial⟩ ?_
          cases hF
          exact hR.1 31 _ _ _ (by decide +kernel) rfl (hRet _ rfl)
        · have hF := ite_f hc4 hF
          refine g_seg hK [.iinc 1 1] 32 35 (L1 := [(1, vI (wr (x1 + 1))), (0, vR 76)]) (st1 := []) (h1 := h) (P := True ∧ True) (by decide +kernel) rfl rfl ⟨trivial, trivial⟩ ?_
          refine g_goto hK 35 (-33) 2 (by decide +kernel) (by decide) ?_
          refine hK.2.1 _ _ ([(0, vR 76), (1, vI (wr (x1 + 1)))]) _ _ (sub_of [1, 0] rfl) ?_
          exact ih _ _ hF hRet hE
    · have hF := ite_f hc1 hF
      cases hF
      exact hE _ rfl
set_option maxHeartbeats 4000000 in
set_option maxRecDepth 100000 in
theorem T_M_fault {h : MH} {r : Int} (hF : F_M_fault h = some r) : CON 2 yX7_fault cX7_fault 2 (Option.some Jvm.ClassFile.FieldType.int) [vR 76] h (some (vI r)) h := by
  refine con_of (own := RX7) (fl := flX7) (by decide +kernel) rfl flok_X7 rfl (Nat.le_of_ble_eq_true rfl) ?_
  intro K hK hR
  show K 0 [(0, vR 76)] [] h
  unfold F_M_fault at hF
  refine g_seg hK [.iconst 0, .istore_n 1] 0 2 (L1 := [(1, vI 0), (0, vR 76)]) (st1 := []) (h1 := h) (P := True ∧ True ∧ True) (by decide +kernel) rfl rfl ⟨trivial, trivial, trivial⟩ ?_
  refine hK.2.1 _ _ ([(0, vR 76), (1, vI 0)]) _ _ (sub_of [1, 0] rfl) ?_
  obtain ⟨out4, e2, hr5, hx6⟩ := os_elim hF
  refine LT_M_fault_L2 hK hR _ _ out4 e2 ?_ ?_
  · intro a ha
    have hF := hr5 a ha
    cases hF
    exact ⟨rfl, rfl⟩
  · intro q3 hq
    have hF := hx6 q3 hq
    refine g_seg hK [.bipush (-4)] 38 40 (L1 := [(0, vR 76), (1, vI q3)]) (st1 := [vI (-4)]) (h1 := h) (P := True ∧ True) (by decide +kernel) rfl rfl ⟨trivial, trivial⟩ ?_
    cases hF
    exact hR.1 40 _ _ _ (by decide +kernel) rfl ⟨rfl, rfl⟩
set_option maxHeartbeats 4000000 in
set_option maxRecDepth 100000 in
theorem LT_M_load_L42 {K : KT} (hK : Rules RX7 cX7_load 3 (Option.some Jvm.ClassFile.FieldType.int) flX7 3 K) {x1 : Int} : ∀ (n : Nat) (x2 : Int) (h : MH) (x2' : Int) (h' : MH), F_M_load_L42 x1 n x2 h = some (x2', h') → K 78 [(0, vR 76), (1, vI x1), (2, vI x2')] [] h' → K 42 [(0, vR 76), (1, vI x1), (2, vI x2)] [] h := by
  intro n
  induction n with
  | zero =>
    intro x2 h x2' h' hF
    cases hF
  | succ n ih =>
    intro x2 h x2' h' hF hE
    unfold F_M_load_L42 at hF
    refine g_seg hK [.iload_n 2, .aload_n 0, .getfield 140] 42 47 (L1 := [(0, vR 76), (1, vI x1), (2, vI x2)]) (st1 := [vI (h 76 6), vI x2]) (h1 := h) (P := True ∧ True ∧ kd 76 = 9 ∧ True) (by decide +kernel) rfl rfl ⟨trivial, trivial, rfl, trivial⟩ ?_
    refine g_icmp hK 47 .ge (31) 78 (t1 := 50) (t2 := 78) (by decide +kernel) (by decide) rfl rfl (fun (hc1 : x2 < h 76 6) => ?_) (fun (hc1 : ¬ (x2 < h 76 6)) => ?_)
    · have hF := ite_t hc1 hF
      refine g_seg hK [.aload_n 0, .getfield 7, .bipush 15, .iload_n 1, .imul, .iconst 1, .iadd, .iload_n 2, .iadd, .aload_n 0, .getfield 19, .iload_n 2] 50 67 (L1 := [(0, vR 76), (1, vI x1), (2, vI x2)]) (st1 := [vI x2, vR 80, vI (wr ((wr ((wr (15 * x1)) + 1)) + x2)), vR 77]) (h1 := h) (P := True ∧ kd 76 = 9 ∧ True ∧ True ∧ True ∧ True ∧ True ∧ True ∧ True ∧ True ∧ kd 76 = 9 ∧ True ∧ True) (by decide +kernel) rfl rfl ⟨trivial, rfl, trivial, trivial, trivial, trivial, trivial, trivial, trivial, trivial, rfl, trivial, trivial⟩ ?_
      obtain ⟨hg2, hF⟩ := gd_elim hF
      refine g_seg hK [.iaload] 67 68 (L1 := [(0, vR 76), (1, vI x1), (2, vI x2)]) (st1 := [vI (h 80 x2.toNat), vI (wr ((wr ((wr (15 * x1)) + 1)) + x2)), vR 77]) (h1 := h) (P := (kd 80 = 0 ∧ 0 ≤ x2 ∧ x2 < 40) ∧ True) (by decide +kernel) rfl rfl ⟨⟨rfl, hg2⟩, trivial⟩ ?_
      refine g_callS1 hK 68 143 (d1 := 1) (vs := [vI (h 80 x2.toNat)]) (rest := [vI (wr ((wr ((wr (15 * x1)) + 1)) + x2)), vR 77]) (h1 := h) (r := vI (F_M_signOf (h 80 x2.toNat))) my_yX7_signOf sw_X7_143 (by decide) (T_M_signOf (p1 := (h 80 x2.toNat)) (h := h) (hF := rfl)) rfl (Nat.le_of_ble_eq_true rfl) (by decide +kernel) ?_
      obtain ⟨hg3, hF⟩ := gd_elim hF
      refine g_seg hK [.iastore, .iinc 2 1] 71 75 (L1 := [(2, vI (wr (x2 + 1))), (0, vR 76), (1, vI x1)]) (st1 := []) (h1 := (up h 77 (wr ((wr ((wr (15 * x1)) + 1)) + x2)).toNat (F_M_signOf (h 80 x2.toNat)))) (P := (kd 77 = 0 ∧ 0 ≤ wr ((wr ((wr (15 * x1)) + 1)) + x2) ∧ wr ((wr ((wr (15 * x1)) + 1)) + x2) < 49) ∧ True ∧ True) (by decide +kernel) rfl rfl ⟨⟨rfl, hg3⟩, trivial, trivial⟩ ?_
      refine g_goto hK 75 (-33) 42 (by decide +kernel) (by decide) ?_
      refine hK.2.1 _ _ ([(0, vR 76), (1, vI x1), (2, vI (wr (x2 + 1)))]) _ _ (sub_of [1, 2, 0] rfl) ?_
      exact ih _ _ _ _ hF hE
    · have hF := ite_f hc1 hF
      cases hF
      exact hE
set_option maxHeartbeats 4000000 in
set_option maxRecDepth 100000 in
theorem T_M_load {p1 : Int} {h : MH} {r : Int} {h' : MH} (hF : F_M_load p1 h = some (r, h')) : CON 3 yX7_load cX7_load 3 (Option.some Jvm.ClassFile.FieldType.int) [vR 76, vI p1] h (some (vI r)) h' := by
  refine con_of (own := RX7) (fl := flX7) (by decide +kernel) rfl flok_X7 rfl (Nat.le_of_ble_eq_true rfl) ?_
  intro K hK hR
  show K 0 [(0, vR 76), (1, vI p1)] [] h
  unfold F_M_load at hF
  refine g_seg hK [.iload_n 1, .iconst 0, .iconst 2] 0 3 (L1 := [(0, vR 76), (1, vI p1)]) (st1 := [vI 2, vI 0, vI p1]) (h1 := h) (P := True ∧ True ∧ True ∧ True) (by decide +kernel) rfl rfl ⟨trivial, trivial, trivial, trivial⟩ ?_
  refine g_callS1 hK 3 89 (d1 := 0) (vs := [vI p1, vI 0, vI 2]) (rest := []) (h1 := h) (r := vI (F_M_in p1 0 2)) my_yX7_in sw_X7_89 (by decide) (T_M_in (p1 := p1) (p2 := 0) (p3 := 2) (h := h) (hF := rfl)) rfl (Nat.le_of_ble_eq_true rfl) (by decide +kernel) ?_
  refine g_ifz hK 6 .ne (5) 11 (t1 := 9) (t2 := 11) (by decide +kernel) (by decide) rfl rfl (fun (hc1 : F_M_in p1 0 2 = 0) => ?_) (fun (hc1 : ¬ (F_M_in p1 0 2 = 0)) => ?_)
  · have hF := ite_t hc1 hF
    refine g_seg hK [.iconst (-1)] 9 10 (L1 := [(0, vR 76), (1, vI p1)]) (st1 := [vI (-1)]) (h1 := h) (P := True ∧ True) (by decide +kernel) rfl rfl ⟨trivial, trivial⟩ ?_
    cases hF
    exact hR.1 10 _ _ _ (by decide +kernel) rfl ⟨rfl, rfl⟩
  · have hF := ite_f hc1 hF
    refine g_seg hK [.aload_n 0] 11 12 (L1 := [(0, vR 76), (1, vI p1)]) (st1 := [vR 76]) (h1 := h) (P := True ∧ True) (by decide +kernel) rfl rfl ⟨trivial, trivial⟩ ?_
    obtain ⟨r2, e3, hF⟩ := ob1_elim hF
    refine g_callV1 hK 12 146 (d1 := 2) (ci := 7) (i := 76) (vs := []) (rest := []) (h1 := h) (r := vI r2) my_yX7_fault vw_X7_146 (by decide) (T_M_fault (h := h) (hF := e3)) rfl rfl rfl (Nat.le_of_ble_eq_true rfl) (by decide +kernel) ?_
    refine g_seg hK [.bipush (-4)] 15 17 (L1 := [(0, vR 76), (1, vI p1)]) (st1 := [vI (-4), vI r2]) (h1 := h) (P := True ∧ True) (by decide +kernel) rfl rfl ⟨trivial, trivial⟩ ?_
    refine g_icmp hK 17 .eq (6) 23 (t1 := 23) (t2 := 20) (by decide +kernel) (by decide) rfl rfl (fun (hc4 : r2 = (-4)) => ?_) (fun (hc4 : ¬ (r2 = (-4))) => ?_)
    · have hF := ite_t hc4 hF
      refine g_seg hK [.aload_n 0] 23 24 (L1 := [(0, vR 76), (1, vI p1)]) (st1 := [vR 76]) (h1 := h) (P := True ∧ True) (by decide +kernel) rfl rfl ⟨trivial, trivial⟩ ?_
      obtain ⟨h5, e6, hF⟩ := ob1_elim hF
      refine g_callV0 hK 24 149 (d1 := 0) (ci := 7) (i := 76) (vs := []) (rest := []) (h1 := h5) my_yX7_remembers vw_X7_149 (by decide) (T_M_remembers (h := h) (hF := e6)) rfl rfl rfl (Nat.le_of_ble_eq_true rfl) (by decide +kernel) ?_
      refine g_seg hK [.aload_n 0, .getfield 7, .bipush 15, .iload_n 1, .imul, .aload_n 0, .getfield 140] 27 39 (L1 := [(0, vR 76), (1, vI p1)]) (st1 := [vI (h5 76 6), vI (wr (15 * p1)), vR 77]) (h1 := h5) (P := True ∧ kd 76 = 9 ∧ True ∧ True ∧ True ∧ True ∧ kd 76 = 9 ∧ True) (by decide +kernel) rfl rfl ⟨trivial, rfl, trivial, trivial, trivial, trivial, rfl, trivial⟩ ?_
      obtain ⟨hg7, hF⟩ := gd_elim hF
      refine g_seg hK [.iastore, .iconst 0, .istore_n 2] 39 42 (L1 := [(2, vI 0), (0, vR 76), (1, vI p1)]) (st1 := []) (h1 := (up h5 77 (wr (15 * p1)).toNat (h5 76 6))) (P := (kd 77 = 0 ∧ 0 ≤ wr (15 * p1) ∧ wr (15 * p1) < 49) ∧ True ∧ True ∧ True) (by decide +kernel) rfl rfl ⟨⟨rfl, hg7⟩, trivial, trivial, trivial⟩ ?_
      refine hK.2.1 _ _ ([(0, vR 76), (1, vI p1), (2, vI 0)]) _ _ (sub_of [1, 2, 0] rfl) ?_
      obtain ⟨x2_8, h9, e10, hF⟩ := ob2_elim hF
      refine LT_M_load_L42 hK _ _ _ _ _ e10 ?_
      refine g_seg hK [.aload_n 0, .iconst 0, .putfield 140, .aload_n 0, .iload_n 1] 78 85 (L1 := [(0, vR 76), (1, vI p1), (2, vI x2_8)]) (st1 := [vI p1, vR 76]) (h1 := (up h9 76 6 0)) (P := True ∧ True ∧ kd 76 = 9 ∧ True ∧ True ∧ True) (by decide +kernel) rfl rfl ⟨trivial, trivial, rfl, trivial, trivial, trivial⟩ ?_
      obtain ⟨r11, e12, hF⟩ := ob1_elim hF
      refine g_callV1 hK 85 47 (d1 := 0) (ci := 7) (i := 76) (vs := [vI p1]) (rest := []) (h1 := (up h9 76 6 0)) (r := vI r11) my_yX7_lines vw_X7_47 (by decide) (T_M_lines (p1 := p1) (h := (up h9 76 6 0)) (hF := e12)) rfl rfl rfl (Nat.le_of_ble_eq_true rfl) (by decide +kernel) ?_
      cases hF
      exact hR.1 88 _ _ _ (by decide +kernel) rfl ⟨rfl, rfl⟩
    · have hF := ite_f hc4 hF
      refine g_seg hK [.bipush (-2)] 20 22 (L1 := [(0, vR 76), (1, vI p1)]) (st1 := [vI (-2)]) (h1 := h) (P := True ∧ True) (by decide +kernel) rfl rfl ⟨trivial, trivial⟩ ?_
      cases hF
      exact hR.1 22 _ _ _ (by decide +kernel) rfl ⟨rfl, rfl⟩
set_option maxHeartbeats 4000000 in
set_option maxRecDepth 100000 in
theorem LT_M_edit_L202 {K : KT} (hK : Rules RX7 cX7_edit 8 (Option.some Jvm.ClassFile.FieldType.int) flX7 1 K) {x1 : Int} {x6 : Int} : ∀ (n : Nat) (x7 : Int) (h : MH) (x7' : Int) (h' : MH), F_M_edit_L202 x1 x6 n x7 h = some (x7', h') → K 240 [(0, vR 76), (1, vI x1), (6, vI x6), (7, vI x7')] [] h' → K 202 [(0, vR 76), (1, vI x1), (6, vI x6), (7, vI x7)] [] h := by
  intro n
  induction n with
  | zero =>
    intro x7 h x7' h' hF
    cases hF
  | succ n ih =>
    intro x7 h x7' h' hF hE
    unfold F_M_edit_L202 at hF
    refine g_seg hK [.iload 7, .aload_n 0, .iload_n 1] 202 206 (L1 := [(0, vR 76), (1, vI x1), (6, vI x6), (7, vI x7)]) (st1 := [vI x1, vR 76, vI x7]) (h1 := h) (P := True ∧ True ∧ True ∧ True) (by decide +kernel) rfl rfl ⟨trivial, trivial, trivial, trivial⟩ ?_
    obtain ⟨r1, e2, hF⟩ := ob1_elim hF
    refine g_callV1 hK 206 47 (d1 := 0) (ci := 7) (i := 76) (vs := [vI x1]) (rest := [vI x7]) (h1 := h) (r := vI r1) my_yX7_lines vw_X7_47 (by decide) (T_M_lines (p1 := x1) (h := h) (hF := e2)) rfl rfl rfl (Nat.le_of_ble_eq_true rfl) (by decide +kernel) ?_
    refine g_icmp hK 209 .ge (31) 240 (t1 := 212) (t2 := 240) (by decide +kernel) (by decide) rfl rfl (fun (hc3 : x7 < r1) => ?_) (fun (hc3 : ¬ (x7 < r1)) => ?_)
    · have hF := ite_t hc3 hF
      refine g_seg hK [.aload_n 0, .getfield 7, .iload 6, .iload 7, .iadd, .aload_n 0, .getfield 7, .iload 6, .iload 7, .iadd, .iconst 1, .iadd] 212 232 (L1 := [(0, vR 76), (1, vI x1), (6, vI x6), (7, vI x7)]) (st1 := [vI (wr ((wr (x6 + x7)) + 1)), vR 77, vI (wr (x6 + x7)), vR 77]) (h1 := h) (P := True ∧ kd 76 = 9 ∧ True ∧ True ∧ True ∧ True ∧ kd 76 = 9 ∧ True ∧ True ∧ True ∧ True ∧ True ∧ True) (by decide +kernel) rfl rfl ⟨trivial, rfl, trivial, trivial, trivial, trivial, rfl, trivial, trivial, trivial, trivial, trivial, trivial⟩ ?_
      obtain ⟨hg4, hF⟩ := gd_elim hF
      refine g_seg hK [.iaload] 232 233 (L1 := [(0, vR 76), (1, vI x1), (6, vI x6), (7, vI x7)]) (st1 := [vI (h 77 (wr ((wr (x6 + x7)) + 1)).toNat), vI (wr (x6 + x7)), vR 77]) (h1 := h) (P := (kd 77 = 0 ∧ 0 ≤ wr ((wr (x6 + x7)) + 1) ∧ wr ((wr (x6 + x7)) + 1) < 49) ∧ True) (by decide +kernel) rfl rfl ⟨⟨rfl, hg4⟩, trivial⟩ ?_
      obtain ⟨hg5, hF⟩ := gd_elim hF
      refine g_seg hK [.iastore, .iinc 7 1] 233 237 (L1 := [(7, vI (wr (x7 + 1))), (0, vR 76), (1, vI x1), (6, vI x6)]) (st1 := []) (h1 := (up h 77 (wr (x6 + x7)).toNat (h 77 (wr ((wr (x6 + x7)) + 1)).toNat))) (P := (kd 77 = 0 ∧ 0 ≤ wr (x6 + x7) ∧ wr (x6 + x7) < 49) ∧ True ∧ True) (by decide +kernel) rfl rfl ⟨⟨rfl, hg5⟩, trivial, trivial⟩ ?_
      refine g_goto hK 237 (-35) 202 (by decide +kernel) (by decide) ?_
      refine hK.2.1 _ _ ([(0, vR 76), (1, vI x1), (6, vI x6), (7, vI (wr (x7 + 1)))]) _ _ (sub_of [1, 2, 3, 0] rfl) ?_
      exact ih _ _ _ _ hF hE
    · have hF := ite_f hc3 hF
      cases hF
      exact hE
set_option maxHeartbeats 4000000 in
set_option maxRecDepth 100000 in
theorem LT_M_edit_L120 {K : KT} (hK : Rules RX7 cX7_edit 8 (Option.some Jvm.ClassFile.FieldType.int) flX7 1 K) {x1 : Int} {x2 : Int} {x3 : Int} {x6 : Int} : ∀ (n : Nat) (x7 : Int) (h : MH) (x7' : Int) (h' : MH), F_M_edit_L120 x1 x2 x3 x6 n x7 h = some (x7', h') → K 154 [(0, vR 76), (1, vI x1), (2, vI x2), (3, vI x3), (6, vI x6), (7, vI x7')] [] h' → K 120 [(0, vR 76), (1, vI x1), (2, vI x2), (3, vI x3), (6, vI x6), (7, vI x7)] [] h := by
  intro n
  induction n with
  | zero =>
    intro x7 h x7' h' hF
    cases hF
  | succ n ih =>
    intro x7 h x7' h' hF hE
    unfold F_M_edit_L120 at hF
    refine g_seg hK [.iload 7, .iload_n 2] 120 123 (L1 := [(0, vR 76), (1, vI x1), (2, vI x2), (3, vI x3), (6, vI x6), (7, vI x7)]) (st1 := [vI x2, vI x7]) (h1 := h) (P := True ∧ True ∧ True) (by decide +kernel) rfl rfl ⟨trivial, trivial, trivial⟩ ?_
    refine g_icmp hK 123 .le (31) 154 (t1 := 154) (t2 := 126) (by decide +kernel) (by decide) rfl rfl (fun (hc1 : x7 ≤ x2) => ?_) (fun (hc1 : ¬ (x7 ≤ x2)) => ?_)
    · have hF := ite_t hc1 hF
      cases hF
      exact hE
    · have hF := ite_f hc1 hF
      refine g_seg hK [.aload_n 0, .getfield 7, .iload 6, .iload 7, .iadd, .aload_n 0, .getfield 7, .iload 6, .iload 7, .iadd, .iconst 1, .isub] 126 146 (L1 := [(0, vR 76), (1, vI x1), (2, vI x2), (3, vI x3), (6, vI x6), (7, vI x7)]) (st1 := [vI (wr ((wr (x6 + x7)) - 1)), vR 77, vI (wr (x6 + x7)), vR 77]) (h1 := h) (P := True ∧ kd 76 = 9 ∧ True ∧ True ∧ True ∧ True ∧ kd 76 = 9 ∧ True ∧ True ∧ True ∧ True ∧ True ∧ True) (by decide +kernel) rfl rfl ⟨trivial, rfl, trivial, trivial, trivial, trivial, rfl, trivial, trivial, trivial, trivial, trivial, trivial⟩ ?_
      obtain ⟨hg2, hF⟩ := gd_elim hF
      refine g_seg hK [.iaload] 146 147 (L1 := [(0, vR 76), (1, vI x1), (2, vI x2), (3, vI x3), (6, vI x6), (7, vI x7)]) (st1 := [vI (h 77 (wr ((wr (x6 + x7)) - 1)).toNat), vI (wr (x6 + x7)), vR 77]) (h1 := h) (P := (kd 77 = 0 ∧ 0 ≤ wr ((wr (x6 + x7)) - 1) ∧ wr ((wr (x6 + x7)) - 1) < 49) ∧ True) (by decide +kernel) rfl rfl ⟨⟨rfl, hg2⟩, trivial⟩ ?_
      obtain ⟨hg3, hF⟩ := gd_elim hF
      refine g_seg hK [.iastore, .iinc 7 (-1)] 147 151 (L1 := [(7, vI (wr (x7 + (-1)))), (0, vR 76), (1, vI x1), (2, vI x2), (3, vI x3), (6, vI x6)]) (st1 := []) (h1 := (up h 77 (wr (x6 + x7)).toNat (h 77 (wr ((wr (x6 + x7)) - 1)).toNat))) (P := (kd 77 = 0 ∧ 0 ≤ wr (x6 + x7) ∧ wr (x6 + x7) < 49) ∧ True ∧ True) (by decide +kernel) rfl rfl ⟨⟨rfl, hg3⟩, trivial, trivial⟩ ?_
      refine g_goto hK 151 (-31) 120 (by decide +kernel) (by decide) ?_
      refine hK.2.1 _ _ ([(0, vR 76), (1, vI x1), (2, vI x2), (3, vI x3), (6, vI x6), (7, vI (wr (x7 + (-1))))]) _ _ (sub_of [1, 2, 3, 4, 5, 0] rfl) ?_
      exact ih _ _ _ _ hF hE
set_option maxHeartbeats 4000000 in
set_option maxRecDepth 100000 in
theorem T_M_edit {p1 : Int} {p2 : Int} {p3 : Int} {h : MH} {r : Int} {h' : MH} (hF : F_M_edit p1 p2 p3 h = some (r, h')) : CON 1 yX7_edit cX7_edit 8 (Option.some Jvm.ClassFile.FieldType.int) [vR 76, vI p1, vI p2, vI p3] h (some (vI r)) h' := by
  refine con_of (own := RX7) (fl := flX7) (by decide +kernel) rfl flok_X7 rfl (Nat.le_of_ble_eq_true rfl) ?_
  intro K hK hR
  show K 0 [(0, vR 76), (1, vI p1), (2, vI p2), (3, vI p3)] [] h
  unfold F_M_edit at hF
  refine g_seg hK [.iload_n 3, .iconst 0, .bipush 8] 0 4 (L1 := [(0, vR 76), (1, vI p1), (2, vI p2), (3, vI p3)]) (st1 := [vI 8, vI 0, vI p3]) (h1 := h) (P := True ∧ True ∧ True ∧ True) (by decide +kernel) rfl rfl ⟨trivial, trivial, trivial, trivial⟩ ?_
  refine g_callS1 hK 4 89 (d1 := 0) (vs := [vI p3, vI 0, vI 8]) (rest := []) (h1 := h) (r := vI (F_M_in p3 0 8)) my_yX7_in sw_X7_89 (by decide) (T_M_in (p1 := p3) (p2 := 0) (p3 := 8) (h := h) (hF := rfl)) rfl (Nat.le_of_ble_eq_true rfl) (by decide +kernel) ?_
  refine g_seg hK [.istore 4, .iload 4] 7 11 (L1 := [(4, vI (F_M_in p3 0 8)), (0, vR 76), (1, vI p1), (2, vI p2), (3, vI p3)]) (st1 := [vI (F_M_in p3 0 8)]) (h1 := h) (P := True ∧ True ∧ True) (by decide +kernel) rfl rfl ⟨trivial, trivial, trivial⟩ ?_
  obtain ⟨kj4, e44, hF⟩ := jk1_elim hF
  have j4 : ∀ (s3 : Int), kj4 s3 = some (r, h') → K 36 [(0, vR 76), (1, vI p1), (2, vI p2), (3, vI p3), (4, vI (F_M_in p3 0 8))] [vI s3] h := by
    intro s3 hF
    have hF := (e44 s3).symm.trans hF
    refine g_seg hK [.istore 5, .iload_n 1, .iconst 0, .iconst 2] 36 41 (L1 := [(5, vI s3), (0, vR 76), (1, vI p1), (2, vI p2), (3, vI p3), (4, vI (F_M_in p3 0 8))]) (st1 := [vI 2, vI 0, vI p1]) (h1 := h) (P := True ∧ True ∧ True ∧ True ∧ True) (by decide +kernel) rfl rfl ⟨trivial, trivial, trivial, trivial, trivial⟩ ?_
    refine g_callS1 hK 41 89 (d1 := 0) (vs := [vI p1, vI 0, vI 2]) (rest := []) (h1 := h) (r := vI (F_M_in p1 0 2)) my_yX7_in sw_X7_89 (by decide) (T_M_in (p1 := p1) (p2 := 0) (p3 := 2) (h := h) (hF := rfl)) rfl (Nat.le_of_ble_eq_true rfl) (by decide +kernel) ?_
    refine g_ifz hK 44 .eq (32) 76 (t1 := 76) (t2 := 47) (by decide +kernel) (by decide) rfl rfl (fun (hc5 : F_M_in p1 0 2 = 0) => ?_) (fun (hc5 : ¬ (F_M_in p1 0 2 = 0)) => ?_)
    · have hF := ite_t hc5 hF
      refine g_seg hK [.iconst (-1)] 76 77 (L1 := [(5, vI s3), (0, vR 76), (1, vI p1), (2, vI p2), (3, vI p3), (4, vI (F_M_in p3 0 8))]) (st1 := [vI (-1)]) (h1 := h) (P := True ∧ True) (by decide +kernel) rfl rfl ⟨trivial, trivial⟩ ?_
      cases hF
      exact hR.1 77 _ _ _ (by decide +kernel) rfl ⟨rfl, rfl⟩
    · have hF := ite_f hc5 hF
      refine g_seg hK [.iload 5] 47 49 (L1 := [(5, vI s3), (0, vR 76), (1, vI p1), (2, vI p2), (3, vI p3), (4, vI (F_M_in p3 0 8))]) (st1 := [vI s3]) (h1 := h) (P := True ∧ True) (by decide +kernel) rfl rfl ⟨trivial, trivial⟩ ?_
      refine g_ifz hK 49 .eq (27) 76 (t1 := 76) (t2 := 52) (by decide +kernel) (by decide) rfl rfl (fun (hc6 : s3 = 0) => ?_) (fun (hc6 : ¬ (s3 = 0)) => ?_)
      · have hF := ite_t hc6 hF
        refine g_seg hK [.iconst (-1)] 76 77 (L1 := [(5, vI s3), (0, vR 76), (1, vI p1), (2, vI p2), (3, vI p3), (4, vI (F_M_in p3 0 8))]) (st1 := [vI (-1)]) (h1 := h) (P := True ∧ True) (by decide +kernel) rfl rfl ⟨trivial, trivial⟩ ?_
        cases hF
        exact hR.1 77 _ _ _ (by decide +kernel) rfl ⟨rfl, rfl⟩
      · have hF := ite_f hc6 hF
        refine g_seg hK [.iload_n 2, .iconst 0, .aload_n 0, .iload_n 1] 52 56 (L1 := [(5, vI s3), (0, vR 76), (1, vI p1), (2, vI p2), (3, vI p3), (4, vI (F_M_in p3 0 8))]) (st1 := [vI p1, vR 76, vI 0, vI p2]) (h1 := h) (P := True ∧ True ∧ True ∧ True ∧ True) (by decide +kernel) rfl rfl ⟨trivial, trivial, trivial, trivial, trivial⟩ ?_
        obtain ⟨r7, e8, hF⟩ := ob1_elim hF
        refine g_callV1 hK 56 47 (d1 := 0) (ci := 7) (i := 76) (vs := [vI p1]) (rest := [vI 0, vI p2]) (h1 := h) (r := vI r7) my_yX7_lines vw_X7_47 (by decide) (T_M_lines (p1 := p1) (h := h) (hF := e8)) rfl rfl rfl (Nat.le_of_ble_eq_true rfl) (by decide +kernel) ?_
        refine g_seg hK [.iload 4] 59 61 (L1 := [(5, vI s3), (0, vR 76), (1, vI p1), (2, vI p2), (3, vI p3), (4, vI (F_M_in p3 0 8))]) (st1 := [vI (F_M_in p3 0 8), vI r7, vI 0, vI p2]) (h1 := h) (P := True ∧ True) (by decide +kernel) rfl rfl ⟨trivial, trivial⟩ ?_
        obtain ⟨s9, e43, hF⟩ := jn1_elim hF
        have j10 : K 69 [(0, vR 76), (1, vI p1), (2, vI p2), (3, vI p3), (4, vI (F_M_in p3 0 8))] [vI s9, vI r7, vI 0, vI p2] h := by
          refine g_seg hK [.isub] 69 70 (L1 := [(0, vR 76), (1, vI p1), (2, vI p2), (3, vI p3), (4, vI (F_M_in p3 0 8))]) (st1 := [vI (wr (r7 - s9)), vI 0, vI p2]) (h1 := h) (P := True ∧ True) (by decide +kernel) rfl rfl ⟨trivial, trivial⟩ ?_
          refine g_callS1 hK 70 89 (d1 := 0) (vs := [vI p2, vI 0, vI (wr (r7 - s9))]) (rest := []) (h1 := h) (r := vI (F_M_in p2 0 (wr (r7 - s9)))) my_yX7_in sw_X7_89 (by decide) (T_M_in (p1 := p2) (p2 := 0) (p3 := (wr (r7 - s9))) (h := h) (hF := rfl)) rfl (Nat.le_of_ble_eq_true rfl) (by decide +kernel) ?_
          refine g_ifz hK 73 .ne (5) 78 (t1 := 76) (t2 := 78) (by decide +kernel) (by decide) rfl rfl (fun (hc12 : F_M_in p2 0 (wr (r7 - s9)) = 0) => ?_) (fun (hc12 : ¬ (F_M_in p2 0 (wr (r7 - s9)) = 0)) => ?_)
          · have hF := ite_t hc12 hF
            refine g_seg hK [.iconst (-1)] 76 77 (L1 := [(0, vR 76), (1, vI p1), (2, vI p2), (3, vI p3), (4, vI (F_M_in p3 0 8))]) (st1 := [vI (-1)]) (h1 := h) (P := True ∧ True) (by decide +kernel) rfl rfl ⟨trivial, trivial⟩ ?_
            cases hF
            exact hR.1 77 _ _ _ (by decide +kernel) rfl ⟨rfl, rfl⟩
          · have hF := ite_f hc12 hF
            refine g_seg hK [.iload 4] 78 80 (L1 := [(0, vR 76), (1, vI p1), (2, vI p2), (3, vI p3), (4, vI (F_M_in p3 0 8))]) (st1 := [vI (F_M_in p3 0 8)]) (h1 := h) (P := True ∧ True) (by decide +kernel) rfl rfl ⟨trivial, trivial⟩ ?_
            obtain ⟨kj14, e38, hF⟩ := jk1_elim hF
            have j14 : ∀ (u13 : Unit), kj14 u13 = some (r, h') → K 96 [(0, vR 76), (1, vI p1), (2, vI p2), (3, vI p3), (4, vI (F_M_in p3 0 8))] [] h := by
              intro u13 hF
              have hF := (e38 u13).symm.trans hF
              refine g_seg hK [.aload_n 0] 96 97 (L1 := [(0, vR 76), (1, vI p1), (2, vI p2), (3, vI p3), (4, vI (F_M_in p3 0 8))]) (st1 := [vR 76]) (h1 := h) (P := True ∧ True) (by decide +kernel) rfl rfl ⟨trivial, trivial⟩ ?_
              obtain ⟨h15, e16, hF⟩ := ob1_elim hF
              refine g_callV0 hK 97 149 (d1 := 0) (ci := 7) (i := 76) (vs := []) (rest := []) (h1 := h15) my_yX7_remembers vw_X7_149 (by decide) (T_M_remembers (h := h) (hF := e16)) rfl rfl rfl (Nat.le_of_ble_eq_true rfl) (by decide +kernel) ?_
              refine g_seg hK [.bipush 15, .iload_n 1, .imul, .iconst 1, .iadd, .istore 6, .iload 4] 100 110 (L1 := [(6, vI (wr ((wr (15 * p1)) + 1))), (0, vR 76), (1, vI p1), (2, vI p2), (3, vI p3), (4, vI (F_M_in p3 0 8))]) (st1 := [vI (F_M_in p3 0 8)]) (h1 := h15) (P := True ∧ True ∧ True ∧ True ∧ True ∧ True ∧ True ∧ True) (by decide +kernel) rfl rfl ⟨trivial, trivial, trivial, trivial, trivial, trivial, trivial, trivial⟩ ?_
              obtain ⟨kj18, e21, hF⟩ := jk1_elim hF
              have j18 : ∀ (h17 : MH), kj18 h17 = some (r, h') → K 256 [(0, vR 76), (1, vI p1)] [] h17 := by
                intro h17 hF
                have hF := (e21 h17).symm.trans hF
                refine g_seg hK [.aload_n 0, .iload_n 1] 256 258 (L1 := [(0, vR 76), (1, vI p1)]) (st1 := [vI p1, vR 76]) (h1 := h17) (P := True ∧ True ∧ True) (by decide +kernel) rfl rfl ⟨trivial, trivial, trivial⟩ ?_
                obtain ⟨r19, e20, hF⟩ := ob1_elim hF
                refine g_callV1 hK 258 47 (d1 := 0) (ci := 7) (i := 76) (vs := [vI p1]) (rest := []) (h1 := h17) (r := vI r19) my_yX7_lines vw_X7_47 (by decide) (T_M_lines (p1 := p1) (h := h17) (hF := e20)) rfl rfl rfl (Nat.le_of_ble_eq_true rfl) (by decide +kernel) ?_
                cases hF
                exact hR.1 261 _ _ _ (by decide +kernel) rfl ⟨rfl, rfl⟩
              refine g_ifz hK 110 .eq (70) 180 (t1 := 180) (t2 := 113) (by decide +kernel) (by decide) rfl rfl (fun (hc22 : F_M_in p3 0 8 = 0) => ?_) (fun (hc22 : ¬ (F_M_in p3 0 8 = 0)) => ?_)
              · have hF := ite_t hc22 hF
                refine g_seg hK [.iload_n 3, .bipush 20] 180 183 (L1 := [(6, vI (wr ((wr (15 * p1)) + 1))), (0, vR 76), (1, vI p1), (2, vI p2), (3, vI p3), (4, vI (F_M_in p3 0 8))]) (st1 := [vI 20, vI p3]) (h1 := h15) (P := True ∧ True ∧ True) (by decide +kernel) rfl rfl ⟨trivial, trivial, trivial⟩ ?_
                refine g_icmp hK 183 .ne (60) 243 (t1 := 186) (t2 := 243) (by decide +kernel) (by decide) rfl rfl (fun (hc23 : p3 = 20) => ?_) (fun (hc23 : ¬ (p3 = 20)) => ?_)
                · have hF := ite_t hc23 hF
                  refine g_seg hK [.aload_n 0, .getfield 7, .bipush 15, .iload_n 1, .imul, .dup2] 186 195 (L1 := [(6, vI (wr ((wr (15 * p1)) + 1))), (0, vR 76), (1, vI p1), (2, vI p2), (3, vI p3), (4, vI (F_M_in p3 0 8))]) (st1 := [vI (wr (15 * p1)), vR 77, vI (wr (15 * p1)), vR 77]) (h1 := h15) (P := True ∧ kd 76 = 9 ∧ True ∧ True ∧ True ∧ True ∧ True) (by decide +kernel) rfl rfl ⟨trivial, rfl, trivial, trivial, trivial, trivial, trivial⟩ ?_
                  obtain ⟨hg24, hF⟩ := gd_elim hF
                  refine g_seg hK [.iaload, .iconst 1, .isub] 195 198 (L1 := [(6, vI (wr ((wr (15 * p1)) + 1))), (0, vR 76), (1, vI p1), (2, vI p2), (3, vI p3), (4, vI (F_M_in p3 0 8))]) (st1 := [vI (wr ((h15 77 (wr (15 * p1)).toNat) - 1)), vI (wr (15 * p1)), vR 77]) (h1 := h15) (P := (kd 77 = 0 ∧ 0 ≤ wr (15 * p1) ∧ wr (15 * p1) < 49) ∧ True ∧ True ∧ True) (by decide +kernel) rfl rfl ⟨⟨rfl, hg24⟩, trivial, trivial, trivial⟩ ?_
                  obtain ⟨hg25, hF⟩ := gd_elim hF
                  refine g_seg hK [.iastore, .iload_n 2, .istore 7] 198 202 (L1 := [(7, vI p2), (6, vI (wr ((wr (15 * p1)) + 1))), (0, vR 76), (1, vI p1), (2, vI p2), (3, vI p3), (4, vI (F_M_in p3 0 8))]) (st1 := []) (h1 := (up h15 77 (wr (15 * p1)).toNat (wr ((h15 77 (wr (15 * p1)).toNat) - 1)))) (P := (kd 77 = 0 ∧ 0 ≤ wr (15 * p1) ∧ wr (15 * p1) < 49) ∧ True ∧ True ∧ True) (by decide +kernel) rfl rfl ⟨⟨rfl, hg25⟩, trivial, trivial, trivial⟩ ?_
                  refine hK.2.1 _ _ ([(0, vR 76), (1, vI p1), (6, vI (wr ((wr (15 * p1)) + 1))), (7, vI p2)]) _ _ (sub_of [2, 3, 1, 0] rfl) ?_
                  obtain ⟨x7_26, h27, e28, hF⟩ := ob2_elim hF
                  refine LT_M_edit_L202 hK _ _ _ _ _ e28 ?_
                  refine g_goto hK 240 (16) 256 (by decide +kernel) (by decide) ?_
                  refine hK.2.1 _ _ ([(0, vR 76), (1, vI p1)]) _ _ (sub_of [0, 1] rfl) ?_
                  exact j18 _ hF
                · have hF := ite_f hc23 hF
                  refine g_seg hK [.aload_n 0, .getfield 7, .iload 6, .iload_n 2, .iadd, .iload_n 3, .bipush 10, .isub] 243 255 (L1 := [(6, vI (wr ((wr (15 * p1)) + 1))), (0, vR 76), (1, vI p1), (2, vI p2), (3, vI p3), (4, vI (F_M_in p3 0 8))]) (st1 := [vI (wr (p3 - 10)), vI (wr ((wr ((wr (15 * p1)) + 1)) + p2)), vR 77]) (h1 := h15) (P := True ∧ kd 76 = 9 ∧ True ∧ True ∧ True ∧ True ∧ True ∧ True ∧ True) (by decide +kernel) rfl rfl ⟨trivial, rfl, trivial, trivial, trivial, trivial, trivial, trivial, trivial⟩ ?_
                  obtain ⟨hg29, hF⟩ := gd_elim hF
                  refine g_seg hK [.iastore] 255 256 (L1 := [(6, vI (wr ((wr (15 * p1)) + 1))), (0, vR 76), (1, vI p1), (2, vI p2), (3, vI p3), (4, vI (F_M_in p3 0 8))]) (st1 := []) (h1 := (up h15 77 (wr ((wr ((wr (15 * p1)) + 1)) + p2)).toNat (wr (p3 - 10)))) (P := (kd 77 = 0 ∧ 0 ≤ wr ((wr ((wr (15 * p1)) + 1)) + p2) ∧ wr ((wr ((wr (15 * p1)) + 1)) + p2) < 49) ∧ True) (by decide +kernel) rfl rfl ⟨⟨rfl, hg29⟩, trivial⟩ ?_
                  refine hK.2.1 _ _ ([(0, vR 76), (1, vI p1)]) _ _ (sub_of [1, 2] rfl) ?_
                  exact j18 _ hF
              · have hF := ite_f hc22 hF
                refine g_seg hK [.aload_n 0, .iload_n 1] 113 115 (L1 := [(6, vI (wr ((wr (15 * p1)) + 1))), (0, vR 76), (1, vI p1), (2, vI p2), (3, vI p3), (4, vI (F_M_in p3 0 8))]) (st1 := [vI p1, vR 76]) (h1 := h15) (P := True ∧ True ∧ True) (by decide +kernel) rfl rfl ⟨trivial, trivial, trivial⟩ ?_
                obtain ⟨r30, e31, hF⟩ := ob1_elim hF
                refine g_callV1 hK 115 47 (d1 := 0) (ci := 7) (i := 76) (vs := [vI p1]) (rest := []) (h1 := h15) (r := vI r30) my_yX7_lines vw_X7_47 (by decide) (T_M_lines (p1 := p1) (h := h15) (hF := e31)) rfl rfl rfl (Nat.le_of_ble_eq_true rfl) (by decide +kernel) ?_
                refine g_seg hK [.istore 7] 118 120 (L1 := [(7, vI r30), (6, vI (wr ((wr (15 * p1)) + 1))), (0, vR 76), (1, vI p1), (2, vI p2), (3, vI p3), (4, vI (F_M_in p3 0 8))]) (st1 := []) (h1 := h15) (P := True ∧ True) (by decide +kernel) rfl rfl ⟨trivial, trivial⟩ ?_
                refine hK.2.1 _ _ ([(0, vR 76), (1, vI p1), (2, vI p2), (3, vI p3), (6, vI (wr ((wr (15 * p1)) + 1))), (7, vI r30)]) _ _ (sub_of [2, 3, 4, 5, 1, 0] rfl) ?_
                obtain ⟨x7_32, h33, e34, hF⟩ := ob2_elim hF
                refine LT_M_edit_L120 hK _ _ _ _ _ e34 ?_
                refine g_seg hK [.aload_n 0, .getfield 7, .bipush 15, .iload_n 1, .imul, .dup2] 154 163 (L1 := [(0, vR 76), (1, vI p1), (2, vI p2), (3, vI p3), (6, vI (wr ((wr (15 * p1)) + 1))), (7, vI x7_32)]) (st1 := [vI (wr (15 * p1)), vR 77, vI (wr (15 * p1)), vR 77]) (h1 := h33) (P := True ∧ kd 76 = 9 ∧ True ∧ True ∧ True ∧ True ∧ True) (by decide +kernel) rfl rfl ⟨trivial, rfl, trivial, trivial, trivial, trivial, trivial⟩ ?_
                obtain ⟨hg35, hF⟩ := gd_elim hF
                refine g_seg hK [.iaload, .iconst 1, .iadd] 163 166 (L1 := [(0, vR 76), (1, vI p1), (2, vI p2), (3, vI p3), (6, vI (wr ((wr (15 * p1)) + 1))), (7, vI x7_32)]) (st1 := [vI (wr ((h33 77 (wr (15 * p1)).toNat) + 1)), vI (wr (15 * p1)), vR 77]) (h1 := h33) (P := (kd 77 = 0 ∧ 0 ≤ wr (15 * p1) ∧ wr (15 * p1) < 49) ∧ True ∧ True ∧ True) (by decide +kernel) rfl rfl ⟨⟨rfl, hg35⟩, trivial, trivial, trivial⟩ ?_
                obtain ⟨hg36, hF⟩ := gd_elim hF
                refine g_seg hK [.iastore, .aload_n 0, .getfield 7, .iload 6, .iload_n 2, .iadd, .iload_n 3] 166 176 (L1 := [(0, vR 76), (1, vI p1), (2, vI p2), (3, vI p3), (6, vI (wr ((wr (15 * p1)) + 1))), (7, vI x7_32)]) (st1 := [vI p3, vI (wr ((wr ((wr (15 * p1)) + 1)) + p2)), vR 77]) (h1 := (up h33 77 (wr (15 * p1)).toNat (wr ((h33 77 (wr (15 * p1)).toNat) + 1)))) (P := (kd 77 = 0 ∧ 0 ≤ wr (15 * p1) ∧ wr (15 * p1) < 49) ∧ True ∧ kd 76 = 9 ∧ True ∧ True ∧ True ∧ True ∧ True) (by decide +kernel) rfl rfl ⟨⟨rfl, hg36⟩, trivial, rfl, trivial, trivial, trivial, trivial, trivial⟩ ?_
                obtain ⟨hg37, hF⟩ := gd_elim hF
                refine g_seg hK [.iastore] 176 177 (L1 := [(0, vR 76), (1, vI p1), (2, vI p2), (3, vI p3), (6, vI (wr ((wr (15 * p1)) + 1))), (7, vI x7_32)]) (st1 := []) (h1 := (up (up h33 77 (wr (15 * p1)).toNat (wr ((h33 77 (wr (15 * p1)).toNat) + 1))) 77 (wr ((wr ((wr (15 * p1)) + 1)) + p2)).toNat p3)) (P := (kd 77 = 0 ∧ 0 ≤ wr ((wr ((wr (15 * p1)) + 1)) + p2) ∧ wr ((wr ((wr (15 * p1)) + 1)) + p2) < 49) ∧ True) (by decide +kernel) rfl rfl ⟨⟨rfl, hg37⟩, trivial⟩ ?_
                refine g_goto hK 177 (79) 256 (by decide +kernel) (by decide) ?_
                refine hK.2.1 _ _ ([(0, vR 76), (1, vI p1)]) _ _ (sub_of [0, 1] rfl) ?_
                exact j18 _ hF
            refine g_ifz hK 80 .eq (16) 96 (t1 := 96) (t2 := 83) (by decide +kernel) (by decide) rfl rfl (fun (hc39 : F_M_in p3 0 8 = 0) => ?_) (fun (hc39 : ¬ (F_M_in p3 0 8 = 0)) => ?_)
            · have hF := ite_t hc39 hF
              exact j14 _ hF
            · have hF := ite_f hc39 hF
              refine g_seg hK [.aload_n 0, .iload_n 1] 83 85 (L1 := [(0, vR 76), (1, vI p1), (2, vI p2), (3, vI p3), (4, vI (F_M_in p3 0 8))]) (st1 := [vI p1, vR 76]) (h1 := h) (P := True ∧ True ∧ True) (by decide +kernel) rfl rfl ⟨trivial, trivial, trivial⟩ ?_
              obtain ⟨r40, e41, hF⟩ := ob1_elim hF
              refine g_callV1 hK 85 47 (d1 := 0) (ci := 7) (i := 76) (vs := [vI p1]) (rest := []) (h1 := h) (r := vI r40) my_yX7_lines vw_X7_47 (by decide) (T_M_lines (p1 := p1) (h := h) (hF := e41)) rfl rfl rfl (Nat.le_of_ble_eq_true rfl) (by decide +kernel) ?_
              refine g_seg hK [.bipush 14] 88 90 (L1 := [(0, vR 76), (1, vI p1), (2, vI p2), (3, vI p3), (4, vI (F_M_in p3 0 8))]) (st1 := [vI 14, vI r40]) (h1 := h) (P := True ∧ True) (by decide +kernel) rfl rfl ⟨trivial, trivial⟩ ?_
              refine g_icmp hK 90 .ne (6) 96 (t1 := 93) (t2 := 96) (by decide +kernel) (by decide) rfl rfl (fun (hc42 : r40 = 14) => ?_) (fun (hc42 : ¬ (r40 = 14)) => ?_)
              · have hF := ite_t hc42 hF
                refine g_seg hK [.bipush (-3)] 93 95 (L1 := [(0, vR 76), (1, vI p1), (2, vI p2), (3, vI p3), (4, vI (F_M_in p3 0 8))]) (st1 := [vI (-3)]) (h1 := h) (P := True ∧ True) (by decide +kernel) rfl rfl ⟨trivial, trivial⟩ ?_
                cases hF
                exact hR.1 95 _ _ _ (by decide +kernel) rfl ⟨rfl, rfl⟩
              · have hF := ite_f hc42 hF
                exact j14 _ hF
        clear hF
        have hF := e43
        refine g_ifz hK 61 .eq (7) 68 (t1 := 68) (t2 := 64) (by decide +kernel) (by decide) rfl rfl (fun (hc11 : F_M_in p3 0 8 = 0) => ?_) (fun (hc11 : ¬ (F_M_in p3 0 8 = 0)) => ?_)
        · have hF := ite_t hc11 hF
          refine g_seg hK [.iconst 1] 68 69 (L1 := [(5, vI s3), (0, vR 76), (1, vI p1), (2, vI p2), (3, vI p3), (4, vI (F_M_in p3 0 8))]) (st1 := [vI 1, vI r7, vI 0, vI p2]) (h1 := h) (P := True ∧ True) (by decide +kernel) rfl rfl ⟨trivial, trivial⟩ ?_
          refine hK.2.1 _ _ ([(0, vR 76), (1, vI p1), (2, vI p2), (3, vI p3), (4, vI (F_M_in p3 0 8))]) _ _ (sub_of [1, 2, 3, 4, 5] rfl) ?_
          cases hF
          exact j10
        · have hF := ite_f hc11 hF
          refine g_seg hK [.iconst 0] 64 65 (L1 := [(5, vI s3), (0, vR 76), (1, vI p1), (2, vI p2), (3, vI p3), (4, vI (F_M_in p3 0 8))]) (st1 := [vI 0, vI r7, vI 0, vI p2]) (h1 := h) (P := True ∧ True) (by decide +kernel) rfl rfl ⟨trivial, trivial⟩ ?_
          refine g_goto hK 65 (4) 69 (by decide +kernel) (by decide) ?_
          refine hK.2.1 _ _ ([(0, vR 76), (1, vI p1), (2, vI p2), (3, vI p3), (4, vI (F_M_in p3 0 8))]) _ _ (sub_of [1, 2, 3, 4, 5] rfl) ?_
          cases hF
          exact j10
  obtain ⟨kj2, e45, hF⟩ := jk1_elim hF
  have j2 : ∀ (u1 : Unit), kj2 u1 = some (r, h') → K 31 [(0, vR 76), (1, vI p1), (2, vI p2), (3, vI p3), (4, vI (F_M_in p3 0 8))] [] h := by
    intro u1 hF
    have hF := (e45 u1).symm.trans hF
    refine g_seg hK [.iconst 1] 31 32 (L1 := [(0, vR 76), (1, vI p1), (2, vI p2), (3, vI p3), (4, vI (F_M_in p3 0 8))]) (st1 := [vI 1]) (h1 := h) (P := True ∧ True) (by decide +kernel) rfl rfl ⟨trivial, trivial⟩ ?_
    refine g_goto hK 32 (4) 36 (by decide +kernel) (by decide) ?_
    exact j4 _ hF
  refine g_ifz hK 11 .ne (20) 31 (t1 := 14) (t2 := 31) (by decide +kernel) (by decide) rfl rfl (fun (hc46 : F_M_in p3 0 8 = 0) => ?_) (fun (hc46 : ¬ (F_M_in p3 0 8 = 0)) => ?_)
  · have hF := ite_t hc46 hF
    refine g_seg hK [.iload_n 3, .bipush 10, .bipush 18] 14 19 (L1 := [(4, vI (F_M_in p3 0 8)), (0, vR 76), (1, vI p1), (2, vI p2), (3, vI p3)]) (st1 := [vI 18, vI 10, vI p3]) (h1 := h) (P := True ∧ True ∧ True ∧ True) (by decide +kernel) rfl rfl ⟨trivial, trivial, trivial, trivial⟩ ?_
    refine g_callS1 hK 19 89 (d1 := 0) (vs := [vI p3, vI 10, vI 18]) (rest := []) (h1 := h) (r := vI (F_M_in p3 10 18)) my_yX7_in sw_X7_89 (by decide) (T_M_in (p1 := p3) (p2 := 10) (p3 := 18) (h := h) (hF := rfl)) rfl (Nat.le_of_ble_eq_true rfl) (by decide +kernel) ?_
    refine g_ifz hK 22 .ne (9) 31 (t1 := 25) (t2 := 31) (by decide +kernel) (by decide) rfl rfl (fun (hc47 : F_M_in p3 10 18 = 0) => ?_) (fun (hc47 : ¬ (F_M_in p3 10 18 = 0)) => ?_)
    · have hF := ite_t hc47 hF
      refine g_seg hK [.iload_n 3, .bipush 20] 25 28 (L1 := [(4, vI (F_M_in p3 0 8)), (0, vR 76), (1, vI p1), (2, vI p2), (3, vI p3)]) (st1 := [vI 20, vI p3]) (h1 := h) (P := True ∧ True ∧ True) (by decide +kernel) rfl rfl ⟨trivial, trivial, trivial⟩ ?_
      refine g_icmp hK 28 .ne (7) 35 (t1 := 31) (t2 := 35) (by decide +kernel) (by decide) rfl rfl (fun (hc48 : p3 = 20) => ?_) (fun (hc48 : ¬ (p3 = 20)) => ?_)
      · have hF := ite_t hc48 hF
        refine hK.2.1 _ _ ([(0, vR 76), (1, vI p1), (2, vI p2), (3, vI p3), (4, vI (F_M_in p3 0 8))]) _ _ (sub_of [1, 2, 3, 4, 0] rfl) ?_
        exact j2 _ hF
      · have hF := ite_f hc48 hF
        refine g_seg hK [.iconst 0] 35 36 (L1 := [(4, vI (F_M_in p3 0 8)), (0, vR 76), (1, vI p1), (2, vI p2), (3, vI p3)]) (st1 := [vI 0]) (h1 := h) (P := True ∧ True) (by decide +kernel) rfl rfl ⟨trivial, trivial⟩ ?_
        refine hK.2.1 _ _ ([(0, vR 76), (1, vI p1), (2, vI p2), (3, vI p3), (4, vI (F_M_in p3 0 8))]) _ _ (sub_of [1, 2, 3, 4, 0] rfl) ?_
        exact j4 _ hF
    · have hF := ite_f hc47 hF
      refine hK.2.1 _ _ ([(0, vR 76), (1, vI p1), (2, vI p2), (3, vI p3), (4, vI (F_M_in p3 0 8))]) _ _ (sub_of [1, 2, 3, 4, 0] rfl) ?_
      exact j2 _ hF
  · have hF := ite_f hc46 hF
    refine hK.2.1 _ _ ([(0, vR 76), (1, vI p1), (2, vI p2), (3, vI p3), (4, vI (F_M_in p3 0 8))]) _ _ (sub_of [1, 2, 3, 4, 0] rfl) ?_
    exact j2 _ hF
set_option maxHeartbeats 4000000 in
set_option maxRecDepth 100000 in
theorem LT_M_swap_L31 {K : KT} (hK : Rules RX7 cX7_swap 5 (Option.some Jvm.ClassFile.FieldType.int) flX7 3 K) {x1 : Int} {x2 : Int} : ∀ (n : Nat) (x3 : Int) (h : MH) (x3' : Int) (h' : MH), F_M_swap_L31 x1 x2 n x3 h = some (x3', h') → K 91 [(0, vR 76), (1, vI x1), (2, vI x2), (3, vI x3')] [] h' → K 31 [(0, vR 76), (1, vI x1), (2, vI x2), (3, vI x3)] [] h := by
  intro n
  induction n with
  | zero =>
    intro x3 h x3' h' hF
    cases hF
  | succ n ih =>
    intro x3 h x3' h' hF hE
    unfold F_M_swap_L31 at hF
    refine g_seg hK [.iload_n 3, .bipush 15] 31 34 (L1 := [(0, vR 76), (1, vI x1), (2, vI x2), (3, vI x3)]) (st1 := [vI 15, vI x3]) (h1 := h) (P := True ∧ True ∧ True) (by decide +kernel) rfl rfl ⟨trivial, trivial, trivial⟩ ?_
    refine g_icmp hK 34 .ge (57) 91 (t1 := 37) (t2 := 91) (by decide +kernel) (by decide) rfl rfl (fun (hc1 : x3 < 15) => ?_) (fun (hc1 : ¬ (x3 < 15)) => ?_)
    · have hF := ite_t hc1 hF
      refine g_seg hK [.aload_n 0, .getfield 7, .bipush 15, .iload_n 1, .imul, .iload_n 3, .iadd] 37 47 (L1 := [(0, vR 76), (1, vI x1), (2, vI x2), (3, vI x3)]) (st1 := [vI (wr ((wr (15 * x1)) + x3)), vR 77]) (h1 := h) (P := True ∧ kd 76 = 9 ∧ True ∧ True ∧ True ∧ True ∧ True ∧ True) (by decide +kernel) rfl rfl ⟨trivial, rfl, trivial, trivial, trivial, trivial, trivial, trivial⟩ ?_
      obtain ⟨hg2, hF⟩ := gd_elim hF
      refine g_seg hK [.iaload, .istore 4, .aload_n 0, .getfield 7, .bipush 15, .iload_n 1, .imul, .iload_n 3, .iadd, .aload_n 0, .getfield 7, .bipush 15, .iload_n 2, .imul, .iload_n 3, .iadd] 47 70 (L1 := [(4, vI (h 77 (wr ((wr (15 * x1)) + x3)).toNat)), (0, vR 76), (1, vI x1), (2, vI x2), (3, vI x3)]) (st1 := [vI (wr ((wr (15 * x2)) + x3)), vR 77, vI (wr ((wr (15 * x1)) + x3)), vR 77]) (h1 := h) (P := (kd 77 = 0 ∧ 0 ≤ wr ((wr (15 * x1)) + x3) ∧ wr ((wr (15 * x1)) + x3) < 49) ∧ True ∧ True ∧ kd 76 = 9 ∧ True ∧ True ∧ True ∧ True ∧ True ∧ True ∧ kd 76 = 9 ∧ True ∧ True ∧ True ∧ True ∧ True ∧ True) (by decide +kernel) rfl rfl ⟨⟨rfl, hg2⟩, trivial, trivial, rfl, trivial, trivial, trivial, trivial, trivial, trivial, rfl, trivial, trivial, trivial, trivial, trivial, trivial⟩ ?_
      obtain ⟨hg3, hF⟩ := gd_elim hF
      refine g_seg hK [.iaload] 70 71 (L1 := [(4, vI (h 77 (wr ((wr (15 * x1)) + x3)).toNat)), (0, vR 76), (1, vI x1), (2, vI x2), (3, vI x3)]) (st1 := [vI (h 77 (wr ((wr (15 * x2)) + x3)).toNat), vI (wr ((wr (15 * x1)) + x3)), vR 77]) (h1 := h) (P := (kd 77 = 0 ∧ 0 ≤ wr ((wr (15 * x2)) + x3) ∧ wr ((wr (15 * x2)) + x3) < 49) ∧ True) (by decide +kernel) rfl rfl ⟨⟨rfl, hg3⟩, trivial⟩ ?_
      obtain ⟨hg4, hF⟩ := gd_elim hF
      refine g_seg hK [.iastore, .aload_n 0, .getfield 7, .bipush 15, .iload_n 2, .imul, .iload_n 3, .iadd, .iload 4] 71 84 (L1 := [(4, vI (h 77 (wr ((wr (15 * x1)) + x3)).toNat)), (0, vR 76), (1, vI x1), (2, vI x2), (3, vI x3)]) (st1 := [vI (h 77 (wr ((wr (15 * x1)) + x3)).toNat), vI (wr ((wr (15 * x2)) + x3)), vR 77]) (h1 := (up h 77 (wr ((wr (15 * x1)) + x3)).toNat (h 77 (wr ((wr (15 * x2)) + x3)).toNat))) (P := (kd 77 = 0 ∧ 0 ≤ wr ((wr (15 * x1)) + x3) ∧ wr ((wr (15 * x1)) + x3) < 49) ∧ True ∧ kd 76 = 9 ∧ True ∧ True ∧ True ∧ True ∧ True ∧ True ∧ True) (by decide +kernel) rfl rfl ⟨⟨rfl, hg4⟩, trivial, rfl, trivial, trivial, trivial, trivial, trivial, trivial, trivial⟩ ?_
      obtain ⟨hg5, hF⟩ := gd_elim hF
      refine g_seg hK [.iastore, .iinc 3 1] 84 88 (L1 := [(3, vI (wr (x3 + 1))), (4, vI (h 77 (wr ((wr (15 * x1)) + x3)).toNat)), (0, vR 76), (1, vI x1), (2, vI x2)]) (st1 := []) (h1 := (up (up h 77 (wr ((wr (15 * x1)) + x3)).toNat (h 77 (wr ((wr (15 * x2)) + x3)).toNat)) 77 (wr ((wr (15 * x2)) + x3)).toNat (h 77 (wr ((wr (15 * x1)) + x3)).toNat))) (P := (kd 77 = 0 ∧ 0 ≤ wr ((wr (15 * x2)) + x3) ∧ wr ((wr (15 * x2)) + x3) < 49) ∧ True ∧ True) (by decide +kernel) rfl rfl ⟨⟨rfl, hg5⟩, trivial, trivial⟩ ?_
      refine g_goto hK 88 (-57) 31 (by decide +kernel) (by decide) ?_
      refine hK.2.1 _ _ ([(0, vR 76), (1, vI x1), (2, vI x2), (3, vI (wr (x3 + 1)))]) _ _ (sub_of [2, 3, 4, 0] rfl) ?_
      exact ih _ _ _ _ hF hE
    · have hF := ite_f hc1 hF
      cases hF
      exact hE
set_option maxHeartbeats 4000000 in
set_option maxRecDepth 100000 in
theorem T_M_swap {p1 : Int} {p2 : Int} {h : MH} {r : Int} {h' : MH} (hF : F_M_swap p1 p2 h = some (r, h')) : CON 3 yX7_swap cX7_swap 5 (Option.some Jvm.ClassFile.FieldType.int) [vR 76, vI p1, vI p2] h (some (vI r)) h' := by
  refine con_of (own := RX7) (fl := flX7) (by decide +kernel) rfl flok_X7 rfl (Nat.le_of_ble_eq_true rfl) ?_
  intro K hK hR
  show K 0 [(0, vR 76), (1, vI p1), (2, vI p2)] [] h
  unfold F_M_swap at hF
  refine g_seg hK [.iload_n 1, .iconst 0, .iconst 2] 0 3 (L1 := [(0, vR 76), (1, vI p1), (2, vI p2)]) (st1 := [vI 2, vI 0, vI p1]) (h1 := h) (P := True ∧ True ∧ True ∧ True) (by decide +kernel) rfl rfl ⟨trivial, trivial, trivial, trivial⟩ ?_
  refine g_callS1 hK 3 89 (d1 := 0) (vs := [vI p1, vI 0, vI 2]) (rest := []) (h1 := h) (r := vI (F_M_in p1 0 2)) my_yX7_in sw_X7_89 (by decide) (T_M_in (p1 := p1) (p2 := 0) (p3 := 2) (h := h) (hF := rfl)) rfl (Nat.le_of_ble_eq_true rfl) (by decide +kernel) ?_
  refine g_ifz hK 6 .eq (17) 23 (t1 := 23) (t2 := 9) (by decide +kernel) (by decide) rfl rfl (fun (hc1 : F_M_in p1 0 2 = 0) => ?_) (fun (hc1 : ¬ (F_M_in p1 0 2 = 0)) => ?_)
  · have hF := ite_t hc1 hF
    refine g_seg hK [.iconst (-1)] 23 24 (L1 := [(0, vR 76), (1, vI p1), (2, vI p2)]) (st1 := [vI (-1)]) (h1 := h) (P := True ∧ True) (by decide +kernel) rfl rfl ⟨trivial, trivial⟩ ?_
    cases hF
    exact hR.1 24 _ _ _ (by decide +kernel) rfl ⟨rfl, rfl⟩
  · have hF := ite_f hc1 hF
    refine g_seg hK [.iload_n 2, .iconst 0, .iconst 2] 9 12 (L1 := [(0, vR 76), (1, vI p1), (2, vI p2)]) (st1 := [vI 2, vI 0, vI p2]) (h1 := h) (P := True ∧ True ∧ True ∧ True) (by decide +kernel) rfl rfl ⟨trivial, trivial, trivial, trivial⟩ ?_
    refine g_callS1 hK 12 89 (d1 := 0) (vs := [vI p2, vI 0, vI 2]) (rest := []) (h1 := h) (r := vI (F_M_in p2 0 2)) my_yX7_in sw_X7_89 (by decide) (T_M_in (p1 := p2) (p2 := 0) (p3 := 2) (h := h) (hF := rfl)) rfl (Nat.le_of_ble_eq_true rfl) (by decide +kernel) ?_
    refine g_ifz hK 15 .eq (8) 23 (t1 := 23) (t2 := 18) (by decide +kernel) (by decide) rfl rfl (fun (hc2 : F_M_in p2 0 2 = 0) => ?_) (fun (hc2 : ¬ (F_M_in p2 0 2 = 0)) => ?_)
    · have hF := ite_t hc2 hF
      refine g_seg hK [.iconst (-1)] 23 24 (L1 := [(0, vR 76), (1, vI p1), (2, vI p2)]) (st1 := [vI (-1)]) (h1 := h) (P := True ∧ True) (by decide +kernel) rfl rfl ⟨trivial, trivial⟩ ?_
      cases hF
      exact hR.1 24 _ _ _ (by decide +kernel) rfl ⟨rfl, rfl⟩
    · have hF := ite_f hc2 hF
      refine g_seg hK [.iload_n 1, .iload_n 2] 18 20 (L1 := [(0, vR 76), (1, vI p1), (2, vI p2)]) (st1 := [vI p2, vI p1]) (h1 := h) (P := True ∧ True ∧ True) (by decide +kernel) rfl rfl ⟨trivial, trivial, trivial⟩ ?_
      refine g_icmp hK 20 .ne (5) 25 (t1 := 23) (t2 := 25) (by decide +kernel) (by decide) rfl rfl (fun (hc3 : p1 = p2) => ?_) (fun (hc3 : ¬ (p1 = p2)) => ?_)
      · have hF := ite_t hc3 hF
        refine g_seg hK [.iconst (-1)] 23 24 (L1 := [(0, vR 76), (1, vI p1), (2, vI p2)]) (st1 := [vI (-1)]) (h1 := h) (P := True ∧ True) (by decide +kernel) rfl rfl ⟨trivial, trivial⟩ ?_
        cases hF
        exact hR.1 24 _ _ _ (by decide +kernel) rfl ⟨rfl, rfl⟩
      · have hF := ite_f hc3 hF
        refine g_seg hK [.aload_n 0] 25 26 (L1 := [(0, vR 76), (1, vI p1), (2, vI p2)]) (st1 := [vR 76]) (h1 := h) (P := True ∧ True) (by decide +kernel) rfl rfl ⟨trivial, trivial⟩ ?_
        obtain ⟨h4, e5, hF⟩ := ob1_elim hF
        refine g_callV0 hK 26 149 (d1 := 0) (ci := 7) (i := 76) (vs := []) (rest := []) (h1 := h4) my_yX7_remembers vw_X7_149 (by decide) (T_M_remembers (h := h) (hF := e5)) rfl rfl rfl (Nat.le_of_ble_eq_true rfl) (by decide +kernel) ?_
        refine g_seg hK [.iconst 0, .istore_n 3] 29 31 (L1 := [(3, vI 0), (0, vR 76), (1, vI p1), (2, vI p2)]) (st1 := []) (h1 := h4) (P := True ∧ True ∧ True) (by decide +kernel) rfl rfl ⟨trivial, trivial, trivial⟩ ?_
        refine hK.2.1 _ _ ([(0, vR 76), (1, vI p1), (2, vI p2), (3, vI 0)]) _ _ (sub_of [1, 2, 3, 0] rfl) ?_
        obtain ⟨x3_6, h7, e8, hF⟩ := ob2_elim hF
        refine LT_M_swap_L31 hK _ _ _ _ _ e8 ?_
        refine g_seg hK [.aload_n 0] 91 92 (L1 := [(0, vR 76), (1, vI p1), (2, vI p2), (3, vI x3_6)]) (st1 := [vR 76]) (h1 := h7) (P := True ∧ True) (by decide +kernel) rfl rfl ⟨trivial, trivial⟩ ?_
        obtain ⟨r9, h10, e11, hF⟩ := ob2_elim hF
        refine g_callV1 hK 92 65 (d1 := 2) (ci := 7) (i := 76) (vs := []) (rest := []) (h1 := h10) (r := vI r9) my_yX7_counts vw_X7_65 (by decide) (T_M_counts (h := h7) (hF := e11)) rfl rfl rfl (Nat.le_of_ble_eq_true rfl) (by decide +kernel) ?_
        cases hF
        exact hR.1 95 _ _ _ (by decide +kernel) rfl ⟨rfl, rfl⟩
set_option maxHeartbeats 4000000 in
set_option maxRecDepth 100000 in
theorem T_M_set {p1 : Int} {p2 : Int} {h : MH} {r : Int} {h' : MH} (hF : F_M_set p1 p2 h = some (r, h')) : CON 1 yX7_set cX7_set 4 (Option.some Jvm.ClassFile.FieldType.int) [vR 76, vI p1, vI p2] h (some (vI r)) h' := by
  refine con_of (own := RX7) (fl := flX7) (by decide +kernel) rfl flok_X7 rfl (Nat.le_of_ble_eq_true rfl) ?_
  intro K hK hR
  show K 0 [(0, vR 76), (1, vI p1), (2, vI p2)] [] h
  unfold F_M_set at hF
  refine g_seg hK [.iload_n 1, .iconst 0, .iconst 1] 0 3 (L1 := [(0, vR 76), (1, vI p1), (2, vI p2)]) (st1 := [vI 1, vI 0, vI p1]) (h1 := h) (P := True ∧ True ∧ True ∧ True) (by decide +kernel) rfl rfl ⟨trivial, trivial, trivial, trivial⟩ ?_
  refine g_callS1 hK 3 89 (d1 := 0) (vs := [vI p1, vI 0, vI 1]) (rest := []) (h1 := h) (r := vI (F_M_in p1 0 1)) my_yX7_in sw_X7_89 (by decide) (T_M_in (p1 := p1) (p2 := 0) (p3 := 1) (h := h) (hF := rfl)) rfl (Nat.le_of_ble_eq_true rfl) (by decide +kernel) ?_
  refine g_ifz hK 6 .eq (20) 26 (t1 := 26) (t2 := 9) (by decide +kernel) (by decide) rfl rfl (fun (hc1 : F_M_in p1 0 1 = 0) => ?_) (fun (hc1 : ¬ (F_M_in p1 0 1 = 0)) => ?_)
  · have hF := ite_t hc1 hF
    refine g_seg hK [.iconst (-1)] 26 27 (L1 := [(0, vR 76), (1, vI p1), (2, vI p2)]) (st1 := [vI (-1)]) (h1 := h) (P := True ∧ True) (by decide +kernel) rfl rfl ⟨trivial, trivial⟩ ?_
    cases hF
    exact hR.1 27 _ _ _ (by decide +kernel) rfl ⟨rfl, rfl⟩
  · have hF := ite_f hc1 hF
    refine g_seg hK [.iload_n 2, .iconst 0, .iload_n 1] 9 12 (L1 := [(0, vR 76), (1, vI p1), (2, vI p2)]) (st1 := [vI p1, vI 0, vI p2]) (h1 := h) (P := True ∧ True ∧ True ∧ True) (by decide +kernel) rfl rfl ⟨trivial, trivial, trivial, trivial⟩ ?_
    obtain ⟨s2, e10, hF⟩ := jn1_elim hF
    have j3 : K 20 [(0, vR 76), (1, vI p1), (2, vI p2)] [vI s2, vI 0, vI p2] h := by
      refine g_callS1 hK 20 89 (d1 := 0) (vs := [vI p2, vI 0, vI s2]) (rest := []) (h1 := h) (r := vI (F_M_in p2 0 s2)) my_yX7_in sw_X7_89 (by decide) (T_M_in (p1 := p2) (p2 := 0) (p3 := s2) (h := h) (hF := rfl)) rfl (Nat.le_of_ble_eq_true rfl) (by decide +kernel) ?_
      refine g_ifz hK 23 .ne (5) 28 (t1 := 26) (t2 := 28) (by decide +kernel) (by decide) rfl rfl (fun (hc5 : F_M_in p2 0 s2 = 0) => ?_) (fun (hc5 : ¬ (F_M_in p2 0 s2 = 0)) => ?_)
      · have hF := ite_t hc5 hF
        refine g_seg hK [.iconst (-1)] 26 27 (L1 := [(0, vR 76), (1, vI p1), (2, vI p2)]) (st1 := [vI (-1)]) (h1 := h) (P := True ∧ True) (by decide +kernel) rfl rfl ⟨trivial, trivial⟩ ?_
        cases hF
        exact hR.1 27 _ _ _ (by decide +kernel) rfl ⟨rfl, rfl⟩
      · have hF := ite_f hc5 hF
        refine g_seg hK [.aload_n 0] 28 29 (L1 := [(0, vR 76), (1, vI p1), (2, vI p2)]) (st1 := [vR 76]) (h1 := h) (P := True ∧ True) (by decide +kernel) rfl rfl ⟨trivial, trivial⟩ ?_
        obtain ⟨h6, e7, hF⟩ := ob1_elim hF
        refine g_callV0 hK 29 149 (d1 := 0) (ci := 7) (i := 76) (vs := []) (rest := []) (h1 := h6) my_yX7_remembers vw_X7_149 (by decide) (T_M_remembers (h := h) (hF := e7)) rfl rfl rfl (Nat.le_of_ble_eq_true rfl) (by decide +kernel) ?_
        refine g_seg hK [.aload_n 0, .getfield 7, .bipush 45, .iload_n 1, .iadd] 32 40 (L1 := [(0, vR 76), (1, vI p1), (2, vI p2)]) (st1 := [vI (wr (45 + p1)), vR 77]) (h1 := h6) (P := True ∧ kd 76 = 9 ∧ True ∧ True ∧ True ∧ True) (by decide +kernel) rfl rfl ⟨trivial, rfl, trivial, trivial, trivial, trivial⟩ ?_
        obtain ⟨hg8, hF⟩ := gd_elim hF
        refine g_seg hK [.iaload, .istore_n 3, .aload_n 0, .getfield 7, .bipush 45, .iload_n 1, .iadd, .iload_n 2] 40 51 (L1 := [(3, vI (h6 77 (wr (45 + p1)).toNat)), (0, vR 76), (1, vI p1), (2, vI p2)]) (st1 := [vI p2, vI (wr (45 + p1)), vR 77]) (h1 := h6) (P := (kd 77 = 0 ∧ 0 ≤ wr (45 + p1) ∧ wr (45 + p1) < 49) ∧ True ∧ True ∧ kd 76 = 9 ∧ True ∧ True ∧ True ∧ True ∧ True) (by decide +kernel) rfl rfl ⟨⟨rfl, hg8⟩, trivial, trivial, rfl, trivial, trivial, trivial, trivial, trivial⟩ ?_
        obtain ⟨hg9, hF⟩ := gd_elim hF
        refine g_seg hK [.iastore, .iload_n 3] 51 53 (L1 := [(3, vI (h6 77 (wr (45 + p1)).toNat)), (0, vR 76), (1, vI p1), (2, vI p2)]) (st1 := [vI (h6 77 (wr (45 + p1)).toNat)]) (h1 := (up h6 77 (wr (45 + p1)).toNat p2)) (P := (kd 77 = 0 ∧ 0 ≤ wr (45 + p1) ∧ wr (45 + p1) < 49) ∧ True ∧ True) (by decide +kernel) rfl rfl ⟨⟨rfl, hg9⟩, trivial, trivial⟩ ?_
        cases hF
        exact hR.1 53 _ _ _ (by decide +kernel) rfl ⟨rfl, rfl⟩
    clear hF
    have hF := e10
    refine g_ifz hK 12 .ne (7) 19 (t1 := 15) (t2 := 19) (by decide +kernel) (by decide) rfl rfl (fun (hc4 : p1 = 0) => ?_) (fun (hc4 : ¬ (p1 = 0)) => ?_)
    · have hF := ite_t hc4 hF
      refine g_seg hK [.iconst 3] 15 16 (L1 := [(0, vR 76), (1, vI p1), (2, vI p2)]) (st1 := [vI 3, vI 0, vI p2]) (h1 := h) (P := True ∧ True) (by decide +kernel) rfl rfl ⟨trivial, trivial⟩ ?_
      refine g_goto hK 16 (4) 20 (by decide +kernel) (by decide) ?_
      cases hF
      exact j3
    · have hF := ite_f hc4 hF
      refine g_seg hK [.iconst 1] 19 20 (L1 := [(0, vR 76), (1, vI p1), (2, vI p2)]) (st1 := [vI 1, vI 0, vI p2]) (h1 := h) (P := True ∧ True) (by decide +kernel) rfl rfl ⟨trivial, trivial⟩ ?_
      cases hF
      exact j3
set_option maxHeartbeats 4000000 in
set_option maxRecDepth 100000 in
theorem LT_M_lay_L44 {K : KT} (hK : Rules RX7 cX7_lay 4 (Option.some Jvm.ClassFile.FieldType.int) flX7 7 K) {x2 : Int} : ∀ (n : Nat) (x3 : Int) (h : MH) (x3' : Int) (h' : MH), F_M_lay_L44 x2 n x3 h = some (x3', h') → K 73 [(0, vR 76), (2, vI x2), (3, vI x3')] [] h' → K 44 [(0, vR 76), (2, vI x2), (3, vI x3)] [] h := by
  intro n
  induction n with
  | zero =>
    intro x3 h x3' h' hF
    cases hF
  | succ n ih =>
    intro x3 h x3' h' hF hE
    unfold F_M_lay_L44 at hF
    refine g_seg hK [.iload_n 3, .aload_n 0, .getfield 113] 44 49 (L1 := [(0, vR 76), (2, vI x2), (3, vI x3)]) (st1 := [vI (h 76 13), vI x3]) (h1 := h) (P := True ∧ True ∧ kd 76 = 9 ∧ True) (by decide +kernel) rfl rfl ⟨trivial, trivial, rfl, trivial⟩ ?_
    refine g_icmp hK 49 .ge (24) 73 (t1 := 52) (t2 := 73) (by decide +kernel) (by decide) rfl rfl (fun (hc1 : x3 < h 76 13) => ?_) (fun (hc1 : ¬ (x3 < h 76 13)) => ?_)
    · have hF := ite_t hc1 hF
      refine g_seg hK [.aload_n 0, .getfield 7, .bipush 31, .iload_n 3, .iadd, .aload_n 0, .getfield 31, .iload_n 3] 52 65 (L1 := [(0, vR 76), (2, vI x2), (3, vI x3)]) (st1 := [vI x3, vR 84, vI (wr (31 + x3)), vR 77]) (h1 := h) (P := True ∧ kd 76 = 9 ∧ True ∧ True ∧ True ∧ True ∧ kd 76 = 9 ∧ True ∧ True) (by decide +kernel) rfl rfl ⟨trivial, rfl, trivial, trivial, trivial, trivial, rfl, trivial, trivial⟩ ?_
      obtain ⟨hg2, hF⟩ := gd_elim hF
      refine g_seg hK [.iaload] 65 66 (L1 := [(0, vR 76), (2, vI x2), (3, vI x3)]) (st1 := [vI (h 84 x3.toNat), vI (wr (31 + x3)), vR 77]) (h1 := h) (P := (kd 84 = 0 ∧ 0 ≤ x3 ∧ x3 < 60) ∧ True) (by decide +kernel) rfl rfl ⟨⟨rfl, hg2⟩, trivial⟩ ?_
      obtain ⟨hg3, hF⟩ := gd_elim hF
      refine g_seg hK [.iastore, .iinc 3 1] 66 70 (L1 := [(3, vI (wr (x3 + 1))), (0, vR 76), (2, vI x2)]) (st1 := []) (h1 := (up h 77 (wr (31 + x3)).toNat (h 84 x3.toNat))) (P := (kd 77 = 0 ∧ 0 ≤ wr (31 + x3) ∧ wr (31 + x3) < 49) ∧ True ∧ True) (by decide +kernel) rfl rfl ⟨⟨rfl, hg3⟩, trivial, trivial⟩ ?_
      refine g_goto hK 70 (-26) 44 (by decide +kernel) (by decide) ?_
      refine hK.2.1 _ _ ([(0, vR 76), (2, vI x2), (3, vI (wr (x3 + 1)))]) _ _ (sub_of [1, 2, 0] rfl) ?_
      exact ih _ _ _ _ hF hE
    · have hF := ite_f hc1 hF
      cases hF
      exact hE
set_option maxHeartbeats 4000000 in
set_option maxRecDepth 100000 in
theorem T_M_lay {p1 : Int} {h : MH} {r : Int} {h' : MH} (hF : F_M_lay p1 h = some (r, h')) : CON 7 yX7_lay cX7_lay 4 (Option.some Jvm.ClassFile.FieldType.int) [vR 76, vI p1] h (some (vI r)) h' := by
  refine con_of (own := RX7) (fl := flX7) (by decide +kernel) rfl flok_X7 rfl (Nat.le_of_ble_eq_true rfl) ?_
  intro K hK hR
  show K 0 [(0, vR 76), (1, vI p1)] [] h
  unfold F_M_lay at hF
  refine g_seg hK [.aload_n 0] 0 1 (L1 := [(0, vR 76), (1, vI p1)]) (st1 := [vR 76]) (h1 := h) (P := True ∧ True) (by decide +kernel) rfl rfl ⟨trivial, trivial⟩ ?_
  obtain ⟨h1, e2, hF⟩ := ob1_elim hF
  refine g_callV0 hK 1 152 (d1 := 6) (ci := 7) (i := 76) (vs := []) (rest := []) (h1 := h1) my_yX7_views vw_X7_152 (by decide) (T_M_views (h := h) (hF := e2)) rfl rfl rfl (Nat.le_of_ble_eq_true rfl) (by decide +kernel) ?_
  refine g_seg hK [.aload_n 0, .iload_n 1, .aload_n 0, .getfield 7, .bipush 45, .iaload] 4 13 (L1 := [(0, vR 76), (1, vI p1)]) (st1 := [vI (h1 77 45), vI p1, vR 76]) (h1 := h1) (P := True ∧ True ∧ True ∧ kd 76 = 9 ∧ True ∧ (kd 77 = 0 ∧ 0 ≤ 45 ∧ 45 < 49) ∧ True) (by decide +kernel) rfl rfl ⟨trivial, trivial, trivial, rfl, trivial, ⟨rfl, (by decide)⟩, trivial⟩ ?_
  obtain ⟨r3, h4, e5, hF⟩ := ob2_elim hF
  refine g_callV1 hK 13 155 (d1 := 2) (ci := 7) (i := 76) (vs := [vI p1, vI (h1 77 45)]) (rest := []) (h1 := h4) (r := vI r3) my_yX7_lays vw_X7_155 (by decide) (T_M_lays (p1 := p1) (p2 := (h1 77 45)) (h := h1) (hF := e5)) rfl rfl rfl (Nat.le_of_ble_eq_true rfl) (by decide +kernel) ?_
  refine g_seg hK [.istore_n 2, .aload_n 0, .getfield 124] 16 21 (L1 := [(2, vI r3), (0, vR 76), (1, vI p1)]) (st1 := [vI (h4 76 16)]) (h1 := h4) (P := True ∧ True ∧ kd 76 = 9 ∧ True) (by decide +kernel) rfl rfl ⟨trivial, trivial, rfl, trivial⟩ ?_
  refine g_ifz hK 21 .eq (6) 27 (t1 := 27) (t2 := 24) (by decide +kernel) (by decide) rfl rfl (fun (hc6 : h4 76 16 = 0) => ?_) (fun (hc6 : ¬ (h4 76 16 = 0)) => ?_)
  · have hF := ite_t hc6 hF
    refine g_seg hK [.aload_n 0] 27 28 (L1 := [(2, vI r3), (0, vR 76), (1, vI p1)]) (st1 := [vR 76]) (h1 := h4) (P := True ∧ True) (by decide +kernel) rfl rfl ⟨trivial, trivial⟩ ?_
    obtain ⟨h7, e8, hF⟩ := ob1_elim hF
    refine g_callV0 hK 28 149 (d1 := 0) (ci := 7) (i := 76) (vs := []) (rest := []) (h1 := h7) my_yX7_remembers vw_X7_149 (by decide) (T_M_remembers (h := h4) (hF := e8)) rfl rfl rfl (Nat.le_of_ble_eq_true rfl) (by decide +kernel) ?_
    refine g_seg hK [.aload_n 0, .getfield 7, .bipush 30, .aload_n 0, .getfield 113, .iastore, .iconst 0, .istore_n 3] 31 44 (L1 := [(3, vI 0), (2, vI r3), (0, vR 76), (1, vI p1)]) (st1 := []) (h1 := (up h7 77 30 (h7 76 13))) (P := True ∧ kd 76 = 9 ∧ True ∧ True ∧ kd 76 = 9 ∧ (kd 77 = 0 ∧ 0 ≤ 30 ∧ 30 < 49) ∧ True ∧ True ∧ True) (by decide +kernel) rfl rfl ⟨trivial, rfl, trivial, trivial, rfl, ⟨rfl, (by decide)⟩, trivial, trivial, trivial⟩ ?_
    refine hK.2.1 _ _ ([(0, vR 76), (2, vI r3), (3, vI 0)]) _ _ (sub_of [2, 1, 0] rfl) ?_
    obtain ⟨x3_9, h10, e11, hF⟩ := ob2_elim hF
    refine LT_M_lay_L44 hK _ _ _ _ _ e11 ?_
    refine g_seg hK [.aload_n 0, .getfield 7, .bipush 47, .dup2, .iaload, .iload_n 2, .iadd, .iastore, .aload_n 0, .getfield 7, .bipush 48, .dup2, .iaload, .aload_n 0] 73 93 (L1 := [(0, vR 76), (2, vI r3), (3, vI x3_9)]) (st1 := [vR 76, vI ((up h10 77 47 (wr ((h10 77 47) + r3))) 77 48), vI 48, vR 77]) (h1 := (up h10 77 47 (wr ((h10 77 47) + r3)))) (P := True ∧ kd 76 = 9 ∧ True ∧ True ∧ (kd 77 = 0 ∧ 0 ≤ 47 ∧ 47 < 49) ∧ True ∧ True ∧ (kd 77 = 0 ∧ 0 ≤ 47 ∧ 47 < 49) ∧ True ∧ kd 76 = 9 ∧ True ∧ True ∧ (kd 77 = 0 ∧ 0 ≤ 48 ∧ 48 < 49) ∧ True ∧ True) (by decide +kernel) rfl rfl ⟨trivial, rfl, trivial, trivial, ⟨rfl, (by decide)⟩, trivial, trivial, ⟨rfl, (by decide)⟩, trivial, rfl, trivial, trivial, ⟨rfl, (by decide)⟩, trivial, trivial⟩ ?_
    obtain ⟨r12, e13, hF⟩ := ob1_elim hF
    refine g_callV1 hK 93 72 (d1 := 1) (ci := 7) (i := 76) (vs := []) (rest := [vI ((up h10 77 47 (wr ((h10 77 47) + r3))) 77 48), vI 48, vR 77]) (h1 := (up h10 77 47 (wr ((h10 77 47) + r3)))) (r := vI r12) my_yX7_hunks vw_X7_72 (by decide) (T_M_hunks (h := (up h10 77 47 (wr ((h10 77 47) + r3)))) (hF := e13)) rfl rfl rfl (Nat.le_of_ble_eq_true rfl) (by decide +kernel) ?_
    refine g_seg hK [.iload_n 2, .isub, .iadd, .iastore, .iload_n 2] 96 101 (L1 := [(0, vR 76), (2, vI r3), (3, vI x3_9)]) (st1 := [vI r3]) (h1 := (up (up h10 77 47 (wr ((h10 77 47) + r3))) 77 48 (wr (((up h10 77 47 (wr ((h10 77 47) + r3))) 77 48) + (wr (r12 - r3)))))) (P := True ∧ True ∧ True ∧ (kd 77 = 0 ∧ 0 ≤ 48 ∧ 48 < 49) ∧ True ∧ True) (by decide +kernel) rfl rfl ⟨trivial, trivial, trivial, ⟨rfl, (by decide)⟩, trivial, trivial⟩ ?_
    cases hF
    exact hR.1 101 _ _ _ (by decide +kernel) rfl ⟨rfl, rfl⟩
  · have hF := ite_f hc6 hF
    refine g_seg hK [.bipush (-3)] 24 26 (L1 := [(2, vI r3), (0, vR 76), (1, vI p1)]) (st1 := [vI (-3)]) (h1 := h4) (P := True ∧ True) (by decide +kernel) rfl rfl ⟨trivial, trivial⟩ ?_
    cases hF
    exact hR.1 26 _ _ _ (by decide +kernel) rfl ⟨rfl, rfl⟩
set_option maxHeartbeats 4000000 in
set_option maxRecDepth 100000 in
theorem T_M_line {p1 : Int} {p2 : Int} {h : MH} {r : Int} (hF : F_M_line p1 p2 h = some r) : CON 1 yX7_line cX7_line 3 (Option.some Jvm.ClassFile.FieldType.int) [vR 76, vI p1, vI p2] h (some (vI r)) h := by
  refine con_of (own := RX7) (fl := flX7) (by decide +kernel) rfl flok_X7 rfl (Nat.le_of_ble_eq_true rfl) ?_
  intro K hK hR
  show K 0 [(0, vR 76), (1, vI p1), (2, vI p2)] [] h
  unfold F_M_line at hF
  refine g_seg hK [.iload_n 1, .iconst 0, .iconst 2] 0 3 (L1 := [(0, vR 76), (1, vI p1), (2, vI p2)]) (st1 := [vI 2, vI 0, vI p1]) (h1 := h) (P := True ∧ True ∧ True ∧ True) (by decide +kernel) rfl rfl ⟨trivial, trivial, trivial, trivial⟩ ?_
  refine g_callS1 hK 3 89 (d1 := 0) (vs := [vI p1, vI 0, vI 2]) (rest := []) (h1 := h) (r := vI (F_M_in p1 0 2)) my_yX7_in sw_X7_89 (by decide) (T_M_in (p1 := p1) (p2 := 0) (p3 := 2) (h := h) (hF := rfl)) rfl (Nat.le_of_ble_eq_true rfl) (by decide +kernel) ?_
  refine g_ifz hK 6 .eq (7) 13 (t1 := 13) (t2 := 9) (by decide +kernel) (by decide) rfl rfl (fun (hc1 : F_M_in p1 0 2 = 0) => ?_) (fun (hc1 : ¬ (F_M_in p1 0 2 = 0)) => ?_)
  · have hF := ite_t hc1 hF
    refine g_seg hK [.iconst (-1)] 13 14 (L1 := [(0, vR 76), (1, vI p1), (2, vI p2)]) (st1 := [vI (-1)]) (h1 := h) (P := True ∧ True) (by decide +kernel) rfl rfl ⟨trivial, trivial⟩ ?_
    cases hF
    exact hR.1 14 _ _ _ (by decide +kernel) rfl ⟨rfl, rfl⟩
  · have hF := ite_f hc1 hF
    refine g_seg hK [.iload_n 2] 9 10 (L1 := [(0, vR 76), (1, vI p1), (2, vI p2)]) (st1 := [vI p2]) (h1 := h) (P := True ∧ True) (by decide +kernel) rfl rfl ⟨trivial, trivial⟩ ?_
    refine g_ifz hK 10 .ge (5) 15 (t1 := 13) (t2 := 15) (by decide +kernel) (by decide) rfl rfl (fun (hc2 : p2 < 0) => ?_) (fun (hc2 : ¬ (p2 < 0)) => ?_)
    · have hF := ite_t hc2 hF
      refine g_seg hK [.iconst (-1)] 13 14 (L1 := [(0, vR 76), (1, vI p1), (2, vI p2)]) (st1 := [vI (-1)]) (h1 := h) (P := True ∧ True) (by decide +kernel) rfl rfl ⟨trivial, trivial⟩ ?_
      cases hF
      exact hR.1 14 _ _ _ (by decide +kernel) rfl ⟨rfl, rfl⟩
    · have hF := ite_f hc2 hF
      refine g_seg hK [.iload_n 2, .aload_n 0, .iload_n 1] 15 18 (L1 := [(0, vR 76), (1, vI p1), (2, vI p2)]) (st1 := [vI p1, vR 76, vI p2]) (h1 := h) (P := True ∧ True ∧ True ∧ True) (by decide +kernel) rfl rfl ⟨trivial, trivial, trivial, trivial⟩ ?_
      obtain ⟨r3, e4, hF⟩ := ob1_elim hF
      refine g_callV1 hK 18 47 (d1 := 0) (ci := 7) (i := 76) (vs := [vI p1]) (rest := [vI p2]) (h1 := h) (r := vI r3) my_yX7_lines vw_X7_47 (by decide) (T_M_lines (p1 := p1) (h := h) (hF := e4)) rfl rfl rfl (Nat.le_of_ble_eq_true rfl) (by decide +kernel) ?_
      refine g_icmp hK 21 .ge (12) 33 (t1 := 24) (t2 := 33) (by decide +kernel) (by decide) rfl rfl (fun (hc5 : p2 < r3) => ?_) (fun (hc5 : ¬ (p2 < r3)) => ?_)
      · have hF := ite_t hc5 hF
        refine g_seg hK [.aload_n 0, .iload_n 1, .iload_n 2] 24 27 (L1 := [(0, vR 76), (1, vI p1), (2, vI p2)]) (st1 := [vI p2, vI p1, vR 76]) (h1 := h) (P := True ∧ True ∧ True ∧ True) (by decide +kernel) rfl rfl ⟨trivial, trivial, trivial, trivial⟩ ?_
        obtain ⟨r6, e7, hF⟩ := ob1_elim hF
        refine g_callV1 hK 27 51 (d1 := 0) (ci := 7) (i := 76) (vs := [vI p1, vI p2]) (rest := []) (h1 := h) (r := vI r6) my_yX7_lineOf vw_X7_51 (by decide) (T_M_lineOf (p1 := p1) (p2 := p2) (h := h) (hF := e7)) rfl rfl rfl (Nat.le_of_ble_eq_true rfl) (by decide +kernel) ?_
        refine g_goto hK 30 (5) 35 (by decide +kernel) (by decide) ?_
        cases hF
        exact hR.1 35 _ _ _ (by decide +kernel) rfl ⟨rfl, rfl⟩
      · have hF := ite_f hc5 hF
        refine g_seg hK [.bipush (-4)] 33 35 (L1 := [(0, vR 76), (1, vI p1), (2, vI p2)]) (st1 := [vI (-4)]) (h1 := h) (P := True ∧ True) (by decide +kernel) rfl rfl ⟨trivial, trivial⟩ ?_
        cases hF
        exact hR.1 35 _ _ _ (by decide +kernel) rfl ⟨rfl, rfl⟩
set_option maxHeartbeats 4000000 in
set_option maxRecDepth 100000 in
theorem LT_M_byDiagonals_L21 {K : KT} (hK : Rules RX7 cX7_byDiagonals 6 (Option.some Jvm.ClassFile.FieldType.int) flX7 1 K) {x1 : Int} {x2 : Int} : ∀ (n : Nat) (x3 : Int) (h : MH) (x3' : Int) (h' : MH), F_M_byDiagonals_L21 x1 x2 n x3 h = some (x3', h') → K 218 [(0, vR 76), (1, vI x1), (2, vI x2), (3, vI x3')] [] h' → K 21 [(0, vR 76), (1, vI x1), (2, vI x2), (3, vI x3)] [] h := by
  intro n
  induction n with
  | zero =>
    intro x3 h x3' h' hF
    cases hF
  | succ n ih =>
    intro x3 h x3' h' hF hE
    unfold F_M_byDiagonals_L21 at hF
    refine g_seg hK [.iload_n 3, .aload_n 0, .iconst 1] 21 24 (L1 := [(0, vR 76), (1, vI x1), (2, vI x2), (3, vI x3)]) (st1 := [vI 1, vR 76, vI x3]) (h1 := h) (P := True ∧ True ∧ True ∧ True) (by decide +kernel) rfl rfl ⟨trivial, trivial, trivial, trivial⟩ ?_
    obtain ⟨r1, e2, hF⟩ := ob1_elim hF
    refine g_callV1 hK 24 47 (d1 := 0) (ci := 7) (i := 76) (vs := [vI 1]) (rest := [vI x3]) (h1 := h) (r := vI r1) my_yX7_lines vw_X7_47 (by decide) (T_M_lines (p1 := 1) (h := h) (hF := e2)) rfl rfl rfl (Nat.le_of_ble_eq_true rfl) (by decide +kernel) ?_
    refine g_icmp hK 27 .gt (191) 218 (t1 := 30) (t2 := 218) (by decide +kernel) (by decide) rfl rfl (fun (hc3 : x3 ≤ r1) => ?_) (fun (hc3 : ¬ (x3 ≤ r1)) => ?_)
    · have hF := ite_t hc3 hF
      refine g_seg hK [.iload_n 2] 30 31 (L1 := [(0, vR 76), (1, vI x1), (2, vI x2), (3, vI x3)]) (st1 := [vI x2]) (h1 := h) (P := True ∧ True) (by decide +kernel) rfl rfl ⟨trivial, trivial⟩ ?_
      obtain ⟨kj7, e57, hF⟩ := jk1_elim hF
      have j7 : ∀ (s6 : Int), kj7 s6 = some (x3', h') → K 43 [(0, vR 76), (1, vI x1), (2, vI x2), (3, vI x3)] [vI s6] h := by
        intro s6 hF
        have hF := (e57 s6).symm.trans hF
        refine g_seg hK [.istore 4, .iload 4] 43 47 (L1 := [(4, vI s6), (0, vR 76), (1, vI x1), (2, vI x2), (3, vI x3)]) (st1 := [vI s6]) (h1 := h) (P := True ∧ True ∧ True) (by decide +kernel) rfl rfl ⟨trivial, trivial, trivial⟩ ?_
        obtain ⟨kj11, e42, hF⟩ := jk1_elim hF
        have j11 : ∀ (s10 : Int), kj11 s10 = some (x3', h') → K 98 [(0, vR 76), (1, vI x1), (2, vI x2), (3, vI x3)] [vI s10] h := by
          intro s10 hF
          have hF := (e42 s10).symm.trans hF
          refine g_seg hK [.istore 4, .iload 4] 98 102 (L1 := [(4, vI s10), (0, vR 76), (1, vI x1), (2, vI x2), (3, vI x3)]) (st1 := [vI s10]) (h1 := h) (P := True ∧ True ∧ True) (by decide +kernel) rfl rfl ⟨trivial, trivial, trivial⟩ ?_
          obtain ⟨kj15, e27, hF⟩ := jk1_elim hF
          have j15 : ∀ (s14 : Int), kj15 s14 = some (x3', h') → K 155 [(0, vR 76), (1, vI x1), (2, vI x2), (3, vI x3)] [vI s14] h := by
            intro s14 hF
            have hF := (e27 s14).symm.trans hF
            refine g_seg hK [.istore 4, .iload_n 1] 155 158 (L1 := [(4, vI s14), (0, vR 76), (1, vI x1), (2, vI x2), (3, vI x3)]) (st1 := [vI x1]) (h1 := h) (P := True ∧ True ∧ True) (by decide +kernel) rfl rfl ⟨trivial, trivial, trivial⟩ ?_
            obtain ⟨kj17, e24, hF⟩ := jk1_elim hF
            have j17 : ∀ (s16 : Int), kj17 s16 = some (x3', h') → K 177 [(0, vR 76), (1, vI x1), (2, vI x2), (3, vI x3), (4, vI s14)] [vI s16] h := by
              intro s16 hF
              have hF := (e24 s16).symm.trans hF
              refine g_seg hK [.istore 5, .aload_n 0, .getfield 22, .bipush 15, .iload_n 2, .imul, .iload_n 3, .iadd, .iload 5, .iload_n 1] 177 192 (L1 := [(5, vI s16), (0, vR 76), (1, vI x1), (2, vI x2), (3, vI x3), (4, vI s14)]) (st1 := [vI x1, vI s16, vI (wr ((wr (15 * x2)) + x3)), vR 81]) (h1 := h) (P := True ∧ True ∧ kd 76 = 9 ∧ True ∧ True ∧ True ∧ True ∧ True ∧ True ∧ True ∧ True) (by decide +kernel) rfl rfl ⟨trivial, trivial, rfl, trivial, trivial, trivial, trivial, trivial, trivial, trivial, trivial⟩ ?_
              obtain ⟨s18, e23, hF⟩ := jn1_elim hF
              have j19 : K 211 [(0, vR 76), (1, vI x1), (2, vI x2), (3, vI x3)] [vI s18, vI (wr ((wr (15 * x2)) + x3)), vR 81] h := by
                obtain ⟨hg22, hF⟩ := gd_elim hF
                refine g_seg hK [.iastore, .iinc 3 1] 211 215 (L1 := [(3, vI (wr (x3 + 1))), (0, vR 76), (1, vI x1), (2, vI x2)]) (st1 := []) (h1 := (up h 81 (wr ((wr (15 * x2)) + x3)).toNat s18)) (P := (kd 81 = 0 ∧ 0 ≤ wr ((wr (15 * x2)) + x3) ∧ wr ((wr (15 * x2)) + x3) < 225) ∧ True ∧ True) (by decide +kernel) rfl rfl ⟨⟨rfl, hg22⟩, trivial, trivial⟩ ?_
                refine g_goto hK 215 (-194) 21 (by decide +kernel) (by decide) ?_
                refine hK.2.1 _ _ ([(0, vR 76), (1, vI x1), (2, vI x2), (3, vI (wr (x3 + 1)))]) _ _ (sub_of [1, 2, 3, 0] rfl) ?_
                exact ih _ _ _ _ hF hE
              clear hF
              have hF := e23
              refine g_icmp hK 192 .gt (8) 200 (t1 := 195) (t2 := 200) (by decide +kernel) (by decide) rfl rfl (fun (hc20 : s16 ≤ x1) => ?_) (fun (hc20 : ¬ (s16 ≤ x1)) => ?_)
              · have hF := ite_t hc20 hF
                refine g_seg hK [.iload 5] 195 197 (L1 := [(5, vI s16), (0, vR 76), (1, vI x1), (2, vI x2), (3, vI x3), (4, vI s14)]) (st1 := [vI s16, vI (wr ((wr (15 * x2)) + x3)), vR 81]) (h1 := h) (P := True ∧ True) (by decide +kernel) rfl rfl ⟨trivial, trivial⟩ ?_
                refine g_goto hK 197 (14) 211 (by decide +kernel) (by decide) ?_
                refine hK.2.1 _ _ ([(0, vR 76), (1, vI x1), (2, vI x2), (3, vI x3)]) _ _ (sub_of [1, 2, 3, 4] rfl) ?_
                cases hF
                exact j19
              · have hF := ite_f hc20 hF
                refine g_seg hK [.iload 4] 200 202 (L1 := [(5, vI s16), (0, vR 76), (1, vI x1), (2, vI x2), (3, vI x3), (4, vI s14)]) (st1 := [vI s14, vI (wr ((wr (15 * x2)) + x3)), vR 81]) (h1 := h) (P := True ∧ True) (by decide +kernel) rfl rfl ⟨trivial, trivial⟩ ?_
                refine g_ifz hK 202 .eq (7) 209 (t1 := 209) (t2 := 205) (by decide +kernel) (by decide) rfl rfl (fun (hc21 : s14 = 0) => ?_) (fun (hc21 : ¬ (s14 = 0)) => ?_)
                · have hF := ite_t hc21 hF
                  refine g_seg hK [.bipush 99] 209 211 (L1 := [(5, vI s16), (0, vR 76), (1, vI x1), (2, vI x2), (3, vI x3), (4, vI s14)]) (st1 := [vI 99, vI (wr ((wr (15 * x2)) + x3)), vR 81]) (h1 := h) (P := True ∧ True) (by decide +kernel) rfl rfl ⟨trivial, trivial⟩ ?_
                  refine hK.2.1 _ _ ([(0, vR 76), (1, vI x1), (2, vI x2), (3, vI x3)]) _ _ (sub_of [1, 2, 3, 4] rfl) ?_
                  cases hF
                  exact j19
                · have hF := ite_f hc21 hF
                  refine g_seg hK [.iload_n 1] 205 206 (L1 := [(5, vI s16), (0, vR 76), (1, vI x1), (2, vI x2), (3, vI x3), (4, vI s14)]) (st1 := [vI x1, vI (wr ((wr (15 * x2)) + x3)), vR 81]) (h1 := h) (P := True ∧ True) (by decide +kernel) rfl rfl ⟨trivial, trivial⟩ ?_
                  refine g_goto hK 206 (5) 211 (by decide +kernel) (by decide) ?_
                  refine hK.2.1 _ _ ([(0, vR 76), (1, vI x1), (2, vI x2), (3, vI x3)]) _ _ (sub_of [1, 2, 3, 4] rfl) ?_
                  cases hF
                  exact j19
            refine g_ifz hK 158 .ne (8) 166 (t1 := 161) (t2 := 166) (by decide +kernel) (by decide) rfl rfl (fun (hc25 : x1 = 0) => ?_) (fun (hc25 : ¬ (x1 = 0)) => ?_)
            · have hF := ite_t hc25 hF
              refine g_seg hK [.bipush 99] 161 163 (L1 := [(4, vI s14), (0, vR 76), (1, vI x1), (2, vI x2), (3, vI x3)]) (st1 := [vI 99]) (h1 := h) (P := True ∧ True) (by decide +kernel) rfl rfl ⟨trivial, trivial⟩ ?_
              refine g_goto hK 163 (14) 177 (by decide +kernel) (by decide) ?_
              refine hK.2.1 _ _ ([(0, vR 76), (1, vI x1), (2, vI x2), (3, vI x3), (4, vI s14)]) _ _ (sub_of [1, 2, 3, 4, 0] rfl) ?_
              exact j17 _ hF
            · have hF := ite_f hc25 hF
              refine g_seg hK [.aload_n 0, .getfield 22, .bipush 15, .iload_n 2, .imul, .iload_n 3, .iadd] 166 176 (L1 := [(4, vI s14), (0, vR 76), (1, vI x1), (2, vI x2), (3, vI x3)]) (st1 := [vI (wr ((wr (15 * x2)) + x3)), vR 81]) (h1 := h) (P := True ∧ kd 76 = 9 ∧ True ∧ True ∧ True ∧ True ∧ True ∧ True) (by decide +kernel) rfl rfl ⟨trivial, rfl, trivial, trivial, trivial, trivial, trivial, trivial⟩ ?_
              obtain ⟨hg26, hF⟩ := gd_elim hF
              refine g_seg hK [.iaload] 176 177 (L1 := [(4, vI s14), (0, vR 76), (1, vI x1), (2, vI x2), (3, vI x3)]) (st1 := [vI (h 81 (wr ((wr (15 * x2)) + x3)).toNat)]) (h1 := h) (P := (kd 81 = 0 ∧ 0 ≤ wr ((wr (15 * x2)) + x3) ∧ wr ((wr (15 * x2)) + x3) < 225) ∧ True) (by decide +kernel) rfl rfl ⟨⟨rfl, hg26⟩, trivial⟩ ?_
              refine hK.2.1 _ _ ([(0, vR 76), (1, vI x1), (2, vI x2), (3, vI x3), (4, vI s14)]) _ _ (sub_of [1, 2, 3, 4, 0] rfl) ?_
              exact j17 _ hF
          obtain ⟨kj13, e28, hF⟩ := jk1_elim hF
          have j13 : ∀ (u12 : Unit), kj13 u12 = some (x3', h') → K 150 [(0, vR 76), (1, vI x1), (2, vI x2), (3, vI x3)] [] h := by
            intro u12 hF
            have hF := (e28 u12).symm.trans hF
            refine g_seg hK [.iconst 1] 150 151 (L1 := [(0, vR 76), (1, vI x1), (2, vI x2), (3, vI x3)]) (st1 := [vI 1]) (h1 := h) (P := True ∧ True) (by decide +kernel) rfl rfl ⟨trivial, trivial⟩ ?_
            refine g_goto hK 151 (4) 155 (by decide +kernel) (by decide) ?_
            exact j15 _ hF
          refine g_ifz hK 102 .ne (48) 150 (t1 := 105) (t2 := 150) (by decide +kernel) (by decide) rfl rfl (fun (hc29 : s10 = 0) => ?_) (fun (hc29 : ¬ (s10 = 0)) => ?_)
          · have hF := ite_t hc29 hF
            refine g_seg hK [.iload_n 2] 105 106 (L1 := [(4, vI s10), (0, vR 76), (1, vI x1), (2, vI x2), (3, vI x3)]) (st1 := [vI x2]) (h1 := h) (P := True ∧ True) (by decide +kernel) rfl rfl ⟨trivial, trivial⟩ ?_
            obtain ⟨kj31, e32, hF⟩ := jk1_elim hF
            have j31 : ∀ (u30 : Unit), kj31 u30 = some (x3', h') → K 154 [(0, vR 76), (1, vI x1), (2, vI x2), (3, vI x3)] [] h := by
              intro u30 hF
              have hF := (e32 u30).symm.trans hF
              refine g_seg hK [.iconst 0] 154 155 (L1 := [(0, vR 76), (1, vI x1), (2, vI x2), (3, vI x3)]) (st1 := [vI 0]) (h1 := h) (P := True ∧ True) (by decide +kernel) rfl rfl ⟨trivial, trivial⟩ ?_
              exact j15 _ hF
            refine g_ifz hK 106 .le (48) 154 (t1 := 154) (t2 := 109) (by decide +kernel) (by decide) rfl rfl (fun (hc33 : x2 ≤ 0) => ?_) (fun (hc33 : ¬ (x2 ≤ 0)) => ?_)
            · have hF := ite_t hc33 hF
              refine hK.2.1 _ _ ([(0, vR 76), (1, vI x1), (2, vI x2), (3, vI x3)]) _ _ (sub_of [1, 2, 3, 4] rfl) ?_
              exact j31 _ hF
            · have hF := ite_f hc33 hF
              refine g_seg hK [.iload_n 3] 109 110 (L1 := [(4, vI s10), (0, vR 76), (1, vI x1), (2, vI x2), (3, vI x3)]) (st1 := [vI x3]) (h1 := h) (P := True ∧ True) (by decide +kernel) rfl rfl ⟨trivial, trivial⟩ ?_
              refine g_ifz hK 110 .le (44) 154 (t1 := 154) (t2 := 113) (by decide +kernel) (by decide) rfl rfl (fun (hc34 : x3 ≤ 0) => ?_) (fun (hc34 : ¬ (x3 ≤ 0)) => ?_)
              · have hF := ite_t hc34 hF
                refine hK.2.1 _ _ ([(0, vR 76), (1, vI x1), (2, vI x2), (3, vI x3)]) _ _ (sub_of [1, 2, 3, 4] rfl) ?_
                exact j31 _ hF
              · have hF := ite_f hc34 hF
                refine g_seg hK [.aload_n 0, .iconst 0, .iload_n 2, .iconst 1, .isub] 113 118 (L1 := [(4, vI s10), (0, vR 76), (1, vI x1), (2, vI x2), (3, vI x3)]) (st1 := [vI (wr (x2 - 1)), vI 0, vR 76]) (h1 := h) (P := True ∧ True ∧ True ∧ True ∧ True ∧ True) (by decide +kernel) rfl rfl ⟨trivial, trivial, trivial, trivial, trivial, trivial⟩ ?_
                obtain ⟨r35, e36, hF⟩ := ob1_elim hF
                refine g_callV1 hK 118 51 (d1 := 0) (ci := 7) (i := 76) (vs := [vI 0, vI (wr (x2 - 1))]) (rest := []) (h1 := h) (r := vI r35) my_yX7_lineOf vw_X7_51 (by decide) (T_M_lineOf (p1 := 0) (p2 := (wr (x2 - 1))) (h := h) (hF := e36)) rfl rfl rfl (Nat.le_of_ble_eq_true rfl) (by decide +kernel) ?_
                refine g_seg hK [.aload_n 0, .iconst 1, .iload_n 3, .iconst 1, .isub] 121 126 (L1 := [(4, vI s10), (0, vR 76), (1, vI x1), (2, vI x2), (3, vI x3)]) (st1 := [vI (wr (x3 - 1)), vI 1, vR 76, vI r35]) (h1 := h) (P := True ∧ True ∧ True ∧ True ∧ True ∧ True) (by decide +kernel) rfl rfl ⟨trivial, trivial, trivial, trivial, trivial, trivial⟩ ?_
                obtain ⟨r37, e38, hF⟩ := ob1_elim hF
                refine g_callV1 hK 126 51 (d1 := 0) (ci := 7) (i := 76) (vs := [vI 1, vI (wr (x3 - 1))]) (rest := [vI r35]) (h1 := h) (r := vI r37) my_yX7_lineOf vw_X7_51 (by decide) (T_M_lineOf (p1 := 1) (p2 := (wr (x3 - 1))) (h := h) (hF := e38)) rfl rfl rfl (Nat.le_of_ble_eq_true rfl) (by decide +kernel) ?_
                refine g_icmp hK 129 .ne (25) 154 (t1 := 132) (t2 := 154) (by decide +kernel) (by decide) rfl rfl (fun (hc39 : r35 = r37) => ?_) (fun (hc39 : ¬ (r35 = r37)) => ?_)
                · have hF := ite_t hc39 hF
                  refine g_seg hK [.aload_n 0, .getfield 22, .bipush 15, .iload_n 2, .imul, .bipush 16, .isub, .iload_n 3, .iadd] 132 145 (L1 := [(4, vI s10), (0, vR 76), (1, vI x1), (2, vI x2), (3, vI x3)]) (st1 := [vI (wr ((wr ((wr (15 * x2)) - 16)) + x3)), vR 81]) (h1 := h) (P := True ∧ kd 76 = 9 ∧ True ∧ True ∧ True ∧ True ∧ True ∧ True ∧ True ∧ True) (by decide +kernel) rfl rfl ⟨trivial, rfl, trivial, trivial, trivial, trivial, trivial, trivial, trivial, trivial⟩ ?_
                  obtain ⟨hg40, hF⟩ := gd_elim hF
                  refine g_seg hK [.iaload, .iload_n 1] 145 147 (L1 := [(4, vI s10), (0, vR 76), (1, vI x1), (2, vI x2), (3, vI x3)]) (st1 := [vI x1, vI (h 81 (wr ((wr ((wr (15 * x2)) - 16)) + x3)).toNat)]) (h1 := h) (P := (kd 81 = 0 ∧ 0 ≤ wr ((wr ((wr (15 * x2)) - 16)) + x3) ∧ wr ((wr ((wr (15 * x2)) - 16)) + x3) < 225) ∧ True ∧ True) (by decide +kernel) rfl rfl ⟨⟨rfl, hg40⟩, trivial, trivial⟩ ?_
                  refine g_icmp hK 147 .gt (7) 154 (t1 := 150) (t2 := 154) (by decide +kernel) (by decide) rfl rfl (fun (hc41 : h 81 (wr ((wr ((wr (15 * x2)) - 16)) + x3)).toNat ≤ x1) => ?_) (fun (hc41 : ¬ (h 81 (wr ((wr ((wr (15 * x2)) - 16)) + x3)).toNat ≤ x1)) => ?_)
                  · have hF := ite_t hc41 hF
                    refine hK.2.1 _ _ ([(0, vR 76), (1, vI x1), (2, vI x2), (3, vI x3)]) _ _ (sub_of [1, 2, 3, 4] rfl) ?_
                    exact j13 _ hF
                  · have hF := ite_f hc41 hF
                    refine hK.2.1 _ _ ([(0, vR 76), (1, vI x1), (2, vI x2), (3, vI x3)]) _ _ (sub_of [1, 2, 3, 4] rfl) ?_
                    exact j31 _ hF
                · have hF := ite_f hc39 hF
                  refine hK.2.1 _ _ ([(0, vR 76), (1, vI x1), (2, vI x2), (3, vI x3)]) _ _ (sub_of [1, 2, 3, 4] rfl) ?_
                  exact j31 _ hF
          · have hF := ite_f hc29 hF
            refine hK.2.1 _ _ ([(0, vR 76), (1, vI x1), (2, vI x2), (3, vI x3)]) _ _ (sub_of [1, 2, 3, 4] rfl) ?_
            exact j13 _ hF
        obtain ⟨kj9, e43, hF⟩ := jk1_elim hF
        have j9 : ∀ (u8 : Unit), kj9 u8 = some (x3', h') → K 93 [(0, vR 76), (1, vI x1), (2, vI x2), (3, vI x3)] [] h := by
          intro u8 hF
          have hF := (e43 u8).symm.trans hF
          refine g_seg hK [.iconst 1] 93 94 (L1 := [(0, vR 76), (1, vI x1), (2, vI x2), (3, vI x3)]) (st1 := [vI 1]) (h1 := h) (P := True ∧ True) (by decide +kernel) rfl rfl ⟨trivial, trivial⟩ ?_
          refine g_goto hK 94 (4) 98 (by decide +kernel) (by decide) ?_
          exact j11 _ hF
        refine g_ifz hK 47 .ne (46) 93 (t1 := 50) (t2 := 93) (by decide +kernel) (by decide) rfl rfl (fun (hc44 : s6 = 0) => ?_) (fun (hc44 : ¬ (s6 = 0)) => ?_)
        · have hF := ite_t hc44 hF
          refine g_seg hK [.iload_n 2] 50 51 (L1 := [(4, vI s6), (0, vR 76), (1, vI x1), (2, vI x2), (3, vI x3)]) (st1 := [vI x2]) (h1 := h) (P := True ∧ True) (by decide +kernel) rfl rfl ⟨trivial, trivial⟩ ?_
          obtain ⟨kj46, e53, hF⟩ := jk1_elim hF
          have j46 : ∀ (u45 : Unit), kj46 u45 = some (x3', h') → K 72 [(0, vR 76), (1, vI x1), (2, vI x2), (3, vI x3)] [] h := by
            intro u45 hF
            have hF := (e53 u45).symm.trans hF
            refine g_seg hK [.iload_n 3] 72 73 (L1 := [(0, vR 76), (1, vI x1), (2, vI x2), (3, vI x3)]) (st1 := [vI x3]) (h1 := h) (P := True ∧ True) (by decide +kernel) rfl rfl ⟨trivial, trivial⟩ ?_
            obtain ⟨kj48, e49, hF⟩ := jk1_elim hF
            have j48 : ∀ (u47 : Unit), kj48 u47 = some (x3', h') → K 97 [(0, vR 76), (1, vI x1), (2, vI x2), (3, vI x3)] [] h := by
              intro u47 hF
              have hF := (e49 u47).symm.trans hF
              refine g_seg hK [.iconst 0] 97 98 (L1 := [(0, vR 76), (1, vI x1), (2, vI x2), (3, vI x3)]) (st1 := [vI 0]) (h1 := h) (P := True ∧ True) (by decide +kernel) rfl rfl ⟨trivial, trivial⟩ ?_
              exact j11 _ hF
            refine g_ifz hK 73 .le (24) 97 (t1 := 97) (t2 := 76) (by decide +kernel) (by decide) rfl rfl (fun (hc50 : x3 ≤ 0) => ?_) (fun (hc50 : ¬ (x3 ≤ 0)) => ?_)
            · have hF := ite_t hc50 hF
              exact j48 _ hF
            · have hF := ite_f hc50 hF
              refine g_seg hK [.aload_n 0, .getfield 22, .bipush 15, .iload_n 2, .imul, .iload_n 3, .iadd, .iconst 1, .isub] 76 88 (L1 := [(0, vR 76), (1, vI x1), (2, vI x2), (3, vI x3)]) (st1 := [vI (wr ((wr ((wr (15 * x2)) + x3)) - 1)), vR 81]) (h1 := h) (P := True ∧ kd 76 = 9 ∧ True ∧ True ∧ True ∧ True ∧ True ∧ True ∧ True ∧ True) (by decide +kernel) rfl rfl ⟨trivial, rfl, trivial, trivial, trivial, trivial, trivial, trivial, trivial, trivial⟩ ?_
              obtain ⟨hg51, hF⟩ := gd_elim hF
              refine g_seg hK [.iaload, .iload_n 1] 88 90 (L1 := [(0, vR 76), (1, vI x1), (2, vI x2), (3, vI x3)]) (st1 := [vI x1, vI (h 81 (wr ((wr ((wr (15 * x2)) + x3)) - 1)).toNat)]) (h1 := h) (P := (kd 81 = 0 ∧ 0 ≤ wr ((wr ((wr (15 * x2)) + x3)) - 1) ∧ wr ((wr ((wr (15 * x2)) + x3)) - 1) < 225) ∧ True ∧ True) (by decide +kernel) rfl rfl ⟨⟨rfl, hg51⟩, trivial, trivial⟩ ?_
              refine g_icmp hK 90 .ge (7) 97 (t1 := 93) (t2 := 97) (by decide +kernel) (by decide) rfl rfl (fun (hc52 : h 81 (wr ((wr ((wr (15 * x2)) + x3)) - 1)).toNat < x1) => ?_) (fun (hc52 : ¬ (h 81 (wr ((wr ((wr (15 * x2)) + x3)) - 1)).toNat < x1)) => ?_)
              · have hF := ite_t hc52 hF
                exact j9 _ hF
              · have hF := ite_f hc52 hF
                exact j48 _ hF
          refine g_ifz hK 51 .le (21) 72 (t1 := 72) (t2 := 54) (by decide +kernel) (by decide) rfl rfl (fun (hc54 : x2 ≤ 0) => ?_) (fun (hc54 : ¬ (x2 ≤ 0)) => ?_)
          · have hF := ite_t hc54 hF
            refine hK.2.1 _ _ ([(0, vR 76), (1, vI x1), (2, vI x2), (3, vI x3)]) _ _ (sub_of [1, 2, 3, 4] rfl) ?_
            exact j46 _ hF
          · have hF := ite_f hc54 hF
            refine g_seg hK [.aload_n 0, .getfield 22, .bipush 15, .iload_n 2, .imul, .bipush 15, .isub, .iload_n 3, .iadd] 54 67 (L1 := [(4, vI s6), (0, vR 76), (1, vI x1), (2, vI x2), (3, vI x3)]) (st1 := [vI (wr ((wr ((wr (15 * x2)) - 15)) + x3)), vR 81]) (h1 := h) (P := True ∧ kd 76 = 9 ∧ True ∧ True ∧ True ∧ True ∧ True ∧ True ∧ True ∧ True) (by decide +kernel) rfl rfl ⟨trivial, rfl, trivial, trivial, trivial, trivial, trivial, trivial, trivial, trivial⟩ ?_
            obtain ⟨hg55, hF⟩ := gd_elim hF
            refine g_seg hK [.iaload, .iload_n 1] 67 69 (L1 := [(4, vI s6), (0, vR 76), (1, vI x1), (2, vI x2), (3, vI x3)]) (st1 := [vI x1, vI (h 81 (wr ((wr ((wr (15 * x2)) - 15)) + x3)).toNat)]) (h1 := h) (P := (kd 81 = 0 ∧ 0 ≤ wr ((wr ((wr (15 * x2)) - 15)) + x3) ∧ wr ((wr ((wr (15 * x2)) - 15)) + x3) < 225) ∧ True ∧ True) (by decide +kernel) rfl rfl ⟨⟨rfl, hg55⟩, trivial, trivial⟩ ?_
            refine g_icmp hK 69 .lt (24) 93 (t1 := 93) (t2 := 72) (by decide +kernel) (by decide) rfl rfl (fun (hc56 : h 81 (wr ((wr ((wr (15 * x2)) - 15)) + x3)).toNat < x1) => ?_) (fun (hc56 : ¬ (h 81 (wr ((wr ((wr (15 * x2)) - 15)) + x3)).toNat < x1)) => ?_)
            · have hF := ite_t hc56 hF
              refine hK.2.1 _ _ ([(0, vR 76), (1, vI x1), (2, vI x2), (3, vI x3)]) _ _ (sub_of [1, 2, 3, 4] rfl) ?_
              exact j9 _ hF
            · have hF := ite_f hc56 hF
              refine hK.2.1 _ _ ([(0, vR 76), (1, vI x1), (2, vI x2), (3, vI x3)]) _ _ (sub_of [1, 2, 3, 4] rfl) ?_
              exact j46 _ hF
        · have hF := ite_f hc44 hF
          refine hK.2.1 _ _ ([(0, vR 76), (1, vI x1), (2, vI x2), (3, vI x3)]) _ _ (sub_of [1, 2, 3, 4] rfl) ?_
          exact j9 _ hF
      obtain ⟨kj5, e58, hF⟩ := jk1_elim hF
      have j5 : ∀ (u4 : Unit), kj5 u4 = some (x3', h') → K 42 [(0, vR 76), (1, vI x1), (2, vI x2), (3, vI x3)] [] h := by
        intro u4 hF
        have hF := (e58 u4).symm.trans hF
        refine g_seg hK [.iconst 0] 42 43 (L1 := [(0, vR 76), (1, vI x1), (2, vI x2), (3, vI x3)]) (st1 := [vI 0]) (h1 := h) (P := True ∧ True) (by decide +kernel) rfl rfl ⟨trivial, trivial⟩ ?_
        exact j7 _ hF
      refine g_ifz hK 31 .ne (11) 42 (t1 := 34) (t2 := 42) (by decide +kernel) (by decide) rfl rfl (fun (hc59 : x2 = 0) => ?_) (fun (hc59 : ¬ (x2 = 0)) => ?_)
      · have hF := ite_t hc59 hF
        refine g_seg hK [.iload_n 3] 34 35 (L1 := [(0, vR 76), (1, vI x1), (2, vI x2), (3, vI x3)]) (st1 := [vI x3]) (h1 := h) (P := True ∧ True) (by decide +kernel) rfl rfl ⟨trivial, trivial⟩ ?_
        refine g_ifz hK 35 .ne (7) 42 (t1 := 38) (t2 := 42) (by decide +kernel) (by decide) rfl rfl (fun (hc60 : x3 = 0) => ?_) (fun (hc60 : ¬ (x3 = 0)) => ?_)
        · have hF := ite_t hc60 hF
          refine g_seg hK [.iconst 1] 38 39 (L1 := [(0, vR 76), (1, vI x1), (2, vI x2), (3, vI x3)]) (st1 := [vI 1]) (h1 := h) (P := True ∧ True) (by decide +kernel) rfl rfl ⟨trivial, trivial⟩ ?_
          refine g_goto hK 39 (4) 43 (by decide +kernel) (by decide) ?_
          exact j7 _ hF
        · have hF := ite_f hc60 hF
          exact j5 _ hF
      · have hF := ite_f hc59 hF
        exact j5 _ hF
    · have hF := ite_f hc3 hF
      cases hF
      exact hE
set_option maxHeartbeats 4000000 in
set_option maxRecDepth 100000 in
theorem LT_M_byDiagonals_L10 {K : KT} (hK : Rules RX7 cX7_byDiagonals 6 (Option.some Jvm.ClassFile.FieldType.int) flX7 1 K) {x1 : Int} : ∀ (n : Nat) (x2 : Int) (h : MH) (x2' : Int) (h' : MH), F_M_byDiagonals_L10 x1 n x2 h = some (x2', h') → K 224 [(0, vR 76), (1, vI x1), (2, vI x2')] [] h' → K 10 [(0, vR 76), (1, vI x1), (2, vI x2)] [] h := by
  intro n
  induction n with
  | zero =>
    intro x2 h x2' h' hF
    cases hF
  | succ n ih =>
    intro x2 h x2' h' hF hE
    unfold F_M_byDiagonals_L10 at hF
    refine g_seg hK [.iload_n 2, .aload_n 0, .iconst 0] 10 13 (L1 := [(0, vR 76), (1, vI x1), (2, vI x2)]) (st1 := [vI 0, vR 76, vI x2]) (h1 := h) (P := True ∧ True ∧ True ∧ True) (by decide +kernel) rfl rfl ⟨trivial, trivial, trivial, trivial⟩ ?_
    obtain ⟨r1, e2, hF⟩ := ob1_elim hF
    refine g_callV1 hK 13 47 (d1 := 0) (ci := 7) (i := 76) (vs := [vI 0]) (rest := [vI x2]) (h1 := h) (r := vI r1) my_yX7_lines vw_X7_47 (by decide) (T_M_lines (p1 := 0) (h := h) (hF := e2)) rfl rfl rfl (Nat.le_of_ble_eq_true rfl) (by decide +kernel) ?_
    refine g_icmp hK 16 .gt (208) 224 (t1 := 19) (t2 := 224) (by decide +kernel) (by decide) rfl rfl (fun (hc3 : x2 ≤ r1) => ?_) (fun (hc3 : ¬ (x2 ≤ r1)) => ?_)
    · have hF := ite_t hc3 hF
      refine g_seg hK [.iconst 0, .istore_n 3] 19 21 (L1 := [(3, vI 0), (0, vR 76), (1, vI x1), (2, vI x2)]) (st1 := []) (h1 := h) (P := True ∧ True ∧ True) (by decide +kernel) rfl rfl ⟨trivial, trivial, trivial⟩ ?_
      refine hK.2.1 _ _ ([(0, vR 76), (1, vI x1), (2, vI x2), (3, vI 0)]) _ _ (sub_of [1, 2, 3, 0] rfl) ?_
      obtain ⟨x3_4, h5, e6, hF⟩ := ob2_elim hF
      refine LT_M_byDiagonals_L21 hK _ _ _ _ _ e6 ?_
      refine g_seg hK [.iinc 2 1] 218 221 (L1 := [(2, vI (wr (x2 + 1))), (0, vR 76), (1, vI x1), (3, vI x3_4)]) (st1 := []) (h1 := h5) (P := True ∧ True) (by decide +kernel) rfl rfl ⟨trivial, trivial⟩ ?_
      refine g_goto hK 221 (-211) 10 (by decide +kernel) (by decide) ?_
      refine hK.2.1 _ _ ([(0, vR 76), (1, vI x1), (2, vI (wr (x2 + 1)))]) _ _ (sub_of [1, 2, 0] rfl) ?_
      exact ih _ _ _ _ hF hE
    · have hF := ite_f hc3 hF
      cases hF
      exact hE
set_option maxHeartbeats 4000000 in
set_option maxRecDepth 100000 in
theorem LT_M_byDiagonals_L2 {K : KT} (hK : Rules RX7 cX7_byDiagonals 6 (Option.some Jvm.ClassFile.FieldType.int) flX7 1 K) {Post : Option MV → MH → Prop} (hR : R_ret cX7_byDiagonals (Option.some Jvm.ClassFile.FieldType.int) Post K) : ∀ (n : Nat) (x1 : Int) (h : MH) (out : Sum (Int × MH) (Int × MH)), F_M_byDiagonals_L2 n x1 h = some out → (∀ a : Int × MH, out = Sum.inl a → Post (some (vI a.1)) a.2) → (∀ q : Int × MH, out = Sum.inr q → K 255 [(0, vR 76), (1, vI q.1)] [] q.2) → K 2 [(0, vR 76), (1, vI x1)] [] h := by
  intro n
  induction n with
  | zero =>
    intro x1 h out hF
    cases hF
  | succ n ih =>
    intro x1 h out hF hRet hE
    unfold F_M_byDiagonals_L2 at hF
    refine g_seg hK [.iload_n 1, .bipush 28] 2 5 (L1 := [(0, vR 76), (1, vI x1)]) (st1 := [vI 28, vI x1]) (h1 := h) (P := True ∧ True ∧ True) (by decide +kernel) rfl rfl ⟨trivial, trivial, trivial⟩ ?_
    refine g_icmp hK 5 .gt (250) 255 (t1 := 8) (t2 := 255) (by decide +kernel) (by decide) rfl rfl (fun (hc1 : x1 ≤ 28) => ?_) (fun (hc1 : ¬ (x1 ≤ 28)) => ?_)
    · have hF := ite_t hc1 hF
      refine g_seg hK [.iconst 0, .istore_n 2] 8 10 (L1 := [(2, vI 0), (0, vR 76), (1, vI x1)]) (st1 := []) (h1 := h) (P := True ∧ True ∧ True) (by decide +kernel) rfl rfl ⟨trivial, trivial, trivial⟩ ?_
      refine hK.2.1 _ _ ([(0, vR 76), (1, vI x1), (2, vI 0)]) _ _ (sub_of [1, 2, 0] rfl) ?_
      obtain ⟨x2_2, h3, e4, hF⟩ := ob2_elim hF
      refine LT_M_byDiagonals_L10 hK _ _ _ _ _ e4 ?_
      refine g_seg hK [.aload_n 0, .getfield 22, .bipush 15, .aload_n 0, .iconst 0] 224 232 (L1 := [(0, vR 76), (1, vI x1), (2, vI x2_2)]) (st1 := [vI 0, vR 76, vI 15, vR 81]) (h1 := h3) (P := True ∧ kd 76 = 9 ∧ True ∧ True ∧ True ∧ True) (by decide +kernel) rfl rfl ⟨trivial, rfl, trivial, trivial, trivial, trivial⟩ ?_
      obtain ⟨r5, e6, hF⟩ := ob1_elim hF
      refine g_callV1 hK 232 47 (d1 := 0) (ci := 7) (i := 76) (vs := [vI 0]) (rest := [vI 15, vR 81]) (h1 := h3) (r := vI r5) my_yX7_lines vw_X7_47 (by decide) (T_M_lines (p1 := 0) (h := h3) (hF := e6)) rfl rfl rfl (Nat.le_of_ble_eq_true rfl) (by decide +kernel) ?_
      refine g_seg hK [.imul, .aload_n 0, .iconst 1] 235 238 (L1 := [(0, vR 76), (1, vI x1), (2, vI x2_2)]) (st1 := [vI 1, vR 76, vI (wr (15 * r5)), vR 81]) (h1 := h3) (P := True ∧ True ∧ True ∧ True) (by decide +kernel) rfl rfl ⟨trivial, trivial, trivial, trivial⟩ ?_
      obtain ⟨r7, e8, hF⟩ := ob1_elim hF
      refine g_callV1 hK 238 47 (d1 := 0) (ci := 7) (i := 76) (vs := [vI 1]) (rest := [vI (wr (15 * r5)), vR 81]) (h1 := h3) (r := vI r7) my_yX7_lines vw_X7_47 (by decide) (T_M_lines (p1 := 1) (h := h3) (hF := e8)) rfl rfl rfl (Nat.le_of_ble_eq_true rfl) (by decide +kernel) ?_
      refine g_seg hK [.iadd] 241 242 (L1 := [(0, vR 76), (1, vI x1), (2, vI x2_2)]) (st1 := [vI (wr ((wr (15 * r5)) + r7)), vR 81]) (h1 := h3) (P := True ∧ True) (by decide +kernel) rfl rfl ⟨trivial, trivial⟩ ?_
      obtain ⟨hg9, hF⟩ := gd_elim hF
      refine g_seg hK [.iaload, .iload_n 1] 242 244 (L1 := [(0, vR 76), (1, vI x1), (2, vI x2_2)]) (st1 := [vI x1, vI (h3 81 (wr ((wr (15 * r5)) + r7)).toNat)]) (h1 := h3) (P := (kd 81 = 0 ∧ 0 ≤ wr ((wr (15 * r5)) + r7) ∧ wr ((wr (15 * r5)) + r7) < 225) ∧ True ∧ True) (by decide +kernel) rfl rfl ⟨⟨rfl, hg9⟩, trivial, trivial⟩ ?_
      refine g_icmp hK 244 .gt (5) 249 (t1 := 247) (t2 := 249) (by decide +kernel) (by decide) rfl rfl (fun (hc10 : h3 81 (wr ((wr (15 * r5)) + r7)).toNat ≤ x1) => ?_) (fun (hc10 : ¬ (h3 81 (wr ((wr (15 * r5)) + r7)).toNat ≤ x1)) => ?_)
      · have hF := ite_t hc10 hF
        refine g_seg hK [.iload_n 1] 247 248 (L1 := [(0, vR 76), (1, vI x1), (2, vI x2_2)]) (st1 := [vI x1]) (h1 := h3) (P := True ∧ True) (by decide +kernel) rfl rfl ⟨trivial, trivial⟩ ?_
        cases hF
        exact hR.1 248 _ _ _ (by decide +kernel) rfl (hRet _ rfl)
      · have hF := ite_f hc10 hF
        refine g_seg hK [.iinc 1 1] 249 252 (L1 := [(1, vI (wr (x1 + 1))), (0, vR 76), (2, vI x2_2)]) (st1 := []) (h1 := h3) (P := True ∧ True) (by decide +kernel) rfl rfl ⟨trivial, trivial⟩ ?_
        refine g_goto hK 252 (-250) 2 (by decide +kernel) (by decide) ?_
        refine hK.2.1 _ _ ([(0, vR 76), (1, vI (wr (x1 + 1)))]) _ _ (sub_of [1, 0] rfl) ?_
        exact ih _ _ _ hF hRet hE
    · have hF := ite_f hc1 hF
      cases hF
      exact hE _ rfl
set_option maxHeartbeats 4000000 in
set_option maxRecDepth 100000 in
theorem T_M_byDiagonals {h : MH} {r : Int} {h' : MH} (hF : F_M_byDiagonals h = some (r, h')) : CON 1 yX7_byDiagonals cX7_byDiagonals 6 (Option.some Jvm.ClassFile.FieldType.int) [vR 76] h (some (vI r)) h' := by
  refine con_of (own := RX7) (fl := flX7) (by decide +kernel) rfl flok_X7 rfl (Nat.le_of_ble_eq_true rfl) ?_
  intro K hK hR
  show K 0 [(0, vR 76)] [] h
  unfold F_M_byDiagonals at hF
  refine g_seg hK [.iconst 0, .istore_n 1] 0 2 (L1 := [(1, vI 0), (0, vR 76)]) (st1 := []) (h1 := h) (P := True ∧ True ∧ True) (by decide +kernel) rfl rfl ⟨trivial, trivial, trivial⟩ ?_
  refine hK.2.1 _ _ ([(0, vR 76), (1, vI 0)]) _ _ (sub_of [1, 0] rfl) ?_
  obtain ⟨out5, e3, hr6, hx7⟩ := os_elim hF
  refine LT_M_byDiagonals_L2 hK hR _ _ _ out5 e3 ?_ ?_
  · intro a ha
    have hF := hr6 a ha
    cases hF
    exact ⟨rfl, rfl⟩
  · intro q4 hq
    have hF := hx7 q4 hq
    refine g_seg hK [.bipush (-4)] 255 257 (L1 := [(0, vR 76), (1, vI q4.1)]) (st1 := [vI (-4)]) (h1 := q4.2) (P := True ∧ True) (by decide +kernel) rfl rfl ⟨trivial, trivial⟩ ?_
    cases hF
    exact hR.1 257 _ _ _ (by decide +kernel) rfl ⟨rfl, rfl⟩
set_option maxHeartbeats 4000000 in
set_option maxRecDepth 100000 in
theorem T_M_distance {p1 : Int} {h : MH} {r : Int} {h' : MH} (hF : F_M_distance p1 h = some (r, h')) : CON 3 yX7_distance cX7_distance 2 (Option.some Jvm.ClassFile.FieldType.int) [vR 76, vI p1] h (some (vI r)) h' := by
  refine con_of (own := RX7) (fl := flX7) (by decide +kernel) rfl flok_X7 rfl (Nat.le_of_ble_eq_true rfl) ?_
  intro K hK hR
  show K 0 [(0, vR 76), (1, vI p1)] [] h
  unfold F_M_distance at hF
  refine g_seg hK [.iload_n 1] 0 1 (L1 := [(0, vR 76), (1, vI p1)]) (st1 := [vI p1]) (h1 := h) (P := True ∧ True) (by decide +kernel) rfl rfl ⟨trivial, trivial⟩ ?_
  refine g_ifz hK 1 .ne (10) 11 (t1 := 4) (t2 := 11) (by decide +kernel) (by decide) rfl rfl (fun (hc1 : p1 = 0) => ?_) (fun (hc1 : ¬ (p1 = 0)) => ?_)
  · have hF := ite_t hc1 hF
    refine g_seg hK [.aload_n 0] 4 5 (L1 := [(0, vR 76), (1, vI p1)]) (st1 := [vR 76]) (h1 := h) (P := True ∧ True) (by decide +kernel) rfl rfl ⟨trivial, trivial⟩ ?_
    obtain ⟨r2, h3, e4, hF⟩ := ob2_elim hF
    refine g_callV1 hK 5 65 (d1 := 2) (ci := 7) (i := 76) (vs := []) (rest := []) (h1 := h3) (r := vI r2) my_yX7_counts vw_X7_65 (by decide) (T_M_counts (h := h) (hF := e4)) rfl rfl rfl (Nat.le_of_ble_eq_true rfl) (by decide +kernel) ?_
    refine g_goto hK 8 (16) 24 (by decide +kernel) (by decide) ?_
    cases hF
    exact hR.1 24 _ _ _ (by decide +kernel) rfl ⟨rfl, rfl⟩
  · have hF := ite_f hc1 hF
    refine g_seg hK [.iload_n 1, .iconst 1] 11 13 (L1 := [(0, vR 76), (1, vI p1)]) (st1 := [vI 1, vI p1]) (h1 := h) (P := True ∧ True ∧ True) (by decide +kernel) rfl rfl ⟨trivial, trivial, trivial⟩ ?_
    refine g_icmp hK 13 .ne (10) 23 (t1 := 16) (t2 := 23) (by decide +kernel) (by decide) rfl rfl (fun (hc5 : p1 = 1) => ?_) (fun (hc5 : ¬ (p1 = 1)) => ?_)
    · have hF := ite_t hc5 hF
      refine g_seg hK [.aload_n 0] 16 17 (L1 := [(0, vR 76), (1, vI p1)]) (st1 := [vR 76]) (h1 := h) (P := True ∧ True) (by decide +kernel) rfl rfl ⟨trivial, trivial⟩ ?_
      obtain ⟨r6, h7, e8, hF⟩ := ob2_elim hF
      refine g_callV1 hK 17 159 (d1 := 1) (ci := 7) (i := 76) (vs := []) (rest := []) (h1 := h7) (r := vI r6) my_yX7_byDiagonals vw_X7_159 (by decide) (T_M_byDiagonals (h := h) (hF := e8)) rfl rfl rfl (Nat.le_of_ble_eq_true rfl) (by decide +kernel) ?_
      refine g_goto hK 20 (4) 24 (by decide +kernel) (by decide) ?_
      cases hF
      exact hR.1 24 _ _ _ (by decide +kernel) rfl ⟨rfl, rfl⟩
    · have hF := ite_f hc5 hF
      refine g_seg hK [.iconst (-1)] 23 24 (L1 := [(0, vR 76), (1, vI p1)]) (st1 := [vI (-1)]) (h1 := h) (P := True ∧ True) (by decide +kernel) rfl rfl ⟨trivial, trivial⟩ ?_
      cases hF
      exact hR.1 24 _ _ _ (by decide +kernel) rfl ⟨rfl, rfl⟩

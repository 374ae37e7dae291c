set_option maxHeartbeats 4000000 in
set_option maxRecDepth 100000 in
theorem T_V_newAhead {p1 : Int} {h : MH} {r : Int} (hF : F_V_newAhead p1 h = some r) : CON 2 yX5_newAhead cX5_newAhead 2 (Option.some Jvm.ClassFile.FieldType.int) [vR 54, vI p1] h (some (vI r)) h := by
  refine con_of (own := RX5) (fl := flX5) (by decide +kernel) rfl flok_X5 rfl (Nat.le_of_ble_eq_true rfl) ?_
  intro K hK hR
  show K 0 [(0, vR 54), (1, vI p1)] [] h
  unfold F_V_newAhead at hF
  refine g_seg hK [.iload_n 1, .aload_n 0, .iconst 0, .iload_n 1, .iconst 1] 0 5 (L1 := [(0, vR 54), (1, vI p1)]) (st1 := [vI 1, vI p1, vI 0, vR 54, vI p1]) (h1 := h) (P := True ∧ True ∧ True ∧ True ∧ True ∧ True) (by decide +kernel) rfl rfl ⟨trivial, trivial, trivial, trivial, trivial, trivial⟩ ?_
  obtain ⟨r1, e2, hF⟩ := ob1_elim hF
  refine g_callV1 hK 5 97 (d1 := 1) (ci := 5) (i := 54) (vs := [vI 0, vI p1, vI 1]) (rest := [vI p1]) (h1 := h) (r := vI r1) my_yX5_linesWithin vw_X5_97 (by decide) (T_V_linesWithin (p1 := 0) (p2 := p1) (p3 := 1) (h := h) (hF := e2)) rfl rfl rfl (Nat.le_of_ble_eq_true rfl) (by decide +kernel) ?_
  refine g_seg hK [.isub] 8 9 (L1 := [(0, vR 54), (1, vI p1)]) (st1 := [vI (wr (p1 - r1))]) (h1 := h) (P := True ∧ True) (by decide +kernel) rfl rfl ⟨trivial, trivial⟩ ?_
  cases hF
  exact hR.1 9 _ _ _ (by decide +kernel) rfl ⟨rfl, rfl⟩
set_option maxHeartbeats 4000000 in
set_option maxRecDepth 100000 in
theorem T_V_oldAhead {p1 : Int} {h : MH} {r : Int} (hF : F_V_oldAhead p1 h = some r) : CON 2 yX5_oldAhead cX5_oldAhead 2 (Option.some Jvm.ClassFile.FieldType.int) [vR 54, vI p1] h (some (vI r)) h := by
  refine con_of (own := RX5) (fl := flX5) (by decide +kernel) rfl flok_X5 rfl (Nat.le_of_ble_eq_true rfl) ?_
  intro K hK hR
  show K 0 [(0, vR 54), (1, vI p1)] [] h
  unfold F_V_oldAhead at hF
  refine g_seg hK [.iload_n 1, .aload_n 0, .iconst 0, .iload_n 1, .iconst 2] 0 5 (L1 := [(0, vR 54), (1, vI p1)]) (st1 := [vI 2, vI p1, vI 0, vR 54, vI p1]) (h1 := h) (P := True ∧ True ∧ True ∧ True ∧ True ∧ True) (by decide +kernel) rfl rfl ⟨trivial, trivial, trivial, trivial, trivial, trivial⟩ ?_
  obtain ⟨r1, e2, hF⟩ := ob1_elim hF
  refine g_callV1 hK 5 97 (d1 := 1) (ci := 5) (i := 54) (vs := [vI 0, vI p1, vI 2]) (rest := [vI p1]) (h1 := h) (r := vI r1) my_yX5_linesWithin vw_X5_97 (by decide) (T_V_linesWithin (p1 := 0) (p2 := p1) (p3 := 2) (h := h) (hF := e2)) rfl rfl rfl (Nat.le_of_ble_eq_true rfl) (by decide +kernel) ?_
  refine g_seg hK [.isub] 8 9 (L1 := [(0, vR 54), (1, vI p1)]) (st1 := [vI (wr (p1 - r1))]) (h1 := h) (P := True ∧ True) (by decide +kernel) rfl rfl ⟨trivial, trivial⟩ ?_
  cases hF
  exact hR.1 9 _ _ _ (by decide +kernel) rfl ⟨rfl, rfl⟩
set_option maxHeartbeats 4000000 in
set_option maxRecDepth 100000 in
theorem LT_La_fitsAt_L31 {K : KT} (hK : Rules RX2 cX2_fitsAt 3 (Option.some Jvm.ClassFile.FieldType.boolean) flX2 1 K) {Post : Option MV → MH → Prop} (hR : R_ret cX2_fitsAt (Option.some Jvm.ClassFile.FieldType.boolean) Post K) {x1 : Int} {h : MH} : ∀ (n : Nat) (x2 : Int) (out : Sum (Int) (Int)), F_La_fitsAt_L31 x1 h n x2 = some out → (∀ a : Int, out = Sum.inl a → Post (some (vI a)) h) → (∀ q : Int, out = Sum.inr q → K 71 [(0, vR 65), (1, vI x1), (2, vI q)] [] h) → K 31 [(0, vR 65), (1, vI x1), (2, vI x2)] [] h := by
  intro n
  induction n with
  | zero =>
    intro x2 out hF
    cases hF
  | succ n ih =>
    intro x2 out hF hRet hE
    unfold F_La_fitsAt_L31 at hF
    refine g_seg hK [.iload_n 2, .aload_n 0, .getfield 20] 31 36 (L1 := [(0, vR 65), (1, vI x1), (2, vI x2)]) (st1 := [vR 68, vI x2]) (h1 := h) (P := True ∧ True ∧ kd 65 = 4 ∧ True) (by decide +kernel) rfl rfl ⟨trivial, trivial, rfl, trivial⟩ ?_
    refine g_callV1 hK 36 97 (d1 := 0) (ci := 3) (i := 68) (vs := []) (rest := [vI x2]) (h1 := h) (r := vI (F_Ro_size 68 h)) my_yX3_size vw_X2_97 (by decide) (T_Ro_size (o := 68) (h := h) (ko := rfl) (hF := rfl)) rfl rfl rfl (Nat.le_of_ble_eq_true rfl) (by decide +kernel) ?_
    refine g_icmp hK 39 .ge (32) 71 (t1 := 42) (t2 := 71) (by decide +kernel) (by decide) rfl rfl (fun (hc1 : x2 < F_Ro_size 68 h) => ?_) (fun (hc1 : ¬ (x2 < F_Ro_size 68 h)) => ?_)
    · have hF := ite_t hc1 hF
      refine g_seg hK [.aload_n 0, .getfield 20, .iload_n 2] 42 47 (L1 := [(0, vR 65), (1, vI x1), (2, vI x2)]) (st1 := [vI x2, vR 68]) (h1 := h) (P := True ∧ kd 65 = 4 ∧ True ∧ True) (by decide +kernel) rfl rfl ⟨trivial, rfl, trivial, trivial⟩ ?_
      refine g_callV1 hK 47 65 (d1 := 0) (ci := 3) (i := 68) (vs := [vI x2]) (rest := []) (h1 := h) (r := vI (F_Ro_at 68 x2 h)) my_yX3_at vw_X2_65 (by decide) (T_Ro_at (o := 68) (p1 := x2) (h := h) (ko := rfl) (hF := rfl)) rfl rfl rfl (Nat.le_of_ble_eq_true rfl) (by decide +kernel) ?_
      refine g_seg hK [.aload_n 0, .getfield 14, .iload_n 1, .iload_n 2, .iadd] 50 57 (L1 := [(0, vR 65), (1, vI x1), (2, vI x2)]) (st1 := [vI (wr (x1 + x2)), vR 66, vI (F_Ro_at 68 x2 h)]) (h1 := h) (P := True ∧ kd 65 = 4 ∧ True ∧ True ∧ True ∧ True) (by decide +kernel) rfl rfl ⟨trivial, rfl, trivial, trivial, trivial, trivial⟩ ?_
      refine g_callV1 hK 57 65 (d1 := 0) (ci := 3) (i := 66) (vs := [vI (wr (x1 + x2))]) (rest := [vI (F_Ro_at 68 x2 h)]) (h1 := h) (r := vI (F_Ro_at 66 (wr (x1 + x2)) h)) my_yX3_at vw_X2_65 (by decide) (T_Ro_at (o := 66) (p1 := (wr (x1 + x2))) (h := h) (ko := rfl) (hF := rfl)) rfl rfl rfl (Nat.le_of_ble_eq_true rfl) (by decide +kernel) ?_
      refine g_icmp hK 60 .eq (5) 65 (t1 := 65) (t2 := 63) (by decide +kernel) (by decide) rfl rfl (fun (hc2 : F_Ro_at 68 x2 h = F_Ro_at 66 (wr (x1 + x2)) h) => ?_) (fun (hc2 : ¬ (F_Ro_at 68 x2 h = F_Ro_at 66 (wr (x1 + x2)) h)) => ?_)
      · have hF := ite_t hc2 hF
        refine g_seg hK [.iinc 2 1] 65 68 (L1 := [(2, vI (wr (x2 + 1))), (0, vR 65), (1, vI x1)]) (st1 := []) (h1 := h) (P := True ∧ True) (by decide +kernel) rfl rfl ⟨trivial, trivial⟩ ?_
        refine g_goto hK 68 (-37) 31 (by decide +kernel) (by decide) ?_
        refine hK.2.1 _ _ ([(0, vR 65), (1, vI x1), (2, vI (wr (x2 + 1)))]) _ _ (sub_of [1, 2, 0] rfl) ?_
        exact ih _ _ hF hRet hE
      · have hF := ite_f hc2 hF
        refine g_seg hK [.iconst 0] 63 64 (L1 := [(0, vR 65), (1, vI x1), (2, vI x2)]) (st1 := [vI 0]) (h1 := h) (P := True ∧ True) (by decide +kernel) rfl rfl ⟨trivial, trivial⟩ ?_
        cases hF
        exact hR.2.1 64 _ _ _ (by decide +kernel) rfl (by decide) (hRet _ rfl)
    · have hF := ite_f hc1 hF
      cases hF
      exact hE _ rfl
set_option maxHeartbeats 4000000 in
set_option maxRecDepth 100000 in
theorem T_La_fitsAt {p1 : Int} {h : MH} {r : Int} (hF : F_La_fitsAt p1 h = some r) : CON 1 yX2_fitsAt cX2_fitsAt 3 (Option.some Jvm.ClassFile.FieldType.boolean) [vR 65, vI p1] h (some (vI r)) h := by
  refine con_of (own := RX2) (fl := flX2) (by decide +kernel) rfl flok_X2 rfl (Nat.le_of_ble_eq_true rfl) ?_
  intro K hK hR
  show K 0 [(0, vR 65), (1, vI p1)] [] h
  unfold F_La_fitsAt at hF
  refine g_seg hK [.iload_n 1, .aload_n 0, .getfield 45] 0 5 (L1 := [(0, vR 65), (1, vI p1)]) (st1 := [vI (h 65 9), vI p1]) (h1 := h) (P := True ∧ True ∧ kd 65 = 4 ∧ True) (by decide +kernel) rfl rfl ⟨trivial, trivial, rfl, trivial⟩ ?_
  refine g_icmp hK 5 .lt (22) 27 (t1 := 27) (t2 := 8) (by decide +kernel) (by decide) rfl rfl (fun (hc1 : p1 < h 65 9) => ?_) (fun (hc1 : ¬ (p1 < h 65 9)) => ?_)
  · have hF := ite_t hc1 hF
    refine g_seg hK [.iconst 0] 27 28 (L1 := [(0, vR 65), (1, vI p1)]) (st1 := [vI 0]) (h1 := h) (P := True ∧ True) (by decide +kernel) rfl rfl ⟨trivial, trivial⟩ ?_
    cases hF
    exact hR.2.1 28 _ _ _ (by decide +kernel) rfl (by decide) ⟨rfl, rfl⟩
  · have hF := ite_f hc1 hF
    refine g_seg hK [.iload_n 1, .aload_n 0, .getfield 20] 8 13 (L1 := [(0, vR 65), (1, vI p1)]) (st1 := [vR 68, vI p1]) (h1 := h) (P := True ∧ True ∧ kd 65 = 4 ∧ True) (by decide +kernel) rfl rfl ⟨trivial, trivial, rfl, trivial⟩ ?_
    refine g_callV1 hK 13 97 (d1 := 0) (ci := 3) (i := 68) (vs := []) (rest := [vI p1]) (h1 := h) (r := vI (F_Ro_size 68 h)) my_yX3_size vw_X2_97 (by decide) (T_Ro_size (o := 68) (h := h) (ko := rfl) (hF := rfl)) rfl rfl rfl (Nat.le_of_ble_eq_true rfl) (by decide +kernel) ?_
    refine g_seg hK [.iadd, .aload_n 0, .getfield 14] 16 21 (L1 := [(0, vR 65), (1, vI p1)]) (st1 := [vR 66, vI (wr (p1 + (F_Ro_size 68 h)))]) (h1 := h) (P := True ∧ True ∧ kd 65 = 4 ∧ True) (by decide +kernel) rfl rfl ⟨trivial, trivial, rfl, trivial⟩ ?_
    refine g_callV1 hK 21 97 (d1 := 0) (ci := 3) (i := 66) (vs := []) (rest := [vI (wr (p1 + (F_Ro_size 68 h)))]) (h1 := h) (r := vI (F_Ro_size 66 h)) my_yX3_size vw_X2_97 (by decide) (T_Ro_size (o := 66) (h := h) (ko := rfl) (hF := rfl)) rfl rfl rfl (Nat.le_of_ble_eq_true rfl) (by decide +kernel) ?_
    refine g_icmp hK 24 .le (5) 29 (t1 := 29) (t2 := 27) (by decide +kernel) (by decide) rfl rfl (fun (hc2 : wr (p1 + (F_Ro_size 68 h)) ≤ F_Ro_size 66 h) => ?_) (fun (hc2 : ¬ (wr (p1 + (F_Ro_size 68 h)) ≤ F_Ro_size 66 h)) => ?_)
    · have hF := ite_t hc2 hF
      refine g_seg hK [.iconst 0, .istore_n 2] 29 31 (L1 := [(2, vI 0), (0, vR 65), (1, vI p1)]) (st1 := []) (h1 := h) (P := True ∧ True ∧ True) (by decide +kernel) rfl rfl ⟨trivial, trivial, trivial⟩ ?_
      refine hK.2.1 _ _ ([(0, vR 65), (1, vI p1), (2, vI 0)]) _ _ (sub_of [1, 2, 0] rfl) ?_
      obtain ⟨out6, e4, hr7, hx8⟩ := os_elim hF
      refine LT_La_fitsAt_L31 hK hR _ _ out6 e4 ?_ ?_
      · intro a ha
        have hF := hr7 a ha
        cases hF
        exact ⟨rfl, rfl⟩
      · intro q5 hq
        have hF := hx8 q5 hq
        refine g_seg hK [.iconst 1] 71 72 (L1 := [(0, vR 65), (1, vI p1), (2, vI q5)]) (st1 := [vI 1]) (h1 := h) (P := True ∧ True) (by decide +kernel) rfl rfl ⟨trivial, trivial⟩ ?_
        cases hF
        exact hR.2.1 72 _ _ _ (by decide +kernel) rfl (by decide) ⟨rfl, rfl⟩
    · have hF := ite_f hc2 hF
      refine g_seg hK [.iconst 0] 27 28 (L1 := [(0, vR 65), (1, vI p1)]) (st1 := [vI 0]) (h1 := h) (P := True ∧ True) (by decide +kernel) rfl rfl ⟨trivial, trivial⟩ ?_
      cases hF
      exact hR.2.1 28 _ _ _ (by decide +kernel) rfl (by decide) ⟨rfl, rfl⟩
set_option maxHeartbeats 4000000 in
set_option maxRecDepth 100000 in
theorem LT_La_search_L2 {K : KT} (hK : Rules RX2 cX2_search 3 (Option.some Jvm.ClassFile.FieldType.int) flX2 2 K) {Post : Option MV → MH → Prop} (hR : R_ret cX2_search (Option.some Jvm.ClassFile.FieldType.int) Post K) {x1 : Int} {h : MH} : ∀ (n : Nat) (x2 : Int) (out : Sum (Int) (Int)), F_La_search_L2 x1 h n x2 = some out → (∀ a : Int, out = Sum.inl a → Post (some (vI a)) h) → (∀ q : Int, out = Sum.inr q → K 42 [(0, vR 65), (1, vI x1), (2, vI q)] [] h) → K 2 [(0, vR 65), (1, vI x1), (2, vI x2)] [] h := by
  intro n
  induction n with
  | zero =>
    intro x2 out hF
    cases hF
  | succ n ih =>
    intro x2 out hF hRet hE
    unfold F_La_search_L2 at hF
    refine g_seg hK [.iload_n 2, .bipush 112] 2 5 (L1 := [(0, vR 65), (1, vI x1), (2, vI x2)]) (st1 := [vI 112, vI x2]) (h1 := h) (P := True ∧ True ∧ True) (by decide +kernel) rfl rfl ⟨trivial, trivial, trivial⟩ ?_
    refine g_icmp hK 5 .gt (37) 42 (t1 := 8) (t2 := 42) (by decide +kernel) (by decide) rfl rfl (fun (hc1 : x2 ≤ 112) => ?_) (fun (hc1 : ¬ (x2 ≤ 112)) => ?_)
    · have hF := ite_t hc1 hF
      refine g_seg hK [.aload_n 0, .iload_n 1, .iload_n 2, .isub] 8 12 (L1 := [(0, vR 65), (1, vI x1), (2, vI x2)]) (st1 := [vI (wr (x1 - x2)), vR 65]) (h1 := h) (P := True ∧ True ∧ True ∧ True ∧ True) (by decide +kernel) rfl rfl ⟨trivial, trivial, trivial, trivial, trivial⟩ ?_
      obtain ⟨r2, e3, hF⟩ := ob1_elim hF
      refine g_callV1 hK 12 112 (d1 := 1) (ci := 2) (i := 65) (vs := [vI (wr (x1 - x2))]) (rest := []) (h1 := h) (r := vI r2) my_yX2_fitsAt vw_X2_112 (by decide) (T_La_fitsAt (p1 := (wr (x1 - x2))) (h := h) (hF := e3)) rfl rfl rfl (Nat.le_of_ble_eq_true rfl) (by decide +kernel) ?_
      refine g_ifz hK 15 .eq (7) 22 (t1 := 22) (t2 := 18) (by decide +kernel) (by decide) rfl rfl (fun (hc4 : r2 = 0) => ?_) (fun (hc4 : ¬ (r2 = 0)) => ?_)
      · have hF := ite_t hc4 hF
        refine g_seg hK [.aload_n 0, .iload_n 1, .iload_n 2, .iadd] 22 26 (L1 := [(0, vR 65), (1, vI x1), (2, vI x2)]) (st1 := [vI (wr (x1 + x2)), vR 65]) (h1 := h) (P := True ∧ True ∧ True ∧ True ∧ True) (by decide +kernel) rfl rfl ⟨trivial, trivial, trivial, trivial, trivial⟩ ?_
        obtain ⟨r5, e6, hF⟩ := ob1_elim hF
        refine g_callV1 hK 26 112 (d1 := 1) (ci := 2) (i := 65) (vs := [vI (wr (x1 + x2))]) (rest := []) (h1 := h) (r := vI r5) my_yX2_fitsAt vw_X2_112 (by decide) (T_La_fitsAt (p1 := (wr (x1 + x2))) (h := h) (hF := e6)) rfl rfl rfl (Nat.le_of_ble_eq_true rfl) (by decide +kernel) ?_
        refine g_ifz hK 29 .eq (7) 36 (t1 := 36) (t2 := 32) (by decide +kernel) (by decide) rfl rfl (fun (hc7 : r5 = 0) => ?_) (fun (hc7 : ¬ (r5 = 0)) => ?_)
        · have hF := ite_t hc7 hF
          refine g_seg hK [.iinc 2 1] 36 39 (L1 := [(2, vI (wr (x2 + 1))), (0, vR 65), (1, vI x1)]) (st1 := []) (h1 := h) (P := True ∧ True) (by decide +kernel) rfl rfl ⟨trivial, trivial⟩ ?_
          refine g_goto hK 39 (-37) 2 (by decide +kernel) (by decide) ?_
          refine hK.2.1 _ _ ([(0, vR 65), (1, vI x1), (2, vI (wr (x2 + 1)))]) _ _ (sub_of [1, 2, 0] rfl) ?_
          exact ih _ _ hF hRet hE
        · have hF := ite_f hc7 hF
          refine g_seg hK [.iload_n 1, .iload_n 2, .iadd] 32 35 (L1 := [(0, vR 65), (1, vI x1), (2, vI x2)]) (st1 := [vI (wr (x1 + x2))]) (h1 := h) (P := True ∧ True ∧ True ∧ True) (by decide +kernel) rfl rfl ⟨trivial, trivial, trivial, trivial⟩ ?_
          cases hF
          exact hR.1 35 _ _ _ (by decide +kernel) rfl (hRet _ rfl)
      · have hF := ite_f hc4 hF
        refine g_seg hK [.iload_n 1, .iload_n 2, .isub] 18 21 (L1 := [(0, vR 65), (1, vI x1), (2, vI x2)]) (st1 := [vI (wr (x1 - x2))]) (h1 := h) (P := True ∧ True ∧ True ∧ True) (by decide +kernel) rfl rfl ⟨trivial, trivial, trivial, trivial⟩ ?_
        cases hF
        exact hR.1 21 _ _ _ (by decide +kernel) rfl (hRet _ rfl)
    · have hF := ite_f hc1 hF
      cases hF
      exact hE _ rfl
set_option maxHeartbeats 4000000 in
set_option maxRecDepth 100000 in
theorem T_La_search {p1 : Int} {h : MH} {r : Int} (hF : F_La_search p1 h = some r) : CON 2 yX2_search cX2_search 3 (Option.some Jvm.ClassFile.FieldType.int) [vR 65, vI p1] h (some (vI r)) h := by
  refine con_of (own := RX2) (fl := flX2) (by decide +kernel) rfl flok_X2 rfl (Nat.le_of_ble_eq_true rfl) ?_
  intro K hK hR
  show K 0 [(0, vR 65), (1, vI p1)] [] h
  unfold F_La_search at hF
  refine g_seg hK [.iconst 0, .istore_n 2] 0 2 (L1 := [(2, vI 0), (0, vR 65), (1, vI p1)]) (st1 := []) (h1 := h) (P := True ∧ True ∧ True) (by decide +kernel) rfl rfl ⟨trivial, trivial, trivial⟩ ?_
  refine hK.2.1 _ _ ([(0, vR 65), (1, vI p1), (2, vI 0)]) _ _ (sub_of [1, 2, 0] rfl) ?_
  obtain ⟨out4, e2, hr5, hx6⟩ := os_elim hF
  refine LT_La_search_L2 hK hR _ _ out4 e2 ?_ ?_
  · intro a ha
    have hF := hr5 a ha
    cases hF
    exact ⟨rfl, rfl⟩
  · intro q3 hq
    have hF := hx6 q3 hq
    refine g_seg hK [.bipush (-4)] 42 44 (L1 := [(0, vR 65), (1, vI p1), (2, vI q3)]) (st1 := [vI (-4)]) (h1 := h) (P := True ∧ True) (by decide +kernel) rfl rfl ⟨trivial, trivial⟩ ?_
    cases hF
    exact hR.1 44 _ _ _ (by decide +kernel) rfl ⟨rfl, rfl⟩
set_option maxHeartbeats 4000000 in
set_option maxRecDepth 100000 in
theorem LT_La_replaceAt_L2 {K : KT} (hK : Rules RX2 cX2_replaceAt 3 none flX2 2 K) {x1 : Int} : ∀ (n : Nat) (x2 : Int) (h : MH) (x2' : Int) (h' : MH), F_La_replaceAt_L2 x1 n x2 h = some (x2', h') → K 27 [(0, vR 65), (1, vI x1), (2, vI x2')] [] h' → K 2 [(0, vR 65), (1, vI x1), (2, vI x2)] [] h := by
  intro n
  induction n with
  | zero =>
    intro x2 h x2' h' hF
    cases hF
  | succ n ih =>
    intro x2 h x2' h' hF hE
    unfold F_La_replaceAt_L2 at hF
    refine g_seg hK [.iload_n 2, .aload_n 0, .getfield 20] 2 7 (L1 := [(0, vR 65), (1, vI x1), (2, vI x2)]) (st1 := [vR 68, vI x2]) (h1 := h) (P := True ∧ True ∧ kd 65 = 4 ∧ True) (by decide +kernel) rfl rfl ⟨trivial, trivial, rfl, trivial⟩ ?_
    refine g_callV1 hK 7 97 (d1 := 0) (ci := 3) (i := 68) (vs := []) (rest := [vI x2]) (h1 := h) (r := vI (F_Ro_size 68 h)) my_yX3_size vw_X2_97 (by decide) (T_Ro_size (o := 68) (h := h) (ko := rfl) (hF := rfl)) rfl rfl rfl (Nat.le_of_ble_eq_true rfl) (by decide +kernel) ?_
    refine g_icmp hK 10 .ge (17) 27 (t1 := 13) (t2 := 27) (by decide +kernel) (by decide) rfl rfl (fun (hc1 : x2 < F_Ro_size 68 h) => ?_) (fun (hc1 : ¬ (x2 < F_Ro_size 68 h)) => ?_)
    · have hF := ite_t hc1 hF
      refine g_seg hK [.aload_n 0, .getfield 14, .iload_n 1] 13 18 (L1 := [(0, vR 65), (1, vI x1), (2, vI x2)]) (st1 := [vI x1, vR 66]) (h1 := h) (P := True ∧ kd 65 = 4 ∧ True ∧ True) (by decide +kernel) rfl rfl ⟨trivial, rfl, trivial, trivial⟩ ?_
      obtain ⟨h2, e3, hF⟩ := ob1_elim hF
      refine g_callV0 hK 18 116 (d1 := 1) (ci := 3) (i := 66) (vs := [vI x1]) (rest := []) (h1 := h2) my_yX3_putOut vw_X2_116 (by decide) (T_Ro_putOut (o := 66) (p1 := x1) (h := h) (ko := rfl) (hF := e3)) rfl rfl rfl (Nat.le_of_ble_eq_true rfl) (by decide +kernel) ?_
      refine g_seg hK [.iinc 2 1] 21 24 (L1 := [(2, vI (wr (x2 + 1))), (0, vR 65), (1, vI x1)]) (st1 := []) (h1 := h2) (P := True ∧ True) (by decide +kernel) rfl rfl ⟨trivial, trivial⟩ ?_
      refine g_goto hK 24 (-22) 2 (by decide +kernel) (by decide) ?_
      refine hK.2.1 _ _ ([(0, vR 65), (1, vI x1), (2, vI (wr (x2 + 1)))]) _ _ (sub_of [1, 2, 0] rfl) ?_
      exact ih _ _ _ _ hF hE
    · have hF := ite_f hc1 hF
      cases hF
      exact hE
set_option maxHeartbeats 4000000 in
set_option maxRecDepth 100000 in
theorem LT_La_replaceAt_L29 {K : KT} (hK : Rules RX2 cX2_replaceAt 3 none flX2 2 K) {x1 : Int} : ∀ (n : Nat) (x2 : Int) (h : MH) (x2' : Int) (h' : MH), F_La_replaceAt_L29 x1 n x2 h = some (x2', h') → K 64 [(0, vR 65), (1, vI x1), (2, vI x2')] [] h' → K 29 [(0, vR 65), (1, vI x1), (2, vI x2)] [] h := by
  intro n
  induction n with
  | zero =>
    intro x2 h x2' h' hF
    cases hF
  | succ n ih =>
    intro x2 h x2' h' hF hE
    unfold F_La_replaceAt_L29 at hF
    refine g_seg hK [.iload_n 2, .aload_n 0, .getfield 23] 29 34 (L1 := [(0, vR 65), (1, vI x1), (2, vI x2)]) (st1 := [vR 70, vI x2]) (h1 := h) (P := True ∧ True ∧ kd 65 = 4 ∧ True) (by decide +kernel) rfl rfl ⟨trivial, trivial, rfl, trivial⟩ ?_
    refine g_callV1 hK 34 97 (d1 := 0) (ci := 3) (i := 70) (vs := []) (rest := [vI x2]) (h1 := h) (r := vI (F_Ro_size 70 h)) my_yX3_size vw_X2_97 (by decide) (T_Ro_size (o := 70) (h := h) (ko := rfl) (hF := rfl)) rfl rfl rfl (Nat.le_of_ble_eq_true rfl) (by decide +kernel) ?_
    refine g_icmp hK 37 .ge (27) 64 (t1 := 40) (t2 := 64) (by decide +kernel) (by decide) rfl rfl (fun (hc1 : x2 < F_Ro_size 70 h) => ?_) (fun (hc1 : ¬ (x2 < F_Ro_size 70 h)) => ?_)
    · have hF := ite_t hc1 hF
      refine g_seg hK [.aload_n 0, .getfield 14, .iload_n 1, .iload_n 2, .iadd, .aload_n 0, .getfield 23, .iload_n 2] 40 52 (L1 := [(0, vR 65), (1, vI x1), (2, vI x2)]) (st1 := [vI x2, vR 70, vI (wr (x1 + x2)), vR 66]) (h1 := h) (P := True ∧ kd 65 = 4 ∧ True ∧ True ∧ True ∧ True ∧ kd 65 = 4 ∧ True ∧ True) (by decide +kernel) rfl rfl ⟨trivial, rfl, trivial, trivial, trivial, trivial, rfl, trivial, trivial⟩ ?_
      refine g_callV1 hK 52 65 (d1 := 0) (ci := 3) (i := 70) (vs := [vI x2]) (rest := [vI (wr (x1 + x2)), vR 66]) (h1 := h) (r := vI (F_Ro_at 70 x2 h)) my_yX3_at vw_X2_65 (by decide) (T_Ro_at (o := 70) (p1 := x2) (h := h) (ko := rfl) (hF := rfl)) rfl rfl rfl (Nat.le_of_ble_eq_true rfl) (by decide +kernel) ?_
      obtain ⟨h2, e3, hF⟩ := ob1_elim hF
      refine g_callV0 hK 55 118 (d1 := 1) (ci := 3) (i := 66) (vs := [vI (wr (x1 + x2)), vI (F_Ro_at 70 x2 h)]) (rest := []) (h1 := h2) my_yX3_putIn vw_X2_118 (by decide) (T_Ro_putIn (o := 66) (p1 := (wr (x1 + x2))) (p2 := (F_Ro_at 70 x2 h)) (h := h) (ko := rfl) (hF := e3)) rfl rfl rfl (Nat.le_of_ble_eq_true rfl) (by decide +kernel) ?_
      refine g_seg hK [.iinc 2 1] 58 61 (L1 := [(2, vI (wr (x2 + 1))), (0, vR 65), (1, vI x1)]) (st1 := []) (h1 := h2) (P := True ∧ True) (by decide +kernel) rfl rfl ⟨trivial, trivial⟩ ?_
      refine g_goto hK 61 (-32) 29 (by decide +kernel) (by decide) ?_
      refine hK.2.1 _ _ ([(0, vR 65), (1, vI x1), (2, vI (wr (x2 + 1)))]) _ _ (sub_of [1, 2, 0] rfl) ?_
      exact ih _ _ _ _ hF hE
    · have hF := ite_f hc1 hF
      cases hF
      exact hE
set_option maxHeartbeats 4000000 in
set_option maxRecDepth 100000 in
theorem T_La_replaceAt {p1 : Int} {h : MH} {h' : MH} (hF : F_La_replaceAt p1 h = some h') : CON 2 yX2_replaceAt cX2_replaceAt 3 none [vR 65, vI p1] h none h' := by
  refine con_of (own := RX2) (fl := flX2) (by decide +kernel) rfl flok_X2 rfl (Nat.le_of_ble_eq_true rfl) ?_
  intro K hK hR
  show K 0 [(0, vR 65), (1, vI p1)] [] h
  unfold F_La_replaceAt at hF
  refine g_seg hK [.iconst 0, .istore_n 2] 0 2 (L1 := [(2, vI 0), (0, vR 65), (1, vI p1)]) (st1 := []) (h1 := h) (P := True ∧ True ∧ True) (by decide +kernel) rfl rfl ⟨trivial, trivial, trivial⟩ ?_
  refine hK.2.1 _ _ ([(0, vR 65), (1, vI p1), (2, vI 0)]) _ _ (sub_of [1, 2, 0] rfl) ?_
  obtain ⟨x2_1, h2, e3, hF⟩ := ob2_elim hF
  refine LT_La_replaceAt_L2 hK _ _ _ _ _ e3 ?_
  refine g_seg hK [.iconst 0, .istore_n 2] 27 29 (L1 := [(2, vI 0), (0, vR 65), (1, vI p1)]) (st1 := []) (h1 := h2) (P := True ∧ True ∧ True) (by decide +kernel) rfl rfl ⟨trivial, trivial, trivial⟩ ?_
  refine hK.2.1 _ _ ([(0, vR 65), (1, vI p1), (2, vI 0)]) _ _ (sub_of [1, 2, 0] rfl) ?_
  obtain ⟨x2_4, h5, e6, hF⟩ := ob2_elim hF
  refine LT_La_replaceAt_L29 hK _ _ _ _ _ e6 ?_
  cases hF
  exact hR.2.2.2.2 64 _ _ (by decide +kernel) rfl ⟨rfl, rfl⟩
set_option maxHeartbeats 4000000 in
set_option maxRecDepth 100000 in
theorem T_La_layOne {p2 : Int} {p3 : Int} {p4 : Int} {h : MH} {h' : MH} (hF : F_La_layOne p2 p3 p4 h = some h') : CON 4 yX2_layOne cX2_layOne 10 none [vR 65, vR 54, vI p2, vI p3, vI p4] h none h' := by
  refine con_of (own := RX2) (fl := flX2) (by decide +kernel) rfl flok_X2 rfl (Nat.le_of_ble_eq_true rfl) ?_
  intro K hK hR
  show K 0 [(0, vR 65), (1, vR 54), (2, vI p2), (3, vI p3), (4, vI p4)] [] h
  unfold F_La_layOne at hF
  refine g_seg hK [.aload_n 1, .iload_n 2, .iload_n 3, .iconst 1] 0 4 (L1 := [(0, vR 65), (1, vR 54), (2, vI p2), (3, vI p3), (4, vI p4)]) (st1 := [vI 1, vI p3, vI p2, vR 54]) (h1 := h) (P := True ∧ True ∧ True ∧ True ∧ True) (by decide +kernel) rfl rfl ⟨trivial, trivial, trivial, trivial, trivial⟩ ?_
  refine g_callV1 hK 4 69 (d1 := 3) (ci := 5) (i := 54) (vs := [vI p2, vI p3, vI 1]) (rest := []) (h1 := h) (r := vI (F_V_around p2 p3 1 h)) my_yX5_around vw_X2_69 (by decide) (T_V_around (p1 := p2) (p2 := p3) (p3 := 1) (h := h) (hF := rfl)) rfl rfl rfl (Nat.le_of_ble_eq_true rfl) (by decide +kernel) ?_
  refine g_seg hK [.istore 5, .aload_n 1, .iload_n 2] 7 11 (L1 := [(5, vI (F_V_around p2 p3 1 h)), (0, vR 65), (1, vR 54), (2, vI p2), (3, vI p3), (4, vI p4)]) (st1 := [vI p2, vR 54]) (h1 := h) (P := True ∧ True ∧ True ∧ True) (by decide +kernel) rfl rfl ⟨trivial, trivial, trivial, trivial⟩ ?_
  refine g_callV1 hK 11 73 (d1 := 1) (ci := 5) (i := 54) (vs := [vI p2]) (rest := []) (h1 := h) (r := vI (F_V_top p2 h)) my_yX5_top vw_X2_73 (by decide) (T_V_top (p1 := p2) (h := h) (hF := rfl)) rfl rfl rfl (Nat.le_of_ble_eq_true rfl) (by decide +kernel) ?_
  refine g_seg hK [.aload_n 1, .iload_n 2, .iload_n 3, .iconst 0] 14 18 (L1 := [(5, vI (F_V_around p2 p3 1 h)), (0, vR 65), (1, vR 54), (2, vI p2), (3, vI p3), (4, vI p4)]) (st1 := [vI 0, vI p3, vI p2, vR 54, vI (F_V_top p2 h)]) (h1 := h) (P := True ∧ True ∧ True ∧ True ∧ True) (by decide +kernel) rfl rfl ⟨trivial, trivial, trivial, trivial, trivial⟩ ?_
  refine g_callV1 hK 18 69 (d1 := 3) (ci := 5) (i := 54) (vs := [vI p2, vI p3, vI 0]) (rest := [vI (F_V_top p2 h)]) (h1 := h) (r := vI (F_V_around p2 p3 0 h)) my_yX5_around vw_X2_69 (by decide) (T_V_around (p1 := p2) (p2 := p3) (p3 := 0) (h := h) (hF := rfl)) rfl rfl rfl (Nat.le_of_ble_eq_true rfl) (by decide +kernel) ?_
  refine g_seg hK [.isub, .istore 6, .aload_n 0, .aload_n 1, .iload 6, .aload_n 1, .iload_n 2] 21 30 (L1 := [(6, vI (wr ((F_V_top p2 h) - (F_V_around p2 p3 0 h)))), (5, vI (F_V_around p2 p3 1 h)), (0, vR 65), (1, vR 54), (2, vI p2), (3, vI p3), (4, vI p4)]) (st1 := [vI p2, vR 54, vI (wr ((F_V_top p2 h) - (F_V_around p2 p3 0 h))), vR 54, vR 65]) (h1 := h) (P := True ∧ True ∧ True ∧ True ∧ True ∧ True ∧ True ∧ True) (by decide +kernel) rfl rfl ⟨trivial, trivial, trivial, trivial, trivial, trivial, trivial, trivial⟩ ?_
  refine g_callV1 hK 30 76 (d1 := 1) (ci := 5) (i := 54) (vs := [vI p2]) (rest := [vI (wr ((F_V_top p2 h) - (F_V_around p2 p3 0 h))), vR 54, vR 65]) (h1 := h) (r := vI (F_V_end p2 h)) my_yX5_end vw_X2_76 (by decide) (T_V_end (p1 := p2) (h := h) (hF := rfl)) rfl rfl rfl (Nat.le_of_ble_eq_true rfl) (by decide +kernel) ?_
  refine g_seg hK [.iload 5, .iadd, .iload 4] 33 38 (L1 := [(6, vI (wr ((F_V_top p2 h) - (F_V_around p2 p3 0 h)))), (5, vI (F_V_around p2 p3 1 h)), (0, vR 65), (1, vR 54), (2, vI p2), (3, vI p3), (4, vI p4)]) (st1 := [vI p4, vI (wr ((F_V_end p2 h) + (F_V_around p2 p3 1 h))), vI (wr ((F_V_top p2 h) - (F_V_around p2 p3 0 h))), vR 54, vR 65]) (h1 := h) (P := True ∧ True ∧ True ∧ True) (by decide +kernel) rfl rfl ⟨trivial, trivial, trivial, trivial⟩ ?_
  obtain ⟨h1, e2, hF⟩ := ob1_elim hF
  refine g_callV0 hK 38 79 (d1 := 2) (ci := 2) (i := 65) (vs := [vR 54, vI (wr ((F_V_top p2 h) - (F_V_around p2 p3 0 h))), vI (wr ((F_V_end p2 h) + (F_V_around p2 p3 1 h))), vI p4]) (rest := []) (h1 := h1) my_yX2_takeParts vw_X2_79 (by decide) (T_La_takeParts (p2 := (wr ((F_V_top p2 h) - (F_V_around p2 p3 0 h)))) (p3 := (wr ((F_V_end p2 h) + (F_V_around p2 p3 1 h)))) (p4 := p4) (h := h) (hF := e2)) rfl rfl rfl (Nat.le_of_ble_eq_true rfl) (by decide +kernel) ?_
  refine g_seg hK [.iload 4] 41 43 (L1 := [(6, vI (wr ((F_V_top p2 h) - (F_V_around p2 p3 0 h)))), (5, vI (F_V_around p2 p3 1 h)), (0, vR 65), (1, vR 54), (2, vI p2), (3, vI p3), (4, vI p4)]) (st1 := [vI p4]) (h1 := h1) (P := True ∧ True) (by decide +kernel) rfl rfl ⟨trivial, trivial⟩ ?_
  obtain ⟨kj4, e20, hF⟩ := jk1_elim hF
  have j4 : ∀ (s3 : Int), kj4 s3 = some h' → K 61 [(0, vR 65), (5, vI (F_V_around p2 p3 1 h))] [vI s3] h1 := by
    intro s3 hF
    have hF := (e20 s3).symm.trans hF
    refine g_seg hK [.istore 7, .iload 7, .aload_n 0, .getfield 42, .iadd, .aload_n 0, .getfield 39, .iadd, .istore 8, .aload_n 0, .iload 8] 61 80 (L1 := [(8, vI (wr ((wr (s3 + (h1 65 8))) + (h1 65 7)))), (7, vI s3), (0, vR 65), (5, vI (F_V_around p2 p3 1 h))]) (st1 := [vI (wr ((wr (s3 + (h1 65 8))) + (h1 65 7))), vR 65]) (h1 := h1) (P := True ∧ True ∧ True ∧ kd 65 = 4 ∧ True ∧ True ∧ kd 65 = 4 ∧ True ∧ True ∧ True ∧ True ∧ True) (by decide +kernel) rfl rfl ⟨trivial, trivial, trivial, rfl, trivial, trivial, rfl, trivial, trivial, trivial, trivial, trivial⟩ ?_
    obtain ⟨r5, e6, hF⟩ := ob1_elim hF
    refine g_callV1 hK 80 88 (d1 := 2) (ci := 2) (i := 65) (vs := [vI (wr ((wr (s3 + (h1 65 8))) + (h1 65 7)))]) (rest := []) (h1 := h1) (r := vI r5) my_yX2_search vw_X2_88 (by decide) (T_La_search (p1 := (wr ((wr (s3 + (h1 65 8))) + (h1 65 7)))) (h := h1) (hF := e6)) rfl rfl rfl (Nat.le_of_ble_eq_true rfl) (by decide +kernel) ?_
    refine g_seg hK [.istore 9, .aload_n 0, .getfield 26, .iload 9] 83 91 (L1 := [(9, vI r5), (8, vI (wr ((wr (s3 + (h1 65 8))) + (h1 65 7)))), (7, vI s3), (0, vR 65), (5, vI (F_V_around p2 p3 1 h))]) (st1 := [vI r5, vR 72]) (h1 := h1) (P := True ∧ True ∧ kd 65 = 4 ∧ True ∧ True) (by decide +kernel) rfl rfl ⟨trivial, trivial, rfl, trivial, trivial⟩ ?_
    refine g_callV0 hK 91 91 (d1 := 0) (ci := 3) (i := 72) (vs := [vI r5]) (rest := []) (h1 := (F_Ro_add 72 r5 h1)) my_yX3_add vw_X2_91 (by decide) (T_Ro_add (o := 72) (p1 := r5) (h := h1) (ko := rfl) (hF := rfl)) rfl rfl rfl (Nat.le_of_ble_eq_true rfl) (by decide +kernel) ?_
    refine g_seg hK [.aload_n 0, .getfield 29, .iload 9, .iload 8, .isub] 94 103 (L1 := [(9, vI r5), (8, vI (wr ((wr (s3 + (h1 65 8))) + (h1 65 7)))), (7, vI s3), (0, vR 65), (5, vI (F_V_around p2 p3 1 h))]) (st1 := [vI (wr (r5 - (wr ((wr (s3 + (h1 65 8))) + (h1 65 7))))), vR 74]) (h1 := (F_Ro_add 72 r5 h1)) (P := True ∧ kd 65 = 4 ∧ True ∧ True ∧ True ∧ True) (by decide +kernel) rfl rfl ⟨trivial, rfl, trivial, trivial, trivial, trivial⟩ ?_
    refine g_callV0 hK 103 91 (d1 := 0) (ci := 3) (i := 74) (vs := [vI (wr (r5 - (wr ((wr (s3 + (h1 65 8))) + (h1 65 7)))))]) (rest := []) (h1 := (F_Ro_add 74 (wr (r5 - (wr ((wr (s3 + (h1 65 8))) + (h1 65 7))))) (F_Ro_add 72 r5 h1))) my_yX3_add vw_X2_91 (by decide) (T_Ro_add (o := 74) (p1 := (wr (r5 - (wr ((wr (s3 + (h1 65 8))) + (h1 65 7)))))) (h := (F_Ro_add 72 r5 h1)) (ko := rfl) (hF := rfl)) rfl rfl rfl (Nat.le_of_ble_eq_true rfl) (by decide +kernel) ?_
    refine g_seg hK [.iload 9, .bipush (-4)] 106 110 (L1 := [(9, vI r5), (8, vI (wr ((wr (s3 + (h1 65 8))) + (h1 65 7)))), (7, vI s3), (0, vR 65), (5, vI (F_V_around p2 p3 1 h))]) (st1 := [vI (-4), vI r5]) (h1 := (F_Ro_add 74 (wr (r5 - (wr ((wr (s3 + (h1 65 8))) + (h1 65 7))))) (F_Ro_add 72 r5 h1))) (P := True ∧ True ∧ True) (by decide +kernel) rfl rfl ⟨trivial, trivial, trivial⟩ ?_
    refine g_icmp hK 110 .ne (4) 114 (t1 := 113) (t2 := 114) (by decide +kernel) (by decide) rfl rfl (fun (hc7 : r5 = (-4)) => ?_) (fun (hc7 : ¬ (r5 = (-4))) => ?_)
    · have hF := ite_t hc7 hF
      cases hF
      exact hR.2.2.2.2 113 _ _ (by decide +kernel) rfl ⟨rfl, rfl⟩
    · have hF := ite_f hc7 hF
      refine g_seg hK [.aload_n 0, .iload 9] 114 117 (L1 := [(9, vI r5), (8, vI (wr ((wr (s3 + (h1 65 8))) + (h1 65 7)))), (7, vI s3), (0, vR 65), (5, vI (F_V_around p2 p3 1 h))]) (st1 := [vI r5, vR 65]) (h1 := (F_Ro_add 74 (wr (r5 - (wr ((wr (s3 + (h1 65 8))) + (h1 65 7))))) (F_Ro_add 72 r5 h1))) (P := True ∧ True ∧ True) (by decide +kernel) rfl rfl ⟨trivial, trivial, trivial⟩ ?_
      obtain ⟨h8, e9, hF⟩ := ob1_elim hF
      refine g_callV0 hK 117 94 (d1 := 2) (ci := 2) (i := 65) (vs := [vI r5]) (rest := []) (h1 := h8) my_yX2_replaceAt vw_X2_94 (by decide) (T_La_replaceAt (p1 := r5) (h := (F_Ro_add 74 (wr (r5 - (wr ((wr (s3 + (h1 65 8))) + (h1 65 7))))) (F_Ro_add 72 r5 h1))) (hF := e9)) rfl rfl rfl (Nat.le_of_ble_eq_true rfl) (by decide +kernel) ?_
      refine g_seg hK [.aload_n 0, .dup, .getfield 42, .aload_n 0, .getfield 23] 120 129 (L1 := [(9, vI r5), (8, vI (wr ((wr (s3 + (h1 65 8))) + (h1 65 7)))), (7, vI s3), (0, vR 65), (5, vI (F_V_around p2 p3 1 h))]) (st1 := [vR 70, vI (h8 65 8), vR 65]) (h1 := h8) (P := True ∧ True ∧ kd 65 = 4 ∧ True ∧ kd 65 = 4 ∧ True) (by decide +kernel) rfl rfl ⟨trivial, trivial, rfl, trivial, rfl, trivial⟩ ?_
      refine g_callV1 hK 129 97 (d1 := 0) (ci := 3) (i := 70) (vs := []) (rest := [vI (h8 65 8), vR 65]) (h1 := h8) (r := vI (F_Ro_size 70 h8)) my_yX3_size vw_X2_97 (by decide) (T_Ro_size (o := 70) (h := h8) (ko := rfl) (hF := rfl)) rfl rfl rfl (Nat.le_of_ble_eq_true rfl) (by decide +kernel) ?_
      refine g_seg hK [.aload_n 0, .getfield 20] 132 136 (L1 := [(9, vI r5), (8, vI (wr ((wr (s3 + (h1 65 8))) + (h1 65 7)))), (7, vI s3), (0, vR 65), (5, vI (F_V_around p2 p3 1 h))]) (st1 := [vR 68, vI (F_Ro_size 70 h8), vI (h8 65 8), vR 65]) (h1 := h8) (P := True ∧ kd 65 = 4 ∧ True) (by decide +kernel) rfl rfl ⟨trivial, rfl, trivial⟩ ?_
      refine g_callV1 hK 136 97 (d1 := 0) (ci := 3) (i := 68) (vs := []) (rest := [vI (F_Ro_size 70 h8), vI (h8 65 8), vR 65]) (h1 := h8) (r := vI (F_Ro_size 68 h8)) my_yX3_size vw_X2_97 (by decide) (T_Ro_size (o := 68) (h := h8) (ko := rfl) (hF := rfl)) rfl rfl rfl (Nat.le_of_ble_eq_true rfl) (by decide +kernel) ?_
      refine g_seg hK [.isub, .iadd, .putfield 42] 139 144 (L1 := [(9, vI r5), (8, vI (wr ((wr (s3 + (h1 65 8))) + (h1 65 7)))), (7, vI s3), (0, vR 65), (5, vI (F_V_around p2 p3 1 h))]) (st1 := []) (h1 := (up h8 65 8 (wr ((h8 65 8) + (wr ((F_Ro_size 70 h8) - (F_Ro_size 68 h8))))))) (P := True ∧ True ∧ kd 65 = 4 ∧ True) (by decide +kernel) rfl rfl ⟨trivial, trivial, rfl, trivial⟩ ?_
      obtain ⟨h10, e11, hF⟩ := jn1_elim hF
      rw [e11]
      refine g_seg hK [.aload_n 0, .dup, .getfield 39, .iload 9, .iload 8, .isub, .iadd, .putfield 39] 144 158 (L1 := [(9, vI r5), (8, vI (wr ((wr (s3 + (h1 65 8))) + (h1 65 7)))), (7, vI s3), (0, vR 65), (5, vI (F_V_around p2 p3 1 h))]) (st1 := []) (h1 := (up h10 65 7 (wr ((h10 65 7) + (wr (r5 - (wr ((wr (s3 + (h1 65 8))) + (h1 65 7))))))))) (P := True ∧ True ∧ kd 65 = 4 ∧ True ∧ True ∧ True ∧ True ∧ kd 65 = 4 ∧ True) (by decide +kernel) rfl rfl ⟨trivial, trivial, rfl, trivial, trivial, trivial, trivial, rfl, trivial⟩ ?_
      obtain ⟨h12, e13, hF⟩ := jn1_elim hF
      rw [e13]
      refine g_seg hK [.aload_n 0, .iload 9, .aload_n 0, .getfield 23] 158 165 (L1 := [(9, vI r5), (8, vI (wr ((wr (s3 + (h1 65 8))) + (h1 65 7)))), (7, vI s3), (0, vR 65), (5, vI (F_V_around p2 p3 1 h))]) (st1 := [vR 70, vI r5, vR 65]) (h1 := h12) (P := True ∧ True ∧ True ∧ kd 65 = 4 ∧ True) (by decide +kernel) rfl rfl ⟨trivial, trivial, trivial, rfl, trivial⟩ ?_
      refine g_callV1 hK 165 97 (d1 := 0) (ci := 3) (i := 70) (vs := []) (rest := [vI r5, vR 65]) (h1 := h12) (r := vI (F_Ro_size 70 h12)) my_yX3_size vw_X2_97 (by decide) (T_Ro_size (o := 70) (h := h12) (ko := rfl) (hF := rfl)) rfl rfl rfl (Nat.le_of_ble_eq_true rfl) (by decide +kernel) ?_
      refine g_seg hK [.iadd, .iload 5, .isub, .putfield 45] 168 175 (L1 := [(9, vI r5), (8, vI (wr ((wr (s3 + (h1 65 8))) + (h1 65 7)))), (7, vI s3), (0, vR 65), (5, vI (F_V_around p2 p3 1 h))]) (st1 := []) (h1 := (up h12 65 9 (wr ((wr (r5 + (F_Ro_size 70 h12))) - (F_V_around p2 p3 1 h))))) (P := True ∧ True ∧ True ∧ kd 65 = 4 ∧ True) (by decide +kernel) rfl rfl ⟨trivial, trivial, trivial, rfl, trivial⟩ ?_
      obtain ⟨h14, e15, hF⟩ := jn1_elim hF
      rw [e15]
      refine g_seg hK [.aload_n 0, .aload_n 0, .getfield 36, .aload_n 0, .getfield 14] 175 184 (L1 := [(9, vI r5), (8, vI (wr ((wr (s3 + (h1 65 8))) + (h1 65 7)))), (7, vI s3), (0, vR 65), (5, vI (F_V_around p2 p3 1 h))]) (st1 := [vR 66, vI (h14 65 6), vR 65]) (h1 := h14) (P := True ∧ True ∧ kd 65 = 4 ∧ True ∧ kd 65 = 4 ∧ True) (by decide +kernel) rfl rfl ⟨trivial, trivial, rfl, trivial, rfl, trivial⟩ ?_
      refine g_callV1 hK 184 97 (d1 := 0) (ci := 3) (i := 66) (vs := []) (rest := [vI (h14 65 6), vR 65]) (h1 := h14) (r := vI (F_Ro_size 66 h14)) my_yX3_size vw_X2_97 (by decide) (T_Ro_size (o := 66) (h := h14) (ko := rfl) (hF := rfl)) rfl rfl rfl (Nat.le_of_ble_eq_true rfl) (by decide +kernel) ?_
      refine g_mmax hK 187 100 (by decide) mw_X2_100 (Nat.le_of_ble_eq_true rfl) (by decide +kernel) ?_
      refine g_seg hK [.putfield 36] 190 193 (L1 := [(9, vI r5), (8, vI (wr ((wr (s3 + (h1 65 8))) + (h1 65 7)))), (7, vI s3), (0, vR 65), (5, vI (F_V_around p2 p3 1 h))]) (st1 := []) (h1 := (up h14 65 6 (imax (h14 65 6) (F_Ro_size 66 h14)))) (P := kd 65 = 4 ∧ True) (by decide +kernel) rfl rfl ⟨rfl, trivial⟩ ?_
      obtain ⟨h16, e17, hF⟩ := jn1_elim hF
      rw [e17]
      refine g_seg hK [.aload_n 0, .dup, .getfield 32, .iconst 1, .iadd, .putfield 32] 193 203 (L1 := [(9, vI r5), (8, vI (wr ((wr (s3 + (h1 65 8))) + (h1 65 7)))), (7, vI s3), (0, vR 65), (5, vI (F_V_around p2 p3 1 h))]) (st1 := []) (h1 := (up h16 65 5 (wr ((h16 65 5) + 1)))) (P := True ∧ True ∧ kd 65 = 4 ∧ True ∧ True ∧ kd 65 = 4 ∧ True) (by decide +kernel) rfl rfl ⟨trivial, trivial, rfl, trivial, trivial, rfl, trivial⟩ ?_
      obtain ⟨h18, e19, hF⟩ := jn1_elim hF
      rw [e19]
      cases hF
      exact hR.2.2.2.2 203 _ _ (by decide +kernel) rfl ⟨rfl, rfl⟩
  refine g_ifz hK 43 .eq (12) 55 (t1 := 55) (t2 := 46) (by decide +kernel) (by decide) rfl rfl (fun (hc21 : p4 = 0) => ?_) (fun (hc21 : ¬ (p4 = 0)) => ?_)
  · have hF := ite_t hc21 hF
    refine g_seg hK [.aload_n 1, .iload 6] 55 58 (L1 := [(6, vI (wr ((F_V_top p2 h) - (F_V_around p2 p3 0 h)))), (5, vI (F_V_around p2 p3 1 h)), (0, vR 65), (1, vR 54), (2, vI p2), (3, vI p3), (4, vI p4)]) (st1 := [vI (wr ((F_V_top p2 h) - (F_V_around p2 p3 0 h))), vR 54]) (h1 := h1) (P := True ∧ True ∧ True) (by decide +kernel) rfl rfl ⟨trivial, trivial, trivial⟩ ?_
    obtain ⟨r22, e23, hF⟩ := ob1_elim hF
    refine g_callV1 hK 58 85 (d1 := 2) (ci := 5) (i := 54) (vs := [vI (wr ((F_V_top p2 h) - (F_V_around p2 p3 0 h)))]) (rest := []) (h1 := h1) (r := vI r22) my_yX5_oldAhead vw_X2_85 (by decide) (T_V_oldAhead (p1 := (wr ((F_V_top p2 h) - (F_V_around p2 p3 0 h)))) (h := h1) (hF := e23)) rfl rfl rfl (Nat.le_of_ble_eq_true rfl) (by decide +kernel) ?_
    refine hK.2.1 _ _ ([(0, vR 65), (5, vI (F_V_around p2 p3 1 h))]) _ _ (sub_of [2, 1] rfl) ?_
    exact j4 _ hF
  · have hF := ite_f hc21 hF
    refine g_seg hK [.aload_n 1, .iload 6] 46 49 (L1 := [(6, vI (wr ((F_V_top p2 h) - (F_V_around p2 p3 0 h)))), (5, vI (F_V_around p2 p3 1 h)), (0, vR 65), (1, vR 54), (2, vI p2), (3, vI p3), (4, vI p4)]) (st1 := [vI (wr ((F_V_top p2 h) - (F_V_around p2 p3 0 h))), vR 54]) (h1 := h1) (P := True ∧ True ∧ True) (by decide +kernel) rfl rfl ⟨trivial, trivial, trivial⟩ ?_
    obtain ⟨r24, e25, hF⟩ := ob1_elim hF
    refine g_callV1 hK 49 82 (d1 := 2) (ci := 5) (i := 54) (vs := [vI (wr ((F_V_top p2 h) - (F_V_around p2 p3 0 h)))]) (rest := []) (h1 := h1) (r := vI r24) my_yX5_newAhead vw_X2_82 (by decide) (T_V_newAhead (p1 := (wr ((F_V_top p2 h) - (F_V_around p2 p3 0 h)))) (h := h1) (hF := e25)) rfl rfl rfl (Nat.le_of_ble_eq_true rfl) (by decide +kernel) ?_
    refine g_goto hK 52 (9) 61 (by decide +kernel) (by decide) ?_
    refine hK.2.1 _ _ ([(0, vR 65), (5, vI (F_V_around p2 p3 1 h))]) _ _ (sub_of [2, 1] rfl) ?_
    exact j4 _ hF
set_option maxHeartbeats 4000000 in
set_option maxRecDepth 100000 in
theorem LT_La_layAll_L50 {K : KT} (hK : Rules RX2 cX2_layAll 6 none flX2 5 K) {x3 : Int} {x4 : Int} : ∀ (n : Nat) (x5 : Int) (h : MH) (x5' : Int) (h' : MH), F_La_layAll_L50 x3 x4 n x5 h = some (x5', h') → K 75 [(0, vR 65), (1, vR 54), (3, vI x3), (4, vI x4), (5, vI x5')] [] h' → K 50 [(0, vR 65), (1, vR 54), (3, vI x3), (4, vI x4), (5, vI x5)] [] h := by
  intro n
  induction n with
  | zero =>
    intro x5 h x5' h' hF
    cases hF
  | succ n ih =>
    intro x5 h x5' h' hF hE
    unfold F_La_layAll_L50 at hF
    refine g_seg hK [.iload 5, .aload_n 1] 50 53 (L1 := [(0, vR 65), (1, vR 54), (3, vI x3), (4, vI x4), (5, vI x5)]) (st1 := [vR 54, vI x5]) (h1 := h) (P := True ∧ True ∧ True) (by decide +kernel) rfl rfl ⟨trivial, trivial, trivial⟩ ?_
    refine g_callV1 hK 53 55 (d1 := 1) (ci := 5) (i := 54) (vs := []) (rest := [vI x5]) (h1 := h) (r := vI (F_V_hunks h)) my_yX5_hunks vw_X2_55 (by decide) (T_V_hunks (h := h) (hF := rfl)) rfl rfl rfl (Nat.le_of_ble_eq_true rfl) (by decide +kernel) ?_
    refine g_icmp hK 56 .ge (19) 75 (t1 := 59) (t2 := 75) (by decide +kernel) (by decide) rfl rfl (fun (hc1 : x5 < F_V_hunks h) => ?_) (fun (hc1 : ¬ (x5 < F_V_hunks h)) => ?_)
    · have hF := ite_t hc1 hF
      refine g_seg hK [.aload_n 0, .aload_n 1, .iload 5, .iload_n 3, .iload 4] 59 66 (L1 := [(0, vR 65), (1, vR 54), (3, vI x3), (4, vI x4), (5, vI x5)]) (st1 := [vI x4, vI x3, vI x5, vR 54, vR 65]) (h1 := h) (P := True ∧ True ∧ True ∧ True ∧ True ∧ True) (by decide +kernel) rfl rfl ⟨trivial, trivial, trivial, trivial, trivial, trivial⟩ ?_
      obtain ⟨h2, e3, hF⟩ := ob1_elim hF
      refine g_callV0 hK 66 61 (d1 := 4) (ci := 2) (i := 65) (vs := [vR 54, vI x5, vI x3, vI x4]) (rest := []) (h1 := h2) my_yX2_layOne vw_X2_61 (by decide) (T_La_layOne (p2 := x5) (p3 := x3) (p4 := x4) (h := h) (hF := e3)) rfl rfl rfl (Nat.le_of_ble_eq_true rfl) (by decide +kernel) ?_
      refine g_seg hK [.iinc 5 1] 69 72 (L1 := [(5, vI (wr (x5 + 1))), (0, vR 65), (1, vR 54), (3, vI x3), (4, vI x4)]) (st1 := []) (h1 := h2) (P := True ∧ True) (by decide +kernel) rfl rfl ⟨trivial, trivial⟩ ?_
      refine g_goto hK 72 (-22) 50 (by decide +kernel) (by decide) ?_
      refine hK.2.1 _ _ ([(0, vR 65), (1, vR 54), (3, vI x3), (4, vI x4), (5, vI (wr (x5 + 1)))]) _ _ (sub_of [1, 2, 3, 4, 0] rfl) ?_
      exact ih _ _ _ _ hF hE
    · have hF := ite_f hc1 hF
      cases hF
      exact hE
set_option maxHeartbeats 4000000 in
set_option maxRecDepth 100000 in
theorem T_La_layAll {p2 : Nat} {p3 : Int} {p4 : Int} {h : MH} {h' : MH} (kp2 : kd p2 = 5) (hF : F_La_layAll p2 p3 p4 h = some h') : CON 5 yX2_layAll cX2_layAll 6 none [vR 65, vR 54, vR p2, vI p3, vI p4] h none h' := by
  refine con_of (own := RX2) (fl := flX2) (by decide +kernel) rfl flok_X2 rfl (Nat.le_of_ble_eq_true rfl) ?_
  intro K hK hR
  show K 0 [(0, vR 65), (1, vR 54), (2, vR p2), (3, vI p3), (4, vI p4)] [] h
  unfold F_La_layAll at hF
  refine g_seg hK [.aload_n 0, .getfield 14, .aload_n 2] 0 5 (L1 := [(0, vR 65), (1, vR 54), (2, vR p2), (3, vI p3), (4, vI p4)]) (st1 := [vR p2, vR 66]) (h1 := h) (P := True ∧ kd 65 = 4 ∧ True ∧ True) (by decide +kernel) rfl rfl ⟨trivial, rfl, trivial, trivial⟩ ?_
  obtain ⟨h1, e2, hF⟩ := ob1_elim hF
  refine g_callV0 hK 5 48 (d1 := 1) (ci := 3) (i := 66) (vs := [vR p2]) (rest := []) (h1 := h1) my_yX3_become vw_X2_48 (by decide) (T_Ro_become (o := 66) (p1 := p2) (h := h) (ko := rfl) (kp1 := kp2) (hF := e2)) rfl rfl rfl (Nat.le_of_ble_eq_true rfl) (by decide +kernel) ?_
  refine g_seg hK [.aload_n 0, .getfield 26] 8 12 (L1 := [(0, vR 65), (1, vR 54), (2, vR p2), (3, vI p3), (4, vI p4)]) (st1 := [vR 72]) (h1 := h1) (P := True ∧ kd 65 = 4 ∧ True) (by decide +kernel) rfl rfl ⟨trivial, rfl, trivial⟩ ?_
  refine g_callV0 hK 12 52 (d1 := 0) (ci := 3) (i := 72) (vs := []) (rest := []) (h1 := (F_Ro_emptyOut 72 h1)) my_yX3_emptyOut vw_X2_52 (by decide) (T_Ro_emptyOut (o := 72) (h := h1) (ko := rfl) (hF := rfl)) rfl rfl rfl (Nat.le_of_ble_eq_true rfl) (by decide +kernel) ?_
  refine g_seg hK [.aload_n 0, .getfield 29] 15 19 (L1 := [(0, vR 65), (1, vR 54), (2, vR p2), (3, vI p3), (4, vI p4)]) (st1 := [vR 74]) (h1 := (F_Ro_emptyOut 72 h1)) (P := True ∧ kd 65 = 4 ∧ True) (by decide +kernel) rfl rfl ⟨trivial, rfl, trivial⟩ ?_
  refine g_callV0 hK 19 52 (d1 := 0) (ci := 3) (i := 74) (vs := []) (rest := []) (h1 := (F_Ro_emptyOut 74 (F_Ro_emptyOut 72 h1))) my_yX3_emptyOut vw_X2_52 (by decide) (T_Ro_emptyOut (o := 74) (h := (F_Ro_emptyOut 72 h1)) (ko := rfl) (hF := rfl)) rfl rfl rfl (Nat.le_of_ble_eq_true rfl) (by decide +kernel) ?_
  refine g_seg hK [.aload_n 0, .iconst 0, .putfield 32, .aload_n 0, .iconst 0, .putfield 36, .aload_n 0, .iconst 0, .putfield 39, .aload_n 0, .iconst 0, .putfield 42, .aload_n 0, .iconst 0, .putfield 45, .iconst 0, .istore 5] 22 50 (L1 := [(5, vI 0), (0, vR 65), (1, vR 54), (2, vR p2), (3, vI p3), (4, vI p4)]) (st1 := []) (h1 := (up (up (up (up (up (F_Ro_emptyOut 74 (F_Ro_emptyOut 72 h1)) 65 5 0) 65 6 0) 65 7 0) 65 8 0) 65 9 0)) (P := True ∧ True ∧ kd 65 = 4 ∧ True ∧ True ∧ kd 65 = 4 ∧ True ∧ True ∧ kd 65 = 4 ∧ True ∧ True ∧ kd 65 = 4 ∧ True ∧ True ∧ kd 65 = 4 ∧ True ∧ True ∧ True) (by decide +kernel) rfl rfl ⟨trivial, trivial, rfl, trivial, trivial, rfl, trivial, trivial, rfl, trivial, trivial, rfl, trivial, trivial, rfl, trivial, trivial, trivial⟩ ?_
  refine hK.2.1 _ _ ([(0, vR 65), (1, vR 54), (3, vI p3), (4, vI p4), (5, vI 0)]) _ _ (sub_of [1, 2, 4, 5, 0] rfl) ?_
  obtain ⟨x5_3, h4, e5, hF⟩ := ob2_elim hF
  refine LT_La_layAll_L50 hK _ _ _ _ _ e5 ?_
  cases hF
  exact hR.2.2.2.2 75 _ _ (by decide +kernel) rfl ⟨rfl, rfl⟩
set_option maxHeartbeats 4000000 in
set_option maxRecDepth 100000 in
theorem T_La_longest {h : MH} {r : Int} (hF : F_La_longest h = r) : CON 0 yX2_longest cX2_longest 1 (Option.some Jvm.ClassFile.FieldType.int) [vR 65] h (some (vI r)) h := by
  refine con_of (own := RX2) (fl := flX2) (by decide +kernel) rfl flok_X2 rfl (Nat.le_of_ble_eq_true rfl) ?_
  intro K hK hR
  show K 0 [(0, vR 65)] [] h
  unfold F_La_longest at hF
  refine g_seg hK [.aload_n 0, .getfield 36] 0 4 (L1 := [(0, vR 65)]) (st1 := [vI (h 65 6)]) (h1 := h) (P := True ∧ kd 65 = 4 ∧ True) (by decide +kernel) rfl rfl ⟨trivial, rfl, trivial⟩ ?_
  cases hF
  exact hR.1 4 _ _ _ (by decide +kernel) rfl ⟨rfl, rfl⟩
set_option maxHeartbeats 4000000 in
set_option maxRecDepth 100000 in
theorem T_La_result {h : MH} {r : Nat} (hF : F_La_result = r) : CON 0 yX2_result cX2_result 1 (Option.some (Jvm.ClassFile.FieldType.object "HunkSlides$Row")) [vR 65] h (some (vR r)) h := by
  refine con_of (own := RX2) (fl := flX2) (by decide +kernel) rfl flok_X2 rfl (Nat.le_of_ble_eq_true rfl) ?_
  intro K hK hR
  show K 0 [(0, vR 65)] [] h
  unfold F_La_result at hF
  refine g_seg hK [.aload_n 0, .getfield 14] 0 4 (L1 := [(0, vR 65)]) (st1 := [vR 66]) (h1 := h) (P := True ∧ kd 65 = 4 ∧ True) (by decide +kernel) rfl rfl ⟨trivial, rfl, trivial⟩ ?_
  cases hF
  exact hR.2.2.1 4 _ _ _ (by decide +kernel) ⟨_, rfl⟩ ⟨rfl, rfl⟩
set_option maxHeartbeats 4000000 in
set_option maxRecDepth 100000 in
theorem T_La_laid {h : MH} {r : Int} (hF : F_La_laid h = r) : CON 0 yX2_laid cX2_laid 1 (Option.some Jvm.ClassFile.FieldType.int) [vR 65] h (some (vI r)) h := by
  refine con_of (own := RX2) (fl := flX2) (by decide +kernel) rfl flok_X2 rfl (Nat.le_of_ble_eq_true rfl) ?_
  intro K hK hR
  show K 0 [(0, vR 65)] [] h
  unfold F_La_laid at hF
  refine g_seg hK [.aload_n 0, .getfield 32] 0 4 (L1 := [(0, vR 65)]) (st1 := [vI (h 65 5)]) (h1 := h) (P := True ∧ kd 65 = 4 ∧ True) (by decide +kernel) rfl rfl ⟨trivial, rfl, trivial⟩ ?_
  cases hF
  exact hR.1 4 _ _ _ (by decide +kernel) rfl ⟨rfl, rfl⟩
set_option maxHeartbeats 4000000 in
set_option maxRecDepth 100000 in
theorem T_St_addPatches {o : Nat} {p1 : Int} {p2 : Int} {h : MH} {h' : MH} (ks : kd o = 6) (hF : F_St_addPatches o p1 p2 h = h') : CON 0 yX4_addPatches cX4_addPatches 3 none [vR o, vI p1, vI p2] h none h' := by
  refine con_of (own := RX4) (fl := flX4) (by decide +kernel) rfl flok_X4 rfl (Nat.le_of_ble_eq_true rfl) ?_
  intro K hK hR
  show K 0 [(0, vR o), (1, vI p1), (2, vI p2)] [] h
  unfold F_St_addPatches at hF
  refine g_seg hK [.aload_n 0, .dup, .getfield 33, .iload_n 1, .iadd, .putfield 33, .aload_n 0, .dup, .getfield 36, .iload_n 2, .iadd, .putfield 36] 0 20 (L1 := [(0, vR o), (1, vI p1), (2, vI p2)]) (st1 := []) (h1 := (up (up h o 5 (wr ((h o 5) + p1))) o 6 (wr (((up h o 5 (wr ((h o 5) + p1))) o 6) + p2)))) (P := True ∧ True ∧ kd o = 6 ∧ True ∧ True ∧ kd o = 6 ∧ True ∧ True ∧ kd o = 6 ∧ True ∧ True ∧ kd o = 6 ∧ True) (by decide +kernel) rfl rfl ⟨trivial, trivial, ks, trivial, trivial, ks, trivial, trivial, ks, trivial, trivial, ks, trivial⟩ ?_
  cases hF
  exact hR.2.2.2.2 20 _ _ (by decide +kernel) rfl ⟨rfl, rfl⟩
set_option maxHeartbeats 4000000 in
set_option maxRecDepth 100000 in
theorem T_X_lay {p1 : Int} {h : MH} {r : Int} {h' : MH} (hF : F_X_lay p1 h = some (r, h')) : CON 6 yX6_lay cX6_lay 2 (Option.some Jvm.ClassFile.FieldType.int) [vR 0, vI p1] h (some (vI r)) h' := by
  refine con_of (own := RX6) (fl := flX6) (by decide +kernel) rfl flok_X6 rfl (Nat.le_of_ble_eq_true rfl) ?_
  intro K hK hR
  show K 0 [(0, vR 0), (1, vI p1)] [] h
  unfold F_X_lay at hF
  refine g_seg hK [.aload_n 0] 0 1 (L1 := [(0, vR 0), (1, vI p1)]) (st1 := [vR 0]) (h1 := h) (P := True ∧ True) (by decide +kernel) rfl rfl ⟨trivial, trivial⟩ ?_
  obtain ⟨h1, e2, hF⟩ := ob1_elim hF
  refine g_callV0 hK 1 118 (d1 := 5) (ci := 6) (i := 0) (vs := []) (rest := []) (h1 := h1) my_yX6_show vw_X6_118 (by decide) (T_X_show (h := h) (hF := e2)) rfl rfl rfl (Nat.le_of_ble_eq_true rfl) (by decide +kernel) ?_
  refine g_seg hK [.aload_n 0, .getfield 59, .aload_n 0, .getfield 52, .aload_n 0, .getfield 21, .iconst 2] 4 17 (L1 := [(0, vR 0), (1, vI p1)]) (st1 := [vI 2, vR 3, vR 54, vR 65]) (h1 := h1) (P := True ∧ kd 0 = 8 ∧ True ∧ kd 0 = 8 ∧ True ∧ kd 0 = 8 ∧ True ∧ True) (by decide +kernel) rfl rfl ⟨trivial, rfl, trivial, rfl, trivial, rfl, trivial, trivial⟩ ?_
  refine g_callV1 hK 17 88 (d1 := 0) (ci := 4) (i := 3) (vs := [vI 2]) (rest := [vR 54, vR 65]) (h1 := h1) (r := vR (F_St_text 3 2)) my_yX4_text vw_X6_88 (by decide) (T_St_text (o := 3) (p1 := 2) (h := h1) (ks := rfl) (hF := rfl)) rfl rfl rfl (Nat.le_of_ble_eq_true rfl) (by decide +kernel) ?_
  refine g_seg hK [.aload_n 0, .getfield 21, .iconst 0] 20 25 (L1 := [(0, vR 0), (1, vI p1)]) (st1 := [vI 0, vR 3, vR (F_St_text 3 2), vR 54, vR 65]) (h1 := h1) (P := True ∧ kd 0 = 8 ∧ True ∧ True) (by decide +kernel) rfl rfl ⟨trivial, rfl, trivial, trivial⟩ ?_
  refine g_callV1 hK 25 112 (d1 := 0) (ci := 4) (i := 3) (vs := [vI 0]) (rest := [vR (F_St_text 3 2), vR 54, vR 65]) (h1 := h1) (r := vI (F_St_setting 3 0 h1)) my_yX4_setting vw_X6_112 (by decide) (T_St_setting (o := 3) (p1 := 0) (h := h1) (ks := rfl) (hF := rfl)) rfl rfl rfl (Nat.le_of_ble_eq_true rfl) (by decide +kernel) ?_
  refine g_seg hK [.iload_n 1] 28 29 (L1 := [(0, vR 0), (1, vI p1)]) (st1 := [vI p1, vI (F_St_setting 3 0 h1), vR (F_St_text 3 2), vR 54, vR 65]) (h1 := h1) (P := True ∧ True) (by decide +kernel) rfl rfl ⟨trivial, trivial⟩ ?_
  obtain ⟨h3, e4, hF⟩ := ob1_elim hF
  refine g_callV0 hK 29 121 (d1 := 5) (ci := 2) (i := 65) (vs := [vR 54, vR (F_St_text 3 2), vI (F_St_setting 3 0 h1), vI p1]) (rest := []) (h1 := h3) my_yX2_layAll vw_X6_121 (by decide) (T_La_layAll (p2 := (F_St_text 3 2)) (p3 := (F_St_setting 3 0 h1)) (p4 := p1) (h := h1) (kp2 := (kd_St_text rfl)) (hF := e4)) rfl rfl rfl (Nat.le_of_ble_eq_true rfl) (by decide +kernel) ?_
  refine g_seg hK [.aload_n 0, .getfield 59] 32 36 (L1 := [(0, vR 0), (1, vI p1)]) (st1 := [vR 65]) (h1 := h3) (P := True ∧ kd 0 = 8 ∧ True) (by decide +kernel) rfl rfl ⟨trivial, rfl, trivial⟩ ?_
  refine g_callV1 hK 36 125 (d1 := 0) (ci := 2) (i := 65) (vs := []) (rest := []) (h1 := h3) (r := vI (F_La_longest h3)) my_yX2_longest vw_X6_125 (by decide) (T_La_longest (h := h3) (hF := rfl)) rfl rfl rfl (Nat.le_of_ble_eq_true rfl) (by decide +kernel) ?_
  refine g_seg hK [.bipush 14] 39 41 (L1 := [(0, vR 0), (1, vI p1)]) (st1 := [vI 14, vI (F_La_longest h3)]) (h1 := h3) (P := True ∧ True) (by decide +kernel) rfl rfl ⟨trivial, trivial⟩ ?_
  refine g_icmp hK 41 .le (6) 47 (t1 := 47) (t2 := 44) (by decide +kernel) (by decide) rfl rfl (fun (hc5 : F_La_longest h3 ≤ 14) => ?_) (fun (hc5 : ¬ (F_La_longest h3 ≤ 14)) => ?_)
  · have hF := ite_t hc5 hF
    refine g_seg hK [.aload_n 0, .getfield 35, .aload_n 0, .getfield 21] 47 55 (L1 := [(0, vR 0), (1, vI p1)]) (st1 := [vR 3, vR 17]) (h1 := h3) (P := True ∧ kd 0 = 8 ∧ True ∧ kd 0 = 8 ∧ True) (by decide +kernel) rfl rfl ⟨trivial, rfl, trivial, rfl, trivial⟩ ?_
    obtain ⟨h6, e7, hF⟩ := ob1_elim hF
    refine g_callV0 hK 55 84 (d1 := 5) (ci := 1) (i := 17) (vs := [vR 3]) (rest := []) (h1 := h6) my_yX1_record vw_X6_84 (by decide) (T_Hi_record (p1 := 3) (h := h3) (kp1 := rfl) (hF := e7)) rfl rfl rfl (Nat.le_of_ble_eq_true rfl) (by decide +kernel) ?_
    refine g_seg hK [.aload_n 0, .getfield 21, .iconst 2] 58 63 (L1 := [(0, vR 0), (1, vI p1)]) (st1 := [vI 2, vR 3]) (h1 := h6) (P := True ∧ kd 0 = 8 ∧ True ∧ True) (by decide +kernel) rfl rfl ⟨trivial, rfl, trivial, trivial⟩ ?_
    refine g_callV1 hK 63 88 (d1 := 0) (ci := 4) (i := 3) (vs := [vI 2]) (rest := []) (h1 := h6) (r := vR (F_St_text 3 2)) my_yX4_text vw_X6_88 (by decide) (T_St_text (o := 3) (p1 := 2) (h := h6) (ks := rfl) (hF := rfl)) rfl rfl rfl (Nat.le_of_ble_eq_true rfl) (by decide +kernel) ?_
    refine g_seg hK [.aload_n 0, .getfield 59] 66 70 (L1 := [(0, vR 0), (1, vI p1)]) (st1 := [vR 65, vR (F_St_text 3 2)]) (h1 := h6) (P := True ∧ kd 0 = 8 ∧ True) (by decide +kernel) rfl rfl ⟨trivial, rfl, trivial⟩ ?_
    refine g_callV1 hK 70 128 (d1 := 0) (ci := 2) (i := 65) (vs := []) (rest := [vR (F_St_text 3 2)]) (h1 := h6) (r := vR 66) my_yX2_result vw_X6_128 (by decide) (T_La_result (h := h6) (hF := rfl)) rfl rfl rfl (Nat.le_of_ble_eq_true rfl) (by decide +kernel) ?_
    obtain ⟨h8, e9, hF⟩ := ob1_elim hF
    refine g_callV0 hK 73 105 (d1 := 1) (ci := 3) (i := F_St_text 3 2) (vs := [vR 66]) (rest := []) (h1 := h8) my_yX3_become vw_X6_105 (by decide) (T_Ro_become (o := (F_St_text 3 2)) (p1 := 66) (h := h6) (ko := (kd_St_text rfl)) (kp1 := rfl) (hF := e9)) (kd_St_text rfl) rfl rfl (Nat.le_of_ble_eq_true rfl) (by decide +kernel) ?_
    refine g_seg hK [.aload_n 0, .getfield 21, .aload_n 0, .getfield 59] 76 84 (L1 := [(0, vR 0), (1, vI p1)]) (st1 := [vR 65, vR 3]) (h1 := h8) (P := True ∧ kd 0 = 8 ∧ True ∧ kd 0 = 8 ∧ True) (by decide +kernel) rfl rfl ⟨trivial, rfl, trivial, rfl, trivial⟩ ?_
    refine g_callV1 hK 84 132 (d1 := 0) (ci := 2) (i := 65) (vs := []) (rest := [vR 3]) (h1 := h8) (r := vI (F_La_laid h8)) my_yX2_laid vw_X6_132 (by decide) (T_La_laid (h := h8) (hF := rfl)) rfl rfl rfl (Nat.le_of_ble_eq_true rfl) (by decide +kernel) ?_
    refine g_seg hK [.aload_n 0, .getfield 52] 87 91 (L1 := [(0, vR 0), (1, vI p1)]) (st1 := [vR 54, vI (F_La_laid h8), vR 3]) (h1 := h8) (P := True ∧ kd 0 = 8 ∧ True) (by decide +kernel) rfl rfl ⟨trivial, rfl, trivial⟩ ?_
    refine g_callV1 hK 91 135 (d1 := 1) (ci := 5) (i := 54) (vs := []) (rest := [vI (F_La_laid h8), vR 3]) (h1 := h8) (r := vI (F_V_hunks h8)) my_yX5_hunks vw_X6_135 (by decide) (T_V_hunks (h := h8) (hF := rfl)) rfl rfl rfl (Nat.le_of_ble_eq_true rfl) (by decide +kernel) ?_
    refine g_seg hK [.aload_n 0, .getfield 59] 94 98 (L1 := [(0, vR 0), (1, vI p1)]) (st1 := [vR 65, vI (F_V_hunks h8), vI (F_La_laid h8), vR 3]) (h1 := h8) (P := True ∧ kd 0 = 8 ∧ True) (by decide +kernel) rfl rfl ⟨trivial, rfl, trivial⟩ ?_
    refine g_callV1 hK 98 132 (d1 := 0) (ci := 2) (i := 65) (vs := []) (rest := [vI (F_V_hunks h8), vI (F_La_laid h8), vR 3]) (h1 := h8) (r := vI (F_La_laid h8)) my_yX2_laid vw_X6_132 (by decide) (T_La_laid (h := h8) (hF := rfl)) rfl rfl rfl (Nat.le_of_ble_eq_true rfl) (by decide +kernel) ?_
    refine g_seg hK [.isub] 101 102 (L1 := [(0, vR 0), (1, vI p1)]) (st1 := [vI (wr ((F_V_hunks h8) - (F_La_laid h8))), vI (F_La_laid h8), vR 3]) (h1 := h8) (P := True ∧ True) (by decide +kernel) rfl rfl ⟨trivial, trivial⟩ ?_
    refine g_callV0 hK 102 138 (d1 := 0) (ci := 4) (i := 3) (vs := [vI (F_La_laid h8), vI (wr ((F_V_hunks h8) - (F_La_laid h8)))]) (rest := []) (h1 := (F_St_addPatches 3 (F_La_laid h8) (wr ((F_V_hunks h8) - (F_La_laid h8))) h8)) my_yX4_addPatches vw_X6_138 (by decide) (T_St_addPatches (o := 3) (p1 := (F_La_laid h8)) (p2 := (wr ((F_V_hunks h8) - (F_La_laid h8)))) (h := h8) (ks := rfl) (hF := rfl)) rfl rfl rfl (Nat.le_of_ble_eq_true rfl) (by decide +kernel) ?_
    refine g_seg hK [.aload_n 0, .getfield 59] 105 109 (L1 := [(0, vR 0), (1, vI p1)]) (st1 := [vR 65]) (h1 := (F_St_addPatches 3 (F_La_laid h8) (wr ((F_V_hunks h8) - (F_La_laid h8))) h8)) (P := True ∧ kd 0 = 8 ∧ True) (by decide +kernel) rfl rfl ⟨trivial, rfl, trivial⟩ ?_
    refine g_callV1 hK 109 132 (d1 := 0) (ci := 2) (i := 65) (vs := []) (rest := []) (h1 := (F_St_addPatches 3 (F_La_laid h8) (wr ((F_V_hunks h8) - (F_La_laid h8))) h8)) (r := vI (F_La_laid (F_St_addPatches 3 (F_La_laid h8) (wr ((F_V_hunks h8) - (F_La_laid h8))) h8))) my_yX2_laid vw_X6_132 (by decide) (T_La_laid (h := (F_St_addPatches 3 (F_La_laid h8) (wr ((F_V_hunks h8) - (F_La_laid h8))) h8)) (hF := rfl)) rfl rfl rfl (Nat.le_of_ble_eq_true rfl) (by decide +kernel) ?_
    cases hF
    exact hR.1 112 _ _ _ (by decide +kernel) rfl ⟨rfl, rfl⟩
  · have hF := ite_f hc5 hF
    refine g_seg hK [.bipush (-3)] 44 46 (L1 := [(0, vR 0), (1, vI p1)]) (st1 := [vI (-3)]) (h1 := h3) (P := True ∧ True) (by decide +kernel) rfl rfl ⟨trivial, trivial⟩ ?_
    cases hF
    exact hR.1 46 _ _ _ (by decide +kernel) rfl ⟨rfl, rfl⟩
set_option maxHeartbeats 4000000 in
set_option maxRecDepth 100000 in
theorem T_X_line {p1 : Int} {p2 : Int} {h : MH} {r : Int} (hF : F_X_line p1 p2 h = r) : CON 1 yX6_line cX6_line 4 (Option.some Jvm.ClassFile.FieldType.int) [vR 0, vI p1, vI p2] h (some (vI r)) h := by
  refine con_of (own := RX6) (fl := flX6) (by decide +kernel) rfl flok_X6 rfl (Nat.le_of_ble_eq_true rfl) ?_
  intro K hK hR
  show K 0 [(0, vR 0), (1, vI p1), (2, vI p2)] [] h
  unfold F_X_line at hF
  refine g_seg hK [.iload_n 1] 0 1 (L1 := [(0, vR 0), (1, vI p1), (2, vI p2)]) (st1 := [vI p1]) (h1 := h) (P := True ∧ True) (by decide +kernel) rfl rfl ⟨trivial, trivial⟩ ?_
  refine g_callS1 hK 1 77 (d1 := 0) (vs := [vI p1]) (rest := []) (h1 := h) (r := vI (F_X_isText p1)) my_yX6_isText sw_X6_77 (by decide) (T_X_isText (p1 := p1) (h := h) (hF := rfl)) rfl (Nat.le_of_ble_eq_true rfl) (by decide +kernel) ?_
  refine g_ifz hK 4 .eq (7) 11 (t1 := 11) (t2 := 7) (by decide +kernel) (by decide) rfl rfl (fun (hc1 : F_X_isText p1 = 0) => ?_) (fun (hc1 : ¬ (F_X_isText p1 = 0)) => ?_)
  · have hF := ite_t hc1 hF
    refine g_seg hK [.iconst (-1)] 11 12 (L1 := [(0, vR 0), (1, vI p1), (2, vI p2)]) (st1 := [vI (-1)]) (h1 := h) (P := True ∧ True) (by decide +kernel) rfl rfl ⟨trivial, trivial⟩ ?_
    cases hF
    exact hR.1 12 _ _ _ (by decide +kernel) rfl ⟨rfl, rfl⟩
  · have hF := ite_f hc1 hF
    refine g_seg hK [.iload_n 2] 7 8 (L1 := [(0, vR 0), (1, vI p1), (2, vI p2)]) (st1 := [vI p2]) (h1 := h) (P := True ∧ True) (by decide +kernel) rfl rfl ⟨trivial, trivial⟩ ?_
    refine g_ifz hK 8 .ge (5) 13 (t1 := 11) (t2 := 13) (by decide +kernel) (by decide) rfl rfl (fun (hc2 : p2 < 0) => ?_) (fun (hc2 : ¬ (p2 < 0)) => ?_)
    · have hF := ite_t hc2 hF
      refine g_seg hK [.iconst (-1)] 11 12 (L1 := [(0, vR 0), (1, vI p1), (2, vI p2)]) (st1 := [vI (-1)]) (h1 := h) (P := True ∧ True) (by decide +kernel) rfl rfl ⟨trivial, trivial⟩ ?_
      cases hF
      exact hR.1 12 _ _ _ (by decide +kernel) rfl ⟨rfl, rfl⟩
    · have hF := ite_f hc2 hF
      refine g_seg hK [.aload_n 0, .getfield 21, .iload_n 1] 13 18 (L1 := [(0, vR 0), (1, vI p1), (2, vI p2)]) (st1 := [vI p1, vR 3]) (h1 := h) (P := True ∧ kd 0 = 8 ∧ True ∧ True) (by decide +kernel) rfl rfl ⟨trivial, rfl, trivial, trivial⟩ ?_
      refine g_callV1 hK 18 88 (d1 := 0) (ci := 4) (i := 3) (vs := [vI p1]) (rest := []) (h1 := h) (r := vR (F_St_text 3 p1)) my_yX4_text vw_X6_88 (by decide) (T_St_text (o := 3) (p1 := p1) (h := h) (ks := rfl) (hF := rfl)) rfl rfl rfl (Nat.le_of_ble_eq_true rfl) (by decide +kernel) ?_
      refine g_seg hK [.astore_n 3, .iload_n 2, .aload_n 3] 21 24 (L1 := [(3, vR (F_St_text 3 p1)), (0, vR 0), (1, vI p1), (2, vI p2)]) (st1 := [vR (F_St_text 3 p1), vI p2]) (h1 := h) (P := True ∧ True ∧ True ∧ True) (by decide +kernel) rfl rfl ⟨trivial, trivial, trivial, trivial⟩ ?_
      refine g_callV1 hK 24 63 (d1 := 0) (ci := 3) (i := F_St_text 3 p1) (vs := []) (rest := [vI p2]) (h1 := h) (r := vI (F_Ro_size (F_St_text 3 p1) h)) my_yX3_size vw_X6_63 (by decide) (T_Ro_size (o := (F_St_text 3 p1)) (h := h) (ko := (kd_St_text rfl)) (hF := rfl)) (kd_St_text rfl) rfl rfl (Nat.le_of_ble_eq_true rfl) (by decide +kernel) ?_
      refine g_icmp hK 27 .ge (11) 38 (t1 := 30) (t2 := 38) (by decide +kernel) (by decide) rfl rfl (fun (hc3 : p2 < F_Ro_size (F_St_text 3 p1) h) => ?_) (fun (hc3 : ¬ (p2 < F_Ro_size (F_St_text 3 p1) h)) => ?_)
      · have hF := ite_t hc3 hF
        refine g_seg hK [.aload_n 3, .iload_n 2] 30 32 (L1 := [(3, vR (F_St_text 3 p1)), (0, vR 0), (1, vI p1), (2, vI p2)]) (st1 := [vI p2, vR (F_St_text 3 p1)]) (h1 := h) (P := True ∧ True ∧ True) (by decide +kernel) rfl rfl ⟨trivial, trivial, trivial⟩ ?_
        refine g_callV1 hK 32 141 (d1 := 0) (ci := 3) (i := F_St_text 3 p1) (vs := [vI p2]) (rest := []) (h1 := h) (r := vI (F_Ro_at (F_St_text 3 p1) p2 h)) my_yX3_at vw_X6_141 (by decide) (T_Ro_at (o := (F_St_text 3 p1)) (p1 := p2) (h := h) (ko := (kd_St_text rfl)) (hF := rfl)) (kd_St_text rfl) rfl rfl (Nat.le_of_ble_eq_true rfl) (by decide +kernel) ?_
        refine g_goto hK 35 (5) 40 (by decide +kernel) (by decide) ?_
        cases hF
        exact hR.1 40 _ _ _ (by decide +kernel) rfl ⟨rfl, rfl⟩
      · have hF := ite_f hc3 hF
        refine g_seg hK [.bipush (-4)] 38 40 (L1 := [(3, vR (F_St_text 3 p1)), (0, vR 0), (1, vI p1), (2, vI p2)]) (st1 := [vI (-4)]) (h1 := h) (P := True ∧ True) (by decide +kernel) rfl rfl ⟨trivial, trivial⟩ ?_
        cases hF
        exact hR.1 40 _ _ _ (by decide +kernel) rfl ⟨rfl, rfl⟩
set_option maxHeartbeats 4000000 in
set_option maxRecDepth 100000 in
theorem T_C_entry {p1 : Int} {p2 : Int} {h : MH} {r : Int} (hF : F_C_entry p1 p2 h = r) : CON 1 yX0_entry cX0_entry 5 (Option.some Jvm.ClassFile.FieldType.int) [vR 49, vI p1, vI p2] h (some (vI r)) h := by
  refine con_of (own := RX0) (fl := flX0) (by decide +kernel) rfl flok_X0 rfl (Nat.le_of_ble_eq_true rfl) ?_
  intro K hK hR
  show K 0 [(0, vR 49), (1, vI p1), (2, vI p2)] [] h
  unfold F_C_entry at hF
  refine g_seg hK [.aload_n 0, .getfield 20, .bipush 29, .iload_n 1, .iadd, .iconst 1, .iadd] 0 10 (L1 := [(0, vR 49), (1, vI p1), (2, vI p2)]) (st1 := [vI (wr ((wr (29 + p1)) + 1)), vR 52]) (h1 := h) (P := True ∧ kd 49 = 2 ∧ True ∧ True ∧ True ∧ True ∧ True ∧ True) (by decide +kernel) rfl rfl ⟨trivial, rfl, trivial, trivial, trivial, trivial, trivial, trivial⟩ ?_
  refine g_callV1 hK 10 30 (d1 := 0) (ci := 3) (i := 52) (vs := [vI (wr ((wr (29 + p1)) + 1))]) (rest := []) (h1 := h) (r := vI (F_Ro_at 52 (wr ((wr (29 + p1)) + 1)) h)) my_yX3_at vw_X0_30 (by decide) (T_Ro_at (o := 52) (p1 := (wr ((wr (29 + p1)) + 1))) (h := h) (ko := rfl) (hF := rfl)) rfl rfl rfl (Nat.le_of_ble_eq_true rfl) (by decide +kernel) ?_
  refine g_seg hK [.istore_n 3, .aload_n 0, .getfield 20, .bipush 29, .iload_n 1, .iadd, .iconst 1, .isub] 13 24 (L1 := [(3, vI (F_Ro_at 52 (wr ((wr (29 + p1)) + 1)) h)), (0, vR 49), (1, vI p1), (2, vI p2)]) (st1 := [vI (wr ((wr (29 + p1)) - 1)), vR 52]) (h1 := h) (P := True ∧ True ∧ kd 49 = 2 ∧ True ∧ True ∧ True ∧ True ∧ True ∧ True) (by decide +kernel) rfl rfl ⟨trivial, trivial, rfl, trivial, trivial, trivial, trivial, trivial, trivial⟩ ?_
  refine g_callV1 hK 24 30 (d1 := 0) (ci := 3) (i := 52) (vs := [vI (wr ((wr (29 + p1)) - 1))]) (rest := []) (h1 := h) (r := vI (F_Ro_at 52 (wr ((wr (29 + p1)) - 1)) h)) my_yX3_at vw_X0_30 (by decide) (T_Ro_at (o := 52) (p1 := (wr ((wr (29 + p1)) - 1))) (h := h) (ko := rfl) (hF := rfl)) rfl rfl rfl (Nat.le_of_ble_eq_true rfl) (by decide +kernel) ?_
  refine g_seg hK [.iconst 1, .iadd, .istore 4, .iload_n 2] 27 32 (L1 := [(4, vI (wr ((F_Ro_at 52 (wr ((wr (29 + p1)) - 1)) h) + 1))), (3, vI (F_Ro_at 52 (wr ((wr (29 + p1)) + 1)) h)), (0, vR 49), (1, vI p1), (2, vI p2)]) (st1 := [vI p2]) (h1 := h) (P := True ∧ True ∧ True ∧ True ∧ True) (by decide +kernel) rfl rfl ⟨trivial, trivial, trivial, trivial, trivial⟩ ?_
  refine g_ifz hK 32 .ne (5) 37 (t1 := 35) (t2 := 37) (by decide +kernel) (by decide) rfl rfl (fun (hc1 : p2 = 0) => ?_) (fun (hc1 : ¬ (p2 = 0)) => ?_)
  · have hF := ite_t hc1 hF
    refine g_seg hK [.iconst 0] 35 36 (L1 := [(4, vI (wr ((F_Ro_at 52 (wr ((wr (29 + p1)) - 1)) h) + 1))), (3, vI (F_Ro_at 52 (wr ((wr (29 + p1)) + 1)) h)), (0, vR 49), (1, vI p1), (2, vI p2)]) (st1 := [vI 0]) (h1 := h) (P := True ∧ True) (by decide +kernel) rfl rfl ⟨trivial, trivial⟩ ?_
    cases hF
    exact hR.1 36 _ _ _ (by decide +kernel) rfl ⟨rfl, rfl⟩
  · have hF := ite_f hc1 hF
    refine g_seg hK [.iload_n 1, .iload_n 2, .ineg] 37 40 (L1 := [(4, vI (wr ((F_Ro_at 52 (wr ((wr (29 + p1)) - 1)) h) + 1))), (3, vI (F_Ro_at 52 (wr ((wr (29 + p1)) + 1)) h)), (0, vR 49), (1, vI p1), (2, vI p2)]) (st1 := [vI (wr (-p2)), vI p1]) (h1 := h) (P := True ∧ True ∧ True ∧ True) (by decide +kernel) rfl rfl ⟨trivial, trivial, trivial, trivial⟩ ?_
    refine g_icmp hK 40 .ne (5) 45 (t1 := 43) (t2 := 45) (by decide +kernel) (by decide) rfl rfl (fun (hc2 : p1 = wr (-p2)) => ?_) (fun (hc2 : ¬ (p1 = wr (-p2))) => ?_)
    · have hF := ite_t hc2 hF
      refine g_seg hK [.iload_n 3] 43 44 (L1 := [(4, vI (wr ((F_Ro_at 52 (wr ((wr (29 + p1)) - 1)) h) + 1))), (3, vI (F_Ro_at 52 (wr ((wr (29 + p1)) + 1)) h)), (0, vR 49), (1, vI p1), (2, vI p2)]) (st1 := [vI (F_Ro_at 52 (wr ((wr (29 + p1)) + 1)) h)]) (h1 := h) (P := True ∧ True) (by decide +kernel) rfl rfl ⟨trivial, trivial⟩ ?_
      cases hF
      exact hR.1 44 _ _ _ (by decide +kernel) rfl ⟨rfl, rfl⟩
    · have hF := ite_f hc2 hF
      refine g_seg hK [.iload_n 1, .iload_n 2] 45 47 (L1 := [(4, vI (wr ((F_Ro_at 52 (wr ((wr (29 + p1)) - 1)) h) + 1))), (3, vI (F_Ro_at 52 (wr ((wr (29 + p1)) + 1)) h)), (0, vR 49), (1, vI p1), (2, vI p2)]) (st1 := [vI p2, vI p1]) (h1 := h) (P := True ∧ True ∧ True) (by decide +kernel) rfl rfl ⟨trivial, trivial, trivial⟩ ?_
      refine g_icmp hK 47 .eq (9) 56 (t1 := 56) (t2 := 50) (by decide +kernel) (by decide) rfl rfl (fun (hc3 : p1 = p2) => ?_) (fun (hc3 : ¬ (p1 = p2)) => ?_)
      · have hF := ite_t hc3 hF
        refine g_seg hK [.iload 4] 56 58 (L1 := [(4, vI (wr ((F_Ro_at 52 (wr ((wr (29 + p1)) - 1)) h) + 1))), (3, vI (F_Ro_at 52 (wr ((wr (29 + p1)) + 1)) h)), (0, vR 49), (1, vI p1), (2, vI p2)]) (st1 := [vI (wr ((F_Ro_at 52 (wr ((wr (29 + p1)) - 1)) h) + 1))]) (h1 := h) (P := True ∧ True) (by decide +kernel) rfl rfl ⟨trivial, trivial⟩ ?_
        refine g_goto hK 58 (4) 62 (by decide +kernel) (by decide) ?_
        cases hF
        exact hR.1 62 _ _ _ (by decide +kernel) rfl ⟨rfl, rfl⟩
      · have hF := ite_f hc3 hF
        refine g_seg hK [.iload 4, .iload_n 3] 50 53 (L1 := [(4, vI (wr ((F_Ro_at 52 (wr ((wr (29 + p1)) - 1)) h) + 1))), (3, vI (F_Ro_at 52 (wr ((wr (29 + p1)) + 1)) h)), (0, vR 49), (1, vI p1), (2, vI p2)]) (st1 := [vI (F_Ro_at 52 (wr ((wr (29 + p1)) + 1)) h), vI (wr ((F_Ro_at 52 (wr ((wr (29 + p1)) - 1)) h) + 1))]) (h1 := h) (P := True ∧ True ∧ True) (by decide +kernel) rfl rfl ⟨trivial, trivial, trivial⟩ ?_
        refine g_icmp hK 53 .le (8) 61 (t1 := 61) (t2 := 56) (by decide +kernel) (by decide) rfl rfl (fun (hc4 : wr ((F_Ro_at 52 (wr ((wr (29 + p1)) - 1)) h) + 1) ≤ F_Ro_at 52 (wr ((wr (29 + p1)) + 1)) h) => ?_) (fun (hc4 : ¬ (wr ((F_Ro_at 52 (wr ((wr (29 + p1)) - 1)) h) + 1) ≤ F_Ro_at 52 (wr ((wr (29 + p1)) + 1)) h)) => ?_)
        · have hF := ite_t hc4 hF
          refine g_seg hK [.iload_n 3] 61 62 (L1 := [(4, vI (wr ((F_Ro_at 52 (wr ((wr (29 + p1)) - 1)) h) + 1))), (3, vI (F_Ro_at 52 (wr ((wr (29 + p1)) + 1)) h)), (0, vR 49), (1, vI p1), (2, vI p2)]) (st1 := [vI (F_Ro_at 52 (wr ((wr (29 + p1)) + 1)) h)]) (h1 := h) (P := True ∧ True) (by decide +kernel) rfl rfl ⟨trivial, trivial⟩ ?_
          cases hF
          exact hR.1 62 _ _ _ (by decide +kernel) rfl ⟨rfl, rfl⟩
        · have hF := ite_f hc4 hF
          refine g_seg hK [.iload 4] 56 58 (L1 := [(4, vI (wr ((F_Ro_at 52 (wr ((wr (29 + p1)) - 1)) h) + 1))), (3, vI (F_Ro_at 52 (wr ((wr (29 + p1)) + 1)) h)), (0, vR 49), (1, vI p1), (2, vI p2)]) (st1 := [vI (wr ((F_Ro_at 52 (wr ((wr (29 + p1)) - 1)) h) + 1))]) (h1 := h) (P := True ∧ True) (by decide +kernel) rfl rfl ⟨trivial, trivial⟩ ?_
          refine g_goto hK 58 (4) 62 (by decide +kernel) (by decide) ?_
          cases hF
          exact hR.1 62 _ _ _ (by decide +kernel) rfl ⟨rfl, rfl⟩
set_option maxHeartbeats 4000000 in
set_option maxRecDepth 100000 in
theorem LT_C_followKept_L3 {K : KT} (hK : Rules RX0 cX0_followKept 5 (Option.some Jvm.ClassFile.FieldType.int) flX0 1 K) {x0 : Nat} {x1 : Nat} {x3 : Int} {h : MH} (kx0 : kd x0 = 5) (kx1 : kd x1 = 5) : ∀ (n : Nat) (x4 : Int) (x4' : Int), F_C_followKept_L3 x0 x1 x3 h n x4 = some x4' → K 46 [(0, vR x0), (1, vR x1), (3, vI x3), (4, vI x4')] [] h → K 3 [(0, vR x0), (1, vR x1), (3, vI x3), (4, vI x4)] [] h := by
  intro n
  induction n with
  | zero =>
    intro x4 x4' hF
    cases hF
  | succ n ih =>
    intro x4 x4' hF hE
    unfold F_C_followKept_L3 at hF
    refine g_seg hK [.iload 4, .aload_n 0] 3 6 (L1 := [(0, vR x0), (1, vR x1), (3, vI x3), (4, vI x4)]) (st1 := [vR x0, vI x4]) (h1 := h) (P := True ∧ True ∧ True) (by decide +kernel) rfl rfl ⟨trivial, trivial, trivial⟩ ?_
    refine g_callV1 hK 6 26 (d1 := 0) (ci := 3) (i := x0) (vs := []) (rest := [vI x4]) (h1 := h) (r := vI (F_Ro_size x0 h)) my_yX3_size vw_X0_26 (by decide) (T_Ro_size (o := x0) (h := h) (ko := kx0) (hF := rfl)) kx0 rfl rfl (Nat.le_of_ble_eq_true rfl) (by decide +kernel) ?_
    refine g_icmp hK 9 .ge (37) 46 (t1 := 12) (t2 := 46) (by decide +kernel) (by decide) rfl rfl (fun (hc1 : x4 < F_Ro_size x0 h) => ?_) (fun (hc1 : ¬ (x4 < F_Ro_size x0 h)) => ?_)
    · have hF := ite_t hc1 hF
      refine g_seg hK [.iload 4, .iload_n 3, .isub, .aload_n 1] 12 17 (L1 := [(0, vR x0), (1, vR x1), (3, vI x3), (4, vI x4)]) (st1 := [vR x1, vI (wr (x4 - x3))]) (h1 := h) (P := True ∧ True ∧ True ∧ True ∧ True) (by decide +kernel) rfl rfl ⟨trivial, trivial, trivial, trivial, trivial⟩ ?_
      refine g_callV1 hK 17 26 (d1 := 0) (ci := 3) (i := x1) (vs := []) (rest := [vI (wr (x4 - x3))]) (h1 := h) (r := vI (F_Ro_size x1 h)) my_yX3_size vw_X0_26 (by decide) (T_Ro_size (o := x1) (h := h) (ko := kx1) (hF := rfl)) kx1 rfl rfl (Nat.le_of_ble_eq_true rfl) (by decide +kernel) ?_
      refine g_icmp hK 20 .ge (26) 46 (t1 := 23) (t2 := 46) (by decide +kernel) (by decide) rfl rfl (fun (hc2 : wr (x4 - x3) < F_Ro_size x1 h) => ?_) (fun (hc2 : ¬ (wr (x4 - x3) < F_Ro_size x1 h)) => ?_)
      · have hF := ite_t hc2 hF
        refine g_seg hK [.aload_n 0, .iload 4] 23 26 (L1 := [(0, vR x0), (1, vR x1), (3, vI x3), (4, vI x4)]) (st1 := [vI x4, vR x0]) (h1 := h) (P := True ∧ True ∧ True) (by decide +kernel) rfl rfl ⟨trivial, trivial, trivial⟩ ?_
        refine g_callV1 hK 26 30 (d1 := 0) (ci := 3) (i := x0) (vs := [vI x4]) (rest := []) (h1 := h) (r := vI (F_Ro_at x0 x4 h)) my_yX3_at vw_X0_30 (by decide) (T_Ro_at (o := x0) (p1 := x4) (h := h) (ko := kx0) (hF := rfl)) kx0 rfl rfl (Nat.le_of_ble_eq_true rfl) (by decide +kernel) ?_
        refine g_seg hK [.aload_n 1, .iload 4, .iload_n 3, .isub] 29 34 (L1 := [(0, vR x0), (1, vR x1), (3, vI x3), (4, vI x4)]) (st1 := [vI (wr (x4 - x3)), vR x1, vI (F_Ro_at x0 x4 h)]) (h1 := h) (P := True ∧ True ∧ True ∧ True ∧ True) (by decide +kernel) rfl rfl ⟨trivial, trivial, trivial, trivial, trivial⟩ ?_
        refine g_callV1 hK 34 30 (d1 := 0) (ci := 3) (i := x1) (vs := [vI (wr (x4 - x3))]) (rest := [vI (F_Ro_at x0 x4 h)]) (h1 := h) (r := vI (F_Ro_at x1 (wr (x4 - x3)) h)) my_yX3_at vw_X0_30 (by decide) (T_Ro_at (o := x1) (p1 := (wr (x4 - x3))) (h := h) (ko := kx1) (hF := rfl)) kx1 rfl rfl (Nat.le_of_ble_eq_true rfl) (by decide +kernel) ?_
        refine g_icmp hK 37 .ne (9) 46 (t1 := 40) (t2 := 46) (by decide +kernel) (by decide) rfl rfl (fun (hc3 : F_Ro_at x0 x4 h = F_Ro_at x1 (wr (x4 - x3)) h) => ?_) (fun (hc3 : ¬ (F_Ro_at x0 x4 h = F_Ro_at x1 (wr (x4 - x3)) h)) => ?_)
        · have hF := ite_t hc3 hF
          refine g_seg hK [.iinc 4 1] 40 43 (L1 := [(4, vI (wr (x4 + 1))), (0, vR x0), (1, vR x1), (3, vI x3)]) (st1 := []) (h1 := h) (P := True ∧ True) (by decide +kernel) rfl rfl ⟨trivial, trivial⟩ ?_
          refine g_goto hK 43 (-40) 3 (by decide +kernel) (by decide) ?_
          refine hK.2.1 _ _ ([(0, vR x0), (1, vR x1), (3, vI x3), (4, vI (wr (x4 + 1)))]) _ _ (sub_of [1, 2, 3, 0] rfl) ?_
          exact ih _ _ hF hE
        · have hF := ite_f hc3 hF
          cases hF
          exact hE
      · have hF := ite_f hc2 hF
        cases hF
        exact hE
    · have hF := ite_f hc1 hF
      cases hF
      exact hE
set_option maxHeartbeats 4000000 in
set_option maxRecDepth 100000 in
theorem T_C_followKept {p1 : Nat} {p2 : Nat} {p3 : Int} {p4 : Int} {h : MH} {r : Int} (kp1 : kd p1 = 5) (kp2 : kd p2 = 5) (hF : F_C_followKept p1 p2 p3 p4 h = some r) : CON 1 yX0_followKept cX0_followKept 5 (Option.some Jvm.ClassFile.FieldType.int) [vR p1, vR p2, vI p3, vI p4] h (some (vI r)) h := by
  refine con_of (own := RX0) (fl := flX0) (by decide +kernel) rfl flok_X0 rfl (Nat.le_of_ble_eq_true rfl) ?_
  intro K hK hR
  show K 0 [(0, vR p1), (1, vR p2), (2, vI p3), (3, vI p4)] [] h
  unfold F_C_followKept at hF
  refine g_seg hK [.iload_n 2, .istore 4] 0 3 (L1 := [(4, vI p3), (0, vR p1), (1, vR p2), (2, vI p3), (3, vI p4)]) (st1 := []) (h1 := h) (P := True ∧ True ∧ True) (by decide +kernel) rfl rfl ⟨trivial, trivial, trivial⟩ ?_
  refine hK.2.1 _ _ ([(0, vR p1), (1, vR p2), (3, vI p4), (4, vI p3)]) _ _ (sub_of [1, 2, 4, 0] rfl) ?_
  obtain ⟨x4_1, e2, hF⟩ := ob1_elim hF
  refine LT_C_followKept_L3 hK (kx0 := kp1) (kx1 := kp2) _ _ _ e2 ?_
  refine g_seg hK [.iload 4] 46 48 (L1 := [(0, vR p1), (1, vR p2), (3, vI p4), (4, vI x4_1)]) (st1 := [vI x4_1]) (h1 := h) (P := True ∧ True) (by decide +kernel) rfl rfl ⟨trivial, trivial⟩ ?_
  cases hF
  exact hR.1 48 _ _ _ (by decide +kernel) rfl ⟨rfl, rfl⟩
set_option maxHeartbeats 4000000 in
set_option maxRecDepth 100000 in
theorem LT_C_apartBySteps_L33 {K : KT} (hK : Rules RX0 cX0_apartBySteps 7 (Option.some Jvm.ClassFile.FieldType.int) flX0 2 K) {Post : Option MV → MH → Prop} (hR : R_ret cX0_apartBySteps (Option.some Jvm.ClassFile.FieldType.int) Post K) {x1 : Nat} {x2 : Nat} {x3 : Int} {x4 : Int} (kx1 : kd x1 = 5) (kx2 : kd x2 = 5) : ∀ (n : Nat) (x5 : Int) (h : MH) (out : Sum (Int × MH) (Int × MH)), F_C_apartBySteps_L33 x1 x2 x3 x4 n x5 h = some out → (∀ a : Int × MH, out = Sum.inl a → Post (some (vI a.1)) a.2) → (∀ q : Int × MH, out = Sum.inr q → K 101 [(0, vR 49), (1, vR x1), (2, vR x2), (3, vI x3), (4, vI x4), (5, vI q.1)] [] q.2) → K 33 [(0, vR 49), (1, vR x1), (2, vR x2), (3, vI x3), (4, vI x4), (5, vI x5)] [] h := by
  intro n
  induction n with
  | zero =>
    intro x5 h out hF
    cases hF
  | succ n ih =>
    intro x5 h out hF hRet hE
    unfold F_C_apartBySteps_L33 at hF
    refine g_seg hK [.iload 5, .iload 4] 33 37 (L1 := [(0, vR 49), (1, vR x1), (2, vR x2), (3, vI x3), (4, vI x4), (5, vI x5)]) (st1 := [vI x4, vI x5]) (h1 := h) (P := True ∧ True ∧ True) (by decide +kernel) rfl rfl ⟨trivial, trivial, trivial⟩ ?_
    refine g_icmp hK 37 .gt (64) 101 (t1 := 40) (t2 := 101) (by decide +kernel) (by decide) rfl rfl (fun (hc1 : x5 ≤ x4) => ?_) (fun (hc1 : ¬ (x5 ≤ x4)) => ?_)
    · have hF := ite_t hc1 hF
      refine g_seg hK [.aload_n 1, .aload_n 2, .aload_n 0, .iload 5, .iload 4] 40 47 (L1 := [(0, vR 49), (1, vR x1), (2, vR x2), (3, vI x3), (4, vI x4), (5, vI x5)]) (st1 := [vI x4, vI x5, vR 49, vR x2, vR x1]) (h1 := h) (P := True ∧ True ∧ True ∧ True ∧ True ∧ True) (by decide +kernel) rfl rfl ⟨trivial, trivial, trivial, trivial, trivial, trivial⟩ ?_
      refine g_callV1 hK 47 57 (d1 := 1) (ci := 0) (i := 49) (vs := [vI x5, vI x4]) (rest := [vR x2, vR x1]) (h1 := h) (r := vI (F_C_entry x5 x4 h)) my_yX0_entry vw_X0_57 (by decide) (T_C_entry (p1 := x5) (p2 := x4) (h := h) (hF := rfl)) rfl rfl rfl (Nat.le_of_ble_eq_true rfl) (by decide +kernel) ?_
      refine g_seg hK [.iload 5] 50 52 (L1 := [(0, vR 49), (1, vR x1), (2, vR x2), (3, vI x3), (4, vI x4), (5, vI x5)]) (st1 := [vI x5, vI (F_C_entry x5 x4 h), vR x2, vR x1]) (h1 := h) (P := True ∧ True) (by decide +kernel) rfl rfl ⟨trivial, trivial⟩ ?_
      obtain ⟨r2, e3, hF⟩ := ob1_elim hF
      refine g_callS1 hK 52 60 (d1 := 1) (vs := [vR x1, vR x2, vI (F_C_entry x5 x4 h), vI x5]) (rest := []) (h1 := h) (r := vI r2) my_yX0_followKept sw_X0_60 (by decide) (T_C_followKept (p1 := x1) (p2 := x2) (p3 := (F_C_entry x5 x4 h)) (p4 := x5) (h := h) (kp1 := kx1) (kp2 := kx2) (hF := e3)) rfl (Nat.le_of_ble_eq_true rfl) (by decide +kernel) ?_
      refine g_seg hK [.istore 6, .aload_n 0, .getfield 20, .bipush 29, .iload 5, .iadd, .iload 6] 55 68 (L1 := [(6, vI r2), (0, vR 49), (1, vR x1), (2, vR x2), (3, vI x3), (4, vI x4), (5, vI x5)]) (st1 := [vI r2, vI (wr (29 + x5)), vR 52]) (h1 := h) (P := True ∧ True ∧ kd 49 = 2 ∧ True ∧ True ∧ True ∧ True ∧ True) (by decide +kernel) rfl rfl ⟨trivial, trivial, rfl, trivial, trivial, trivial, trivial, trivial⟩ ?_
      refine g_callV0 hK 68 43 (d1 := 0) (ci := 3) (i := 52) (vs := [vI (wr (29 + x5)), vI r2]) (rest := []) (h1 := (F_Ro_change 52 (wr (29 + x5)) r2 h)) my_yX3_change vw_X0_43 (by decide) (T_Ro_change (o := 52) (p1 := (wr (29 + x5))) (p2 := r2) (h := h) (ko := rfl) (hF := rfl)) rfl rfl rfl (Nat.le_of_ble_eq_true rfl) (by decide +kernel) ?_
      refine g_seg hK [.iload 6, .aload_n 1] 71 74 (L1 := [(6, vI r2), (0, vR 49), (1, vR x1), (2, vR x2), (3, vI x3), (4, vI x4), (5, vI x5)]) (st1 := [vR x1, vI r2]) (h1 := (F_Ro_change 52 (wr (29 + x5)) r2 h)) (P := True ∧ True ∧ True) (by decide +kernel) rfl rfl ⟨trivial, trivial, trivial⟩ ?_
      refine g_callV1 hK 74 26 (d1 := 0) (ci := 3) (i := x1) (vs := []) (rest := [vI r2]) (h1 := (F_Ro_change 52 (wr (29 + x5)) r2 h)) (r := vI (F_Ro_size x1 (F_Ro_change 52 (wr (29 + x5)) r2 h))) my_yX3_size vw_X0_26 (by decide) (T_Ro_size (o := x1) (h := (F_Ro_change 52 (wr (29 + x5)) r2 h)) (ko := kx1) (hF := rfl)) kx1 rfl rfl (Nat.le_of_ble_eq_true rfl) (by decide +kernel) ?_
      obtain ⟨kj5, e6, hF⟩ := jk1_elim hF
      have j5 : ∀ (u4 : Unit), kj5 u4 = some out → K 95 [(0, vR 49), (1, vR x1), (2, vR x2), (3, vI x3), (4, vI x4), (5, vI x5)] [] (F_Ro_change 52 (wr (29 + x5)) r2 h) := by
        intro u4 hF
        have hF := (e6 u4).symm.trans hF
        refine g_seg hK [.iinc 5 2] 95 98 (L1 := [(5, vI (wr (x5 + 2))), (0, vR 49), (1, vR x1), (2, vR x2), (3, vI x3), (4, vI x4)]) (st1 := []) (h1 := (F_Ro_change 52 (wr (29 + x5)) r2 h)) (P := True ∧ True) (by decide +kernel) rfl rfl ⟨trivial, trivial⟩ ?_
        refine g_goto hK 98 (-65) 33 (by decide +kernel) (by decide) ?_
        refine hK.2.1 _ _ ([(0, vR 49), (1, vR x1), (2, vR x2), (3, vI x3), (4, vI x4), (5, vI (wr (x5 + 2)))]) _ _ (sub_of [1, 2, 3, 4, 5, 0] rfl) ?_
        exact ih _ _ _ hF hRet hE
      refine g_icmp hK 77 .lt (18) 95 (t1 := 95) (t2 := 80) (by decide +kernel) (by decide) rfl rfl (fun (hc7 : r2 < F_Ro_size x1 (F_Ro_change 52 (wr (29 + x5)) r2 h)) => ?_) (fun (hc7 : ¬ (r2 < F_Ro_size x1 (F_Ro_change 52 (wr (29 + x5)) r2 h))) => ?_)
      · have hF := ite_t hc7 hF
        refine hK.2.1 _ _ ([(0, vR 49), (1, vR x1), (2, vR x2), (3, vI x3), (4, vI x4), (5, vI x5)]) _ _ (sub_of [1, 2, 3, 4, 5, 6] rfl) ?_
        exact j5 _ hF
      · have hF := ite_f hc7 hF
        refine g_seg hK [.iload 6, .iload 5, .isub, .aload_n 2] 80 86 (L1 := [(6, vI r2), (0, vR 49), (1, vR x1), (2, vR x2), (3, vI x3), (4, vI x4), (5, vI x5)]) (st1 := [vR x2, vI (wr (r2 - x5))]) (h1 := (F_Ro_change 52 (wr (29 + x5)) r2 h)) (P := True ∧ True ∧ True ∧ True ∧ True) (by decide +kernel) rfl rfl ⟨trivial, trivial, trivial, trivial, trivial⟩ ?_
        refine g_callV1 hK 86 26 (d1 := 0) (ci := 3) (i := x2) (vs := []) (rest := [vI (wr (r2 - x5))]) (h1 := (F_Ro_change 52 (wr (29 + x5)) r2 h)) (r := vI (F_Ro_size x2 (F_Ro_change 52 (wr (29 + x5)) r2 h))) my_yX3_size vw_X0_26 (by decide) (T_Ro_size (o := x2) (h := (F_Ro_change 52 (wr (29 + x5)) r2 h)) (ko := kx2) (hF := rfl)) kx2 rfl rfl (Nat.le_of_ble_eq_true rfl) (by decide +kernel) ?_
        refine g_icmp hK 89 .lt (6) 95 (t1 := 95) (t2 := 92) (by decide +kernel) (by decide) rfl rfl (fun (hc8 : wr (r2 - x5) < F_Ro_size x2 (F_Ro_change 52 (wr (29 + x5)) r2 h)) => ?_) (fun (hc8 : ¬ (wr (r2 - x5) < F_Ro_size x2 (F_Ro_change 52 (wr (29 + x5)) r2 h))) => ?_)
        · have hF := ite_t hc8 hF
          refine hK.2.1 _ _ ([(0, vR 49), (1, vR x1), (2, vR x2), (3, vI x3), (4, vI x4), (5, vI x5)]) _ _ (sub_of [1, 2, 3, 4, 5, 6] rfl) ?_
          exact j5 _ hF
        · have hF := ite_f hc8 hF
          refine g_seg hK [.iload 4] 92 94 (L1 := [(6, vI r2), (0, vR 49), (1, vR x1), (2, vR x2), (3, vI x3), (4, vI x4), (5, vI x5)]) (st1 := [vI x4]) (h1 := (F_Ro_change 52 (wr (29 + x5)) r2 h)) (P := True ∧ True) (by decide +kernel) rfl rfl ⟨trivial, trivial⟩ ?_
          cases hF
          exact hR.1 94 _ _ _ (by decide +kernel) rfl (hRet _ rfl)
    · have hF := ite_f hc1 hF
      cases hF
      exact hE _ rfl
set_option maxHeartbeats 4000000 in
set_option maxRecDepth 100000 in
theorem LT_C_apartBySteps_L22 {K : KT} (hK : Rules RX0 cX0_apartBySteps 7 (Option.some Jvm.ClassFile.FieldType.int) flX0 2 K) {Post : Option MV → MH → Prop} (hR : R_ret cX0_apartBySteps (Option.some Jvm.ClassFile.FieldType.int) Post K) {x1 : Nat} {x2 : Nat} {x3 : Int} (kx1 : kd x1 = 5) (kx2 : kd x2 = 5) : ∀ (n : Nat) (x4 : Int) (h : MH) (out : Sum (Int × MH) (Int × MH)), F_C_apartBySteps_L22 x1 x2 x3 n x4 h = some out → (∀ a : Int × MH, out = Sum.inl a → Post (some (vI a.1)) a.2) → (∀ q : Int × MH, out = Sum.inr q → K 107 [(0, vR 49), (1, vR x1), (2, vR x2), (3, vI x3), (4, vI q.1)] [] q.2) → K 22 [(0, vR 49), (1, vR x1), (2, vR x2), (3, vI x3), (4, vI x4)] [] h := by
  intro n
  induction n with
  | zero =>
    intro x4 h out hF
    cases hF
  | succ n ih =>
    intro x4 h out hF hRet hE
    unfold F_C_apartBySteps_L22 at hF
    refine g_seg hK [.iload 4, .iload_n 3] 22 25 (L1 := [(0, vR 49), (1, vR x1), (2, vR x2), (3, vI x3), (4, vI x4)]) (st1 := [vI x3, vI x4]) (h1 := h) (P := True ∧ True ∧ True) (by decide +kernel) rfl rfl ⟨trivial, trivial, trivial⟩ ?_
    refine g_icmp hK 25 .gt (82) 107 (t1 := 28) (t2 := 107) (by decide +kernel) (by decide) rfl rfl (fun (hc1 : x4 ≤ x3) => ?_) (fun (hc1 : ¬ (x4 ≤ x3)) => ?_)
    · have hF := ite_t hc1 hF
      refine g_seg hK [.iload 4, .ineg, .istore 5] 28 33 (L1 := [(5, vI (wr (-x4))), (0, vR 49), (1, vR x1), (2, vR x2), (3, vI x3), (4, vI x4)]) (st1 := []) (h1 := h) (P := True ∧ True ∧ True ∧ True) (by decide +kernel) rfl rfl ⟨trivial, trivial, trivial, trivial⟩ ?_
      refine hK.2.1 _ _ ([(0, vR 49), (1, vR x1), (2, vR x2), (3, vI x3), (4, vI x4), (5, vI (wr (-x4)))]) _ _ (sub_of [1, 2, 3, 4, 5, 0] rfl) ?_
      obtain ⟨out6, e4, hr7, hx8⟩ := os_elim hF
      refine LT_C_apartBySteps_L33 hK hR (kx1 := kx1) (kx2 := kx2) _ _ _ out6 e4 ?_ ?_
      · intro a ha
        have hF := hr7 a ha
        cases hF
        exact hRet _ rfl
      · intro q5 hq
        have hF := hx8 q5 hq
        refine g_seg hK [.iinc 4 1] 101 104 (L1 := [(4, vI (wr (x4 + 1))), (0, vR 49), (1, vR x1), (2, vR x2), (3, vI x3), (5, vI q5.1)]) (st1 := []) (h1 := q5.2) (P := True ∧ True) (by decide +kernel) rfl rfl ⟨trivial, trivial⟩ ?_
        refine g_goto hK 104 (-82) 22 (by decide +kernel) (by decide) ?_
        refine hK.2.1 _ _ ([(0, vR 49), (1, vR x1), (2, vR x2), (3, vI x3), (4, vI (wr (x4 + 1)))]) _ _ (sub_of [1, 2, 3, 4, 0] rfl) ?_
        exact ih _ _ _ hF hRet hE
    · have hF := ite_f hc1 hF
      cases hF
      exact hE _ rfl
set_option maxHeartbeats 4000000 in
set_option maxRecDepth 100000 in
theorem T_C_apartBySteps {p1 : Nat} {p2 : Nat} {h : MH} {r : Int} {h' : MH} (kp1 : kd p1 = 5) (kp2 : kd p2 = 5) (hF : F_C_apartBySteps p1 p2 h = some (r, h')) : CON 2 yX0_apartBySteps cX0_apartBySteps 7 (Option.some Jvm.ClassFile.FieldType.int) [vR 49, vR p1, vR p2] h (some (vI r)) h' := by
  refine con_of (own := RX0) (fl := flX0) (by decide +kernel) rfl flok_X0 rfl (Nat.le_of_ble_eq_true rfl) ?_
  intro K hK hR
  show K 0 [(0, vR 49), (1, vR p1), (2, vR p2)] [] h
  unfold F_C_apartBySteps at hF
  refine g_seg hK [.aload_n 1] 0 1 (L1 := [(0, vR 49), (1, vR p1), (2, vR p2)]) (st1 := [vR p1]) (h1 := h) (P := True ∧ True) (by decide +kernel) rfl rfl ⟨trivial, trivial⟩ ?_
  refine g_callV1 hK 1 26 (d1 := 0) (ci := 3) (i := p1) (vs := []) (rest := []) (h1 := h) (r := vI (F_Ro_size p1 h)) my_yX3_size vw_X0_26 (by decide) (T_Ro_size (o := p1) (h := h) (ko := kp1) (hF := rfl)) kp1 rfl rfl (Nat.le_of_ble_eq_true rfl) (by decide +kernel) ?_
  refine g_seg hK [.aload_n 2] 4 5 (L1 := [(0, vR 49), (1, vR p1), (2, vR p2)]) (st1 := [vR p2, vI (F_Ro_size p1 h)]) (h1 := h) (P := True ∧ True) (by decide +kernel) rfl rfl ⟨trivial, trivial⟩ ?_
  refine g_callV1 hK 5 26 (d1 := 0) (ci := 3) (i := p2) (vs := []) (rest := [vI (F_Ro_size p1 h)]) (h1 := h) (r := vI (F_Ro_size p2 h)) my_yX3_size vw_X0_26 (by decide) (T_Ro_size (o := p2) (h := h) (ko := kp2) (hF := rfl)) kp2 rfl rfl (Nat.le_of_ble_eq_true rfl) (by decide +kernel) ?_
  refine g_seg hK [.iadd, .istore_n 3, .aload_n 0, .getfield 20, .bipush 59] 8 16 (L1 := [(3, vI (wr ((F_Ro_size p1 h) + (F_Ro_size p2 h)))), (0, vR 49), (1, vR p1), (2, vR p2)]) (st1 := [vI 59, vR 52]) (h1 := h) (P := True ∧ True ∧ True ∧ kd 49 = 2 ∧ True ∧ True) (by decide +kernel) rfl rfl ⟨trivial, trivial, trivial, rfl, trivial, trivial⟩ ?_
  obtain ⟨h1, e2, hF⟩ := ob1_elim hF
  refine g_callV0 hK 16 23 (d1 := 1) (ci := 3) (i := 52) (vs := [vI 59]) (rest := []) (h1 := h1) my_yX3_becomeZeros vw_X0_23 (by decide) (T_Ro_becomeZeros (o := 52) (p1 := 59) (h := h) (ko := rfl) (hF := e2)) rfl rfl rfl (Nat.le_of_ble_eq_true rfl) (by decide +kernel) ?_
  refine g_seg hK [.iconst 0, .istore 4] 19 22 (L1 := [(4, vI 0), (3, vI (wr ((F_Ro_size p1 h) + (F_Ro_size p2 h)))), (0, vR 49), (1, vR p1), (2, vR p2)]) (st1 := []) (h1 := h1) (P := True ∧ True ∧ True) (by decide +kernel) rfl rfl ⟨trivial, trivial, trivial⟩ ?_
  refine hK.2.1 _ _ ([(0, vR 49), (1, vR p1), (2, vR p2), (3, vI (wr ((F_Ro_size p1 h) + (F_Ro_size p2 h)))), (4, vI 0)]) _ _ (sub_of [2, 3, 4, 1, 0] rfl) ?_
  obtain ⟨out7, e5, hr8, hx9⟩ := os_elim hF
  refine LT_C_apartBySteps_L22 hK hR (kx1 := kp1) (kx2 := kp2) _ _ _ out7 e5 ?_ ?_
  · intro a ha
    have hF := hr8 a ha
    cases hF
    exact ⟨rfl, rfl⟩
  · intro q6 hq
    have hF := hx9 q6 hq
    refine g_seg hK [.iload_n 3] 107 108 (L1 := [(0, vR 49), (1, vR p1), (2, vR p2), (3, vI (wr ((F_Ro_size p1 h) + (F_Ro_size p2 h)))), (4, vI q6.1)]) (st1 := [vI (wr ((F_Ro_size p1 h) + (F_Ro_size p2 h)))]) (h1 := q6.2) (P := True ∧ True) (by decide +kernel) rfl rfl ⟨trivial, trivial⟩ ?_
    cases hF
    exact hR.1 108 _ _ _ (by decide +kernel) rfl ⟨rfl, rfl⟩
set_option maxHeartbeats 4000000 in
set_option maxRecDepth 100000 in
theorem T_X_distance {p1 : Int} {h : MH} {r : Int} {h' : MH} (hF : F_X_distance p1 h = some (r, h')) : CON 6 yX6_distance cX6_distance 2 (Option.some Jvm.ClassFile.FieldType.int) [vR 0, vI p1] h (some (vI r)) h' := by
  refine con_of (own := RX6) (fl := flX6) (by decide +kernel) rfl flok_X6 rfl (Nat.le_of_ble_eq_true rfl) ?_
  intro K hK hR
  show K 0 [(0, vR 0), (1, vI p1)] [] h
  unfold F_X_distance at hF
  refine g_seg hK [.iload_n 1] 0 1 (L1 := [(0, vR 0), (1, vI p1)]) (st1 := [vI p1]) (h1 := h) (P := True ∧ True) (by decide +kernel) rfl rfl ⟨trivial, trivial⟩ ?_
  refine g_ifz hK 1 .ne (8) 9 (t1 := 4) (t2 := 9) (by decide +kernel) (by decide) rfl rfl (fun (hc1 : p1 = 0) => ?_) (fun (hc1 : ¬ (p1 = 0)) => ?_)
  · have hF := ite_t hc1 hF
    refine g_seg hK [.aload_n 0] 4 5 (L1 := [(0, vR 0), (1, vI p1)]) (st1 := [vR 0]) (h1 := h) (P := True ∧ True) (by decide +kernel) rfl rfl ⟨trivial, trivial⟩ ?_
    obtain ⟨r2, h3, e4, hF⟩ := ob2_elim hF
    refine g_callV1 hK 5 109 (d1 := 5) (ci := 6) (i := 0) (vs := []) (rest := []) (h1 := h3) (r := vI r2) my_yX6_distanceNow vw_X6_109 (by decide) (T_X_distanceNow (h := h) (hF := e4)) rfl rfl rfl (Nat.le_of_ble_eq_true rfl) (by decide +kernel) ?_
    cases hF
    exact hR.1 8 _ _ _ (by decide +kernel) rfl ⟨rfl, rfl⟩
  · have hF := ite_f hc1 hF
    refine g_seg hK [.iload_n 1, .iconst 1] 9 11 (L1 := [(0, vR 0), (1, vI p1)]) (st1 := [vI 1, vI p1]) (h1 := h) (P := True ∧ True ∧ True) (by decide +kernel) rfl rfl ⟨trivial, trivial, trivial⟩ ?_
    refine g_icmp hK 11 .ne (27) 38 (t1 := 14) (t2 := 38) (by decide +kernel) (by decide) rfl rfl (fun (hc5 : p1 = 1) => ?_) (fun (hc5 : ¬ (p1 = 1)) => ?_)
    · have hF := ite_t hc5 hF
      refine g_seg hK [.aload_n 0, .getfield 45, .aload_n 0, .getfield 21, .iconst 0] 14 23 (L1 := [(0, vR 0), (1, vI p1)]) (st1 := [vI 0, vR 3, vR 49]) (h1 := h) (P := True ∧ kd 0 = 8 ∧ True ∧ kd 0 = 8 ∧ True ∧ True) (by decide +kernel) rfl rfl ⟨trivial, rfl, trivial, rfl, trivial, trivial⟩ ?_
      refine g_callV1 hK 23 88 (d1 := 0) (ci := 4) (i := 3) (vs := [vI 0]) (rest := [vR 49]) (h1 := h) (r := vR (F_St_text 3 0)) my_yX4_text vw_X6_88 (by decide) (T_St_text (o := 3) (p1 := 0) (h := h) (ks := rfl) (hF := rfl)) rfl rfl rfl (Nat.le_of_ble_eq_true rfl) (by decide +kernel) ?_
      refine g_seg hK [.aload_n 0, .getfield 21, .iconst 1] 26 31 (L1 := [(0, vR 0), (1, vI p1)]) (st1 := [vI 1, vR 3, vR (F_St_text 3 0), vR 49]) (h1 := h) (P := True ∧ kd 0 = 8 ∧ True ∧ True) (by decide +kernel) rfl rfl ⟨trivial, rfl, trivial, trivial⟩ ?_
      refine g_callV1 hK 31 88 (d1 := 0) (ci := 4) (i := 3) (vs := [vI 1]) (rest := [vR (F_St_text 3 0), vR 49]) (h1 := h) (r := vR (F_St_text 3 1)) my_yX4_text vw_X6_88 (by decide) (T_St_text (o := 3) (p1 := 1) (h := h) (ks := rfl) (hF := rfl)) rfl rfl rfl (Nat.le_of_ble_eq_true rfl) (by decide +kernel) ?_
      obtain ⟨r6, h7, e8, hF⟩ := ob2_elim hF
      refine g_callV1 hK 34 144 (d1 := 2) (ci := 0) (i := 49) (vs := [vR (F_St_text 3 0), vR (F_St_text 3 1)]) (rest := []) (h1 := h7) (r := vI r6) my_yX0_apartBySteps vw_X6_144 (by decide) (T_C_apartBySteps (p1 := (F_St_text 3 0)) (p2 := (F_St_text 3 1)) (h := h) (kp1 := (kd_St_text rfl)) (kp2 := (kd_St_text rfl)) (hF := e8)) rfl rfl rfl (Nat.le_of_ble_eq_true rfl) (by decide +kernel) ?_
      cases hF
      exact hR.1 37 _ _ _ (by decide +kernel) rfl ⟨rfl, rfl⟩
    · have hF := ite_f hc5 hF
      refine g_seg hK [.iconst (-1)] 38 39 (L1 := [(0, vR 0), (1, vI p1)]) (st1 := [vI (-1)]) (h1 := h) (P := True ∧ True) (by decide +kernel) rfl rfl ⟨trivial, trivial⟩ ?_
      cases hF
      exact hR.1 39 _ _ _ (by decide +kernel) rfl ⟨rfl, rfl⟩
set_option maxHeartbeats 4000000 in
set_option maxRecDepth 100000 in
theorem LT_V_hunkOf_L2 {K : KT} (hK : Rules RX5 cX5_hunkOf 3 (Option.some Jvm.ClassFile.FieldType.int) flX5 2 K) {Post : Option MV → MH → Prop} (hR : R_ret cX5_hunkOf (Option.some Jvm.ClassFile.FieldType.int) Post K) {x1 : Int} {h : MH} : ∀ (n : Nat) (x2 : Int) (out : Sum (Int) (Int)), F_V_hunkOf_L2 x1 h n x2 = some out → (∀ a : Int, out = Sum.inl a → Post (some (vI a)) h) → (∀ q : Int, out = Sum.inr q → K 36 [(0, vR 54), (1, vI x1), (2, vI q)] [] h) → K 2 [(0, vR 54), (1, vI x1), (2, vI x2)] [] h := by
  intro n
  induction n with
  | zero =>
    intro x2 out hF
    cases hF
  | succ n ih =>
    intro x2 out hF hRet hE
    unfold F_V_hunkOf_L2 at hF
    refine g_seg hK [.iload_n 2, .aload_n 0] 2 4 (L1 := [(0, vR 54), (1, vI x1), (2, vI x2)]) (st1 := [vR 54, vI x2]) (h1 := h) (P := True ∧ True ∧ True) (by decide +kernel) rfl rfl ⟨trivial, trivial, trivial⟩ ?_
    refine g_callV1 hK 4 64 (d1 := 1) (ci := 5) (i := 54) (vs := []) (rest := [vI x2]) (h1 := h) (r := vI (F_V_hunks h)) my_yX5_hunks vw_X5_64 (by decide) (T_V_hunks (h := h) (hF := rfl)) rfl rfl rfl (Nat.le_of_ble_eq_true rfl) (by decide +kernel) ?_
    refine g_icmp hK 7 .ge (29) 36 (t1 := 10) (t2 := 36) (by decide +kernel) (by decide) rfl rfl (fun (hc1 : x2 < F_V_hunks h) => ?_) (fun (hc1 : ¬ (x2 < F_V_hunks h)) => ?_)
    · have hF := ite_t hc1 hF
      refine g_seg hK [.aload_n 0, .iload_n 2] 10 12 (L1 := [(0, vR 54), (1, vI x1), (2, vI x2)]) (st1 := [vI x2, vR 54]) (h1 := h) (P := True ∧ True ∧ True) (by decide +kernel) rfl rfl ⟨trivial, trivial, trivial⟩ ?_
      refine g_callV1 hK 12 81 (d1 := 1) (ci := 5) (i := 54) (vs := [vI x2]) (rest := []) (h1 := h) (r := vI (F_V_top x2 h)) my_yX5_top vw_X5_81 (by decide) (T_V_top (p1 := x2) (h := h) (hF := rfl)) rfl rfl rfl (Nat.le_of_ble_eq_true rfl) (by decide +kernel) ?_
      refine g_seg hK [.iload_n 1] 15 16 (L1 := [(0, vR 54), (1, vI x1), (2, vI x2)]) (st1 := [vI x1, vI (F_V_top x2 h)]) (h1 := h) (P := True ∧ True) (by decide +kernel) rfl rfl ⟨trivial, trivial⟩ ?_
      obtain ⟨kj3, e4, hF⟩ := jk1_elim hF
      have j3 : ∀ (u2 : Unit), kj3 u2 = some out → K 30 [(0, vR 54), (1, vI x1), (2, vI x2)] [] h := by
        intro u2 hF
        have hF := (e4 u2).symm.trans hF
        refine g_seg hK [.iinc 2 1] 30 33 (L1 := [(2, vI (wr (x2 + 1))), (0, vR 54), (1, vI x1)]) (st1 := []) (h1 := h) (P := True ∧ True) (by decide +kernel) rfl rfl ⟨trivial, trivial⟩ ?_
        refine g_goto hK 33 (-31) 2 (by decide +kernel) (by decide) ?_
        refine hK.2.1 _ _ ([(0, vR 54), (1, vI x1), (2, vI (wr (x2 + 1)))]) _ _ (sub_of [1, 2, 0] rfl) ?_
        exact ih _ _ hF hRet hE
      refine g_icmp hK 16 .gt (14) 30 (t1 := 19) (t2 := 30) (by decide +kernel) (by decide) rfl rfl (fun (hc5 : F_V_top x2 h ≤ x1) => ?_) (fun (hc5 : ¬ (F_V_top x2 h ≤ x1)) => ?_)
      · have hF := ite_t hc5 hF
        refine g_seg hK [.iload_n 1, .aload_n 0, .iload_n 2] 19 22 (L1 := [(0, vR 54), (1, vI x1), (2, vI x2)]) (st1 := [vI x2, vR 54, vI x1]) (h1 := h) (P := True ∧ True ∧ True ∧ True) (by decide +kernel) rfl rfl ⟨trivial, trivial, trivial, trivial⟩ ?_
        refine g_callV1 hK 22 84 (d1 := 1) (ci := 5) (i := 54) (vs := [vI x2]) (rest := [vI x1]) (h1 := h) (r := vI (F_V_end x2 h)) my_yX5_end vw_X5_84 (by decide) (T_V_end (p1 := x2) (h := h) (hF := rfl)) rfl rfl rfl (Nat.le_of_ble_eq_true rfl) (by decide +kernel) ?_
        refine g_icmp hK 25 .ge (5) 30 (t1 := 28) (t2 := 30) (by decide +kernel) (by decide) rfl rfl (fun (hc6 : x1 < F_V_end x2 h) => ?_) (fun (hc6 : ¬ (x1 < F_V_end x2 h)) => ?_)
        · have hF := ite_t hc6 hF
          refine g_seg hK [.iload_n 2] 28 29 (L1 := [(0, vR 54), (1, vI x1), (2, vI x2)]) (st1 := [vI x2]) (h1 := h) (P := True ∧ True) (by decide +kernel) rfl rfl ⟨trivial, trivial⟩ ?_
          cases hF
          exact hR.1 29 _ _ _ (by decide +kernel) rfl (hRet _ rfl)
        · have hF := ite_f hc6 hF
          exact j3 _ hF
      · have hF := ite_f hc5 hF
        exact j3 _ hF
    · have hF := ite_f hc1 hF
      cases hF
      exact hE _ rfl
set_option maxHeartbeats 4000000 in
set_option maxRecDepth 100000 in
theorem T_V_hunkOf {p1 : Int} {h : MH} {r : Int} (hF : F_V_hunkOf p1 h = some r) : CON 2 yX5_hunkOf cX5_hunkOf 3 (Option.some Jvm.ClassFile.FieldType.int) [vR 54, vI p1] h (some (vI r)) h := by
  refine con_of (own := RX5) (fl := flX5) (by decide +kernel) rfl flok_X5 rfl (Nat.le_of_ble_eq_true rfl) ?_
  intro K hK hR
  show K 0 [(0, vR 54), (1, vI p1)] [] h
  unfold F_V_hunkOf at hF
  refine g_seg hK [.iconst 0, .istore_n 2] 0 2 (L1 := [(2, vI 0), (0, vR 54), (1, vI p1)]) (st1 := []) (h1 := h) (P := True ∧ True ∧ True) (by decide +kernel) rfl rfl ⟨trivial, trivial, trivial⟩ ?_
  refine hK.2.1 _ _ ([(0, vR 54), (1, vI p1), (2, vI 0)]) _ _ (sub_of [1, 2, 0] rfl) ?_
  obtain ⟨out4, e2, hr5, hx6⟩ := os_elim hF
  refine LT_V_hunkOf_L2 hK hR _ _ out4 e2 ?_ ?_
  · intro a ha
    have hF := hr5 a ha
    cases hF
    exact ⟨rfl, rfl⟩
  · intro q3 hq
    have hF := hx6 q3 hq
    refine g_seg hK [.bipush (-4)] 36 38 (L1 := [(0, vR 54), (1, vI p1), (2, vI q3)]) (st1 := [vI (-4)]) (h1 := h) (P := True ∧ True) (by decide +kernel) rfl rfl ⟨trivial, trivial⟩ ?_
    cases hF
    exact hR.1 38 _ _ _ (by decide +kernel) rfl ⟨rfl, rfl⟩
set_option maxHeartbeats 4000000 in
set_option maxRecDepth 100000 in
theorem T_X_view {p1 : Int} {p2 : Int} {h : MH} {r : Int} {h' : MH} (hF : F_X_view p1 p2 h = some (r, h')) : CON 6 yX6_view cX6_view 3 (Option.some Jvm.ClassFile.FieldType.int) [vR 0, vI p1, vI p2] h (some (vI r)) h' := by
  refine con_of (own := RX6) (fl := flX6) (by decide +kernel) rfl flok_X6 rfl (Nat.le_of_ble_eq_true rfl) ?_
  intro K hK hR
  show K 0 [(0, vR 0), (1, vI p1), (2, vI p2)] [] h
  unfold F_X_view at hF
  refine g_seg hK [.iload_n 1] 0 1 (L1 := [(0, vR 0), (1, vI p1), (2, vI p2)]) (st1 := [vI p1]) (h1 := h) (P := True ∧ True) (by decide +kernel) rfl rfl ⟨trivial, trivial⟩ ?_
  refine g_ifz hK 1 .lt (12) 13 (t1 := 13) (t2 := 4) (by decide +kernel) (by decide) rfl rfl (fun (hc1 : p1 < 0) => ?_) (fun (hc1 : ¬ (p1 < 0)) => ?_)
  · have hF := ite_t hc1 hF
    refine g_seg hK [.iconst (-1)] 13 14 (L1 := [(0, vR 0), (1, vI p1), (2, vI p2)]) (st1 := [vI (-1)]) (h1 := h) (P := True ∧ True) (by decide +kernel) rfl rfl ⟨trivial, trivial⟩ ?_
    cases hF
    exact hR.1 14 _ _ _ (by decide +kernel) rfl ⟨rfl, rfl⟩
  · have hF := ite_f hc1 hF
    refine g_seg hK [.iload_n 2] 4 5 (L1 := [(0, vR 0), (1, vI p1), (2, vI p2)]) (st1 := [vI p2]) (h1 := h) (P := True ∧ True) (by decide +kernel) rfl rfl ⟨trivial, trivial⟩ ?_
    refine g_ifz hK 5 .lt (8) 13 (t1 := 13) (t2 := 8) (by decide +kernel) (by decide) rfl rfl (fun (hc2 : p2 < 0) => ?_) (fun (hc2 : ¬ (p2 < 0)) => ?_)
    · have hF := ite_t hc2 hF
      refine g_seg hK [.iconst (-1)] 13 14 (L1 := [(0, vR 0), (1, vI p1), (2, vI p2)]) (st1 := [vI (-1)]) (h1 := h) (P := True ∧ True) (by decide +kernel) rfl rfl ⟨trivial, trivial⟩ ?_
      cases hF
      exact hR.1 14 _ _ _ (by decide +kernel) rfl ⟨rfl, rfl⟩
    · have hF := ite_f hc2 hF
      refine g_seg hK [.iload_n 2, .iconst 4] 8 10 (L1 := [(0, vR 0), (1, vI p1), (2, vI p2)]) (st1 := [vI 4, vI p2]) (h1 := h) (P := True ∧ True ∧ True) (by decide +kernel) rfl rfl ⟨trivial, trivial, trivial⟩ ?_
      refine g_icmp hK 10 .le (5) 15 (t1 := 15) (t2 := 13) (by decide +kernel) (by decide) rfl rfl (fun (hc3 : p2 ≤ 4) => ?_) (fun (hc3 : ¬ (p2 ≤ 4)) => ?_)
      · have hF := ite_t hc3 hF
        refine g_seg hK [.aload_n 0] 15 16 (L1 := [(0, vR 0), (1, vI p1), (2, vI p2)]) (st1 := [vR 0]) (h1 := h) (P := True ∧ True) (by decide +kernel) rfl rfl ⟨trivial, trivial⟩ ?_
        obtain ⟨h4, e5, hF⟩ := ob1_elim hF
        refine g_callV0 hK 16 118 (d1 := 5) (ci := 6) (i := 0) (vs := []) (rest := []) (h1 := h4) my_yX6_show vw_X6_118 (by decide) (T_X_show (h := h) (hF := e5)) rfl rfl rfl (Nat.le_of_ble_eq_true rfl) (by decide +kernel) ?_
        refine g_seg hK [.iload_n 1, .aload_n 0, .getfield 52] 19 24 (L1 := [(0, vR 0), (1, vI p1), (2, vI p2)]) (st1 := [vR 54, vI p1]) (h1 := h4) (P := True ∧ True ∧ kd 0 = 8 ∧ True) (by decide +kernel) rfl rfl ⟨trivial, trivial, rfl, trivial⟩ ?_
        refine g_callV1 hK 24 148 (d1 := 1) (ci := 5) (i := 54) (vs := []) (rest := [vI p1]) (h1 := h4) (r := vI (F_V_size h4)) my_yX5_size vw_X6_148 (by decide) (T_V_size (h := h4) (hF := rfl)) rfl rfl rfl (Nat.le_of_ble_eq_true rfl) (by decide +kernel) ?_
        refine g_icmp hK 27 .lt (6) 33 (t1 := 33) (t2 := 30) (by decide +kernel) (by decide) rfl rfl (fun (hc6 : p1 < F_V_size h4) => ?_) (fun (hc6 : ¬ (p1 < F_V_size h4)) => ?_)
        · have hF := ite_t hc6 hF
          refine g_seg hK [.iload_n 2] 33 34 (L1 := [(0, vR 0), (1, vI p1), (2, vI p2)]) (st1 := [vI p2]) (h1 := h4) (P := True ∧ True) (by decide +kernel) rfl rfl ⟨trivial, trivial⟩ ?_
          refine g_sw hK 34 100 0 3 #[30, 39, 48, 74] 30 (by decide +kernel) (by decide) ?_
          by_cases hc7 : p2 = 0
          · have hF := ite_t hc7 hF
            rw [show swT 34 100 0 3 [30, 39, 48, 74] p2 = 64 from by rw [hc7]; decide]
            refine g_seg hK [.aload_n 0, .getfield 52, .iload_n 1] 64 69 (L1 := [(0, vR 0), (1, vI p1), (2, vI p2)]) (st1 := [vI p1, vR 54]) (h1 := h4) (P := True ∧ kd 0 = 8 ∧ True ∧ True) (by decide +kernel) rfl rfl ⟨trivial, rfl, trivial, trivial⟩ ?_
            refine g_callV1 hK 69 149 (d1 := 1) (ci := 5) (i := 54) (vs := [vI p1]) (rest := []) (h1 := h4) (r := vI (F_V_kind p1 h4)) my_yX5_kind vw_X6_149 (by decide) (T_V_kind (p1 := p1) (h := h4) (hF := rfl)) rfl rfl rfl (Nat.le_of_ble_eq_true rfl) (by decide +kernel) ?_
            cases hF
            exact hR.1 72 _ _ _ (by decide +kernel) rfl ⟨rfl, rfl⟩
          · have hF := ite_f hc7 hF
            by_cases hc8 : p2 = 1
            · have hF := ite_t hc8 hF
              rw [show swT 34 100 0 3 [30, 39, 48, 74] p2 = 73 from by rw [hc8]; decide]
              refine g_seg hK [.aload_n 0, .getfield 52, .iload_n 1] 73 78 (L1 := [(0, vR 0), (1, vI p1), (2, vI p2)]) (st1 := [vI p1, vR 54]) (h1 := h4) (P := True ∧ kd 0 = 8 ∧ True ∧ True) (by decide +kernel) rfl rfl ⟨trivial, rfl, trivial, trivial⟩ ?_
              refine g_callV1 hK 78 152 (d1 := 1) (ci := 5) (i := 54) (vs := [vI p1]) (rest := []) (h1 := h4) (r := vI (F_V_sign p1 h4)) my_yX5_sign vw_X6_152 (by decide) (T_V_sign (p1 := p1) (h := h4) (hF := rfl)) rfl rfl rfl (Nat.le_of_ble_eq_true rfl) (by decide +kernel) ?_
              cases hF
              exact hR.1 81 _ _ _ (by decide +kernel) rfl ⟨rfl, rfl⟩
            · have hF := ite_f hc8 hF
              by_cases hc9 : p2 = 2
              · have hF := ite_t hc9 hF
                rw [show swT 34 100 0 3 [30, 39, 48, 74] p2 = 82 from by rw [hc9]; decide]
                refine g_seg hK [.aload_n 0, .getfield 52, .iload_n 1] 82 87 (L1 := [(0, vR 0), (1, vI p1), (2, vI p2)]) (st1 := [vI p1, vR 54]) (h1 := h4) (P := True ∧ kd 0 = 8 ∧ True ∧ True) (by decide +kernel) rfl rfl ⟨trivial, rfl, trivial, trivial⟩ ?_
                refine g_callV1 hK 87 149 (d1 := 1) (ci := 5) (i := 54) (vs := [vI p1]) (rest := []) (h1 := h4) (r := vI (F_V_kind p1 h4)) my_yX5_kind vw_X6_149 (by decide) (T_V_kind (p1 := p1) (h := h4) (hF := rfl)) rfl rfl rfl (Nat.le_of_ble_eq_true rfl) (by decide +kernel) ?_
                refine g_seg hK [.iconst 2] 90 91 (L1 := [(0, vR 0), (1, vI p1), (2, vI p2)]) (st1 := [vI 2, vI (F_V_kind p1 h4)]) (h1 := h4) (P := True ∧ True) (by decide +kernel) rfl rfl ⟨trivial, trivial⟩ ?_
                refine g_icmp hK 91 .ne (8) 99 (t1 := 94) (t2 := 99) (by decide +kernel) (by decide) rfl rfl (fun (hc10 : F_V_kind p1 h4 = 2) => ?_) (fun (hc10 : ¬ (F_V_kind p1 h4 = 2)) => ?_)
                · have hF := ite_t hc10 hF
                  refine g_seg hK [.bipush (-4)] 94 96 (L1 := [(0, vR 0), (1, vI p1), (2, vI p2)]) (st1 := [vI (-4)]) (h1 := h4) (P := True ∧ True) (by decide +kernel) rfl rfl ⟨trivial, trivial⟩ ?_
                  refine g_goto hK 96 (11) 107 (by decide +kernel) (by decide) ?_
                  cases hF
                  exact hR.1 107 _ _ _ (by decide +kernel) rfl ⟨rfl, rfl⟩
                · have hF := ite_f hc10 hF
                  refine g_seg hK [.aload_n 0, .getfield 52, .iload_n 1] 99 104 (L1 := [(0, vR 0), (1, vI p1), (2, vI p2)]) (st1 := [vI p1, vR 54]) (h1 := h4) (P := True ∧ kd 0 = 8 ∧ True ∧ True) (by decide +kernel) rfl rfl ⟨trivial, rfl, trivial, trivial⟩ ?_
                  obtain ⟨r11, e12, hF⟩ := ob1_elim hF
                  refine g_callV1 hK 104 155 (d1 := 2) (ci := 5) (i := 54) (vs := [vI p1]) (rest := []) (h1 := h4) (r := vI r11) my_yX5_oldAhead vw_X6_155 (by decide) (T_V_oldAhead (p1 := p1) (h := h4) (hF := e12)) rfl rfl rfl (Nat.le_of_ble_eq_true rfl) (by decide +kernel) ?_
                  cases hF
                  exact hR.1 107 _ _ _ (by decide +kernel) rfl ⟨rfl, rfl⟩
              · have hF := ite_f hc9 hF
                by_cases hc13 : p2 = 3
                · have hF := ite_t hc13 hF
                  rw [show swT 34 100 0 3 [30, 39, 48, 74] p2 = 108 from by rw [hc13]; decide]
                  refine g_seg hK [.aload_n 0, .getfield 52, .iload_n 1] 108 113 (L1 := [(0, vR 0), (1, vI p1), (2, vI p2)]) (st1 := [vI p1, vR 54]) (h1 := h4) (P := True ∧ kd 0 = 8 ∧ True ∧ True) (by decide +kernel) rfl rfl ⟨trivial, rfl, trivial, trivial⟩ ?_
                  refine g_callV1 hK 113 149 (d1 := 1) (ci := 5) (i := 54) (vs := [vI p1]) (rest := []) (h1 := h4) (r := vI (F_V_kind p1 h4)) my_yX5_kind vw_X6_149 (by decide) (T_V_kind (p1 := p1) (h := h4) (hF := rfl)) rfl rfl rfl (Nat.le_of_ble_eq_true rfl) (by decide +kernel) ?_
                  refine g_seg hK [.iconst 1] 116 117 (L1 := [(0, vR 0), (1, vI p1), (2, vI p2)]) (st1 := [vI 1, vI (F_V_kind p1 h4)]) (h1 := h4) (P := True ∧ True) (by decide +kernel) rfl rfl ⟨trivial, trivial⟩ ?_
                  refine g_icmp hK 117 .ne (8) 125 (t1 := 120) (t2 := 125) (by decide +kernel) (by decide) rfl rfl (fun (hc14 : F_V_kind p1 h4 = 1) => ?_) (fun (hc14 : ¬ (F_V_kind p1 h4 = 1)) => ?_)
                  · have hF := ite_t hc14 hF
                    refine g_seg hK [.bipush (-4)] 120 122 (L1 := [(0, vR 0), (1, vI p1), (2, vI p2)]) (st1 := [vI (-4)]) (h1 := h4) (P := True ∧ True) (by decide +kernel) rfl rfl ⟨trivial, trivial⟩ ?_
                    refine g_goto hK 122 (11) 133 (by decide +kernel) (by decide) ?_
                    cases hF
                    exact hR.1 133 _ _ _ (by decide +kernel) rfl ⟨rfl, rfl⟩
                  · have hF := ite_f hc14 hF
                    refine g_seg hK [.aload_n 0, .getfield 52, .iload_n 1] 125 130 (L1 := [(0, vR 0), (1, vI p1), (2, vI p2)]) (st1 := [vI p1, vR 54]) (h1 := h4) (P := True ∧ kd 0 = 8 ∧ True ∧ True) (by decide +kernel) rfl rfl ⟨trivial, rfl, trivial, trivial⟩ ?_
                    obtain ⟨r15, e16, hF⟩ := ob1_elim hF
                    refine g_callV1 hK 130 158 (d1 := 2) (ci := 5) (i := 54) (vs := [vI p1]) (rest := []) (h1 := h4) (r := vI r15) my_yX5_newAhead vw_X6_158 (by decide) (T_V_newAhead (p1 := p1) (h := h4) (hF := e16)) rfl rfl rfl (Nat.le_of_ble_eq_true rfl) (by decide +kernel) ?_
                    cases hF
                    exact hR.1 133 _ _ _ (by decide +kernel) rfl ⟨rfl, rfl⟩
                · have hF := ite_f hc13 hF
                  rw [show swT 34 100 0 3 [30, 39, 48, 74] p2 = 134 from by unfold swT; rw [if_pos (by omega)]; decide]
                  refine g_seg hK [.aload_n 0, .getfield 52, .iload_n 1] 134 139 (L1 := [(0, vR 0), (1, vI p1), (2, vI p2)]) (st1 := [vI p1, vR 54]) (h1 := h4) (P := True ∧ kd 0 = 8 ∧ True ∧ True) (by decide +kernel) rfl rfl ⟨trivial, rfl, trivial, trivial⟩ ?_
                  obtain ⟨r17, e18, hF⟩ := ob1_elim hF
                  refine g_callV1 hK 139 161 (d1 := 2) (ci := 5) (i := 54) (vs := [vI p1]) (rest := []) (h1 := h4) (r := vI r17) my_yX5_hunkOf vw_X6_161 (by decide) (T_V_hunkOf (p1 := p1) (h := h4) (hF := e18)) rfl rfl rfl (Nat.le_of_ble_eq_true rfl) (by decide +kernel) ?_
                  cases hF
                  exact hR.1 142 _ _ _ (by decide +kernel) rfl ⟨rfl, rfl⟩
        · have hF := ite_f hc6 hF
          refine g_seg hK [.bipush (-4)] 30 32 (L1 := [(0, vR 0), (1, vI p1), (2, vI p2)]) (st1 := [vI (-4)]) (h1 := h4) (P := True ∧ True) (by decide +kernel) rfl rfl ⟨trivial, trivial⟩ ?_
          cases hF
          exact hR.1 32 _ _ _ (by decide +kernel) rfl ⟨rfl, rfl⟩
      · have hF := ite_f hc3 hF
        refine g_seg hK [.iconst (-1)] 13 14 (L1 := [(0, vR 0), (1, vI p1), (2, vI p2)]) (st1 := [vI (-1)]) (h1 := h) (P := True ∧ True) (by decide +kernel) rfl rfl ⟨trivial, trivial⟩ ?_
        cases hF
        exact hR.1 14 _ _ _ (by decide +kernel) rfl ⟨rfl, rfl⟩
set_option maxHeartbeats 4000000 in
set_option maxRecDepth 100000 in
theorem T_V_worth {p1 : Int} {h : MH} {r : Int} (hF : F_V_worth p1 h = r) : CON 2 yX5_worth cX5_worth 2 (Option.some Jvm.ClassFile.FieldType.int) [vR 54, vI p1] h (some (vI r)) h := by
  refine con_of (own := RX5) (fl := flX5) (by decide +kernel) rfl flok_X5 rfl (Nat.le_of_ble_eq_true rfl) ?_
  intro K hK hR
  show K 0 [(0, vR 54), (1, vI p1)] [] h
  unfold F_V_worth at hF
  refine g_seg hK [.aload_n 0, .aload_n 0, .iload_n 1] 0 3 (L1 := [(0, vR 54), (1, vI p1)]) (st1 := [vI p1, vR 54, vR 54]) (h1 := h) (P := True ∧ True ∧ True ∧ True) (by decide +kernel) rfl rfl ⟨trivial, trivial, trivial, trivial⟩ ?_
  refine g_callV1 hK 3 81 (d1 := 1) (ci := 5) (i := 54) (vs := [vI p1]) (rest := [vR 54]) (h1 := h) (r := vI (F_V_top p1 h)) my_yX5_top vw_X5_81 (by decide) (T_V_top (p1 := p1) (h := h) (hF := rfl)) rfl rfl rfl (Nat.le_of_ble_eq_true rfl) (by decide +kernel) ?_
  refine g_seg hK [.aload_n 0, .iload_n 1] 6 8 (L1 := [(0, vR 54), (1, vI p1)]) (st1 := [vI p1, vR 54, vI (F_V_top p1 h), vR 54]) (h1 := h) (P := True ∧ True ∧ True) (by decide +kernel) rfl rfl ⟨trivial, trivial, trivial⟩ ?_
  refine g_callV1 hK 8 84 (d1 := 1) (ci := 5) (i := 54) (vs := [vI p1]) (rest := [vI (F_V_top p1 h), vR 54]) (h1 := h) (r := vI (F_V_end p1 h)) my_yX5_end vw_X5_84 (by decide) (T_V_end (p1 := p1) (h := h) (hF := rfl)) rfl rfl rfl (Nat.le_of_ble_eq_true rfl) (by decide +kernel) ?_
  refine g_callV1 hK 11 94 (d1 := 1) (ci := 5) (i := 54) (vs := [vI (F_V_top p1 h), vI (F_V_end p1 h)]) (rest := []) (h1 := h) (r := vI (F_V_worthAt (F_V_top p1 h) (F_V_end p1 h) h)) my_yX5_worthAt vw_X5_94 (by decide) (T_V_worthAt (p1 := (F_V_top p1 h)) (p2 := (F_V_end p1 h)) (h := h) (hF := rfl)) rfl rfl rfl (Nat.le_of_ble_eq_true rfl) (by decide +kernel) ?_
  cases hF
  exact hR.1 14 _ _ _ (by decide +kernel) rfl ⟨rfl, rfl⟩
set_option maxHeartbeats 4000000 in
set_option maxRecDepth 100000 in
theorem T_V_greatestWorth {p1 : Int} {h : MH} {r : Int} (hF : F_V_greatestWorth p1 h = some r) : CON 4 yX5_greatestWorth cX5_greatestWorth 3 (Option.some Jvm.ClassFile.FieldType.int) [vR 54, vI p1] h (some (vI r)) h := by
  refine con_of (own := RX5) (fl := flX5) (by decide +kernel) rfl flok_X5 rfl (Nat.le_of_ble_eq_true rfl) ?_
  intro K hK hR
  show K 0 [(0, vR 54), (1, vI p1)] [] h
  unfold F_V_greatestWorth at hF
  refine g_seg hK [.aload_n 0, .iload_n 1] 0 2 (L1 := [(0, vR 54), (1, vI p1)]) (st1 := [vI p1, vR 54]) (h1 := h) (P := True ∧ True ∧ True) (by decide +kernel) rfl rfl ⟨trivial, trivial, trivial⟩ ?_
  obtain ⟨r1, e2, hF⟩ := ob1_elim hF
  refine g_callV1 hK 2 74 (d1 := 3) (ci := 5) (i := 54) (vs := [vI p1]) (rest := []) (h1 := h) (r := vI r1) my_yX5_bestTop vw_X5_74 (by decide) (T_V_bestTop (p1 := p1) (h := h) (hF := e2)) rfl rfl rfl (Nat.le_of_ble_eq_true rfl) (by decide +kernel) ?_
  refine g_seg hK [.istore_n 2, .aload_n 0, .iload_n 2, .iload_n 2, .aload_n 0, .iload_n 1] 5 11 (L1 := [(2, vI r1), (0, vR 54), (1, vI p1)]) (st1 := [vI p1, vR 54, vI r1, vI r1, vR 54]) (h1 := h) (P := True ∧ True ∧ True ∧ True ∧ True ∧ True ∧ True) (by decide +kernel) rfl rfl ⟨trivial, trivial, trivial, trivial, trivial, trivial, trivial⟩ ?_
  refine g_callV1 hK 11 84 (d1 := 1) (ci := 5) (i := 54) (vs := [vI p1]) (rest := [vI r1, vI r1, vR 54]) (h1 := h) (r := vI (F_V_end p1 h)) my_yX5_end vw_X5_84 (by decide) (T_V_end (p1 := p1) (h := h) (hF := rfl)) rfl rfl rfl (Nat.le_of_ble_eq_true rfl) (by decide +kernel) ?_
  refine g_seg hK [.iadd, .aload_n 0, .iload_n 1] 14 17 (L1 := [(2, vI r1), (0, vR 54), (1, vI p1)]) (st1 := [vI p1, vR 54, vI (wr (r1 + (F_V_end p1 h))), vI r1, vR 54]) (h1 := h) (P := True ∧ True ∧ True ∧ True) (by decide +kernel) rfl rfl ⟨trivial, trivial, trivial, trivial⟩ ?_
  refine g_callV1 hK 17 81 (d1 := 1) (ci := 5) (i := 54) (vs := [vI p1]) (rest := [vI (wr (r1 + (F_V_end p1 h))), vI r1, vR 54]) (h1 := h) (r := vI (F_V_top p1 h)) my_yX5_top vw_X5_81 (by decide) (T_V_top (p1 := p1) (h := h) (hF := rfl)) rfl rfl rfl (Nat.le_of_ble_eq_true rfl) (by decide +kernel) ?_
  refine g_seg hK [.isub] 20 21 (L1 := [(2, vI r1), (0, vR 54), (1, vI p1)]) (st1 := [vI (wr ((wr (r1 + (F_V_end p1 h))) - (F_V_top p1 h))), vI r1, vR 54]) (h1 := h) (P := True ∧ True) (by decide +kernel) rfl rfl ⟨trivial, trivial⟩ ?_
  refine g_callV1 hK 21 94 (d1 := 1) (ci := 5) (i := 54) (vs := [vI r1, vI (wr ((wr (r1 + (F_V_end p1 h))) - (F_V_top p1 h)))]) (rest := []) (h1 := h) (r := vI (F_V_worthAt r1 (wr ((wr (r1 + (F_V_end p1 h))) - (F_V_top p1 h))) h)) my_yX5_worthAt vw_X5_94 (by decide) (T_V_worthAt (p1 := r1) (p2 := (wr ((wr (r1 + (F_V_end p1 h))) - (F_V_top p1 h)))) (h := h) (hF := rfl)) rfl rfl rfl (Nat.le_of_ble_eq_true rfl) (by decide +kernel) ?_
  cases hF
  exact hR.1 24 _ _ _ (by decide +kernel) rfl ⟨rfl, rfl⟩

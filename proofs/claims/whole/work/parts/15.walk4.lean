set_option maxHeartbeats 4000000 in
set_option maxRecDepth 100000 in
theorem LT_V_hunkOf_L2 {K : KT} (hK : Rules RX5 cX5_hunkOf 3 (Option.some Jvm.ClassFile.FieldType.int) flX5 2 K) {Post : Option MV → MH → Prop} (hR : R_ret cX5_hunkOf (Option.some Jvm.ClassFile.FieldType.int) Post K) {x1 : Int} {h : MH} : ∀ (n : Nat) (x2 : Int) (out : Sum (Int) (Int)), F_V_hunkOf_L2 x1 h n x2 = some out → (∀ a : Int, out = Sum.inl a → Post (some (vI a)) h) → (∀ q : Int, out = Sum.inr q → K 36 [(0, vR 54), (1, vI x1), (2, vI q)] [] h) → K 2 [(0, vR 54), (1, vI x1), (2, vI x2)] [] h := by
  intro n
  induction n with
  | zero =>
    intro x2 out hF
    cases hF
  | succ n ih =>
    intro x2 out hF hRet hE
    unfold F_V_hunkOf_L2 at hF
    refine g_seg hK [.iload_n 2, .aload_n 0] 2 4 (L1 := [(0, vR 54), (1, vI x1), (2, vI x2)]) (st1 := [vR 54, vI x2]) (h1 := h) (P := True ∧ True ∧ True) (by decide +kernel) rfl rfl ⟨trivial, trivial, trivial⟩ ?_
    refine g_callV1 hK 4 64 (d1 := 1) (ci := 5) (i := 54) (vs := []) (rest := [vI x2]) (h1 := h) (r := vI (F_V_hunks h)) my_yX5_hunks vw_X5_64 (by decide) (T_V_hunks (h := h) (hF := rfl)) rfl rfl rfl (Nat.le_of_ble_eq_true rfl) (by decide +kernel) ?_
    refine g_icmp hK 7 .ge (29) 36 (t1 := 10) (t2 := 36) (by decide +kernel) (by decide) rfl rfl (fun (hc1 : x2 < F_V_hunks h) => ?_) (fun (hc1 : ¬ (x2 < F_V_hunks h)) => ?_)
    · have hF := ite_t hc1 hF
      refine g_seg hK [.aload_n 0, .iload_n 2] 10 12 (L1 := [(0, vR 54), (1, vI x1), (2, vI x2)]) (st1 := [vI x2, vR 54]) (h1 := h) (P := True ∧ True ∧ True) (by decide +kernel) rfl rfl ⟨trivial, trivial, trivial⟩ ?_
      refine g_callV1 hK 12 81 (d1 := 1) (ci := 5) (i := 54) (vs := [vI x2]) (rest := []) (h1 := h) (r := vI (F_V_top x2 h)) my_yX5_top vw_X5_81 (by decide) (T_V_top (p1 := x2) (h := h) (hF := rfl)) rfl rfl rfl (Nat.le_of_ble_eq_true rfl) (by decide +kernel) ?_
      refine g_seg hK [.iload_n 1] 15 16 (L1 := [(0, vR 54), (1, vI x1), (2, vI x2)]) (st1 := [vI x1, vI (F_V_top x2 h)]) (h1 := h) (P := True ∧ True) (by decide +kernel) rfl rfl ⟨trivial, trivial⟩ ?_
      obtain ⟨kj3, e4, hF⟩ := jk1_elim hF
      have j3 : ∀ (u2 : Unit), kj3 u2 = some out → K 30 [(0, vR 54), (1, vI x1), (2, vI x2)] [] h := by
        intro u2 hF
        have hF := (e4 u2).symm.trans hF
        refine g_seg hK [.iinc 2 1] 30 33 (L1 := [(2, vI (wr (x2 + 1))), (0, vR 54), (1, vI x1)]) (st1 := []) (h1 := h) (P := True ∧ True) (by decide +kernel) rfl rfl ⟨trivial, trivial⟩ ?_
        refine g_goto hK 33 (-31) 2 (by decide +kernel) (by decide) ?_
        refine hK.2.1 _ _ ([(0, vR 54), (1, vI x1), (2, vI (wr (x2 + 1)))]) _ _ (sub_of [1, 2, 0] rfl) ?_
        exact ih _ _ hF hRet hE
      refine g_icmp hK 16 .gt (14) 30 (t1 := 19) (t2 := 30) (by decide +kernel) (by decide) rfl rfl (fun (hc5 : F_V_top x2 h ≤ x1) => ?_) (fun (hc5 : ¬ (F_V_top x2 h ≤ x1)) => ?_)
      · have hF := ite_t hc5 hF
        refine g_seg hK [.iload_n 1, .aload_n 0, .iload_n 2] 19 22 (L1 := [(0, vR 54), (1, vI x1), (2, vI x2)]) (st1 := [vI x2, vR 54, vI x1]) (h1 := h) (P := True ∧ True ∧ True ∧ True) (by decide +kernel) rfl rfl ⟨trivial, trivial, trivial, trivial⟩ ?_
        refine g_callV1 hK 22 84 (d1 := 1) (ci := 5) (i := 54) (vs := [vI x2]) (rest := [vI x1]) (h1 := h) (r := vI (F_V_end x2 h)) my_yX5_end vw_X5_84 (by decide) (T_V_end (p1 := x2) (h := h) (hF := rfl)) rfl rfl rfl (Nat.le_of_ble_eq_true rfl) (by decide +kernel) ?_
        refine g_icmp hK 25 .ge (5) 30 (t1 := 28) (t2 := 30) (by decide +kernel) (by decide) rfl rfl (fun (hc6 : x1 < F_V_end x2 h) => ?_) (fun (hc6 : ¬ (x1 < F_V_end x2 h)) => ?_)
        · have hF := ite_t hc6 hF
          refine g_seg hK [.iload_n 2] 28 29 (L1 := [(0, vR 54), (1, vI x1), (2, vI x2)]) (st1 := [vI x2]) (h1 := h) (P := True ∧ True) (by decide +kernel) rfl rfl ⟨trivial, trivial⟩ ?_
          cases hF
          exact hR.1 29 _ _ _ (by decide +kernel) rfl (hRet _ rfl)
        · have hF := ite_f hc6 hF
          exact j3 _ hF
      · have hF := ite_f hc5 hF
        exact j3 _ hF
    · have hF := ite_f hc1 hF
      cases hF
      exact hE _ rfl
set_option maxHeartbeats 4000000 in
set_option maxRecDepth 100000 in
theorem T_V_hunkOf {p1 : Int} {h : MH} {r : Int} (hF : F_V_hunkOf p1 h = some r) : CON 2 yX5_hunkOf cX5_hunkOf 3 (Option.some Jvm.ClassFile.FieldType.int) [vR 54, vI p1] h (some (vI r)) h := by
  refine con_of (own := RX5) (fl := flX5) (by decide +kernel) rfl flok_X5 rfl (Nat.le_of_ble_eq_true rfl) ?_
  intro K hK hR
  show K 0 [(0, vR 54), (1, vI p1)] [] h
  unfold F_V_hunkOf at hF
  refine g_seg hK [.iconst 0, .istore_n 2] 0 2 (L1 := [(2, vI 0), (0, vR 54), (1, vI p1)]) (st1 := []) (h1 := h) (P := True ∧ True ∧ True) (by decide +kernel) rfl rfl ⟨trivial, trivial, trivial⟩ ?_
  refine hK.2.1 _ _ ([(0, vR 54), (1, vI p1), (2, vI 0)]) _ _ (sub_of [1, 2, 0] rfl) ?_
  obtain ⟨out4, e2, hr5, hx6⟩ := os_elim hF
  refine LT_V_hunkOf_L2 hK hR _ _ out4 e2 ?_ ?_
  · intro a ha
    have hF := hr5 a ha
    cases hF
    exact ⟨rfl, rfl⟩
  · intro q3 hq
    have hF := hx6 q3 hq
    refine g_seg hK [.bipush (-4)] 36 38 (L1 := [(0, vR 54), (1, vI p1), (2, vI q3)]) (st1 := [vI (-4)]) (h1 := h) (P := True ∧ True) (by decide +kernel) rfl rfl ⟨trivial, trivial⟩ ?_
    cases hF
    exact hR.1 38 _ _ _ (by decide +kernel) rfl ⟨rfl, rfl⟩
set_option maxHeartbeats 4000000 in
set_option maxRecDepth 100000 in
theorem T_X_view {p1 : Int} {p2 : Int} {h : MH} {r : Int} {h' : MH} (hF : F_X_view p1 p2 h = some (r, h')) : CON 6 yX6_view cX6_view 3 (Option.some Jvm.ClassFile.FieldType.int) [vR 0, vI p1, vI p2] h (some (vI r)) h' := by
  refine con_of (own := RX6) (fl := flX6) (by decide +kernel) rfl flok_X6 rfl (Nat.le_of_ble_eq_true rfl) ?_
  intro K hK hR
  show K 0 [(0, vR 0), (1, vI p1), (2, vI p2)] [] h
  unfold F_X_view at hF
  refine g_seg hK [.iload_n 1] 0 1 (L1 := [(0, vR 0), (1, vI p1), (2, vI p2)]) (st1 := [vI p1]) (h1 := h) (P := True ∧ True) (by decide +kernel) rfl rfl ⟨trivial, trivial⟩ ?_
  refine g_ifz hK 1 .lt (12) 13 (t1 := 13) (t2 := 4) (by decide +kernel) (by decide) rfl rfl (fun (hc1 : p1 < 0) => ?_) (fun (hc1 : ¬ (p1 < 0)) => ?_)
  · have hF := ite_t hc1 hF
    refine g_seg hK [.iconst (-1)] 13 14 (L1 := [(0, vR 0), (1, vI p1), (2, vI p2)]) (st1 := [vI (-1)]) (h1 := h) (P := True ∧ True) (by decide +kernel) rfl rfl ⟨trivial, trivial⟩ ?_
    cases hF
    exact hR.1 14 _ _ _ (by decide +kernel) rfl ⟨rfl, rfl⟩
  · have hF := ite_f hc1 hF
    refine g_seg hK [.iload_n 2] 4 5 (L1 := [(0, vR 0), (1, vI p1), (2, vI p2)]) (st1 := [vI p2]) (h1 := h) (P := True ∧ True) (by decide +kernel) rfl rfl ⟨trivial, trivial⟩ ?_
    refine g_ifz hK 5 .lt (8) 13 (t1 := 13) (t2 := 8) (by decide +kernel) (by decide) rfl rfl (fun (hc2 : p2 < 0) => ?_) (fun (hc2 : ¬ (p2 < 0)) => ?_)
    · have hF := ite_t hc2 hF
      refine g_seg hK [.iconst (-1)] 13 14 (L1 := [(0, vR 0), (1, vI p1), (2, vI p2)]) (st1 := [vI (-1)]) (h1 := h) (P := True ∧ True) (by decide +kernel) rfl rfl ⟨trivial, trivial⟩ ?_
      cases hF
      exact hR.1 14 _ _ _ (by decide +kernel) rfl ⟨rfl, rfl⟩
    · have hF := ite_f hc2 hF
      refine g_seg hK [.iload_n 2, .iconst 4] 8 10 (L1 := [(0, vR 0), (1, vI p1), (2, vI p2)]) (st1 := [vI 4, vI p2]) (h1 := h) (P := True ∧ True ∧ True) (by decide +kernel) rfl rfl ⟨trivial, trivial, trivial⟩ ?_
      refine g_icmp hK 10 .le (5) 15 (t1 := 15) (t2 := 13) (by decide +kernel) (by decide) rfl rfl (fun (hc3 : p2 ≤ 4) => ?_) (fun (hc3 : ¬ (p2 ≤ 4)) => ?_)
      · have hF := ite_t hc3 hF
        refine g_seg hK [.aload_n 0] 15 16 (L1 := [(0, vR 0), (1, vI p1), (2, vI p2)]) (st1 := [vR 0]) (h1 := h) (P := True ∧ True) (by decide +kernel) rfl rfl ⟨trivial, trivial⟩ ?_
        obtain ⟨h4, e5, hF⟩ := ob1_elim hF
        refine g_callV0 hK 16 118 (d1 := 5) (ci := 6) (i := 0) (vs := []) (rest := []) (h1 := h4) my_yX6_show vw_X6_118 (by decide) (T_X_show (h := h) (hF := e5)) rfl rfl rfl (Nat.le_of_ble_eq_true rfl) (by decide +kernel) ?_
        refine g_seg hK [.iload_n 1, .aload_n 0, .getfield 52] 19 24 (L1 := [(0, vR 0), (1, vI p1), (2, vI p2)]) (st1 := [vR 54, vI p1]) (h1 := h4) (P := True ∧ True ∧ kd 0 = 8 ∧ True) (by decide +kernel) rfl rfl ⟨trivial, trivial, rfl, trivial⟩ ?_
        refine g_callV1 hK 24 148 (d1 := 1) (ci := 5) (i := 54) (vs := []) (rest := [vI p1]) (h1 := h4) (r := vI (F_V_size h4)) my_yX5_size vw_X6_148 (by decide) (T_V_size (h := h4) (hF := rfl)) rfl rfl rfl (Nat.le_of_ble_eq_true rfl) (by decide +kernel) ?_
        refine g_icmp hK 27 .lt (6) 33 (t1 := 33) (t2 := 30) (by decide +kernel) (by decide) rfl rfl (fun (hc6 : p1 < F_V_size h4) => ?_) (fun (hc6 : ¬ (p1 < F_V_size h4)) => ?_)
        · have hF := ite_t hc6 hF
          refine g_seg hK [.iload_n 2] 33 34 (L1 := [(0, vR 0), (1, vI p1), (2, vI p2)]) (st1 := [vI p2]) (h1 := h4) (P := True ∧ True) (by decide +kernel) rfl rfl ⟨trivial, trivial⟩ ?_
          refine g_sw hK 34 100 0 3 #[30, 39, 48, 74] 30 (by decide +kernel) (by decide) ?_
          by_cases hc7 : p2 = 0
          · have hF := ite_t hc7 hF
            rw [show swT 34 100 0 3 [30, 39, 48, 74] p2 = 64 from by rw [hc7]; decide]
            refine g_seg hK [.aload_n 0, .getfield 52, .iload_n 1] 64 69 (L1 := [(0, vR 0), (1, vI p1), (2, vI p2)]) (st1 := [vI p1, vR 54]) (h1 := h4) (P := True ∧ kd 0 = 8 ∧ True ∧ True) (by decide +kernel) rfl rfl ⟨trivial, rfl, trivial, trivial⟩ ?_
            refine g_callV1 hK 69 149 (d1 := 1) (ci := 5) (i := 54) (vs := [vI p1]) (rest := []) (h1 := h4) (r := vI (F_V_kind p1 h4)) my_yX5_kind vw_X6_149 (by decide) (T_V_kind (p1 := p1) (h := h4) (hF := rfl)) rfl rfl rfl (Nat.le_of_ble_eq_true rfl) (by decide +kernel) ?_
            cases hF
            exact hR.1 72 _ _ _ (by decide +kernel) rfl ⟨rfl, rfl⟩
          · have hF := ite_f hc7 hF
            by_cases hc8 : p2 = 1
            · have hF := ite_t hc8 hF
              rw [show swT 34 100 0 3 [30, 39, 48, 74] p2 = 73 from by rw [hc8]; decide]
              refine g_seg hK [.aload_n 0, .getfield 52, .iload_n 1] 73 78 (L1 := [(0, vR 0), (1, vI p1), (2, vI p2)]) (st1 := [vI p1, vR 54]) (h1 := h4) (P := True ∧ kd 0 = 8 ∧ True ∧ True) (by decide +kernel) rfl rfl ⟨trivial, rfl, trivial, trivial⟩ ?_
              refine g_callV1 hK 78 152 (d1 := 1) (ci := 5) (i := 54) (vs := [vI p1]) (rest := []) (h1 := h4) (r := vI (F_V_sign p1 h4)) my_yX5_sign vw_X6_152 (by decide) (T_V_sign (p1 := p1) (h := h4) (hF := rfl)) rfl rfl rfl (Nat.le_of_ble_eq_true rfl) (by decide +kernel) ?_
              cases hF
              exact hR.1 81 _ _ _ (by decide +kernel) rfl ⟨rfl, rfl⟩
            · have hF := ite_f hc8 hF
              by_cases hc9 : p2 = 2
              · have hF := ite_t hc9 hF
                rw [show swT 34 100 0 3 [30, 39, 48, 74] p2 = 82 from by rw [hc9]; decide]
                refine g_seg hK [.aload_n 0, .getfield 52, .iload_n 1] 82 87 (L1 := [(0, vR 0), (1, vI p1), (2, vI p2)]) (st1 := [vI p1, vR 54]) (h1 := h4) (P := True ∧ kd 0 = 8 ∧ True ∧ True) (by decide +kernel) rfl rfl ⟨trivial, rfl, trivial, trivial⟩ ?_
                refine g_callV1 hK 87 149 (d1 := 1) (ci := 5) (i := 54) (vs := [vI p1]) (rest := []) (h1 := h4) (r := vI (F_V_kind p1 h4)) my_yX5_kind vw_X6_149 (by decide) (T_V_kind (p1 := p1) (h := h4) (hF := rfl)) rfl rfl rfl (Nat.le_of_ble_eq_true rfl) (by decide +kernel) ?_
                refine g_seg hK [.iconst 2] 90 91 (L1 := [(0, vR 0), (1, vI p1), (2, vI p2)]) (st1 := [vI 2, vI (F_V_kind p1 h4)]) (h1 := h4) (P := True ∧ True) (by decide +kernel) rfl rfl ⟨trivial, trivial⟩ ?_
                refine g_icmp hK 91 .ne (8) 99 (t1 := 94) (t2 := 99) (by decide +kernel) (by decide) rfl rfl (fun (hc10 : F_V_kind p1 h4 = 2) => ?_) (fun (hc10 : ¬ (F_V_kind p1 h4 = 2)) => ?_)
                · have hF := ite_t hc10 hF
                  refine g_seg hK [.bipush (-4)] 94 96 (L1 := [(0, vR 0), (1, vI p1), (2, vI p2)]) (st1 := [vI (-4)]) (h1 := h4) (P := True ∧ True) (by decide +kernel) rfl rfl ⟨trivial, trivial⟩ ?_
                  refine g_goto hK 96 (11) 107 (by decide +kernel) (by decide) ?_
                  cases hF
                  exact hR.1 107 _ _ _ (by decide +kernel) rfl ⟨rfl, rfl⟩
                · have hF := ite_f hc10 hF
                  refine g_seg hK [.aload_n 0, .getfield 52, .iload_n 1] 99 104 (L1 := [(0, vR 0), (1, vI p1), (2, vI p2)]) (st1 := [vI p1, vR 54]) (h1 := h4) (P := True ∧ kd 0 = 8 ∧ True ∧ True) (by decide +kernel) rfl rfl ⟨trivial, rfl, trivial, trivial⟩ ?_
                  obtain ⟨r11, e12, hF⟩ := ob1_elim hF
                  refine g_callV1 hK 104 155 (d1 := 2) (ci := 5) (i := 54) (vs := [vI p1]) (rest := []) (h1 := h4) (r := vI r11) my_yX5_oldAhead vw_X6_155 (by decide) (T_V_oldAhead (p1 := p1) (h := h4) (hF := e12)) rfl rfl rfl (Nat.le_of_ble_eq_true rfl) (by decide +kernel) ?_
                  cases hF
                  exact hR.1 107 _ _ _ (by decide +kernel) rfl ⟨rfl, rfl⟩
              · have hF := ite_f hc9 hF
                by_cases hc13 : p2 = 3
                · have hF := ite_t hc13 hF
                  rw [show swT 34 100 0 3 [30, 39, 48, 74] p2 = 108 from by rw [hc13]; decide]
                  refine g_seg hK [.aload_n 0, .getfield 52, .iload_n 1] 108 113 (L1 := [(0, vR 0), (1, vI p1), (2, vI p2)]) (st1 := [vI p1, vR 54]) (h1 := h4) (P := True ∧ kd 0 = 8 ∧ True ∧ True) (by decide +kernel) rfl rfl ⟨trivial, rfl, trivial, trivial⟩ ?_
                  refine g_callV1 hK 113 149 (d1 := 1) (ci := 5) (i := 54) (vs := [vI p1]) (rest := []) (h1 := h4) (r := vI (F_V_kind p1 h4)) my_yX5_kind vw_X6_149 (by decide) (T_V_kind (p1 := p1) (h := h4) (hF := rfl)) rfl rfl rfl (Nat.le_of_ble_eq_true rfl) (by decide +kernel) ?_
                  refine g_seg hK [.iconst 1] 116 117 (L1 := [(0, vR 0), (1, vI p1), (2, vI p2)]) (st1 := [vI 1, vI (F_V_kind p1 h4)]) (h1 := h4) (P := True ∧ True) (by decide +kernel) rfl rfl ⟨trivial, trivial⟩ ?_
                  refine g_icmp hK 117 .ne (8) 125 (t1 := 120) (t2 := 125) (by decide +kernel) (by decide) rfl rfl (fun (hc14 : F_V_kind p1 h4 = 1) => ?_) (fun (hc14 : ¬ (F_V_kind p1 h4 = 1)) => ?_)
                  · have hF := ite_t hc14 hF
                    refine g_seg hK [.bipush (-4)] 120 122 (L1 := [(0, vR 0), (1, vI p1), (2, vI p2)]) (st1 := [vI (-4)]) (h1 := h4) (P := True ∧ True) (by decide +kernel) rfl rfl ⟨trivial, trivial⟩ ?_
                    refine g_goto hK 122 (11) 133 (by decide +kernel) (by decide) ?_
                    cases hF
                    exact hR.1 133 _ _ _ (by decide +kernel) rfl ⟨rfl, rfl⟩
                  · have hF := ite_f hc14 hF
                    refine g_seg hK [.aload_n 0, .getfield 52, .iload_n 1] 125 130 (L1 := [(0, vR 0), (1, vI p1), (2, vI p2)]) (st1 := [vI p1, vR 54]) (h1 := h4) (P := True ∧ kd 0 = 8 ∧ True ∧ True) (by decide +kernel) rfl rfl ⟨trivial, rfl, trivial, trivial⟩ ?_
                    obtain ⟨r15, e16, hF⟩ := ob1_elim hF
                    refine g_callV1 hK 130 158 (d1 := 2) (ci := 5) (i := 54) (vs := [vI p1]) (rest := []) (h1 := h4) (r := vI r15) my_yX5_newAhead vw_X6_158 (by decide) (T_V_newAhead (p1 := p1) (h := h4) (hF := e16)) rfl rfl rfl (Nat.le_of_ble_eq_true rfl) (by decide +kernel) ?_
                    cases hF
                    exact hR.1 133 _ _ _ (by decide +kernel) rfl ⟨rfl, rfl⟩
                · have hF := ite_f hc13 hF
                  rw [show swT 34 100 0 3 [30, 39, 48, 74] p2 = 134 from by unfold swT; rw [if_pos (by omega)]; decide]
                  refine g_seg hK [.aload_n 0, .getfield 52, .iload_n 1] 134 139 (L1 := [(0, vR 0), (1, vI p1), (2, vI p2)]) (st1 := [vI p1, vR 54]) (h1 := h4) (P := True ∧ kd 0 = 8 ∧ True ∧ True) (by decide +kernel) rfl rfl ⟨trivial, rfl, trivial, trivial⟩ ?_
                  obtain ⟨r17, e18, hF⟩ := ob1_elim hF
                  refine g_callV1 hK 139 161 (d1 := 2) (ci := 5) (i := 54) (vs := [vI p1]) (rest := []) (h1 := h4) (r := vI r17) my_yX5_hunkOf vw_X6_161 (by decide) (T_V_hunkOf (p1 := p1) (h := h4) (hF := e18)) rfl rfl rfl (Nat.le_of_ble_eq_true rfl) (by decide +kernel) ?_
                  cases hF
                  exact hR.1 142 _ _ _ (by decide +kernel) rfl ⟨rfl, rfl⟩
        · have hF := ite_f hc6 hF
          refine g_seg hK [.bipush (-4)] 30 32 (L1 := [(0, vR 0), (1, vI p1), (2, vI p2)]) (st1 := [vI (-4)]) (h1 := h4) (P := True ∧ True) (by decide +kernel) rfl rfl ⟨trivial, trivial⟩ ?_
          cases hF
          exact hR.1 32 _ _ _ (by decide +kernel) rfl ⟨rfl, rfl⟩
      · have hF := ite_f hc3 hF
        refine g_seg hK [.iconst (-1)] 13 14 (L1 := [(0, vR 0), (1, vI p1), (2, vI p2)]) (st1 := [vI (-1)]) (h1 := h) (P := True ∧ True) (by decide +kernel) rfl rfl ⟨trivial, trivial⟩ ?_
        cases hF
        exact hR.1 14 _ _ _ (by decide +kernel) rfl ⟨rfl, rfl⟩
set_option maxHeartbeats 4000000 in
set_option maxRecDepth 100000 in
theorem T_V_worth {p1 : Int} {h : MH} {r : Int} (hF : F_V_worth p1 h = r) : CON 2 yX5_worth cX5_worth 2 (Option.some Jvm.ClassFile.FieldType.int) [vR 54, vI p1] h (some (vI r)) h := by
  refine con_of (own := RX5) (fl := flX5) (by decide +kernel) rfl flok_X5 rfl (Nat.le_of_ble_eq_true rfl) ?_
  intro K hK hR
  show K 0 [(0, vR 54), (1, vI p1)] [] h
  unfold F_V_worth at hF
  refine g_seg hK [.aload_n 0, .aload_n 0, .iload_n 1] 0 3 (L1 := [(0, vR 54), (1, vI p1)]) (st1 := [vI p1, vR 54, vR 54]) (h1 := h) (P := True ∧ True ∧ True ∧ True) (by decide +kernel) rfl rfl ⟨trivial, trivial, trivial, trivial⟩ ?_
  refine g_callV1 hK 3 81 (d1 := 1) (ci := 5) (i := 54) (vs := [vI p1]) (rest := [vR 54]) (h1 := h) (r := vI (F_V_top p1 h)) my_yX5_top vw_X5_81 (by decide) (T_V_top (p1 := p1) (h := h) (hF := rfl)) rfl rfl rfl (Nat.le_of_ble_eq_true rfl) (by decide +kernel) ?_
  refine g_seg hK [.aload_n 0, .iload_n 1] 6 8 (L1 := [(0, vR 54), (1, vI p1)]) (st1 := [vI p1, vR 54, vI (F_V_top p1 h), vR 54]) (h1 := h) (P := True ∧ True ∧ True) (by decide +kernel) rfl rfl ⟨trivial, trivial, trivial⟩ ?_
  refine g_callV1 hK 8 84 (d1 := 1) (ci := 5) (i := 54) (vs := [vI p1]) (rest := [vI (F_V_top p1 h), vR 54]) (h1 := h) (r := vI (F_V_end p1 h)) my_yX5_end vw_X5_84 (by decide) (T_V_end (p1 := p1) (h := h) (hF := rfl)) rfl rfl rfl (Nat.le_of_ble_eq_true rfl) (by decide +kernel) ?_
  refine g_callV1 hK 11 94 (d1 := 1) (ci := 5) (i := 54) (vs := [vI (F_V_top p1 h), vI (F_V_end p1 h)]) (rest := []) (h1 := h) (r := vI (F_V_worthAt (F_V_top p1 h) (F_V_end p1 h) h)) my_yX5_worthAt vw_X5_94 (by decide) (T_V_worthAt (p1 := (F_V_top p1 h)) (p2 := (F_V_end p1 h)) (h := h) (hF := rfl)) rfl rfl rfl (Nat.le_of_ble_eq_true rfl) (by decide +kernel) ?_
  cases hF
  exact hR.1 14 _ _ _ (by decide +kernel) rfl ⟨rfl, rfl⟩
set_option maxHeartbeats 4000000 in
set_option maxRecDepth 100000 in
theorem T_V_greatestWorth {p1 : Int} {h : MH} {r : Int} (hF : F_V_greatestWorth p1 h = some r) : CON 4 yX5_greatestWorth cX5_greatestWorth 3 (Option.some Jvm.ClassFile.FieldType.int) [vR 54, vI p1] h (some (vI r)) h := by
  refine con_of (own := RX5) (fl := flX5) (by decide +kernel) rfl flok_X5 rfl (Nat.le_of_ble_eq_true rfl) ?_
  intro K hK hR
  show K 0 [(0, vR 54), (1, vI p1)] [] h
  unfold F_V_greatestWorth at hF
  refine g_seg hK [.aload_n 0, .iload_n 1] 0 2 (L1 := [(0, vR 54), (1, vI p1)]) (st1 := [vI p1, vR 54]) (h1 := h) (P := True ∧ True ∧ True) (by decide +kernel) rfl rfl ⟨trivial, trivial, trivial⟩ ?_
  obtain ⟨r1, e2, hF⟩ := ob1_elim hF
  refine g_callV1 hK 2 74 (d1 := 3) (ci := 5) (i := 54) (vs := [vI p1]) (rest := []) (h1 := h) (r := vI r1) my_yX5_bestTop vw_X5_74 (by decide) (T_V_bestTop (p1 := p1) (h := h) (hF := e2)) rfl rfl rfl (Nat.le_of_ble_eq_true rfl) (by decide +kernel) ?_
  refine g_seg hK [.istore_n 2, .aload_n 0, .iload_n 2, .iload_n 2, .aload_n 0, .iload_n 1] 5 11 (L1 := [(2, vI r1), (0, vR 54), (1, vI p1)]) (st1 := [vI p1, vR 54, vI r1, vI r1, vR 54]) (h1 := h) (P := True ∧ True ∧ True ∧ True ∧ True ∧ True ∧ True) (by decide +kernel) rfl rfl ⟨trivial, trivial, trivial, trivial, trivial, trivial, trivial⟩ ?_
  refine g_callV1 hK 11 84 (d1 := 1) (ci := 5) (i := 54) (vs := [vI p1]) (rest := [vI r1, vI r1, vR 54]) (h1 := h) (r := vI (F_V_end p1 h)) my_yX5_end vw_X5_84 (by decide) (T_V_end (p1 := p1) (h := h) (hF := rfl)) rfl rfl rfl (Nat.le_of_ble_eq_true rfl) (by decide +kernel) ?_
  refine g_seg hK [.iadd, .aload_n 0, .iload_n 1] 14 17 (L1 := [(2, vI r1), (0, vR 54), (1, vI p1)]) (st1 := [vI p1, vR 54, vI (wr (r1 + (F_V_end p1 h))), vI r1, vR 54]) (h1 := h) (P := True ∧ True ∧ True ∧ True) (by decide +kernel) rfl rfl ⟨trivial, trivial, trivial, trivial⟩ ?_
  refine g_callV1 hK 17 81 (d1 := 1) (ci := 5) (i := 54) (vs := [vI p1]) (rest := [vI (wr (r1 + (F_V_end p1 h))), vI r1, vR 54]) (h1 := h) (r := vI (F_V_top p1 h)) my_yX5_top vw_X5_81 (by decide) (T_V_top (p1 := p1) (h := h) (hF := rfl)) rfl rfl rfl (Nat.le_of_ble_eq_true rfl) (by decide +kernel) ?_
  refine g_seg hK [.isub] 20 21 (L1 := [(2, vI r1), (0, vR 54), (1, vI p1)]) (st1 := [vI (wr ((wr (r1 + (F_V_end p1 h))) - (F_V_top p1 h))), vI r1, vR 54]) (h1 := h) (P := True ∧ True) (by decide +kernel) rfl rfl ⟨trivial, trivial⟩ ?_
  refine g_callV1 hK 21 94 (d1 := 1) (ci := 5) (i := 54) (vs := [vI r1, vI (wr ((wr (r1 + (F_V_end p1 h))) - (F_V_top p1 h)))]) (rest := []) (h1 := h) (r := vI (F_V_worthAt r1 (wr ((wr (r1 + (F_V_end p1 h))) - (F_V_top p1 h))) h)) my_yX5_worthAt vw_X5_94 (by decide) (T_V_worthAt (p1 := r1) (p2 := (wr ((wr (r1 + (F_V_end p1 h))) - (F_V_top p1 h)))) (h := h) (hF := rfl)) rfl rfl rfl (Nat.le_of_ble_eq_true rfl) (by decide +kernel) ?_
  cases hF
  exact hR.1 24 _ _ _ (by decide +kernel) rfl ⟨rfl, rfl⟩
set_option maxHeartbeats 4000000 in
set_option maxRecDepth 100000 in
theorem T_X_hunk {p1 : Int} {p2 : Int} {h : MH} {r : Int} {h' : MH} (hF : F_X_hunk p1 p2 h = some (r, h')) : CON 6 yX6_hunk cX6_hunk 3 (Option.some Jvm.ClassFile.FieldType.int) [vR 0, vI p1, vI p2] h (some (vI r)) h' := by
  refine con_of (own := RX6) (fl := flX6) (by decide +kernel) rfl flok_X6 rfl (Nat.le_of_ble_eq_true rfl) ?_
  intro K hK hR
  show K 0 [(0, vR 0), (1, vI p1), (2, vI p2)] [] h
  unfold F_X_hunk at hF
  refine g_seg hK [.iload_n 2] 0 1 (L1 := [(0, vR 0), (1, vI p1), (2, vI p2)]) (st1 := [vI p2]) (h1 := h) (P := True ∧ True) (by decide +kernel) rfl rfl ⟨trivial, trivial⟩ ?_
  refine g_ifz hK 1 .lt (9) 10 (t1 := 10) (t2 := 4) (by decide +kernel) (by decide) rfl rfl (fun (hc1 : p2 < 0) => ?_) (fun (hc1 : ¬ (p2 < 0)) => ?_)
  · have hF := ite_t hc1 hF
    refine g_seg hK [.iconst (-1)] 10 11 (L1 := [(0, vR 0), (1, vI p1), (2, vI p2)]) (st1 := [vI (-1)]) (h1 := h) (P := True ∧ True) (by decide +kernel) rfl rfl ⟨trivial, trivial⟩ ?_
    cases hF
    exact hR.1 11 _ _ _ (by decide +kernel) rfl ⟨rfl, rfl⟩
  · have hF := ite_f hc1 hF
    refine g_seg hK [.iload_n 2, .bipush 9] 4 7 (L1 := [(0, vR 0), (1, vI p1), (2, vI p2)]) (st1 := [vI 9, vI p2]) (h1 := h) (P := True ∧ True ∧ True) (by decide +kernel) rfl rfl ⟨trivial, trivial, trivial⟩ ?_
    refine g_icmp hK 7 .le (5) 12 (t1 := 12) (t2 := 10) (by decide +kernel) (by decide) rfl rfl (fun (hc2 : p2 ≤ 9) => ?_) (fun (hc2 : ¬ (p2 ≤ 9)) => ?_)
    · have hF := ite_t hc2 hF
      refine g_seg hK [.aload_n 0] 12 13 (L1 := [(0, vR 0), (1, vI p1), (2, vI p2)]) (st1 := [vR 0]) (h1 := h) (P := True ∧ True) (by decide +kernel) rfl rfl ⟨trivial, trivial⟩ ?_
      obtain ⟨h3, e4, hF⟩ := ob1_elim hF
      refine g_callV0 hK 13 118 (d1 := 5) (ci := 6) (i := 0) (vs := []) (rest := []) (h1 := h3) my_yX6_show vw_X6_118 (by decide) (T_X_show (h := h) (hF := e4)) rfl rfl rfl (Nat.le_of_ble_eq_true rfl) (by decide +kernel) ?_
      refine g_seg hK [.aload_n 0, .getfield 52, .iload_n 1] 16 21 (L1 := [(0, vR 0), (1, vI p1), (2, vI p2)]) (st1 := [vI p1, vR 54]) (h1 := h3) (P := True ∧ kd 0 = 8 ∧ True ∧ True) (by decide +kernel) rfl rfl ⟨trivial, rfl, trivial, trivial⟩ ?_
      refine g_callV1 hK 21 164 (d1 := 2) (ci := 5) (i := 54) (vs := [vI p1]) (rest := []) (h1 := h3) (r := vI (F_V_has p1 h3)) my_yX5_has vw_X6_164 (by decide) (T_V_has (p1 := p1) (h := h3) (hF := rfl)) rfl rfl rfl (Nat.le_of_ble_eq_true rfl) (by decide +kernel) ?_
      refine g_ifz hK 24 .ne (5) 29 (t1 := 27) (t2 := 29) (by decide +kernel) (by decide) rfl rfl (fun (hc5 : F_V_has p1 h3 = 0) => ?_) (fun (hc5 : ¬ (F_V_has p1 h3 = 0)) => ?_)
      · have hF := ite_t hc5 hF
        refine g_seg hK [.iconst (-1)] 27 28 (L1 := [(0, vR 0), (1, vI p1), (2, vI p2)]) (st1 := [vI (-1)]) (h1 := h3) (P := True ∧ True) (by decide +kernel) rfl rfl ⟨trivial, trivial⟩ ?_
        cases hF
        exact hR.1 28 _ _ _ (by decide +kernel) rfl ⟨rfl, rfl⟩
      · have hF := ite_f hc5 hF
        refine g_seg hK [.iload_n 2] 29 30 (L1 := [(0, vR 0), (1, vI p1), (2, vI p2)]) (st1 := [vI p2]) (h1 := h3) (P := True ∧ True) (by decide +kernel) rfl rfl ⟨trivial, trivial⟩ ?_
        refine g_sw hK 30 152 0 8 #[50, 59, 69, 79, 96, 106, 116, 125, 134] 50 (by decide +kernel) (by decide) ?_
        by_cases hc6 : p2 = 0
        · have hF := ite_t hc6 hF
          rw [show swT 30 152 0 8 [50, 59, 69, 79, 96, 106, 116, 125, 134] p2 = 80 from by rw [hc6]; decide]
          refine g_seg hK [.aload_n 0, .getfield 52, .iload_n 1] 80 85 (L1 := [(0, vR 0), (1, vI p1), (2, vI p2)]) (st1 := [vI p1, vR 54]) (h1 := h3) (P := True ∧ kd 0 = 8 ∧ True ∧ True) (by decide +kernel) rfl rfl ⟨trivial, rfl, trivial, trivial⟩ ?_
          refine g_callV1 hK 85 167 (d1 := 1) (ci := 5) (i := 54) (vs := [vI p1]) (rest := []) (h1 := h3) (r := vI (F_V_top p1 h3)) my_yX5_top vw_X6_167 (by decide) (T_V_top (p1 := p1) (h := h3) (hF := rfl)) rfl rfl rfl (Nat.le_of_ble_eq_true rfl) (by decide +kernel) ?_
          cases hF
          exact hR.1 88 _ _ _ (by decide +kernel) rfl ⟨rfl, rfl⟩
        · have hF := ite_f hc6 hF
          by_cases hc7 : p2 = 1
          · have hF := ite_t hc7 hF
            rw [show swT 30 152 0 8 [50, 59, 69, 79, 96, 106, 116, 125, 134] p2 = 89 from by rw [hc7]; decide]
            refine g_seg hK [.aload_n 0, .getfield 52, .iload_n 1, .iconst 1] 89 95 (L1 := [(0, vR 0), (1, vI p1), (2, vI p2)]) (st1 := [vI 1, vI p1, vR 54]) (h1 := h3) (P := True ∧ kd 0 = 8 ∧ True ∧ True ∧ True) (by decide +kernel) rfl rfl ⟨trivial, rfl, trivial, trivial, trivial⟩ ?_
            obtain ⟨r8, e9, hF⟩ := ob1_elim hF
            refine g_callV1 hK 95 170 (d1 := 2) (ci := 5) (i := 54) (vs := [vI p1, vI 1]) (rest := []) (h1 := h3) (r := vI r8) my_yX5_linesOf vw_X6_170 (by decide) (T_V_linesOf (p1 := p1) (p2 := 1) (h := h3) (hF := e9)) rfl rfl rfl (Nat.le_of_ble_eq_true rfl) (by decide +kernel) ?_
            cases hF
            exact hR.1 98 _ _ _ (by decide +kernel) rfl ⟨rfl, rfl⟩
          · have hF := ite_f hc7 hF
            by_cases hc10 : p2 = 2
            · have hF := ite_t hc10 hF
              rw [show swT 30 152 0 8 [50, 59, 69, 79, 96, 106, 116, 125, 134] p2 = 99 from by rw [hc10]; decide]
              refine g_seg hK [.aload_n 0, .getfield 52, .iload_n 1, .iconst 2] 99 105 (L1 := [(0, vR 0), (1, vI p1), (2, vI p2)]) (st1 := [vI 2, vI p1, vR 54]) (h1 := h3) (P := True ∧ kd 0 = 8 ∧ True ∧ True ∧ True) (by decide +kernel) rfl rfl ⟨trivial, rfl, trivial, trivial, trivial⟩ ?_
              obtain ⟨r11, e12, hF⟩ := ob1_elim hF
              refine g_callV1 hK 105 170 (d1 := 2) (ci := 5) (i := 54) (vs := [vI p1, vI 2]) (rest := []) (h1 := h3) (r := vI r11) my_yX5_linesOf vw_X6_170 (by decide) (T_V_linesOf (p1 := p1) (p2 := 2) (h := h3) (hF := e12)) rfl rfl rfl (Nat.le_of_ble_eq_true rfl) (by decide +kernel) ?_
              cases hF
              exact hR.1 108 _ _ _ (by decide +kernel) rfl ⟨rfl, rfl⟩
            · have hF := ite_f hc10 hF
              by_cases hc13 : p2 = 3
              · have hF := ite_t hc13 hF
                rw [show swT 30 152 0 8 [50, 59, 69, 79, 96, 106, 116, 125, 134] p2 = 109 from by rw [hc13]; decide]
                refine g_seg hK [.aload_n 0, .getfield 52, .iload_n 1] 109 114 (L1 := [(0, vR 0), (1, vI p1), (2, vI p2)]) (st1 := [vI p1, vR 54]) (h1 := h3) (P := True ∧ kd 0 = 8 ∧ True ∧ True) (by decide +kernel) rfl rfl ⟨trivial, rfl, trivial, trivial⟩ ?_
                refine g_callV1 hK 114 174 (d1 := 1) (ci := 5) (i := 54) (vs := [vI p1]) (rest := []) (h1 := h3) (r := vI (F_V_isPlain p1 h3)) my_yX5_isPlain vw_X6_174 (by decide) (T_V_isPlain (p1 := p1) (h := h3) (hF := rfl)) rfl rfl rfl (Nat.le_of_ble_eq_true rfl) (by decide +kernel) ?_
                refine g_ifz hK 117 .eq (7) 124 (t1 := 124) (t2 := 120) (by decide +kernel) (by decide) rfl rfl (fun (hc14 : F_V_isPlain p1 h3 = 0) => ?_) (fun (hc14 : ¬ (F_V_isPlain p1 h3 = 0)) => ?_)
                · have hF := ite_t hc14 hF
                  refine g_seg hK [.iconst 0] 124 125 (L1 := [(0, vR 0), (1, vI p1), (2, vI p2)]) (st1 := [vI 0]) (h1 := h3) (P := True ∧ True) (by decide +kernel) rfl rfl ⟨trivial, trivial⟩ ?_
                  cases hF
                  exact hR.1 125 _ _ _ (by decide +kernel) rfl ⟨rfl, rfl⟩
                · have hF := ite_f hc14 hF
                  refine g_seg hK [.iconst 1] 120 121 (L1 := [(0, vR 0), (1, vI p1), (2, vI p2)]) (st1 := [vI 1]) (h1 := h3) (P := True ∧ True) (by decide +kernel) rfl rfl ⟨trivial, trivial⟩ ?_
                  refine g_goto hK 121 (4) 125 (by decide +kernel) (by decide) ?_
                  cases hF
                  exact hR.1 125 _ _ _ (by decide +kernel) rfl ⟨rfl, rfl⟩
              · have hF := ite_f hc13 hF
                by_cases hc15 : p2 = 4
                · have hF := ite_t hc15 hF
                  rw [show swT 30 152 0 8 [50, 59, 69, 79, 96, 106, 116, 125, 134] p2 = 126 from by rw [hc15]; decide]
                  refine g_seg hK [.aload_n 0, .getfield 52, .iload_n 1, .iconst 0] 126 132 (L1 := [(0, vR 0), (1, vI p1), (2, vI p2)]) (st1 := [vI 0, vI p1, vR 54]) (h1 := h3) (P := True ∧ kd 0 = 8 ∧ True ∧ True ∧ True) (by decide +kernel) rfl rfl ⟨trivial, rfl, trivial, trivial, trivial⟩ ?_
                  obtain ⟨r16, e17, hF⟩ := ob1_elim hF
                  refine g_callV1 hK 132 177 (d1 := 2) (ci := 5) (i := 54) (vs := [vI p1, vI 0]) (rest := []) (h1 := h3) (r := vI r16) my_yX5_reach vw_X6_177 (by decide) (T_V_reach (p1 := p1) (p2 := 0) (h := h3) (hF := e17)) rfl rfl rfl (Nat.le_of_ble_eq_true rfl) (by decide +kernel) ?_
                  cases hF
                  exact hR.1 135 _ _ _ (by decide +kernel) rfl ⟨rfl, rfl⟩
                · have hF := ite_f hc15 hF
                  by_cases hc18 : p2 = 5
                  · have hF := ite_t hc18 hF
                    rw [show swT 30 152 0 8 [50, 59, 69, 79, 96, 106, 116, 125, 134] p2 = 136 from by rw [hc18]; decide]
                    refine g_seg hK [.aload_n 0, .getfield 52, .iload_n 1, .iconst 1] 136 142 (L1 := [(0, vR 0), (1, vI p1), (2, vI p2)]) (st1 := [vI 1, vI p1, vR 54]) (h1 := h3) (P := True ∧ kd 0 = 8 ∧ True ∧ True ∧ True) (by decide +kernel) rfl rfl ⟨trivial, rfl, trivial, trivial, trivial⟩ ?_
                    obtain ⟨r19, e20, hF⟩ := ob1_elim hF
                    refine g_callV1 hK 142 177 (d1 := 2) (ci := 5) (i := 54) (vs := [vI p1, vI 1]) (rest := []) (h1 := h3) (r := vI r19) my_yX5_reach vw_X6_177 (by decide) (T_V_reach (p1 := p1) (p2 := 1) (h := h3) (hF := e20)) rfl rfl rfl (Nat.le_of_ble_eq_true rfl) (by decide +kernel) ?_
                    cases hF
                    exact hR.1 145 _ _ _ (by decide +kernel) rfl ⟨rfl, rfl⟩
                  · have hF := ite_f hc18 hF
                    by_cases hc21 : p2 = 6
                    · have hF := ite_t hc21 hF
                      rw [show swT 30 152 0 8 [50, 59, 69, 79, 96, 106, 116, 125, 134] p2 = 146 from by rw [hc21]; decide]
                      refine g_seg hK [.aload_n 0, .getfield 52, .iload_n 1] 146 151 (L1 := [(0, vR 0), (1, vI p1), (2, vI p2)]) (st1 := [vI p1, vR 54]) (h1 := h3) (P := True ∧ kd 0 = 8 ∧ True ∧ True) (by decide +kernel) rfl rfl ⟨trivial, rfl, trivial, trivial⟩ ?_
                      refine g_callV1 hK 151 181 (d1 := 2) (ci := 5) (i := 54) (vs := [vI p1]) (rest := []) (h1 := h3) (r := vI (F_V_worth p1 h3)) my_yX5_worth vw_X6_181 (by decide) (T_V_worth (p1 := p1) (h := h3) (hF := rfl)) rfl rfl rfl (Nat.le_of_ble_eq_true rfl) (by decide +kernel) ?_
                      cases hF
                      exact hR.1 154 _ _ _ (by decide +kernel) rfl ⟨rfl, rfl⟩
                    · have hF := ite_f hc21 hF
                      by_cases hc22 : p2 = 7
                      · have hF := ite_t hc22 hF
                        rw [show swT 30 152 0 8 [50, 59, 69, 79, 96, 106, 116, 125, 134] p2 = 155 from by rw [hc22]; decide]
                        refine g_seg hK [.aload_n 0, .getfield 52, .iload_n 1] 155 160 (L1 := [(0, vR 0), (1, vI p1), (2, vI p2)]) (st1 := [vI p1, vR 54]) (h1 := h3) (P := True ∧ kd 0 = 8 ∧ True ∧ True) (by decide +kernel) rfl rfl ⟨trivial, rfl, trivial, trivial⟩ ?_
                        obtain ⟨r23, e24, hF⟩ := ob1_elim hF
                        refine g_callV1 hK 160 184 (d1 := 4) (ci := 5) (i := 54) (vs := [vI p1]) (rest := []) (h1 := h3) (r := vI r23) my_yX5_greatestWorth vw_X6_184 (by decide) (T_V_greatestWorth (p1 := p1) (h := h3) (hF := e24)) rfl rfl rfl (Nat.le_of_ble_eq_true rfl) (by decide +kernel) ?_
                        cases hF
                        exact hR.1 163 _ _ _ (by decide +kernel) rfl ⟨rfl, rfl⟩
                      · have hF := ite_f hc22 hF
                        by_cases hc25 : p2 = 8
                        · have hF := ite_t hc25 hF
                          rw [show swT 30 152 0 8 [50, 59, 69, 79, 96, 106, 116, 125, 134] p2 = 164 from by rw [hc25]; decide]
                          refine g_seg hK [.aload_n 0, .getfield 52, .iload_n 1, .aload_n 0, .getfield 21, .iconst 0] 164 174 (L1 := [(0, vR 0), (1, vI p1), (2, vI p2)]) (st1 := [vI 0, vR 3, vI p1, vR 54]) (h1 := h3) (P := True ∧ kd 0 = 8 ∧ True ∧ True ∧ kd 0 = 8 ∧ True ∧ True) (by decide +kernel) rfl rfl ⟨trivial, rfl, trivial, trivial, rfl, trivial, trivial⟩ ?_
                          refine g_callV1 hK 174 112 (d1 := 0) (ci := 4) (i := 3) (vs := [vI 0]) (rest := [vI p1, vR 54]) (h1 := h3) (r := vI (F_St_setting 3 0 h3)) my_yX4_setting vw_X6_112 (by decide) (T_St_setting (o := 3) (p1 := 0) (h := h3) (ks := rfl) (hF := rfl)) rfl rfl rfl (Nat.le_of_ble_eq_true rfl) (by decide +kernel) ?_
                          refine g_seg hK [.iconst 0] 177 178 (L1 := [(0, vR 0), (1, vI p1), (2, vI p2)]) (st1 := [vI 0, vI (F_St_setting 3 0 h3), vI p1, vR 54]) (h1 := h3) (P := True ∧ True) (by decide +kernel) rfl rfl ⟨trivial, trivial⟩ ?_
                          refine g_callV1 hK 178 187 (d1 := 3) (ci := 5) (i := 54) (vs := [vI p1, vI (F_St_setting 3 0 h3), vI 0]) (rest := []) (h1 := h3) (r := vI (F_V_around p1 (F_St_setting 3 0 h3) 0 h3)) my_yX5_around vw_X6_187 (by decide) (T_V_around (p1 := p1) (p2 := (F_St_setting 3 0 h3)) (p3 := 0) (h := h3) (hF := rfl)) rfl rfl rfl (Nat.le_of_ble_eq_true rfl) (by decide +kernel) ?_
                          cases hF
                          exact hR.1 181 _ _ _ (by decide +kernel) rfl ⟨rfl, rfl⟩
                        · have hF := ite_f hc25 hF
                          rw [show swT 30 152 0 8 [50, 59, 69, 79, 96, 106, 116, 125, 134] p2 = 182 from by unfold swT; rw [if_pos (by omega)]; decide]
                          refine g_seg hK [.aload_n 0, .getfield 52, .iload_n 1, .aload_n 0, .getfield 21, .iconst 0] 182 192 (L1 := [(0, vR 0), (1, vI p1), (2, vI p2)]) (st1 := [vI 0, vR 3, vI p1, vR 54]) (h1 := h3) (P := True ∧ kd 0 = 8 ∧ True ∧ True ∧ kd 0 = 8 ∧ True ∧ True) (by decide +kernel) rfl rfl ⟨trivial, rfl, trivial, trivial, rfl, trivial, trivial⟩ ?_
                          refine g_callV1 hK 192 112 (d1 := 0) (ci := 4) (i := 3) (vs := [vI 0]) (rest := [vI p1, vR 54]) (h1 := h3) (r := vI (F_St_setting 3 0 h3)) my_yX4_setting vw_X6_112 (by decide) (T_St_setting (o := 3) (p1 := 0) (h := h3) (ks := rfl) (hF := rfl)) rfl rfl rfl (Nat.le_of_ble_eq_true rfl) (by decide +kernel) ?_
                          refine g_seg hK [.iconst 1] 195 196 (L1 := [(0, vR 0), (1, vI p1), (2, vI p2)]) (st1 := [vI 1, vI (F_St_setting 3 0 h3), vI p1, vR 54]) (h1 := h3) (P := True ∧ True) (by decide +kernel) rfl rfl ⟨trivial, trivial⟩ ?_
                          refine g_callV1 hK 196 187 (d1 := 3) (ci := 5) (i := 54) (vs := [vI p1, vI (F_St_setting 3 0 h3), vI 1]) (rest := []) (h1 := h3) (r := vI (F_V_around p1 (F_St_setting 3 0 h3) 1 h3)) my_yX5_around vw_X6_187 (by decide) (T_V_around (p1 := p1) (p2 := (F_St_setting 3 0 h3)) (p3 := 1) (h := h3) (hF := rfl)) rfl rfl rfl (Nat.le_of_ble_eq_true rfl) (by decide +kernel) ?_
                          cases hF
                          exact hR.1 199 _ _ _ (by decide +kernel) rfl ⟨rfl, rfl⟩
    · have hF := ite_f hc2 hF
      refine g_seg hK [.iconst (-1)] 10 11 (L1 := [(0, vR 0), (1, vI p1), (2, vI p2)]) (st1 := [vI (-1)]) (h1 := h) (P := True ∧ True) (by decide +kernel) rfl rfl ⟨trivial, trivial⟩ ?_
      cases hF
      exact hR.1 11 _ _ _ (by decide +kernel) rfl ⟨rfl, rfl⟩
set_option maxHeartbeats 4000000 in
set_option maxRecDepth 100000 in
theorem T_V_hindrance {p1 : Int} {p2 : Int} {h : MH} {r : Int} (hF : F_V_hindrance p1 p2 h = r) : CON 2 yX5_hindrance cX5_hindrance 3 (Option.some Jvm.ClassFile.FieldType.int) [vR 54, vI p1, vI p2] h (some (vI r)) h := by
  refine con_of (own := RX5) (fl := flX5) (by decide +kernel) rfl flok_X5 rfl (Nat.le_of_ble_eq_true rfl) ?_
  intro K hK hR
  show K 0 [(0, vR 54), (1, vI p1), (2, vI p2)] [] h
  unfold F_V_hindrance at hF
  refine g_seg hK [.aload_n 0, .iload_n 1] 0 2 (L1 := [(0, vR 54), (1, vI p1), (2, vI p2)]) (st1 := [vI p1, vR 54]) (h1 := h) (P := True ∧ True ∧ True) (by decide +kernel) rfl rfl ⟨trivial, trivial, trivial⟩ ?_
  refine g_callV1 hK 2 71 (d1 := 1) (ci := 5) (i := 54) (vs := [vI p1]) (rest := []) (h1 := h) (r := vI (F_V_isPlain p1 h)) my_yX5_isPlain vw_X5_71 (by decide) (T_V_isPlain (p1 := p1) (h := h) (hF := rfl)) rfl rfl rfl (Nat.le_of_ble_eq_true rfl) (by decide +kernel) ?_
  refine g_ifz hK 5 .eq (21) 26 (t1 := 26) (t2 := 8) (by decide +kernel) (by decide) rfl rfl (fun (hc1 : F_V_isPlain p1 h = 0) => ?_) (fun (hc1 : ¬ (F_V_isPlain p1 h = 0)) => ?_)
  · have hF := ite_t hc1 hF
    refine g_seg hK [.iconst 1] 26 27 (L1 := [(0, vR 54), (1, vI p1), (2, vI p2)]) (st1 := [vI 1]) (h1 := h) (P := True ∧ True) (by decide +kernel) rfl rfl ⟨trivial, trivial⟩ ?_
    cases hF
    exact hR.1 27 _ _ _ (by decide +kernel) rfl ⟨rfl, rfl⟩
  · have hF := ite_f hc1 hF
    refine g_seg hK [.aload_n 0, .aload_n 0, .iload_n 1] 8 11 (L1 := [(0, vR 54), (1, vI p1), (2, vI p2)]) (st1 := [vI p1, vR 54, vR 54]) (h1 := h) (P := True ∧ True ∧ True ∧ True) (by decide +kernel) rfl rfl ⟨trivial, trivial, trivial, trivial⟩ ?_
    refine g_callV1 hK 11 81 (d1 := 1) (ci := 5) (i := 54) (vs := [vI p1]) (rest := [vR 54]) (h1 := h) (r := vI (F_V_top p1 h)) my_yX5_top vw_X5_81 (by decide) (T_V_top (p1 := p1) (h := h) (hF := rfl)) rfl rfl rfl (Nat.le_of_ble_eq_true rfl) (by decide +kernel) ?_
    refine g_seg hK [.aload_n 0, .iload_n 1] 14 16 (L1 := [(0, vR 54), (1, vI p1), (2, vI p2)]) (st1 := [vI p1, vR 54, vI (F_V_top p1 h), vR 54]) (h1 := h) (P := True ∧ True ∧ True) (by decide +kernel) rfl rfl ⟨trivial, trivial, trivial⟩ ?_
    refine g_callV1 hK 16 84 (d1 := 1) (ci := 5) (i := 54) (vs := [vI p1]) (rest := [vI (F_V_top p1 h), vR 54]) (h1 := h) (r := vI (F_V_end p1 h)) my_yX5_end vw_X5_84 (by decide) (T_V_end (p1 := p1) (h := h) (hF := rfl)) rfl rfl rfl (Nat.le_of_ble_eq_true rfl) (by decide +kernel) ?_
    refine g_seg hK [.iload_n 2] 19 20 (L1 := [(0, vR 54), (1, vI p1), (2, vI p2)]) (st1 := [vI p2, vI (F_V_end p1 h), vI (F_V_top p1 h), vR 54]) (h1 := h) (P := True ∧ True) (by decide +kernel) rfl rfl ⟨trivial, trivial⟩ ?_
    refine g_callV1 hK 20 109 (d1 := 1) (ci := 5) (i := 54) (vs := [vI (F_V_top p1 h), vI (F_V_end p1 h), vI p2]) (rest := []) (h1 := h) (r := vI (F_V_barAt (F_V_top p1 h) (F_V_end p1 h) p2 h)) my_yX5_barAt vw_X5_109 (by decide) (T_V_barAt (p1 := (F_V_top p1 h)) (p2 := (F_V_end p1 h)) (p3 := p2) (h := h) (hF := rfl)) rfl rfl rfl (Nat.le_of_ble_eq_true rfl) (by decide +kernel) ?_
    refine g_goto hK 23 (4) 27 (by decide +kernel) (by decide) ?_
    cases hF
    exact hR.1 27 _ _ _ (by decide +kernel) rfl ⟨rfl, rfl⟩
set_option maxHeartbeats 4000000 in
set_option maxRecDepth 100000 in
theorem T_X_whyNot {p1 : Int} {p2 : Int} {h : MH} {r : Int} {h' : MH} (hF : F_X_whyNot p1 p2 h = some (r, h')) : CON 6 yX6_whyNot cX6_whyNot 3 (Option.some Jvm.ClassFile.FieldType.int) [vR 0, vI p1, vI p2] h (some (vI r)) h' := by
  refine con_of (own := RX6) (fl := flX6) (by decide +kernel) rfl flok_X6 rfl (Nat.le_of_ble_eq_true rfl) ?_
  intro K hK hR
  show K 0 [(0, vR 0), (1, vI p1), (2, vI p2)] [] h
  unfold F_X_whyNot at hF
  refine g_seg hK [.aload_n 0] 0 1 (L1 := [(0, vR 0), (1, vI p1), (2, vI p2)]) (st1 := [vR 0]) (h1 := h) (P := True ∧ True) (by decide +kernel) rfl rfl ⟨trivial, trivial⟩ ?_
  obtain ⟨h1, e2, hF⟩ := ob1_elim hF
  refine g_callV0 hK 1 118 (d1 := 5) (ci := 6) (i := 0) (vs := []) (rest := []) (h1 := h1) my_yX6_show vw_X6_118 (by decide) (T_X_show (h := h) (hF := e2)) rfl rfl rfl (Nat.le_of_ble_eq_true rfl) (by decide +kernel) ?_
  refine g_seg hK [.aload_n 0, .getfield 52, .iload_n 1] 4 9 (L1 := [(0, vR 0), (1, vI p1), (2, vI p2)]) (st1 := [vI p1, vR 54]) (h1 := h1) (P := True ∧ kd 0 = 8 ∧ True ∧ True) (by decide +kernel) rfl rfl ⟨trivial, rfl, trivial, trivial⟩ ?_
  refine g_callV1 hK 9 164 (d1 := 2) (ci := 5) (i := 54) (vs := [vI p1]) (rest := []) (h1 := h1) (r := vI (F_V_has p1 h1)) my_yX5_has vw_X6_164 (by decide) (T_V_has (p1 := p1) (h := h1) (hF := rfl)) rfl rfl rfl (Nat.le_of_ble_eq_true rfl) (by decide +kernel) ?_
  refine g_ifz hK 12 .eq (15) 27 (t1 := 27) (t2 := 15) (by decide +kernel) (by decide) rfl rfl (fun (hc3 : F_V_has p1 h1 = 0) => ?_) (fun (hc3 : ¬ (F_V_has p1 h1 = 0)) => ?_)
  · have hF := ite_t hc3 hF
    refine g_seg hK [.iconst (-1)] 27 28 (L1 := [(0, vR 0), (1, vI p1), (2, vI p2)]) (st1 := [vI (-1)]) (h1 := h1) (P := True ∧ True) (by decide +kernel) rfl rfl ⟨trivial, trivial⟩ ?_
    cases hF
    exact hR.1 28 _ _ _ (by decide +kernel) rfl ⟨rfl, rfl⟩
  · have hF := ite_f hc3 hF
    refine g_seg hK [.aload_n 0, .getfield 52, .iload_n 1, .iload_n 2] 15 21 (L1 := [(0, vR 0), (1, vI p1), (2, vI p2)]) (st1 := [vI p2, vI p1, vR 54]) (h1 := h1) (P := True ∧ kd 0 = 8 ∧ True ∧ True ∧ True) (by decide +kernel) rfl rfl ⟨trivial, rfl, trivial, trivial, trivial⟩ ?_
    refine g_callV1 hK 21 191 (d1 := 2) (ci := 5) (i := 54) (vs := [vI p1, vI p2]) (rest := []) (h1 := h1) (r := vI (F_V_hindrance p1 p2 h1)) my_yX5_hindrance vw_X6_191 (by decide) (T_V_hindrance (p1 := p1) (p2 := p2) (h := h1) (hF := rfl)) rfl rfl rfl (Nat.le_of_ble_eq_true rfl) (by decide +kernel) ?_
    refine g_goto hK 24 (4) 28 (by decide +kernel) (by decide) ?_
    cases hF
    exact hR.1 28 _ _ _ (by decide +kernel) rfl ⟨rfl, rfl⟩
set_option maxHeartbeats 4000000 in
set_option maxRecDepth 100000 in
theorem T_St_laid {o : Nat} {h : MH} {r : Int} (ks : kd o = 6) (hF : F_St_laid o h = r) : CON 0 yX4_laid cX4_laid 1 (Option.some Jvm.ClassFile.FieldType.int) [vR o] h (some (vI r)) h := by
  refine con_of (own := RX4) (fl := flX4) (by decide +kernel) rfl flok_X4 rfl (Nat.le_of_ble_eq_true rfl) ?_
  intro K hK hR
  show K 0 [(0, vR o)] [] h
  unfold F_St_laid at hF
  refine g_seg hK [.aload_n 0, .getfield 33] 0 4 (L1 := [(0, vR o)]) (st1 := [vI (h o 5)]) (h1 := h) (P := True ∧ kd o = 6 ∧ True) (by decide +kernel) rfl rfl ⟨trivial, ks, trivial⟩ ?_
  cases hF
  exact hR.1 4 _ _ _ (by decide +kernel) rfl ⟨rfl, rfl⟩
set_option maxHeartbeats 4000000 in
set_option maxRecDepth 100000 in
theorem T_St_leftOut {o : Nat} {h : MH} {r : Int} (ks : kd o = 6) (hF : F_St_leftOut o h = r) : CON 0 yX4_leftOut cX4_leftOut 1 (Option.some Jvm.ClassFile.FieldType.int) [vR o] h (some (vI r)) h := by
  refine con_of (own := RX4) (fl := flX4) (by decide +kernel) rfl flok_X4 rfl (Nat.le_of_ble_eq_true rfl) ?_
  intro K hK hR
  show K 0 [(0, vR o)] [] h
  unfold F_St_leftOut at hF
  refine g_seg hK [.aload_n 0, .getfield 36] 0 4 (L1 := [(0, vR o)]) (st1 := [vI (h o 6)]) (h1 := h) (P := True ∧ kd o = 6 ∧ True) (by decide +kernel) rfl rfl ⟨trivial, ks, trivial⟩ ?_
  cases hF
  exact hR.1 4 _ _ _ (by decide +kernel) rfl ⟨rfl, rfl⟩
set_option maxHeartbeats 4000000 in
set_option maxRecDepth 100000 in
theorem T_Hi_size {h : MH} {r : Int} (hF : F_Hi_size h = r) : CON 0 yX1_size cX1_size 1 (Option.some Jvm.ClassFile.FieldType.int) [vR 17] h (some (vI r)) h := by
  refine con_of (own := RX1) (fl := flX1) (by decide +kernel) rfl flok_X1 rfl (Nat.le_of_ble_eq_true rfl) ?_
  intro K hK hR
  show K 0 [(0, vR 17)] [] h
  unfold F_Hi_size at hF
  refine g_seg hK [.aload_n 0, .getfield 17] 0 4 (L1 := [(0, vR 17)]) (st1 := [vI (h 17 1)]) (h1 := h) (P := True ∧ kd 17 = 3 ∧ True) (by decide +kernel) rfl rfl ⟨trivial, rfl, trivial⟩ ?_
  cases hF
  exact hR.1 4 _ _ _ (by decide +kernel) rfl ⟨rfl, rfl⟩
set_option maxHeartbeats 4000000 in
set_option maxRecDepth 100000 in
theorem T_X_heldNumber {p1 : Int} {h : MH} {r : Int} (hF : F_X_heldNumber p1 h = r) : CON 1 yX6_heldNumber cX6_heldNumber 2 (Option.some Jvm.ClassFile.FieldType.int) [vR 0, vI p1] h (some (vI r)) h := by
  refine con_of (own := RX6) (fl := flX6) (by decide +kernel) rfl flok_X6 rfl (Nat.le_of_ble_eq_true rfl) ?_
  intro K hK hR
  show K 0 [(0, vR 0), (1, vI p1)] [] h
  unfold F_X_heldNumber at hF
  refine g_seg hK [.iload_n 1] 0 1 (L1 := [(0, vR 0), (1, vI p1)]) (st1 := [vI p1]) (h1 := h) (P := True ∧ True) (by decide +kernel) rfl rfl ⟨trivial, trivial⟩ ?_
  refine g_sw hK 1 77 12 16 #[35, 43, 51, 60, 69] 35 (by decide +kernel) (by decide) ?_
  by_cases hc1 : p1 = 12
  · have hF := ite_t hc1 hF
    rw [show swT 1 77 12 16 [35, 43, 51, 60, 69] p1 = 36 from by rw [hc1]; decide]
    refine g_seg hK [.aload_n 0, .getfield 21] 36 40 (L1 := [(0, vR 0), (1, vI p1)]) (st1 := [vR 3]) (h1 := h) (P := True ∧ kd 0 = 8 ∧ True) (by decide +kernel) rfl rfl ⟨trivial, rfl, trivial⟩ ?_
    refine g_callV1 hK 40 255 (d1 := 0) (ci := 4) (i := 3) (vs := []) (rest := []) (h1 := h) (r := vI (F_St_laid 3 h)) my_yX4_laid vw_X6_255 (by decide) (T_St_laid (o := 3) (h := h) (ks := rfl) (hF := rfl)) rfl rfl rfl (Nat.le_of_ble_eq_true rfl) (by decide +kernel) ?_
    cases hF
    exact hR.1 43 _ _ _ (by decide +kernel) rfl ⟨rfl, rfl⟩
  · have hF := ite_f hc1 hF
    by_cases hc2 : p1 = 13
    · have hF := ite_t hc2 hF
      rw [show swT 1 77 12 16 [35, 43, 51, 60, 69] p1 = 44 from by rw [hc2]; decide]
      refine g_seg hK [.aload_n 0, .getfield 21] 44 48 (L1 := [(0, vR 0), (1, vI p1)]) (st1 := [vR 3]) (h1 := h) (P := True ∧ kd 0 = 8 ∧ True) (by decide +kernel) rfl rfl ⟨trivial, rfl, trivial⟩ ?_
      refine g_callV1 hK 48 256 (d1 := 0) (ci := 4) (i := 3) (vs := []) (rest := []) (h1 := h) (r := vI (F_St_leftOut 3 h)) my_yX4_leftOut vw_X6_256 (by decide) (T_St_leftOut (o := 3) (h := h) (ks := rfl) (hF := rfl)) rfl rfl rfl (Nat.le_of_ble_eq_true rfl) (by decide +kernel) ?_
      cases hF
      exact hR.1 51 _ _ _ (by decide +kernel) rfl ⟨rfl, rfl⟩
    · have hF := ite_f hc2 hF
      by_cases hc3 : p1 = 14
      · have hF := ite_t hc3 hF
        rw [show swT 1 77 12 16 [35, 43, 51, 60, 69] p1 = 52 from by rw [hc3]; decide]
        refine g_seg hK [.aload_n 0, .getfield 21, .iconst 0] 52 57 (L1 := [(0, vR 0), (1, vI p1)]) (st1 := [vI 0, vR 3]) (h1 := h) (P := True ∧ kd 0 = 8 ∧ True ∧ True) (by decide +kernel) rfl rfl ⟨trivial, rfl, trivial, trivial⟩ ?_
        refine g_callV1 hK 57 112 (d1 := 0) (ci := 4) (i := 3) (vs := [vI 0]) (rest := []) (h1 := h) (r := vI (F_St_setting 3 0 h)) my_yX4_setting vw_X6_112 (by decide) (T_St_setting (o := 3) (p1 := 0) (h := h) (ks := rfl) (hF := rfl)) rfl rfl rfl (Nat.le_of_ble_eq_true rfl) (by decide +kernel) ?_
        cases hF
        exact hR.1 60 _ _ _ (by decide +kernel) rfl ⟨rfl, rfl⟩
      · have hF := ite_f hc3 hF
        by_cases hc4 : p1 = 15
        · have hF := ite_t hc4 hF
          rw [show swT 1 77 12 16 [35, 43, 51, 60, 69] p1 = 61 from by rw [hc4]; decide]
          refine g_seg hK [.aload_n 0, .getfield 21, .iconst 1] 61 66 (L1 := [(0, vR 0), (1, vI p1)]) (st1 := [vI 1, vR 3]) (h1 := h) (P := True ∧ kd 0 = 8 ∧ True ∧ True) (by decide +kernel) rfl rfl ⟨trivial, rfl, trivial, trivial⟩ ?_
          refine g_callV1 hK 66 112 (d1 := 0) (ci := 4) (i := 3) (vs := [vI 1]) (rest := []) (h1 := h) (r := vI (F_St_setting 3 1 h)) my_yX4_setting vw_X6_112 (by decide) (T_St_setting (o := 3) (p1 := 1) (h := h) (ks := rfl) (hF := rfl)) rfl rfl rfl (Nat.le_of_ble_eq_true rfl) (by decide +kernel) ?_
          cases hF
          exact hR.1 69 _ _ _ (by decide +kernel) rfl ⟨rfl, rfl⟩
        · have hF := ite_f hc4 hF
          by_cases hc5 : p1 = 16
          · have hF := ite_t hc5 hF
            rw [show swT 1 77 12 16 [35, 43, 51, 60, 69] p1 = 70 from by rw [hc5]; decide]
            refine g_seg hK [.aload_n 0, .getfield 14] 70 74 (L1 := [(0, vR 0), (1, vI p1)]) (st1 := [vR 1]) (h1 := h) (P := True ∧ kd 0 = 8 ∧ True) (by decide +kernel) rfl rfl ⟨trivial, rfl, trivial⟩ ?_
            refine g_callV1 hK 74 63 (d1 := 0) (ci := 3) (i := 1) (vs := []) (rest := []) (h1 := h) (r := vI (F_Ro_size 1 h)) my_yX3_size vw_X6_63 (by decide) (T_Ro_size (o := 1) (h := h) (ko := rfl) (hF := rfl)) rfl rfl rfl (Nat.le_of_ble_eq_true rfl) (by decide +kernel) ?_
            cases hF
            exact hR.1 77 _ _ _ (by decide +kernel) rfl ⟨rfl, rfl⟩
          · have hF := ite_f hc5 hF
            rw [show swT 1 77 12 16 [35, 43, 51, 60, 69] p1 = 78 from by unfold swT; rw [if_pos (by omega)]; decide]
            refine g_seg hK [.aload_n 0, .getfield 35] 78 82 (L1 := [(0, vR 0), (1, vI p1)]) (st1 := [vR 17]) (h1 := h) (P := True ∧ kd 0 = 8 ∧ True) (by decide +kernel) rfl rfl ⟨trivial, rfl, trivial⟩ ?_
            refine g_callV1 hK 82 220 (d1 := 0) (ci := 1) (i := 17) (vs := []) (rest := []) (h1 := h) (r := vI (F_Hi_size h)) my_yX1_size vw_X6_220 (by decide) (T_Hi_size (h := h) (hF := rfl)) rfl rfl rfl (Nat.le_of_ble_eq_true rfl) (by decide +kernel) ?_
            cases hF
            exact hR.1 85 _ _ _ (by decide +kernel) rfl ⟨rfl, rfl⟩
set_option maxHeartbeats 4000000 in
set_option maxRecDepth 100000 in
theorem T_V_linesOfKind {p1 : Int} {h : MH} {r : Int} (hF : F_V_linesOfKind p1 h = some r) : CON 2 yX5_linesOfKind cX5_linesOfKind 2 (Option.some Jvm.ClassFile.FieldType.int) [vR 54, vI p1] h (some (vI r)) h := by
  refine con_of (own := RX5) (fl := flX5) (by decide +kernel) rfl flok_X5 rfl (Nat.le_of_ble_eq_true rfl) ?_
  intro K hK hR
  show K 0 [(0, vR 54), (1, vI p1)] [] h
  unfold F_V_linesOfKind at hF
  refine g_seg hK [.aload_n 0, .iconst 0, .aload_n 0] 0 3 (L1 := [(0, vR 54), (1, vI p1)]) (st1 := [vR 54, vI 0, vR 54]) (h1 := h) (P := True ∧ True ∧ True ∧ True) (by decide +kernel) rfl rfl ⟨trivial, trivial, trivial, trivial⟩ ?_
  refine g_callV1 hK 3 59 (d1 := 1) (ci := 5) (i := 54) (vs := []) (rest := [vI 0, vR 54]) (h1 := h) (r := vI (F_V_size h)) my_yX5_size vw_X5_59 (by decide) (T_V_size (h := h) (hF := rfl)) rfl rfl rfl (Nat.le_of_ble_eq_true rfl) (by decide +kernel) ?_
  refine g_seg hK [.iload_n 1] 6 7 (L1 := [(0, vR 54), (1, vI p1)]) (st1 := [vI p1, vI (F_V_size h), vI 0, vR 54]) (h1 := h) (P := True ∧ True) (by decide +kernel) rfl rfl ⟨trivial, trivial⟩ ?_
  obtain ⟨r1, e2, hF⟩ := ob1_elim hF
  refine g_callV1 hK 7 97 (d1 := 1) (ci := 5) (i := 54) (vs := [vI 0, vI (F_V_size h), vI p1]) (rest := []) (h1 := h) (r := vI r1) my_yX5_linesWithin vw_X5_97 (by decide) (T_V_linesWithin (p1 := 0) (p2 := (F_V_size h)) (p3 := p1) (h := h) (hF := e2)) rfl rfl rfl (Nat.le_of_ble_eq_true rfl) (by decide +kernel) ?_
  cases hF
  exact hR.1 10 _ _ _ (by decide +kernel) rfl ⟨rfl, rfl⟩
set_option maxHeartbeats 4000000 in
set_option maxRecDepth 100000 in
theorem LT_V_plainHunks_L4 {K : KT} (hK : Rules RX5 cX5_plainHunks 3 (Option.some Jvm.ClassFile.FieldType.int) flX5 2 K) {h : MH} : ∀ (n : Nat) (x1 : Int) (x2 : Int) (x1' : Int) (x2' : Int), F_V_plainHunks_L4 h n x1 x2 = some (x1', x2') → K 34 [(0, vR 54), (1, vI x1'), (2, vI x2')] [] h → K 4 [(0, vR 54), (1, vI x1), (2, vI x2)] [] h := by
  intro n
  induction n with
  | zero =>
    intro x1 x2 x1' x2' hF
    cases hF
  | succ n ih =>
    intro x1 x2 x1' x2' hF hE
    unfold F_V_plainHunks_L4 at hF
    refine g_seg hK [.iload_n 2, .aload_n 0] 4 6 (L1 := [(0, vR 54), (1, vI x1), (2, vI x2)]) (st1 := [vR 54, vI x2]) (h1 := h) (P := True ∧ True ∧ True) (by decide +kernel) rfl rfl ⟨trivial, trivial, trivial⟩ ?_
    refine g_callV1 hK 6 64 (d1 := 1) (ci := 5) (i := 54) (vs := []) (rest := [vI x2]) (h1 := h) (r := vI (F_V_hunks h)) my_yX5_hunks vw_X5_64 (by decide) (T_V_hunks (h := h) (hF := rfl)) rfl rfl rfl (Nat.le_of_ble_eq_true rfl) (by decide +kernel) ?_
    refine g_icmp hK 9 .ge (25) 34 (t1 := 12) (t2 := 34) (by decide +kernel) (by decide) rfl rfl (fun (hc1 : x2 < F_V_hunks h) => ?_) (fun (hc1 : ¬ (x2 < F_V_hunks h)) => ?_)
    · have hF := ite_t hc1 hF
      refine g_seg hK [.iload_n 1, .aload_n 0, .iload_n 2] 12 15 (L1 := [(0, vR 54), (1, vI x1), (2, vI x2)]) (st1 := [vI x2, vR 54, vI x1]) (h1 := h) (P := True ∧ True ∧ True ∧ True) (by decide +kernel) rfl rfl ⟨trivial, trivial, trivial, trivial⟩ ?_
      refine g_callV1 hK 15 71 (d1 := 1) (ci := 5) (i := 54) (vs := [vI x2]) (rest := [vI x1]) (h1 := h) (r := vI (F_V_isPlain x2 h)) my_yX5_isPlain vw_X5_71 (by decide) (T_V_isPlain (p1 := x2) (h := h) (hF := rfl)) rfl rfl rfl (Nat.le_of_ble_eq_true rfl) (by decide +kernel) ?_
      obtain ⟨s2, e5, hF⟩ := jn1_elim hF
      have j3 : K 26 [(0, vR 54), (2, vI x2)] [vI s2, vI x1] h := by
        refine g_seg hK [.iadd, .istore_n 1, .iinc 2 1] 26 31 (L1 := [(2, vI (wr (x2 + 1))), (1, vI (wr (x1 + s2))), (0, vR 54)]) (st1 := []) (h1 := h) (P := True ∧ True ∧ True ∧ True) (by decide +kernel) rfl rfl ⟨trivial, trivial, trivial, trivial⟩ ?_
        refine g_goto hK 31 (-27) 4 (by decide +kernel) (by decide) ?_
        refine hK.2.1 _ _ ([(0, vR 54), (1, vI (wr (x1 + s2))), (2, vI (wr (x2 + 1)))]) _ _ (sub_of [2, 1, 0] rfl) ?_
        exact ih _ _ _ _ hF hE
      clear hF
      have hF := e5
      refine g_ifz hK 18 .eq (7) 25 (t1 := 25) (t2 := 21) (by decide +kernel) (by decide) rfl rfl (fun (hc4 : F_V_isPlain x2 h = 0) => ?_) (fun (hc4 : ¬ (F_V_isPlain x2 h = 0)) => ?_)
      · have hF := ite_t hc4 hF
        refine g_seg hK [.iconst 0] 25 26 (L1 := [(0, vR 54), (1, vI x1), (2, vI x2)]) (st1 := [vI 0, vI x1]) (h1 := h) (P := True ∧ True) (by decide +kernel) rfl rfl ⟨trivial, trivial⟩ ?_
        refine hK.2.1 _ _ ([(0, vR 54), (2, vI x2)]) _ _ (sub_of [0, 2] rfl) ?_
        cases hF
        exact j3
      · have hF := ite_f hc4 hF
        refine g_seg hK [.iconst 1] 21 22 (L1 := [(0, vR 54), (1, vI x1), (2, vI x2)]) (st1 := [vI 1, vI x1]) (h1 := h) (P := True ∧ True) (by decide +kernel) rfl rfl ⟨trivial, trivial⟩ ?_
        refine g_goto hK 22 (4) 26 (by decide +kernel) (by decide) ?_
        refine hK.2.1 _ _ ([(0, vR 54), (2, vI x2)]) _ _ (sub_of [0, 2] rfl) ?_
        cases hF
        exact j3
    · have hF := ite_f hc1 hF
      cases hF
      exact hE
set_option maxHeartbeats 4000000 in
set_option maxRecDepth 100000 in
theorem T_V_plainHunks {h : MH} {r : Int} (hF : F_V_plainHunks h = some r) : CON 2 yX5_plainHunks cX5_plainHunks 3 (Option.some Jvm.ClassFile.FieldType.int) [vR 54] h (some (vI r)) h := by
  refine con_of (own := RX5) (fl := flX5) (by decide +kernel) rfl flok_X5 rfl (Nat.le_of_ble_eq_true rfl) ?_
  intro K hK hR
  show K 0 [(0, vR 54)] [] h
  unfold F_V_plainHunks at hF
  refine g_seg hK [.iconst 0, .istore_n 1, .iconst 0, .istore_n 2] 0 4 (L1 := [(2, vI 0), (1, vI 0), (0, vR 54)]) (st1 := []) (h1 := h) (P := True ∧ True ∧ True ∧ True ∧ True) (by decide +kernel) rfl rfl ⟨trivial, trivial, trivial, trivial, trivial⟩ ?_
  refine hK.2.1 _ _ ([(0, vR 54), (1, vI 0), (2, vI 0)]) _ _ (sub_of [2, 1, 0] rfl) ?_
  obtain ⟨x1_1, x2_2, e3, hF⟩ := ob2_elim hF
  refine LT_V_plainHunks_L4 hK _ _ _ _ _ e3 ?_
  refine g_seg hK [.iload_n 1] 34 35 (L1 := [(0, vR 54), (1, vI x1_1), (2, vI x2_2)]) (st1 := [vI x1_1]) (h1 := h) (P := True ∧ True) (by decide +kernel) rfl rfl ⟨trivial, trivial⟩ ?_
  cases hF
  exact hR.1 35 _ _ _ (by decide +kernel) rfl ⟨rfl, rfl⟩
set_option maxHeartbeats 4000000 in
set_option maxRecDepth 100000 in
theorem LT_V_slidingHunks_L4 {K : KT} (hK : Rules RX5 cX5_slidingHunks 3 (Option.some Jvm.ClassFile.FieldType.int) flX5 3 K) {h : MH} : ∀ (n : Nat) (x1 : Int) (x2 : Int) (x1' : Int) (x2' : Int), F_V_slidingHunks_L4 h n x1 x2 = some (x1', x2') → K 42 [(0, vR 54), (1, vI x1'), (2, vI x2')] [] h → K 4 [(0, vR 54), (1, vI x1), (2, vI x2)] [] h := by
  intro n
  induction n with
  | zero =>
    intro x1 x2 x1' x2' hF
    cases hF
  | succ n ih =>
    intro x1 x2 x1' x2' hF hE
    unfold F_V_slidingHunks_L4 at hF
    refine g_seg hK [.iload_n 2, .aload_n 0] 4 6 (L1 := [(0, vR 54), (1, vI x1), (2, vI x2)]) (st1 := [vR 54, vI x2]) (h1 := h) (P := True ∧ True ∧ True) (by decide +kernel) rfl rfl ⟨trivial, trivial, trivial⟩ ?_
    refine g_callV1 hK 6 64 (d1 := 1) (ci := 5) (i := 54) (vs := []) (rest := [vI x2]) (h1 := h) (r := vI (F_V_hunks h)) my_yX5_hunks vw_X5_64 (by decide) (T_V_hunks (h := h) (hF := rfl)) rfl rfl rfl (Nat.le_of_ble_eq_true rfl) (by decide +kernel) ?_
    refine g_icmp hK 9 .ge (33) 42 (t1 := 12) (t2 := 42) (by decide +kernel) (by decide) rfl rfl (fun (hc1 : x2 < F_V_hunks h) => ?_) (fun (hc1 : ¬ (x2 < F_V_hunks h)) => ?_)
    · have hF := ite_t hc1 hF
      refine g_seg hK [.iload_n 1, .aload_n 0, .iload_n 2, .iconst 0] 12 16 (L1 := [(0, vR 54), (1, vI x1), (2, vI x2)]) (st1 := [vI 0, vI x2, vR 54, vI x1]) (h1 := h) (P := True ∧ True ∧ True ∧ True ∧ True) (by decide +kernel) rfl rfl ⟨trivial, trivial, trivial, trivial, trivial⟩ ?_
      obtain ⟨r2, e3, hF⟩ := ob1_elim hF
      refine g_callV1 hK 16 90 (d1 := 2) (ci := 5) (i := 54) (vs := [vI x2, vI 0]) (rest := [vI x1]) (h1 := h) (r := vI r2) my_yX5_reach vw_X5_90 (by decide) (T_V_reach (p1 := x2) (p2 := 0) (h := h) (hF := e3)) rfl rfl rfl (Nat.le_of_ble_eq_true rfl) (by decide +kernel) ?_
      refine g_seg hK [.aload_n 0, .iload_n 2, .iconst 1] 19 22 (L1 := [(0, vR 54), (1, vI x1), (2, vI x2)]) (st1 := [vI 1, vI x2, vR 54, vI r2, vI x1]) (h1 := h) (P := True ∧ True ∧ True ∧ True) (by decide +kernel) rfl rfl ⟨trivial, trivial, trivial, trivial⟩ ?_
      obtain ⟨r4, e5, hF⟩ := ob1_elim hF
      refine g_callV1 hK 22 90 (d1 := 2) (ci := 5) (i := 54) (vs := [vI x2, vI 1]) (rest := [vI r2, vI x1]) (h1 := h) (r := vI r4) my_yX5_reach vw_X5_90 (by decide) (T_V_reach (p1 := x2) (p2 := 1) (h := h) (hF := e5)) rfl rfl rfl (Nat.le_of_ble_eq_true rfl) (by decide +kernel) ?_
      refine g_seg hK [.iadd] 25 26 (L1 := [(0, vR 54), (1, vI x1), (2, vI x2)]) (st1 := [vI (wr (r2 + r4)), vI x1]) (h1 := h) (P := True ∧ True) (by decide +kernel) rfl rfl ⟨trivial, trivial⟩ ?_
      obtain ⟨s6, e9, hF⟩ := jn1_elim hF
      have j7 : K 34 [(0, vR 54), (2, vI x2)] [vI s6, vI x1] h := by
        refine g_seg hK [.iadd, .istore_n 1, .iinc 2 1] 34 39 (L1 := [(2, vI (wr (x2 + 1))), (1, vI (wr (x1 + s6))), (0, vR 54)]) (st1 := []) (h1 := h) (P := True ∧ True ∧ True ∧ True) (by decide +kernel) rfl rfl ⟨trivial, trivial, trivial, trivial⟩ ?_
        refine g_goto hK 39 (-35) 4 (by decide +kernel) (by decide) ?_
        refine hK.2.1 _ _ ([(0, vR 54), (1, vI (wr (x1 + s6))), (2, vI (wr (x2 + 1)))]) _ _ (sub_of [2, 1, 0] rfl) ?_
        exact ih _ _ _ _ hF hE
      clear hF
      have hF := e9
      refine g_ifz hK 26 .le (7) 33 (t1 := 33) (t2 := 29) (by decide +kernel) (by decide) rfl rfl (fun (hc8 : wr (r2 + r4) ≤ 0) => ?_) (fun (hc8 : ¬ (wr (r2 + r4) ≤ 0)) => ?_)
      · have hF := ite_t hc8 hF
        refine g_seg hK [.iconst 0] 33 34 (L1 := [(0, vR 54), (1, vI x1), (2, vI x2)]) (st1 := [vI 0, vI x1]) (h1 := h) (P := True ∧ True) (by decide +kernel) rfl rfl ⟨trivial, trivial⟩ ?_
        refine hK.2.1 _ _ ([(0, vR 54), (2, vI x2)]) _ _ (sub_of [0, 2] rfl) ?_
        cases hF
        exact j7
      · have hF := ite_f hc8 hF
        refine g_seg hK [.iconst 1] 29 30 (L1 := [(0, vR 54), (1, vI x1), (2, vI x2)]) (st1 := [vI 1, vI x1]) (h1 := h) (P := True ∧ True) (by decide +kernel) rfl rfl ⟨trivial, trivial⟩ ?_
        refine g_goto hK 30 (4) 34 (by decide +kernel) (by decide) ?_
        refine hK.2.1 _ _ ([(0, vR 54), (2, vI x2)]) _ _ (sub_of [0, 2] rfl) ?_
        cases hF
        exact j7
    · have hF := ite_f hc1 hF
      cases hF
      exact hE
set_option maxHeartbeats 4000000 in
set_option maxRecDepth 100000 in
theorem T_V_slidingHunks {h : MH} {r : Int} (hF : F_V_slidingHunks h = some r) : CON 3 yX5_slidingHunks cX5_slidingHunks 3 (Option.some Jvm.ClassFile.FieldType.int) [vR 54] h (some (vI r)) h := by
  refine con_of (own := RX5) (fl := flX5) (by decide +kernel) rfl flok_X5 rfl (Nat.le_of_ble_eq_true rfl) ?_
  intro K hK hR
  show K 0 [(0, vR 54)] [] h
  unfold F_V_slidingHunks at hF
  refine g_seg hK [.iconst 0, .istore_n 1, .iconst 0, .istore_n 2] 0 4 (L1 := [(2, vI 0), (1, vI 0), (0, vR 54)]) (st1 := []) (h1 := h) (P := True ∧ True ∧ True ∧ True ∧ True) (by decide +kernel) rfl rfl ⟨trivial, trivial, trivial, trivial, trivial⟩ ?_
  refine hK.2.1 _ _ ([(0, vR 54), (1, vI 0), (2, vI 0)]) _ _ (sub_of [2, 1, 0] rfl) ?_
  obtain ⟨x1_1, x2_2, e3, hF⟩ := ob2_elim hF
  refine LT_V_slidingHunks_L4 hK _ _ _ _ _ e3 ?_
  refine g_seg hK [.iload_n 1] 42 43 (L1 := [(0, vR 54), (1, vI x1_1), (2, vI x2_2)]) (st1 := [vI x1_1]) (h1 := h) (P := True ∧ True) (by decide +kernel) rfl rfl ⟨trivial, trivial⟩ ?_
  cases hF
  exact hR.1 43 _ _ _ (by decide +kernel) rfl ⟨rfl, rfl⟩
set_option maxHeartbeats 4000000 in
set_option maxRecDepth 100000 in
theorem LT_V_worthOfAll_L4 {K : KT} (hK : Rules RX5 cX5_worthOfAll 3 (Option.some Jvm.ClassFile.FieldType.int) flX5 3 K) {h : MH} : ∀ (n : Nat) (x1 : Int) (x2 : Int) (x1' : Int) (x2' : Int), F_V_worthOfAll_L4 h n x1 x2 = some (x1', x2') → K 26 [(0, vR 54), (1, vI x1'), (2, vI x2')] [] h → K 4 [(0, vR 54), (1, vI x1), (2, vI x2)] [] h := by
  intro n
  induction n with
  | zero =>
    intro x1 x2 x1' x2' hF
    cases hF
  | succ n ih =>
    intro x1 x2 x1' x2' hF hE
    unfold F_V_worthOfAll_L4 at hF
    refine g_seg hK [.iload_n 2, .aload_n 0] 4 6 (L1 := [(0, vR 54), (1, vI x1), (2, vI x2)]) (st1 := [vR 54, vI x2]) (h1 := h) (P := True ∧ True ∧ True) (by decide +kernel) rfl rfl ⟨trivial, trivial, trivial⟩ ?_
    refine g_callV1 hK 6 64 (d1 := 1) (ci := 5) (i := 54) (vs := []) (rest := [vI x2]) (h1 := h) (r := vI (F_V_hunks h)) my_yX5_hunks vw_X5_64 (by decide) (T_V_hunks (h := h) (hF := rfl)) rfl rfl rfl (Nat.le_of_ble_eq_true rfl) (by decide +kernel) ?_
    refine g_icmp hK 9 .ge (17) 26 (t1 := 12) (t2 := 26) (by decide +kernel) (by decide) rfl rfl (fun (hc1 : x2 < F_V_hunks h) => ?_) (fun (hc1 : ¬ (x2 < F_V_hunks h)) => ?_)
    · have hF := ite_t hc1 hF
      refine g_seg hK [.iload_n 1, .aload_n 0, .iload_n 2] 12 15 (L1 := [(0, vR 54), (1, vI x1), (2, vI x2)]) (st1 := [vI x2, vR 54, vI x1]) (h1 := h) (P := True ∧ True ∧ True ∧ True) (by decide +kernel) rfl rfl ⟨trivial, trivial, trivial, trivial⟩ ?_
      refine g_callV1 hK 15 106 (d1 := 2) (ci := 5) (i := 54) (vs := [vI x2]) (rest := [vI x1]) (h1 := h) (r := vI (F_V_worth x2 h)) my_yX5_worth vw_X5_106 (by decide) (T_V_worth (p1 := x2) (h := h) (hF := rfl)) rfl rfl rfl (Nat.le_of_ble_eq_true rfl) (by decide +kernel) ?_
      refine g_seg hK [.iadd, .istore_n 1, .iinc 2 1] 18 23 (L1 := [(2, vI (wr (x2 + 1))), (1, vI (wr (x1 + (F_V_worth x2 h)))), (0, vR 54)]) (st1 := []) (h1 := h) (P := True ∧ True ∧ True ∧ True) (by decide +kernel) rfl rfl ⟨trivial, trivial, trivial, trivial⟩ ?_
      refine g_goto hK 23 (-19) 4 (by decide +kernel) (by decide) ?_
      refine hK.2.1 _ _ ([(0, vR 54), (1, vI (wr (x1 + (F_V_worth x2 h)))), (2, vI (wr (x2 + 1)))]) _ _ (sub_of [2, 1, 0] rfl) ?_
      exact ih _ _ _ _ hF hE
    · have hF := ite_f hc1 hF
      cases hF
      exact hE
set_option maxHeartbeats 4000000 in
set_option maxRecDepth 100000 in
theorem T_V_worthOfAll {h : MH} {r : Int} (hF : F_V_worthOfAll h = some r) : CON 3 yX5_worthOfAll cX5_worthOfAll 3 (Option.some Jvm.ClassFile.FieldType.int) [vR 54] h (some (vI r)) h := by
  refine con_of (own := RX5) (fl := flX5) (by decide +kernel) rfl flok_X5 rfl (Nat.le_of_ble_eq_true rfl) ?_
  intro K hK hR
  show K 0 [(0, vR 54)] [] h
  unfold F_V_worthOfAll at hF
  refine g_seg hK [.iconst 0, .istore_n 1, .iconst 0, .istore_n 2] 0 4 (L1 := [(2, vI 0), (1, vI 0), (0, vR 54)]) (st1 := []) (h1 := h) (P := True ∧ True ∧ True ∧ True ∧ True) (by decide +kernel) rfl rfl ⟨trivial, trivial, trivial, trivial, trivial⟩ ?_
  refine hK.2.1 _ _ ([(0, vR 54), (1, vI 0), (2, vI 0)]) _ _ (sub_of [2, 1, 0] rfl) ?_
  obtain ⟨x1_1, x2_2, e3, hF⟩ := ob2_elim hF
  refine LT_V_worthOfAll_L4 hK _ _ _ _ _ e3 ?_
  refine g_seg hK [.iload_n 1] 26 27 (L1 := [(0, vR 54), (1, vI x1_1), (2, vI x2_2)]) (st1 := [vI x1_1]) (h1 := h) (P := True ∧ True) (by decide +kernel) rfl rfl ⟨trivial, trivial⟩ ?_
  cases hF
  exact hR.1 27 _ _ _ (by decide +kernel) rfl ⟨rfl, rfl⟩
set_option maxHeartbeats 4000000 in
set_option maxRecDepth 100000 in
theorem LT_V_longestKept_L6 {K : KT} (hK : Rules RX5 cX5_longestKept 4 (Option.some Jvm.ClassFile.FieldType.int) flX5 2 K) {h : MH} : ∀ (n : Nat) (x1 : Int) (x2 : Int) (x3 : Int) (x1' : Int) (x2' : Int) (x3' : Int), F_V_longestKept_L6 h n x1 x2 x3 = some (x1', x2', x3') → K 42 [(0, vR 54), (1, vI x1'), (2, vI x2'), (3, vI x3')] [] h → K 6 [(0, vR 54), (1, vI x1), (2, vI x2), (3, vI x3)] [] h := by
  intro n
  induction n with
  | zero =>
    intro x1 x2 x3 x1' x2' x3' hF
    cases hF
  | succ n ih =>
    intro x1 x2 x3 x1' x2' x3' hF hE
    unfold F_V_longestKept_L6 at hF
    refine g_seg hK [.iload_n 3, .aload_n 0] 6 8 (L1 := [(0, vR 54), (1, vI x1), (2, vI x2), (3, vI x3)]) (st1 := [vR 54, vI x3]) (h1 := h) (P := True ∧ True ∧ True) (by decide +kernel) rfl rfl ⟨trivial, trivial, trivial⟩ ?_
    refine g_callV1 hK 8 59 (d1 := 1) (ci := 5) (i := 54) (vs := []) (rest := [vI x3]) (h1 := h) (r := vI (F_V_size h)) my_yX5_size vw_X5_59 (by decide) (T_V_size (h := h) (hF := rfl)) rfl rfl rfl (Nat.le_of_ble_eq_true rfl) (by decide +kernel) ?_
    refine g_icmp hK 11 .ge (31) 42 (t1 := 14) (t2 := 42) (by decide +kernel) (by decide) rfl rfl (fun (hc1 : x3 < F_V_size h) => ?_) (fun (hc1 : ¬ (x3 < F_V_size h)) => ?_)
    · have hF := ite_t hc1 hF
      refine g_seg hK [.aload_n 0, .iload_n 3] 14 16 (L1 := [(0, vR 54), (1, vI x1), (2, vI x2), (3, vI x3)]) (st1 := [vI x3, vR 54]) (h1 := h) (P := True ∧ True ∧ True) (by decide +kernel) rfl rfl ⟨trivial, trivial, trivial⟩ ?_
      refine g_callV1 hK 16 60 (d1 := 1) (ci := 5) (i := 54) (vs := [vI x3]) (rest := []) (h1 := h) (r := vI (F_V_inHunk x3 h)) my_yX5_inHunk vw_X5_60 (by decide) (T_V_inHunk (p1 := x3) (h := h) (hF := rfl)) rfl rfl rfl (Nat.le_of_ble_eq_true rfl) (by decide +kernel) ?_
      obtain ⟨s2, e5, hF⟩ := jn1_elim hF
      have j3 : K 29 [(0, vR 54), (1, vI x1), (3, vI x3)] [vI s2] h := by
        refine g_seg hK [.istore_n 2, .iload_n 1, .iload_n 2] 29 32 (L1 := [(2, vI s2), (0, vR 54), (1, vI x1), (3, vI x3)]) (st1 := [vI s2, vI x1]) (h1 := h) (P := True ∧ True ∧ True ∧ True) (by decide +kernel) rfl rfl ⟨trivial, trivial, trivial, trivial⟩ ?_
        refine g_mmax hK 32 101 (by decide) mw_X5_101 (Nat.le_of_ble_eq_true rfl) (by decide +kernel) ?_
        refine g_seg hK [.istore_n 1, .iinc 3 1] 35 39 (L1 := [(3, vI (wr (x3 + 1))), (1, vI (imax x1 s2)), (2, vI s2), (0, vR 54)]) (st1 := []) (h1 := h) (P := True ∧ True ∧ True) (by decide +kernel) rfl rfl ⟨trivial, trivial, trivial⟩ ?_
        refine g_goto hK 39 (-33) 6 (by decide +kernel) (by decide) ?_
        refine hK.2.1 _ _ ([(0, vR 54), (1, vI (imax x1 s2)), (2, vI s2), (3, vI (wr (x3 + 1)))]) _ _ (sub_of [3, 1, 2, 0] rfl) ?_
        exact ih _ _ _ _ _ _ hF hE
      clear hF
      have hF := e5
      refine g_ifz hK 19 .eq (7) 26 (t1 := 26) (t2 := 22) (by decide +kernel) (by decide) rfl rfl (fun (hc4 : F_V_inHunk x3 h = 0) => ?_) (fun (hc4 : ¬ (F_V_inHunk x3 h = 0)) => ?_)
      · have hF := ite_t hc4 hF
        refine g_seg hK [.iload_n 2, .iconst 1, .iadd] 26 29 (L1 := [(0, vR 54), (1, vI x1), (2, vI x2), (3, vI x3)]) (st1 := [vI (wr (x2 + 1))]) (h1 := h) (P := True ∧ True ∧ True ∧ True) (by decide +kernel) rfl rfl ⟨trivial, trivial, trivial, trivial⟩ ?_
        refine hK.2.1 _ _ ([(0, vR 54), (1, vI x1), (3, vI x3)]) _ _ (sub_of [0, 1, 3] rfl) ?_
        cases hF
        exact j3
      · have hF := ite_f hc4 hF
        refine g_seg hK [.iconst 0] 22 23 (L1 := [(0, vR 54), (1, vI x1), (2, vI x2), (3, vI x3)]) (st1 := [vI 0]) (h1 := h) (P := True ∧ True) (by decide +kernel) rfl rfl ⟨trivial, trivial⟩ ?_
        refine g_goto hK 23 (6) 29 (by decide +kernel) (by decide) ?_
        refine hK.2.1 _ _ ([(0, vR 54), (1, vI x1), (3, vI x3)]) _ _ (sub_of [0, 1, 3] rfl) ?_
        cases hF
        exact j3
    · have hF := ite_f hc1 hF
      cases hF
      exact hE
set_option maxHeartbeats 4000000 in
set_option maxRecDepth 100000 in
theorem T_V_longestKept {h : MH} {r : Int} (hF : F_V_longestKept h = some r) : CON 2 yX5_longestKept cX5_longestKept 4 (Option.some Jvm.ClassFile.FieldType.int) [vR 54] h (some (vI r)) h := by
  refine con_of (own := RX5) (fl := flX5) (by decide +kernel) rfl flok_X5 rfl (Nat.le_of_ble_eq_true rfl) ?_
  intro K hK hR
  show K 0 [(0, vR 54)] [] h
  unfold F_V_longestKept at hF
  refine g_seg hK [.iconst 0, .istore_n 1, .iconst 0, .istore_n 2, .iconst 0, .istore_n 3] 0 6 (L1 := [(3, vI 0), (2, vI 0), (1, vI 0), (0, vR 54)]) (st1 := []) (h1 := h) (P := True ∧ True ∧ True ∧ True ∧ True ∧ True ∧ True) (by decide +kernel) rfl rfl ⟨trivial, trivial, trivial, trivial, trivial, trivial, trivial⟩ ?_
  refine hK.2.1 _ _ ([(0, vR 54), (1, vI 0), (2, vI 0), (3, vI 0)]) _ _ (sub_of [3, 2, 1, 0] rfl) ?_
  obtain ⟨x1_1, x2_2, x3_3, e4, hF⟩ := ob3_elim hF
  refine LT_V_longestKept_L6 hK _ _ _ _ _ _ _ e4 ?_
  refine g_seg hK [.iload_n 1] 42 43 (L1 := [(0, vR 54), (1, vI x1_1), (2, vI x2_2), (3, vI x3_3)]) (st1 := [vI x1_1]) (h1 := h) (P := True ∧ True) (by decide +kernel) rfl rfl ⟨trivial, trivial⟩ ?_
  cases hF
  exact hR.1 43 _ _ _ (by decide +kernel) rfl ⟨rfl, rfl⟩
set_option maxHeartbeats 4000000 in
set_option maxRecDepth 100000 in
theorem T_X_shownNumber {p1 : Int} {h : MH} {r : Int} (hF : F_X_shownNumber p1 h = some r) : CON 4 yX6_shownNumber cX6_shownNumber 2 (Option.some Jvm.ClassFile.FieldType.int) [vR 0, vI p1] h (some (vI r)) h := by
  refine con_of (own := RX6) (fl := flX6) (by decide +kernel) rfl flok_X6 rfl (Nat.le_of_ble_eq_true rfl) ?_
  intro K hK hR
  show K 0 [(0, vR 0), (1, vI p1)] [] h
  unfold F_X_shownNumber at hF
  refine g_seg hK [.iload_n 1] 0 1 (L1 := [(0, vR 0), (1, vI p1)]) (st1 := [vI p1]) (h1 := h) (P := True ∧ True) (by decide +kernel) rfl rfl ⟨trivial, trivial⟩ ?_
  refine g_sw hK 1 114 3 10 #[47, 55, 64, 73, 82, 90, 98, 106] 47 (by decide +kernel) (by decide) ?_
  by_cases hc1 : p1 = 3
  · have hF := ite_t hc1 hF
    rw [show swT 1 114 3 10 [47, 55, 64, 73, 82, 90, 98, 106] p1 = 48 from by rw [hc1]; decide]
    refine g_seg hK [.aload_n 0, .getfield 52] 48 52 (L1 := [(0, vR 0), (1, vI p1)]) (st1 := [vR 54]) (h1 := h) (P := True ∧ kd 0 = 8 ∧ True) (by decide +kernel) rfl rfl ⟨trivial, rfl, trivial⟩ ?_
    refine g_callV1 hK 52 148 (d1 := 1) (ci := 5) (i := 54) (vs := []) (rest := []) (h1 := h) (r := vI (F_V_size h)) my_yX5_size vw_X6_148 (by decide) (T_V_size (h := h) (hF := rfl)) rfl rfl rfl (Nat.le_of_ble_eq_true rfl) (by decide +kernel) ?_
    cases hF
    exact hR.1 55 _ _ _ (by decide +kernel) rfl ⟨rfl, rfl⟩
  · have hF := ite_f hc1 hF
    by_cases hc2 : p1 = 4
    · have hF := ite_t hc2 hF
      rw [show swT 1 114 3 10 [47, 55, 64, 73, 82, 90, 98, 106] p1 = 56 from by rw [hc2]; decide]
      refine g_seg hK [.aload_n 0, .getfield 52, .iconst 0] 56 61 (L1 := [(0, vR 0), (1, vI p1)]) (st1 := [vI 0, vR 54]) (h1 := h) (P := True ∧ kd 0 = 8 ∧ True ∧ True) (by decide +kernel) rfl rfl ⟨trivial, rfl, trivial, trivial⟩ ?_
      obtain ⟨r3, e4, hF⟩ := ob1_elim hF
      refine g_callV1 hK 61 240 (d1 := 2) (ci := 5) (i := 54) (vs := [vI 0]) (rest := []) (h1 := h) (r := vI r3) my_yX5_linesOfKind vw_X6_240 (by decide) (T_V_linesOfKind (p1 := 0) (h := h) (hF := e4)) rfl rfl rfl (Nat.le_of_ble_eq_true rfl) (by decide +kernel) ?_
      cases hF
      exact hR.1 64 _ _ _ (by decide +kernel) rfl ⟨rfl, rfl⟩
    · have hF := ite_f hc2 hF
      by_cases hc5 : p1 = 5
      · have hF := ite_t hc5 hF
        rw [show swT 1 114 3 10 [47, 55, 64, 73, 82, 90, 98, 106] p1 = 65 from by rw [hc5]; decide]
        refine g_seg hK [.aload_n 0, .getfield 52, .iconst 1] 65 70 (L1 := [(0, vR 0), (1, vI p1)]) (st1 := [vI 1, vR 54]) (h1 := h) (P := True ∧ kd 0 = 8 ∧ True ∧ True) (by decide +kernel) rfl rfl ⟨trivial, rfl, trivial, trivial⟩ ?_
        obtain ⟨r6, e7, hF⟩ := ob1_elim hF
        refine g_callV1 hK 70 240 (d1 := 2) (ci := 5) (i := 54) (vs := [vI 1]) (rest := []) (h1 := h) (r := vI r6) my_yX5_linesOfKind vw_X6_240 (by decide) (T_V_linesOfKind (p1 := 1) (h := h) (hF := e7)) rfl rfl rfl (Nat.le_of_ble_eq_true rfl) (by decide +kernel) ?_
        cases hF
        exact hR.1 73 _ _ _ (by decide +kernel) rfl ⟨rfl, rfl⟩
      · have hF := ite_f hc5 hF
        by_cases hc8 : p1 = 6
        · have hF := ite_t hc8 hF
          rw [show swT 1 114 3 10 [47, 55, 64, 73, 82, 90, 98, 106] p1 = 74 from by rw [hc8]; decide]
          refine g_seg hK [.aload_n 0, .getfield 52, .iconst 2] 74 79 (L1 := [(0, vR 0), (1, vI p1)]) (st1 := [vI 2, vR 54]) (h1 := h) (P := True ∧ kd 0 = 8 ∧ True ∧ True) (by decide +kernel) rfl rfl ⟨trivial, rfl, trivial, trivial⟩ ?_
          obtain ⟨r9, e10, hF⟩ := ob1_elim hF
          refine g_callV1 hK 79 240 (d1 := 2) (ci := 5) (i := 54) (vs := [vI 2]) (rest := []) (h1 := h) (r := vI r9) my_yX5_linesOfKind vw_X6_240 (by decide) (T_V_linesOfKind (p1 := 2) (h := h) (hF := e10)) rfl rfl rfl (Nat.le_of_ble_eq_true rfl) (by decide +kernel) ?_
          cases hF
          exact hR.1 82 _ _ _ (by decide +kernel) rfl ⟨rfl, rfl⟩
        · have hF := ite_f hc8 hF
          by_cases hc11 : p1 = 7
          · have hF := ite_t hc11 hF
            rw [show swT 1 114 3 10 [47, 55, 64, 73, 82, 90, 98, 106] p1 = 83 from by rw [hc11]; decide]
            refine g_seg hK [.aload_n 0, .getfield 52] 83 87 (L1 := [(0, vR 0), (1, vI p1)]) (st1 := [vR 54]) (h1 := h) (P := True ∧ kd 0 = 8 ∧ True) (by decide +kernel) rfl rfl ⟨trivial, rfl, trivial⟩ ?_
            refine g_callV1 hK 87 135 (d1 := 1) (ci := 5) (i := 54) (vs := []) (rest := []) (h1 := h) (r := vI (F_V_hunks h)) my_yX5_hunks vw_X6_135 (by decide) (T_V_hunks (h := h) (hF := rfl)) rfl rfl rfl (Nat.le_of_ble_eq_true rfl) (by decide +kernel) ?_
            cases hF
            exact hR.1 90 _ _ _ (by decide +kernel) rfl ⟨rfl, rfl⟩
          · have hF := ite_f hc11 hF
            by_cases hc12 : p1 = 8
            · have hF := ite_t hc12 hF
              rw [show swT 1 114 3 10 [47, 55, 64, 73, 82, 90, 98, 106] p1 = 91 from by rw [hc12]; decide]
              refine g_seg hK [.aload_n 0, .getfield 52] 91 95 (L1 := [(0, vR 0), (1, vI p1)]) (st1 := [vR 54]) (h1 := h) (P := True ∧ kd 0 = 8 ∧ True) (by decide +kernel) rfl rfl ⟨trivial, rfl, trivial⟩ ?_
              obtain ⟨r13, e14, hF⟩ := ob1_elim hF
              refine g_callV1 hK 95 243 (d1 := 2) (ci := 5) (i := 54) (vs := []) (rest := []) (h1 := h) (r := vI r13) my_yX5_plainHunks vw_X6_243 (by decide) (T_V_plainHunks (h := h) (hF := e14)) rfl rfl rfl (Nat.le_of_ble_eq_true rfl) (by decide +kernel) ?_
              cases hF
              exact hR.1 98 _ _ _ (by decide +kernel) rfl ⟨rfl, rfl⟩
            · have hF := ite_f hc12 hF
              by_cases hc15 : p1 = 9
              · have hF := ite_t hc15 hF
                rw [show swT 1 114 3 10 [47, 55, 64, 73, 82, 90, 98, 106] p1 = 99 from by rw [hc15]; decide]
                refine g_seg hK [.aload_n 0, .getfield 52] 99 103 (L1 := [(0, vR 0), (1, vI p1)]) (st1 := [vR 54]) (h1 := h) (P := True ∧ kd 0 = 8 ∧ True) (by decide +kernel) rfl rfl ⟨trivial, rfl, trivial⟩ ?_
                obtain ⟨r16, e17, hF⟩ := ob1_elim hF
                refine g_callV1 hK 103 246 (d1 := 3) (ci := 5) (i := 54) (vs := []) (rest := []) (h1 := h) (r := vI r16) my_yX5_slidingHunks vw_X6_246 (by decide) (T_V_slidingHunks (h := h) (hF := e17)) rfl rfl rfl (Nat.le_of_ble_eq_true rfl) (by decide +kernel) ?_
                cases hF
                exact hR.1 106 _ _ _ (by decide +kernel) rfl ⟨rfl, rfl⟩
              · have hF := ite_f hc15 hF
                by_cases hc18 : p1 = 10
                · have hF := ite_t hc18 hF
                  rw [show swT 1 114 3 10 [47, 55, 64, 73, 82, 90, 98, 106] p1 = 107 from by rw [hc18]; decide]
                  refine g_seg hK [.aload_n 0, .getfield 52] 107 111 (L1 := [(0, vR 0), (1, vI p1)]) (st1 := [vR 54]) (h1 := h) (P := True ∧ kd 0 = 8 ∧ True) (by decide +kernel) rfl rfl ⟨trivial, rfl, trivial⟩ ?_
                  obtain ⟨r19, e20, hF⟩ := ob1_elim hF
                  refine g_callV1 hK 111 249 (d1 := 3) (ci := 5) (i := 54) (vs := []) (rest := []) (h1 := h) (r := vI r19) my_yX5_worthOfAll vw_X6_249 (by decide) (T_V_worthOfAll (h := h) (hF := e20)) rfl rfl rfl (Nat.le_of_ble_eq_true rfl) (by decide +kernel) ?_
                  cases hF
                  exact hR.1 114 _ _ _ (by decide +kernel) rfl ⟨rfl, rfl⟩
                · have hF := ite_f hc18 hF
                  rw [show swT 1 114 3 10 [47, 55, 64, 73, 82, 90, 98, 106] p1 = 115 from by unfold swT; rw [if_pos (by omega)]; decide]
                  refine g_seg hK [.aload_n 0, .getfield 52] 115 119 (L1 := [(0, vR 0), (1, vI p1)]) (st1 := [vR 54]) (h1 := h) (P := True ∧ kd 0 = 8 ∧ True) (by decide +kernel) rfl rfl ⟨trivial, rfl, trivial⟩ ?_
                  obtain ⟨r21, e22, hF⟩ := ob1_elim hF
                  refine g_callV1 hK 119 252 (d1 := 2) (ci := 5) (i := 54) (vs := []) (rest := []) (h1 := h) (r := vI r21) my_yX5_longestKept vw_X6_252 (by decide) (T_V_longestKept (h := h) (hF := e22)) rfl rfl rfl (Nat.le_of_ble_eq_true rfl) (by decide +kernel) ?_
                  cases hF
                  exact hR.1 122 _ _ _ (by decide +kernel) rfl ⟨rfl, rfl⟩
set_option maxHeartbeats 4000000 in
set_option maxRecDepth 100000 in
theorem T_X_count {p1 : Int} {h : MH} {r : Int} {h' : MH} (hF : F_X_count p1 h = some (r, h')) : CON 6 yX6_count cX6_count 2 (Option.some Jvm.ClassFile.FieldType.int) [vR 0, vI p1] h (some (vI r)) h' := by
  refine con_of (own := RX6) (fl := flX6) (by decide +kernel) rfl flok_X6 rfl (Nat.le_of_ble_eq_true rfl) ?_
  intro K hK hR
  show K 0 [(0, vR 0), (1, vI p1)] [] h
  unfold F_X_count at hF
  refine g_seg hK [.iload_n 1] 0 1 (L1 := [(0, vR 0), (1, vI p1)]) (st1 := [vI p1]) (h1 := h) (P := True ∧ True) (by decide +kernel) rfl rfl ⟨trivial, trivial⟩ ?_
  refine g_ifz hK 1 .lt (9) 10 (t1 := 10) (t2 := 4) (by decide +kernel) (by decide) rfl rfl (fun (hc1 : p1 < 0) => ?_) (fun (hc1 : ¬ (p1 < 0)) => ?_)
  · have hF := ite_t hc1 hF
    refine g_seg hK [.iconst (-1)] 10 11 (L1 := [(0, vR 0), (1, vI p1)]) (st1 := [vI (-1)]) (h1 := h) (P := True ∧ True) (by decide +kernel) rfl rfl ⟨trivial, trivial⟩ ?_
    cases hF
    exact hR.1 11 _ _ _ (by decide +kernel) rfl ⟨rfl, rfl⟩
  · have hF := ite_f hc1 hF
    refine g_seg hK [.iload_n 1, .bipush 17] 4 7 (L1 := [(0, vR 0), (1, vI p1)]) (st1 := [vI 17, vI p1]) (h1 := h) (P := True ∧ True ∧ True) (by decide +kernel) rfl rfl ⟨trivial, trivial, trivial⟩ ?_
    refine g_icmp hK 7 .le (5) 12 (t1 := 12) (t2 := 10) (by decide +kernel) (by decide) rfl rfl (fun (hc2 : p1 ≤ 17) => ?_) (fun (hc2 : ¬ (p1 ≤ 17)) => ?_)
    · have hF := ite_t hc2 hF
      refine g_seg hK [.iload_n 1] 12 13 (L1 := [(0, vR 0), (1, vI p1)]) (st1 := [vI p1]) (h1 := h) (P := True ∧ True) (by decide +kernel) rfl rfl ⟨trivial, trivial⟩ ?_
      refine g_callS1 hK 13 77 (d1 := 0) (vs := [vI p1]) (rest := []) (h1 := h) (r := vI (F_X_isText p1)) my_yX6_isText sw_X6_77 (by decide) (T_X_isText (p1 := p1) (h := h) (hF := rfl)) rfl (Nat.le_of_ble_eq_true rfl) (by decide +kernel) ?_
      refine g_ifz hK 16 .eq (15) 31 (t1 := 31) (t2 := 19) (by decide +kernel) (by decide) rfl rfl (fun (hc3 : F_X_isText p1 = 0) => ?_) (fun (hc3 : ¬ (F_X_isText p1 = 0)) => ?_)
      · have hF := ite_t hc3 hF
        refine g_seg hK [.iload_n 1, .bipush 11] 31 34 (L1 := [(0, vR 0), (1, vI p1)]) (st1 := [vI 11, vI p1]) (h1 := h) (P := True ∧ True ∧ True) (by decide +kernel) rfl rfl ⟨trivial, trivial, trivial⟩ ?_
        refine g_icmp hK 34 .le (9) 43 (t1 := 43) (t2 := 37) (by decide +kernel) (by decide) rfl rfl (fun (hc4 : p1 ≤ 11) => ?_) (fun (hc4 : ¬ (p1 ≤ 11)) => ?_)
        · have hF := ite_t hc4 hF
          refine g_seg hK [.aload_n 0] 43 44 (L1 := [(0, vR 0), (1, vI p1)]) (st1 := [vR 0]) (h1 := h) (P := True ∧ True) (by decide +kernel) rfl rfl ⟨trivial, trivial⟩ ?_
          obtain ⟨h5, e6, hF⟩ := ob1_elim hF
          refine g_callV0 hK 44 118 (d1 := 5) (ci := 6) (i := 0) (vs := []) (rest := []) (h1 := h5) my_yX6_show vw_X6_118 (by decide) (T_X_show (h := h) (hF := e6)) rfl rfl rfl (Nat.le_of_ble_eq_true rfl) (by decide +kernel) ?_
          refine g_seg hK [.aload_n 0, .iload_n 1] 47 49 (L1 := [(0, vR 0), (1, vI p1)]) (st1 := [vI p1, vR 0]) (h1 := h5) (P := True ∧ True ∧ True) (by decide +kernel) rfl rfl ⟨trivial, trivial, trivial⟩ ?_
          obtain ⟨r7, e8, hF⟩ := ob1_elim hF
          refine g_callV1 hK 49 197 (d1 := 4) (ci := 6) (i := 0) (vs := [vI p1]) (rest := []) (h1 := h5) (r := vI r7) my_yX6_shownNumber vw_X6_197 (by decide) (T_X_shownNumber (p1 := p1) (h := h5) (hF := e8)) rfl rfl rfl (Nat.le_of_ble_eq_true rfl) (by decide +kernel) ?_
          cases hF
          exact hR.1 52 _ _ _ (by decide +kernel) rfl ⟨rfl, rfl⟩
        · have hF := ite_f hc4 hF
          refine g_seg hK [.aload_n 0, .iload_n 1] 37 39 (L1 := [(0, vR 0), (1, vI p1)]) (st1 := [vI p1, vR 0]) (h1 := h) (P := True ∧ True ∧ True) (by decide +kernel) rfl rfl ⟨trivial, trivial, trivial⟩ ?_
          refine g_callV1 hK 39 194 (d1 := 1) (ci := 6) (i := 0) (vs := [vI p1]) (rest := []) (h1 := h) (r := vI (F_X_heldNumber p1 h)) my_yX6_heldNumber vw_X6_194 (by decide) (T_X_heldNumber (p1 := p1) (h := h) (hF := rfl)) rfl rfl rfl (Nat.le_of_ble_eq_true rfl) (by decide +kernel) ?_
          cases hF
          exact hR.1 42 _ _ _ (by decide +kernel) rfl ⟨rfl, rfl⟩
      · have hF := ite_f hc3 hF
        refine g_seg hK [.aload_n 0, .getfield 21, .iload_n 1] 19 24 (L1 := [(0, vR 0), (1, vI p1)]) (st1 := [vI p1, vR 3]) (h1 := h) (P := True ∧ kd 0 = 8 ∧ True ∧ True) (by decide +kernel) rfl rfl ⟨trivial, rfl, trivial, trivial⟩ ?_
        refine g_callV1 hK 24 88 (d1 := 0) (ci := 4) (i := 3) (vs := [vI p1]) (rest := []) (h1 := h) (r := vR (F_St_text 3 p1)) my_yX4_text vw_X6_88 (by decide) (T_St_text (o := 3) (p1 := p1) (h := h) (ks := rfl) (hF := rfl)) rfl rfl rfl (Nat.le_of_ble_eq_true rfl) (by decide +kernel) ?_
        refine g_callV1 hK 27 63 (d1 := 0) (ci := 3) (i := F_St_text 3 p1) (vs := []) (rest := []) (h1 := h) (r := vI (F_Ro_size (F_St_text 3 p1) h)) my_yX3_size vw_X6_63 (by decide) (T_Ro_size (o := (F_St_text 3 p1)) (h := h) (ko := (kd_St_text rfl)) (hF := rfl)) (kd_St_text rfl) rfl rfl (Nat.le_of_ble_eq_true rfl) (by decide +kernel) ?_
        cases hF
        exact hR.1 30 _ _ _ (by decide +kernel) rfl ⟨rfl, rfl⟩
    · have hF := ite_f hc2 hF
      refine g_seg hK [.iconst (-1)] 10 11 (L1 := [(0, vR 0), (1, vI p1)]) (st1 := [vI (-1)]) (h1 := h) (P := True ∧ True) (by decide +kernel) rfl rfl ⟨trivial, trivial⟩ ?_
      cases hF
      exact hR.1 11 _ _ _ (by decide +kernel) rfl ⟨rfl, rfl⟩
set_option maxHeartbeats 4000000 in
set_option maxRecDepth 100000 in
theorem T_X_alike {h : MH} {r : UInt64} {h' : MH} (hF : F_X_alike h = some (r, h')) : CON 4 yX6_alike cX6_alike 3 (Option.some Jvm.ClassFile.FieldType.double) [vR 0] h (some (vD r)) h' := by
  refine con_of (own := RX6) (fl := flX6) (by decide +kernel) rfl flok_X6 rfl (Nat.le_of_ble_eq_true rfl) ?_
  intro K hK hR
  show K 0 [(0, vR 0)] [] h
  unfold F_X_alike at hF
  refine g_seg hK [.aload_n 0, .getfield 21, .iconst 0] 0 5 (L1 := [(0, vR 0)]) (st1 := [vI 0, vR 3]) (h1 := h) (P := True ∧ kd 0 = 8 ∧ True ∧ True) (by decide +kernel) rfl rfl ⟨trivial, rfl, trivial, trivial⟩ ?_
  refine g_callV1 hK 5 88 (d1 := 0) (ci := 4) (i := 3) (vs := [vI 0]) (rest := []) (h1 := h) (r := vR (F_St_text 3 0)) my_yX4_text vw_X6_88 (by decide) (T_St_text (o := 3) (p1 := 0) (h := h) (ks := rfl) (hF := rfl)) rfl rfl rfl (Nat.le_of_ble_eq_true rfl) (by decide +kernel) ?_
  refine g_callV1 hK 8 63 (d1 := 0) (ci := 3) (i := F_St_text 3 0) (vs := []) (rest := []) (h1 := h) (r := vI (F_Ro_size (F_St_text 3 0) h)) my_yX3_size vw_X6_63 (by decide) (T_Ro_size (o := (F_St_text 3 0)) (h := h) (ko := (kd_St_text rfl)) (hF := rfl)) (kd_St_text rfl) rfl rfl (Nat.le_of_ble_eq_true rfl) (by decide +kernel) ?_
  refine g_seg hK [.aload_n 0, .getfield 21, .iconst 1] 11 16 (L1 := [(0, vR 0)]) (st1 := [vI 1, vR 3, vI (F_Ro_size (F_St_text 3 0) h)]) (h1 := h) (P := True ∧ kd 0 = 8 ∧ True ∧ True) (by decide +kernel) rfl rfl ⟨trivial, rfl, trivial, trivial⟩ ?_
  refine g_callV1 hK 16 88 (d1 := 0) (ci := 4) (i := 3) (vs := [vI 1]) (rest := [vI (F_Ro_size (F_St_text 3 0) h)]) (h1 := h) (r := vR (F_St_text 3 1)) my_yX4_text vw_X6_88 (by decide) (T_St_text (o := 3) (p1 := 1) (h := h) (ks := rfl) (hF := rfl)) rfl rfl rfl (Nat.le_of_ble_eq_true rfl) (by decide +kernel) ?_
  refine g_callV1 hK 19 63 (d1 := 0) (ci := 3) (i := F_St_text 3 1) (vs := []) (rest := [vI (F_Ro_size (F_St_text 3 0) h)]) (h1 := h) (r := vI (F_Ro_size (F_St_text 3 1) h)) my_yX3_size vw_X6_63 (by decide) (T_Ro_size (o := (F_St_text 3 1)) (h := h) (ko := (kd_St_text rfl)) (hF := rfl)) (kd_St_text rfl) rfl rfl (Nat.le_of_ble_eq_true rfl) (by decide +kernel) ?_
  refine g_seg hK [.iadd, .istore_n 1, .iload_n 1] 22 25 (L1 := [(1, vI (wr ((F_Ro_size (F_St_text 3 0) h) + (F_Ro_size (F_St_text 3 1) h)))), (0, vR 0)]) (st1 := [vI (wr ((F_Ro_size (F_St_text 3 0) h) + (F_Ro_size (F_St_text 3 1) h)))]) (h1 := h) (P := True ∧ True ∧ True ∧ True) (by decide +kernel) rfl rfl ⟨trivial, trivial, trivial, trivial⟩ ?_
  refine g_ifz hK 25 .ne (5) 30 (t1 := 28) (t2 := 30) (by decide +kernel) (by decide) rfl rfl (fun (hc1 : wr ((F_Ro_size (F_St_text 3 0) h) + (F_Ro_size (F_St_text 3 1) h)) = 0) => ?_) (fun (hc1 : ¬ (wr ((F_Ro_size (F_St_text 3 0) h) + (F_Ro_size (F_St_text 3 1) h)) = 0)) => ?_)
  · have hF := ite_t hc1 hF
    refine g_seg hK [.dconst 1] 28 29 (L1 := [(1, vI (wr ((F_Ro_size (F_St_text 3 0) h) + (F_Ro_size (F_St_text 3 1) h)))), (0, vR 0)]) (st1 := [vD FP.dconst1]) (h1 := h) (P := True ∧ True) (by decide +kernel) rfl rfl ⟨trivial, trivial⟩ ?_
    cases hF
    exact hR.2.2.2.1 29 _ _ _ (by decide +kernel) rfl ⟨rfl, rfl⟩
  · have hF := ite_f hc1 hF
    refine g_seg hK [.aload_n 0, .getfield 45, .aload_n 0, .getfield 21, .iconst 0] 30 39 (L1 := [(1, vI (wr ((F_Ro_size (F_St_text 3 0) h) + (F_Ro_size (F_St_text 3 1) h)))), (0, vR 0)]) (st1 := [vI 0, vR 3, vR 49]) (h1 := h) (P := True ∧ kd 0 = 8 ∧ True ∧ kd 0 = 8 ∧ True ∧ True) (by decide +kernel) rfl rfl ⟨trivial, rfl, trivial, rfl, trivial, trivial⟩ ?_
    refine g_callV1 hK 39 88 (d1 := 0) (ci := 4) (i := 3) (vs := [vI 0]) (rest := [vR 49]) (h1 := h) (r := vR (F_St_text 3 0)) my_yX4_text vw_X6_88 (by decide) (T_St_text (o := 3) (p1 := 0) (h := h) (ks := rfl) (hF := rfl)) rfl rfl rfl (Nat.le_of_ble_eq_true rfl) (by decide +kernel) ?_
    refine g_seg hK [.aload_n 0, .getfield 21, .iconst 1] 42 47 (L1 := [(1, vI (wr ((F_Ro_size (F_St_text 3 0) h) + (F_Ro_size (F_St_text 3 1) h)))), (0, vR 0)]) (st1 := [vI 1, vR 3, vR (F_St_text 3 0), vR 49]) (h1 := h) (P := True ∧ kd 0 = 8 ∧ True ∧ True) (by decide +kernel) rfl rfl ⟨trivial, rfl, trivial, trivial⟩ ?_
    refine g_callV1 hK 47 88 (d1 := 0) (ci := 4) (i := 3) (vs := [vI 1]) (rest := [vR (F_St_text 3 0), vR 49]) (h1 := h) (r := vR (F_St_text 3 1)) my_yX4_text vw_X6_88 (by decide) (T_St_text (o := 3) (p1 := 1) (h := h) (ks := rfl) (hF := rfl)) rfl rfl rfl (Nat.le_of_ble_eq_true rfl) (by decide +kernel) ?_
    obtain ⟨r2, h3, e4, hF⟩ := ob2_elim hF
    refine g_callV1 hK 50 200 (d1 := 3) (ci := 0) (i := 49) (vs := [vR (F_St_text 3 0), vR (F_St_text 3 1)]) (rest := []) (h1 := h3) (r := vI r2) my_yX0_keptOf vw_X6_200 (by decide) (T_C_keptOf (p1 := (F_St_text 3 0)) (p2 := (F_St_text 3 1)) (h := h) (kp1 := (kd_St_text rfl)) (kp2 := (kd_St_text rfl)) (hF := e4)) rfl rfl rfl (Nat.le_of_ble_eq_true rfl) (by decide +kernel) ?_
    refine g_seg hK [.istore_n 2, .iconst 2, .iload_n 2, .imul, .i2d, .iload_n 1, .i2d] 53 60 (L1 := [(2, vI r2), (1, vI (wr ((F_Ro_size (F_St_text 3 0) h) + (F_Ro_size (F_St_text 3 1) h)))), (0, vR 0)]) (st1 := [vD (FP.i2d (Int32.ofInt (wr ((F_Ro_size (F_St_text 3 0) h) + (F_Ro_size (F_St_text 3 1) h))))), vD (FP.i2d (Int32.ofInt (wr (2 * r2))))]) (h1 := h3) (P := True ∧ True ∧ True ∧ True ∧ True ∧ True ∧ True ∧ True) (by decide +kernel) rfl rfl ⟨trivial, trivial, trivial, trivial, trivial, trivial, trivial, trivial⟩ ?_
    obtain ⟨hg5, hF⟩ := gd_elim hF
    refine g_seg hK [.ddiv] 60 61 (L1 := [(2, vI r2), (1, vI (wr ((F_Ro_size (F_St_text 3 0) h) + (F_Ro_size (F_St_text 3 1) h)))), (0, vR 0)]) (st1 := [vD (FP.ddiv (FP.i2d (Int32.ofInt (wr (2 * r2)))) (FP.i2d (Int32.ofInt (wr ((F_Ro_size (F_St_text 3 0) h) + (F_Ro_size (F_St_text 3 1) h))))))]) (h1 := h3) (P := vf_n64 (FP.ddiv (FP.i2d (Int32.ofInt (wr (2 * r2)))) (FP.i2d (Int32.ofInt (wr ((F_Ro_size (F_St_text 3 0) h) + (F_Ro_size (F_St_text 3 1) h)))))) ∧ True) (by decide +kernel) rfl rfl ⟨hg5, trivial⟩ ?_
    cases hF
    exact hR.2.2.2.1 61 _ _ _ (by decide +kernel) rfl ⟨rfl, rfl⟩
set_option maxHeartbeats 4000000 in
set_option maxRecDepth 100000 in
theorem T_La_placeOf {p1 : Int} {h : MH} {r : Int} (hF : F_La_placeOf p1 h = r) : CON 1 yX2_placeOf cX2_placeOf 2 (Option.some Jvm.ClassFile.FieldType.int) [vR 65, vI p1] h (some (vI r)) h := by
  refine con_of (own := RX2) (fl := flX2) (by decide +kernel) rfl flok_X2 rfl (Nat.le_of_ble_eq_true rfl) ?_
  intro K hK hR
  show K 0 [(0, vR 65), (1, vI p1)] [] h
  unfold F_La_placeOf at hF
  refine g_seg hK [.aload_n 0, .getfield 26, .iload_n 1] 0 5 (L1 := [(0, vR 65), (1, vI p1)]) (st1 := [vI p1, vR 72]) (h1 := h) (P := True ∧ kd 65 = 4 ∧ True ∧ True) (by decide +kernel) rfl rfl ⟨trivial, rfl, trivial, trivial⟩ ?_
  refine g_callV1 hK 5 65 (d1 := 0) (ci := 3) (i := 72) (vs := [vI p1]) (rest := []) (h1 := h) (r := vI (F_Ro_at 72 p1 h)) my_yX3_at vw_X2_65 (by decide) (T_Ro_at (o := 72) (p1 := p1) (h := h) (ko := rfl) (hF := rfl)) rfl rfl rfl (Nat.le_of_ble_eq_true rfl) (by decide +kernel) ?_
  cases hF
  exact hR.1 8 _ _ _ (by decide +kernel) rfl ⟨rfl, rfl⟩
set_option maxHeartbeats 4000000 in
set_option maxRecDepth 100000 in
theorem T_La_lowerOf {p1 : Int} {h : MH} {r : Int} (hF : F_La_lowerOf p1 h = r) : CON 1 yX2_lowerOf cX2_lowerOf 2 (Option.some Jvm.ClassFile.FieldType.int) [vR 65, vI p1] h (some (vI r)) h := by
  refine con_of (own := RX2) (fl := flX2) (by decide +kernel) rfl flok_X2 rfl (Nat.le_of_ble_eq_true rfl) ?_
  intro K hK hR
  show K 0 [(0, vR 65), (1, vI p1)] [] h
  unfold F_La_lowerOf at hF
  refine g_seg hK [.aload_n 0, .getfield 29, .iload_n 1] 0 5 (L1 := [(0, vR 65), (1, vI p1)]) (st1 := [vI p1, vR 74]) (h1 := h) (P := True ∧ kd 65 = 4 ∧ True ∧ True) (by decide +kernel) rfl rfl ⟨trivial, rfl, trivial, trivial⟩ ?_
  refine g_callV1 hK 5 65 (d1 := 0) (ci := 3) (i := 74) (vs := [vI p1]) (rest := []) (h1 := h) (r := vI (F_Ro_at 74 p1 h)) my_yX3_at vw_X2_65 (by decide) (T_Ro_at (o := 74) (p1 := p1) (h := h) (ko := rfl) (hF := rfl)) rfl rfl rfl (Nat.le_of_ble_eq_true rfl) (by decide +kernel) ?_
  cases hF
  exact hR.1 8 _ _ _ (by decide +kernel) rfl ⟨rfl, rfl⟩
set_option maxHeartbeats 4000000 in
set_option maxRecDepth 100000 in
theorem T_X_ifLaid {p1 : Int} {p2 : Int} {p3 : Int} {h : MH} {r : Int} {h' : MH} (hF : F_X_ifLaid p1 p2 p3 h = some (r, h')) : CON 6 yX6_ifLaid cX6_ifLaid 5 (Option.some Jvm.ClassFile.FieldType.int) [vR 0, vI p1, vI p2, vI p3] h (some (vI r)) h' := by
  refine con_of (own := RX6) (fl := flX6) (by decide +kernel) rfl flok_X6 rfl (Nat.le_of_ble_eq_true rfl) ?_
  intro K hK hR
  show K 0 [(0, vR 0), (1, vI p1), (2, vI p2), (3, vI p3)] [] h
  unfold F_X_ifLaid at hF
  refine g_seg hK [.iload_n 3] 0 1 (L1 := [(0, vR 0), (1, vI p1), (2, vI p2), (3, vI p3)]) (st1 := [vI p3]) (h1 := h) (P := True ∧ True) (by decide +kernel) rfl rfl ⟨trivial, trivial⟩ ?_
  obtain ⟨kj2, e10, hF⟩ := jk1_elim hF
  have j2 : ∀ (u1 : Unit), kj2 u1 = some (r, h') → K 11 [(0, vR 0), (1, vI p1), (2, vI p2), (3, vI p3)] [] h := by
    intro u1 hF
    have hF := (e10 u1).symm.trans hF
    refine g_seg hK [.aload_n 0] 11 12 (L1 := [(0, vR 0), (1, vI p1), (2, vI p2), (3, vI p3)]) (st1 := [vR 0]) (h1 := h) (P := True ∧ True) (by decide +kernel) rfl rfl ⟨trivial, trivial⟩ ?_
    obtain ⟨h3, e4, hF⟩ := ob1_elim hF
    refine g_callV0 hK 12 118 (d1 := 5) (ci := 6) (i := 0) (vs := []) (rest := []) (h1 := h3) my_yX6_show vw_X6_118 (by decide) (T_X_show (h := h) (hF := e4)) rfl rfl rfl (Nat.le_of_ble_eq_true rfl) (by decide +kernel) ?_
    refine g_seg hK [.aload_n 0, .getfield 52, .iload_n 1] 15 20 (L1 := [(0, vR 0), (1, vI p1), (2, vI p2), (3, vI p3)]) (st1 := [vI p1, vR 54]) (h1 := h3) (P := True ∧ kd 0 = 8 ∧ True ∧ True) (by decide +kernel) rfl rfl ⟨trivial, rfl, trivial, trivial⟩ ?_
    refine g_callV1 hK 20 164 (d1 := 2) (ci := 5) (i := 54) (vs := [vI p1]) (rest := []) (h1 := h3) (r := vI (F_V_has p1 h3)) my_yX5_has vw_X6_164 (by decide) (T_V_has (p1 := p1) (h := h3) (hF := rfl)) rfl rfl rfl (Nat.le_of_ble_eq_true rfl) (by decide +kernel) ?_
    refine g_ifz hK 23 .ne (5) 28 (t1 := 26) (t2 := 28) (by decide +kernel) (by decide) rfl rfl (fun (hc5 : F_V_has p1 h3 = 0) => ?_) (fun (hc5 : ¬ (F_V_has p1 h3 = 0)) => ?_)
    · have hF := ite_t hc5 hF
      refine g_seg hK [.iconst (-1)] 26 27 (L1 := [(0, vR 0), (1, vI p1), (2, vI p2), (3, vI p3)]) (st1 := [vI (-1)]) (h1 := h3) (P := True ∧ True) (by decide +kernel) rfl rfl ⟨trivial, trivial⟩ ?_
      cases hF
      exact hR.1 27 _ _ _ (by decide +kernel) rfl ⟨rfl, rfl⟩
    · have hF := ite_f hc5 hF
      refine g_seg hK [.aload_n 0, .getfield 59, .aload_n 0, .getfield 52, .aload_n 0, .getfield 21, .iconst 2] 28 41 (L1 := [(0, vR 0), (1, vI p1), (2, vI p2), (3, vI p3)]) (st1 := [vI 2, vR 3, vR 54, vR 65]) (h1 := h3) (P := True ∧ kd 0 = 8 ∧ True ∧ kd 0 = 8 ∧ True ∧ kd 0 = 8 ∧ True ∧ True) (by decide +kernel) rfl rfl ⟨trivial, rfl, trivial, rfl, trivial, rfl, trivial, trivial⟩ ?_
      refine g_callV1 hK 41 88 (d1 := 0) (ci := 4) (i := 3) (vs := [vI 2]) (rest := [vR 54, vR 65]) (h1 := h3) (r := vR (F_St_text 3 2)) my_yX4_text vw_X6_88 (by decide) (T_St_text (o := 3) (p1 := 2) (h := h3) (ks := rfl) (hF := rfl)) rfl rfl rfl (Nat.le_of_ble_eq_true rfl) (by decide +kernel) ?_
      refine g_seg hK [.aload_n 0, .getfield 21, .iconst 0] 44 49 (L1 := [(0, vR 0), (1, vI p1), (2, vI p2), (3, vI p3)]) (st1 := [vI 0, vR 3, vR (F_St_text 3 2), vR 54, vR 65]) (h1 := h3) (P := True ∧ kd 0 = 8 ∧ True ∧ True) (by decide +kernel) rfl rfl ⟨trivial, rfl, trivial, trivial⟩ ?_
      refine g_callV1 hK 49 112 (d1 := 0) (ci := 4) (i := 3) (vs := [vI 0]) (rest := [vR (F_St_text 3 2), vR 54, vR 65]) (h1 := h3) (r := vI (F_St_setting 3 0 h3)) my_yX4_setting vw_X6_112 (by decide) (T_St_setting (o := 3) (p1 := 0) (h := h3) (ks := rfl) (hF := rfl)) rfl rfl rfl (Nat.le_of_ble_eq_true rfl) (by decide +kernel) ?_
      refine g_seg hK [.iload_n 2] 52 53 (L1 := [(0, vR 0), (1, vI p1), (2, vI p2), (3, vI p3)]) (st1 := [vI p2, vI (F_St_setting 3 0 h3), vR (F_St_text 3 2), vR 54, vR 65]) (h1 := h3) (P := True ∧ True) (by decide +kernel) rfl rfl ⟨trivial, trivial⟩ ?_
      obtain ⟨h6, e7, hF⟩ := ob1_elim hF
      refine g_callV0 hK 53 121 (d1 := 5) (ci := 2) (i := 65) (vs := [vR 54, vR (F_St_text 3 2), vI (F_St_setting 3 0 h3), vI p2]) (rest := []) (h1 := h6) my_yX2_layAll vw_X6_121 (by decide) (T_La_layAll (p2 := (F_St_text 3 2)) (p3 := (F_St_setting 3 0 h3)) (p4 := p2) (h := h3) (kp2 := (kd_St_text rfl)) (hF := e7)) rfl rfl rfl (Nat.le_of_ble_eq_true rfl) (by decide +kernel) ?_
      refine g_seg hK [.aload_n 0, .getfield 59, .iload_n 1] 56 61 (L1 := [(0, vR 0), (1, vI p1), (2, vI p2), (3, vI p3)]) (st1 := [vI p1, vR 65]) (h1 := h6) (P := True ∧ kd 0 = 8 ∧ True ∧ True) (by decide +kernel) rfl rfl ⟨trivial, rfl, trivial, trivial⟩ ?_
      refine g_callV1 hK 61 203 (d1 := 1) (ci := 2) (i := 65) (vs := [vI p1]) (rest := []) (h1 := h6) (r := vI (F_La_placeOf p1 h6)) my_yX2_placeOf vw_X6_203 (by decide) (T_La_placeOf (p1 := p1) (h := h6) (hF := rfl)) rfl rfl rfl (Nat.le_of_ble_eq_true rfl) (by decide +kernel) ?_
      refine g_seg hK [.istore 4, .iload 4, .bipush (-4)] 64 70 (L1 := [(4, vI (F_La_placeOf p1 h6)), (0, vR 0), (1, vI p1), (2, vI p2), (3, vI p3)]) (st1 := [vI (-4), vI (F_La_placeOf p1 h6)]) (h1 := h6) (P := True ∧ True ∧ True ∧ True) (by decide +kernel) rfl rfl ⟨trivial, trivial, trivial, trivial⟩ ?_
      refine g_icmp hK 70 .ne (6) 76 (t1 := 73) (t2 := 76) (by decide +kernel) (by decide) rfl rfl (fun (hc8 : F_La_placeOf p1 h6 = (-4)) => ?_) (fun (hc8 : ¬ (F_La_placeOf p1 h6 = (-4))) => ?_)
      · have hF := ite_t hc8 hF
        refine g_seg hK [.bipush (-4)] 73 75 (L1 := [(4, vI (F_La_placeOf p1 h6)), (0, vR 0), (1, vI p1), (2, vI p2), (3, vI p3)]) (st1 := [vI (-4)]) (h1 := h6) (P := True ∧ True) (by decide +kernel) rfl rfl ⟨trivial, trivial⟩ ?_
        cases hF
        exact hR.1 75 _ _ _ (by decide +kernel) rfl ⟨rfl, rfl⟩
      · have hF := ite_f hc8 hF
        refine g_seg hK [.iload_n 3] 76 77 (L1 := [(4, vI (F_La_placeOf p1 h6)), (0, vR 0), (1, vI p1), (2, vI p2), (3, vI p3)]) (st1 := [vI p3]) (h1 := h6) (P := True ∧ True) (by decide +kernel) rfl rfl ⟨trivial, trivial⟩ ?_
        refine g_ifz hK 77 .ne (8) 85 (t1 := 80) (t2 := 85) (by decide +kernel) (by decide) rfl rfl (fun (hc9 : p3 = 0) => ?_) (fun (hc9 : ¬ (p3 = 0)) => ?_)
        · have hF := ite_t hc9 hF
          refine g_seg hK [.iload 4] 80 82 (L1 := [(4, vI (F_La_placeOf p1 h6)), (0, vR 0), (1, vI p1), (2, vI p2), (3, vI p3)]) (st1 := [vI (F_La_placeOf p1 h6)]) (h1 := h6) (P := True ∧ True) (by decide +kernel) rfl rfl ⟨trivial, trivial⟩ ?_
          refine g_goto hK 82 (14) 96 (by decide +kernel) (by decide) ?_
          cases hF
          exact hR.1 96 _ _ _ (by decide +kernel) rfl ⟨rfl, rfl⟩
        · have hF := ite_f hc9 hF
          refine g_seg hK [.aload_n 0, .getfield 59, .iload_n 1] 85 90 (L1 := [(4, vI (F_La_placeOf p1 h6)), (0, vR 0), (1, vI p1), (2, vI p2), (3, vI p3)]) (st1 := [vI p1, vR 65]) (h1 := h6) (P := True ∧ kd 0 = 8 ∧ True ∧ True) (by decide +kernel) rfl rfl ⟨trivial, rfl, trivial, trivial⟩ ?_
          refine g_callV1 hK 90 206 (d1 := 1) (ci := 2) (i := 65) (vs := [vI p1]) (rest := []) (h1 := h6) (r := vI (F_La_lowerOf p1 h6)) my_yX2_lowerOf vw_X6_206 (by decide) (T_La_lowerOf (p1 := p1) (h := h6) (hF := rfl)) rfl rfl rfl (Nat.le_of_ble_eq_true rfl) (by decide +kernel) ?_
          refine g_seg hK [.bipush 100, .iadd] 93 96 (L1 := [(4, vI (F_La_placeOf p1 h6)), (0, vR 0), (1, vI p1), (2, vI p2), (3, vI p3)]) (st1 := [vI (wr ((F_La_lowerOf p1 h6) + 100))]) (h1 := h6) (P := True ∧ True ∧ True) (by decide +kernel) rfl rfl ⟨trivial, trivial, trivial⟩ ?_
          cases hF
          exact hR.1 96 _ _ _ (by decide +kernel) rfl ⟨rfl, rfl⟩
  refine g_ifz hK 1 .eq (10) 11 (t1 := 11) (t2 := 4) (by decide +kernel) (by decide) rfl rfl (fun (hc11 : p3 = 0) => ?_) (fun (hc11 : ¬ (p3 = 0)) => ?_)
  · have hF := ite_t hc11 hF
    exact j2 _ hF
  · have hF := ite_f hc11 hF
    refine g_seg hK [.iload_n 3, .iconst 1] 4 6 (L1 := [(0, vR 0), (1, vI p1), (2, vI p2), (3, vI p3)]) (st1 := [vI 1, vI p3]) (h1 := h) (P := True ∧ True ∧ True) (by decide +kernel) rfl rfl ⟨trivial, trivial, trivial⟩ ?_
    refine g_icmp hK 6 .eq (5) 11 (t1 := 11) (t2 := 9) (by decide +kernel) (by decide) rfl rfl (fun (hc12 : p3 = 1) => ?_) (fun (hc12 : ¬ (p3 = 1)) => ?_)
    · have hF := ite_t hc12 hF
      exact j2 _ hF
    · have hF := ite_f hc12 hF
      refine g_seg hK [.iconst (-1)] 9 10 (L1 := [(0, vR 0), (1, vI p1), (2, vI p2), (3, vI p3)]) (st1 := [vI (-1)]) (h1 := h) (P := True ∧ True) (by decide +kernel) rfl rfl ⟨trivial, trivial⟩ ?_
      cases hF
      exact hR.1 10 _ _ _ (by decide +kernel) rfl ⟨rfl, rfl⟩
set_option maxHeartbeats 4000000 in
set_option maxRecDepth 100000 in
theorem T_X_ifAround {p1 : Int} {h : MH} {r : Int} {h' : MH} (hF : F_X_ifAround p1 h = some (r, h')) : CON 6 yX6_ifAround cX6_ifAround 2 (Option.some Jvm.ClassFile.FieldType.int) [vR 0, vI p1] h (some (vI r)) h' := by
  refine con_of (own := RX6) (fl := flX6) (by decide +kernel) rfl flok_X6 rfl (Nat.le_of_ble_eq_true rfl) ?_
  intro K hK hR
  show K 0 [(0, vR 0), (1, vI p1)] [] h
  unfold F_X_ifAround at hF
  refine g_seg hK [.iload_n 1] 0 1 (L1 := [(0, vR 0), (1, vI p1)]) (st1 := [vI p1]) (h1 := h) (P := True ∧ True) (by decide +kernel) rfl rfl ⟨trivial, trivial⟩ ?_
  refine g_ifz hK 1 .lt (8) 9 (t1 := 9) (t2 := 4) (by decide +kernel) (by decide) rfl rfl (fun (hc1 : p1 < 0) => ?_) (fun (hc1 : ¬ (p1 < 0)) => ?_)
  · have hF := ite_t hc1 hF
    refine g_seg hK [.iconst (-1)] 9 10 (L1 := [(0, vR 0), (1, vI p1)]) (st1 := [vI (-1)]) (h1 := h) (P := True ∧ True) (by decide +kernel) rfl rfl ⟨trivial, trivial⟩ ?_
    cases hF
    exact hR.1 10 _ _ _ (by decide +kernel) rfl ⟨rfl, rfl⟩
  · have hF := ite_f hc1 hF
    refine g_seg hK [.iload_n 1, .iconst 3] 4 6 (L1 := [(0, vR 0), (1, vI p1)]) (st1 := [vI 3, vI p1]) (h1 := h) (P := True ∧ True ∧ True) (by decide +kernel) rfl rfl ⟨trivial, trivial, trivial⟩ ?_
    refine g_icmp hK 6 .le (5) 11 (t1 := 11) (t2 := 9) (by decide +kernel) (by decide) rfl rfl (fun (hc2 : p1 ≤ 3) => ?_) (fun (hc2 : ¬ (p1 ≤ 3)) => ?_)
    · have hF := ite_t hc2 hF
      refine g_seg hK [.aload_n 0] 11 12 (L1 := [(0, vR 0), (1, vI p1)]) (st1 := [vR 0]) (h1 := h) (P := True ∧ True) (by decide +kernel) rfl rfl ⟨trivial, trivial⟩ ?_
      obtain ⟨h3, e4, hF⟩ := ob1_elim hF
      refine g_callV0 hK 12 118 (d1 := 5) (ci := 6) (i := 0) (vs := []) (rest := []) (h1 := h3) my_yX6_show vw_X6_118 (by decide) (T_X_show (h := h) (hF := e4)) rfl rfl rfl (Nat.le_of_ble_eq_true rfl) (by decide +kernel) ?_
      refine g_seg hK [.aload_n 0, .getfield 59, .aload_n 0, .getfield 52, .aload_n 0, .getfield 21, .iconst 2] 15 28 (L1 := [(0, vR 0), (1, vI p1)]) (st1 := [vI 2, vR 3, vR 54, vR 65]) (h1 := h3) (P := True ∧ kd 0 = 8 ∧ True ∧ kd 0 = 8 ∧ True ∧ kd 0 = 8 ∧ True ∧ True) (by decide +kernel) rfl rfl ⟨trivial, rfl, trivial, rfl, trivial, rfl, trivial, trivial⟩ ?_
      refine g_callV1 hK 28 88 (d1 := 0) (ci := 4) (i := 3) (vs := [vI 2]) (rest := [vR 54, vR 65]) (h1 := h3) (r := vR (F_St_text 3 2)) my_yX4_text vw_X6_88 (by decide) (T_St_text (o := 3) (p1 := 2) (h := h3) (ks := rfl) (hF := rfl)) rfl rfl rfl (Nat.le_of_ble_eq_true rfl) (by decide +kernel) ?_
      refine g_seg hK [.iload_n 1, .iconst 0] 31 33 (L1 := [(0, vR 0), (1, vI p1)]) (st1 := [vI 0, vI p1, vR (F_St_text 3 2), vR 54, vR 65]) (h1 := h3) (P := True ∧ True ∧ True) (by decide +kernel) rfl rfl ⟨trivial, trivial, trivial⟩ ?_
      obtain ⟨h5, e6, hF⟩ := ob1_elim hF
      refine g_callV0 hK 33 121 (d1 := 5) (ci := 2) (i := 65) (vs := [vR 54, vR (F_St_text 3 2), vI p1, vI 0]) (rest := []) (h1 := h5) my_yX2_layAll vw_X6_121 (by decide) (T_La_layAll (p2 := (F_St_text 3 2)) (p3 := p1) (p4 := 0) (h := h3) (kp2 := (kd_St_text rfl)) (hF := e6)) rfl rfl rfl (Nat.le_of_ble_eq_true rfl) (by decide +kernel) ?_
      refine g_seg hK [.aload_n 0, .getfield 59] 36 40 (L1 := [(0, vR 0), (1, vI p1)]) (st1 := [vR 65]) (h1 := h5) (P := True ∧ kd 0 = 8 ∧ True) (by decide +kernel) rfl rfl ⟨trivial, rfl, trivial⟩ ?_
      refine g_callV1 hK 40 132 (d1 := 0) (ci := 2) (i := 65) (vs := []) (rest := []) (h1 := h5) (r := vI (F_La_laid h5)) my_yX2_laid vw_X6_132 (by decide) (T_La_laid (h := h5) (hF := rfl)) rfl rfl rfl (Nat.le_of_ble_eq_true rfl) (by decide +kernel) ?_
      cases hF
      exact hR.1 43 _ _ _ (by decide +kernel) rfl ⟨rfl, rfl⟩
    · have hF := ite_f hc2 hF
      refine g_seg hK [.iconst (-1)] 9 10 (L1 := [(0, vR 0), (1, vI p1)]) (st1 := [vI (-1)]) (h1 := h) (P := True ∧ True) (by decide +kernel) rfl rfl ⟨trivial, trivial⟩ ?_
      cases hF
      exact hR.1 10 _ _ _ (by decide +kernel) rfl ⟨rfl, rfl⟩
set_option maxHeartbeats 4000000 in
set_option maxRecDepth 100000 in
theorem T_Ro_isEmpty {o : Nat} {h : MH} {r : Int} (ko : kd o = 5) (hF : F_Ro_isEmpty o h = r) : CON 0 yX3_isEmpty cX3_isEmpty 1 (Option.some Jvm.ClassFile.FieldType.boolean) [vR o] h (some (vI r)) h := by
  refine con_of (own := RX3) (fl := flX3) (by decide +kernel) rfl flok_X3 rfl (Nat.le_of_ble_eq_true rfl) ?_
  intro K hK hR
  show K 0 [(0, vR o)] [] h
  unfold F_Ro_isEmpty at hF
  refine g_seg hK [.aload_n 0, .getfield 7] 0 4 (L1 := [(0, vR o)]) (st1 := [vI (h o 1)]) (h1 := h) (P := True ∧ kd o = 5 ∧ True) (by decide +kernel) rfl rfl ⟨trivial, ko, trivial⟩ ?_
  refine g_ifz hK 4 .ne (7) 11 (t1 := 7) (t2 := 11) (by decide +kernel) (by decide) rfl rfl (fun (hc1 : h o 1 = 0) => ?_) (fun (hc1 : ¬ (h o 1 = 0)) => ?_)
  · have hF := ite_t hc1 hF
    refine g_seg hK [.iconst 1] 7 8 (L1 := [(0, vR o)]) (st1 := [vI 1]) (h1 := h) (P := True ∧ True) (by decide +kernel) rfl rfl ⟨trivial, trivial⟩ ?_
    refine g_goto hK 8 (4) 12 (by decide +kernel) (by decide) ?_
    cases hF
    exact hR.2.1 12 _ _ _ (by decide +kernel) rfl (by decide) ⟨rfl, rfl⟩
  · have hF := ite_f hc1 hF
    refine g_seg hK [.iconst 0] 11 12 (L1 := [(0, vR o)]) (st1 := [vI 0]) (h1 := h) (P := True ∧ True) (by decide +kernel) rfl rfl ⟨trivial, trivial⟩ ?_
    cases hF
    exact hR.2.1 12 _ _ _ (by decide +kernel) rfl (by decide) ⟨rfl, rfl⟩
set_option maxHeartbeats 4000000 in
set_option maxRecDepth 100000 in
theorem LT_X_least_L27 {K : KT} (hK : Rules RX6 cX6_least 6 (Option.some Jvm.ClassFile.FieldType.int) flX6 5 K) {x1 : Nat} (kx1 : kd x1 = 5) : ∀ (n : Nat) (x2 : Int) (x3 : Int) (x4 : Int) (h : MH) (x2' : Int) (x3' : Int) (x4' : Int) (h' : MH), F_X_least_L27 x1 n x2 x3 x4 h = some (x2', x3', x4', h') → K 92 [(0, vR 0), (1, vR x1), (2, vI x2'), (3, vI x3'), (4, vI x4')] [] h' → K 27 [(0, vR 0), (1, vR x1), (2, vI x2), (3, vI x3), (4, vI x4)] [] h := by
  intro n
  induction n with
  | zero =>
    intro x2 x3 x4 h x2' x3' x4' h' hF
    cases hF
  | succ n ih =>
    intro x2 x3 x4 h x2' x3' x4' h' hF hE
    unfold F_X_least_L27 at hF
    refine g_seg hK [.iload 4, .aload_n 1] 27 30 (L1 := [(0, vR 0), (1, vR x1), (2, vI x2), (3, vI x3), (4, vI x4)]) (st1 := [vR x1, vI x4]) (h1 := h) (P := True ∧ True ∧ True) (by decide +kernel) rfl rfl ⟨trivial, trivial, trivial⟩ ?_
    refine g_callV1 hK 30 63 (d1 := 0) (ci := 3) (i := x1) (vs := []) (rest := [vI x4]) (h1 := h) (r := vI (F_Ro_size x1 h)) my_yX3_size vw_X6_63 (by decide) (T_Ro_size (o := x1) (h := h) (ko := kx1) (hF := rfl)) kx1 rfl rfl (Nat.le_of_ble_eq_true rfl) (by decide +kernel) ?_
    refine g_icmp hK 33 .ge (59) 92 (t1 := 36) (t2 := 92) (by decide +kernel) (by decide) rfl rfl (fun (hc1 : x4 < F_Ro_size x1 h) => ?_) (fun (hc1 : ¬ (x4 < F_Ro_size x1 h)) => ?_)
    · have hF := ite_t hc1 hF
      refine g_seg hK [.aload_n 0, .getfield 39, .aload_n 1] 36 41 (L1 := [(0, vR 0), (1, vR x1), (2, vI x2), (3, vI x3), (4, vI x4)]) (st1 := [vR x1, vR 47]) (h1 := h) (P := True ∧ kd 0 = 8 ∧ True ∧ True) (by decide +kernel) rfl rfl ⟨trivial, rfl, trivial, trivial⟩ ?_
      obtain ⟨h2, e3, hF⟩ := ob1_elim hF
      refine g_callV0 hK 41 105 (d1 := 1) (ci := 3) (i := 47) (vs := [vR x1]) (rest := []) (h1 := h2) my_yX3_become vw_X6_105 (by decide) (T_Ro_become (o := 47) (p1 := x1) (h := h) (ko := rfl) (kp1 := kx1) (hF := e3)) rfl rfl rfl (Nat.le_of_ble_eq_true rfl) (by decide +kernel) ?_
      refine g_seg hK [.aload_n 0, .getfield 39, .iload 4] 44 50 (L1 := [(0, vR 0), (1, vR x1), (2, vI x2), (3, vI x3), (4, vI x4)]) (st1 := [vI x4, vR 47]) (h1 := h2) (P := True ∧ kd 0 = 8 ∧ True ∧ True) (by decide +kernel) rfl rfl ⟨trivial, rfl, trivial, trivial⟩ ?_
      obtain ⟨h4, e5, hF⟩ := ob1_elim hF
      refine g_callV0 hK 50 102 (d1 := 1) (ci := 3) (i := 47) (vs := [vI x4]) (rest := []) (h1 := h4) my_yX3_putOut vw_X6_102 (by decide) (T_Ro_putOut (o := 47) (p1 := x4) (h := h2) (ko := rfl) (hF := e5)) rfl rfl rfl (Nat.le_of_ble_eq_true rfl) (by decide +kernel) ?_
      refine g_seg hK [.aload_n 0, .getfield 45, .aload_n 0, .getfield 39, .aload_n 0, .getfield 21, .iconst 1] 53 66 (L1 := [(0, vR 0), (1, vR x1), (2, vI x2), (3, vI x3), (4, vI x4)]) (st1 := [vI 1, vR 3, vR 47, vR 49]) (h1 := h4) (P := True ∧ kd 0 = 8 ∧ True ∧ kd 0 = 8 ∧ True ∧ kd 0 = 8 ∧ True ∧ True) (by decide +kernel) rfl rfl ⟨trivial, rfl, trivial, rfl, trivial, rfl, trivial, trivial⟩ ?_
      refine g_callV1 hK 66 88 (d1 := 0) (ci := 4) (i := 3) (vs := [vI 1]) (rest := [vR 47, vR 49]) (h1 := h4) (r := vR (F_St_text 3 1)) my_yX4_text vw_X6_88 (by decide) (T_St_text (o := 3) (p1 := 1) (h := h4) (ks := rfl) (hF := rfl)) rfl rfl rfl (Nat.le_of_ble_eq_true rfl) (by decide +kernel) ?_
      obtain ⟨r6, h7, e8, hF⟩ := ob2_elim hF
      refine g_callV1 hK 69 213 (d1 := 4) (ci := 0) (i := 49) (vs := [vR 47, vR (F_St_text 3 1)]) (rest := []) (h1 := h7) (r := vI r6) my_yX0_apart vw_X6_213 (by decide) (T_C_apart (p1 := 47) (p2 := (F_St_text 3 1)) (h := h4) (kp1 := rfl) (kp2 := (kd_St_text rfl)) (hF := e8)) rfl rfl rfl (Nat.le_of_ble_eq_true rfl) (by decide +kernel) ?_
      refine g_seg hK [.istore 5, .iload 5, .iload_n 3] 72 77 (L1 := [(5, vI r6), (0, vR 0), (1, vR x1), (2, vI x2), (3, vI x3), (4, vI x4)]) (st1 := [vI x3, vI r6]) (h1 := h7) (P := True ∧ True ∧ True ∧ True) (by decide +kernel) rfl rfl ⟨trivial, trivial, trivial, trivial⟩ ?_
      obtain ⟨x2_9, x3_10, e13, hF⟩ := jn2_elim hF
      have j11 : K 86 [(0, vR 0), (1, vR x1), (2, vI x2_9), (3, vI x3_10), (4, vI x4)] [] h7 := by
        refine g_seg hK [.iinc 4 1] 86 89 (L1 := [(4, vI (wr (x4 + 1))), (0, vR 0), (1, vR x1), (2, vI x2_9), (3, vI x3_10)]) (st1 := []) (h1 := h7) (P := True ∧ True) (by decide +kernel) rfl rfl ⟨trivial, trivial⟩ ?_
        refine g_goto hK 89 (-62) 27 (by decide +kernel) (by decide) ?_
        refine hK.2.1 _ _ ([(0, vR 0), (1, vR x1), (2, vI x2_9), (3, vI x3_10), (4, vI (wr (x4 + 1)))]) _ _ (sub_of [1, 2, 3, 4, 0] rfl) ?_
        exact ih _ _ _ _ _ _ _ _ hF hE
      clear hF
      have hF := e13
      refine g_icmp hK 77 .ge (9) 86 (t1 := 80) (t2 := 86) (by decide +kernel) (by decide) rfl rfl (fun (hc12 : r6 < x3) => ?_) (fun (hc12 : ¬ (r6 < x3)) => ?_)
      · have hF := ite_t hc12 hF
        refine g_seg hK [.iload 5, .istore_n 3, .iload 4, .istore_n 2] 80 86 (L1 := [(2, vI x4), (3, vI r6), (5, vI r6), (0, vR 0), (1, vR x1), (4, vI x4)]) (st1 := []) (h1 := h7) (P := True ∧ True ∧ True ∧ True ∧ True) (by decide +kernel) rfl rfl ⟨trivial, trivial, trivial, trivial, trivial⟩ ?_
        refine hK.2.1 _ _ ([(0, vR 0), (1, vR x1), (2, vI x4), (3, vI r6), (4, vI x4)]) _ _ (sub_of [3, 4, 0, 1, 5] rfl) ?_
        cases hF
        exact j11
      · have hF := ite_f hc12 hF
        refine hK.2.1 _ _ ([(0, vR 0), (1, vR x1), (2, vI x2), (3, vI x3), (4, vI x4)]) _ _ (sub_of [1, 2, 3, 4, 5] rfl) ?_
        cases hF
        exact j11
    · have hF := ite_f hc1 hF
      cases hF
      exact hE
set_option maxHeartbeats 4000000 in
set_option maxRecDepth 100000 in
theorem T_X_least {h : MH} {r : Int} {h' : MH} (hF : F_X_least h = some (r, h')) : CON 5 yX6_least cX6_least 6 (Option.some Jvm.ClassFile.FieldType.int) [vR 0] h (some (vI r)) h' := by
  refine con_of (own := RX6) (fl := flX6) (by decide +kernel) rfl flok_X6 rfl (Nat.le_of_ble_eq_true rfl) ?_
  intro K hK hR
  show K 0 [(0, vR 0)] [] h
  unfold F_X_least at hF
  refine g_seg hK [.aload_n 0, .getfield 21, .iconst 0] 0 5 (L1 := [(0, vR 0)]) (st1 := [vI 0, vR 3]) (h1 := h) (P := True ∧ kd 0 = 8 ∧ True ∧ True) (by decide +kernel) rfl rfl ⟨trivial, rfl, trivial, trivial⟩ ?_
  refine g_callV1 hK 5 88 (d1 := 0) (ci := 4) (i := 3) (vs := [vI 0]) (rest := []) (h1 := h) (r := vR (F_St_text 3 0)) my_yX4_text vw_X6_88 (by decide) (T_St_text (o := 3) (p1 := 0) (h := h) (ks := rfl) (hF := rfl)) rfl rfl rfl (Nat.le_of_ble_eq_true rfl) (by decide +kernel) ?_
  refine g_seg hK [.astore_n 1, .aload_n 1] 8 10 (L1 := [(1, vR (F_St_text 3 0)), (0, vR 0)]) (st1 := [vR (F_St_text 3 0)]) (h1 := h) (P := True ∧ True ∧ True) (by decide +kernel) rfl rfl ⟨trivial, trivial, trivial⟩ ?_
  refine g_callV1 hK 10 209 (d1 := 0) (ci := 3) (i := F_St_text 3 0) (vs := []) (rest := []) (h1 := h) (r := vI (F_Ro_isEmpty (F_St_text 3 0) h)) my_yX3_isEmpty vw_X6_209 (by decide) (T_Ro_isEmpty (o := (F_St_text 3 0)) (h := h) (ko := (kd_St_text rfl)) (hF := rfl)) (kd_St_text rfl) rfl rfl (Nat.le_of_ble_eq_true rfl) (by decide +kernel) ?_
  refine g_ifz hK 13 .eq (6) 19 (t1 := 19) (t2 := 16) (by decide +kernel) (by decide) rfl rfl (fun (hc1 : F_Ro_isEmpty (F_St_text 3 0) h = 0) => ?_) (fun (hc1 : ¬ (F_Ro_isEmpty (F_St_text 3 0) h = 0)) => ?_)
  · have hF := ite_t hc1 hF
    refine g_seg hK [.iconst 0, .istore_n 2, .bipush 29, .istore_n 3, .iconst 0, .istore 4] 19 27 (L1 := [(4, vI 0), (3, vI 29), (2, vI 0), (1, vR (F_St_text 3 0)), (0, vR 0)]) (st1 := []) (h1 := h) (P := True ∧ True ∧ True ∧ True ∧ True ∧ True ∧ True) (by decide +kernel) rfl rfl ⟨trivial, trivial, trivial, trivial, trivial, trivial, trivial⟩ ?_
    refine hK.2.1 _ _ ([(0, vR 0), (1, vR (F_St_text 3 0)), (2, vI 0), (3, vI 29), (4, vI 0)]) _ _ (sub_of [4, 3, 2, 1, 0] rfl) ?_
    obtain ⟨x2_2, x3_3, x4_4, h5, e6, hF⟩ := ob4_elim hF
    refine LT_X_least_L27 hK (kx1 := (kd_St_text rfl)) _ _ _ _ _ _ _ _ _ e6 ?_
    refine g_seg hK [.iload_n 2] 92 93 (L1 := [(0, vR 0), (1, vR (F_St_text 3 0)), (2, vI x2_2), (3, vI x3_3), (4, vI x4_4)]) (st1 := [vI x2_2]) (h1 := h5) (P := True ∧ True) (by decide +kernel) rfl rfl ⟨trivial, trivial⟩ ?_
    cases hF
    exact hR.1 93 _ _ _ (by decide +kernel) rfl ⟨rfl, rfl⟩
  · have hF := ite_f hc1 hF
    refine g_seg hK [.bipush (-2)] 16 18 (L1 := [(1, vR (F_St_text 3 0)), (0, vR 0)]) (st1 := [vI (-2)]) (h1 := h) (P := True ∧ True) (by decide +kernel) rfl rfl ⟨trivial, trivial⟩ ?_
    cases hF
    exact hR.1 18 _ _ _ (by decide +kernel) rfl ⟨rfl, rfl⟩
